def rm_X12_strike : Room := { frames := 2, cells := 0, slots := 0, locals := 45 }
set_option maxRecDepth 100000 in
set_option maxHeartbeats 8000000 in
theorem c_X12_strike {l : Launch} {G : GG} {a1 : Int32} {M : Mem} {h : Int64}  {P9 : (Int32 × Mem) → Prop} (hf : OB (f_X12_strike a1 M) P9) : Met1 l yX12_strike cX12_strike 2 (some .int) rm_X12_strike G [.ref (xa G 132), .int a1] M h (QI1 G h P9) := by
  unfold f_X12_strike at hf
  refine xm_i1 (by decide) (Nat.le_of_ble_eq_true rfl) ?_
  intro p e s m args below meth c ls Q C hE hret hP hS hl
  have C : CallFix p m c cX12_strike 2 s args TB RX12 := C
  have hx := C.1
  have hb := C.2.1
  have hl : lv_has ls 2 [(0, .ref (xa G 132)), (1, .int a1)] := hl
  refine lv_iload_n hx hb dX12_strike_0 rfl (lv_at hl 1 rfl) ?_
  refine x_cz0 (rest := []) (x_runS C hE hP hS ykX12_isHolder lkX12_252 (c_X12_isHolder (OB_bind hf)) (by decide) rfl hl.1 (Nat.le_of_ble_eq_true rfl) dX12_strike_1) hS (fun r1 H locs hf hP hS => ?_)
  refine lv_if_ne (tgt := 10) hx hb dX12_strike_4 (by decide) (fun hc => ?_) (fun hc => ?_)
  · have hf := (OB_t hf (bI_t hc))
    refine lv_aload_n hx hb dX12_strike_10 rfl (lv_at hl 0 rfl) ?_
    refine gfX12_28 C hE hP dX12_strike_11 ?_
    refine lv_iload_n hx hb dX12_strike_14 rfl (lv_at hl 1 rfl) ?_
    obtain ⟨g2, hf⟩ := OB_g hf
    refine x_iald C hE hP sh139 g2 dX12_strike_15 ?_
    refine lv_if_ne (tgt := 22) hx hb dX12_strike_16 (by decide) (fun hc => ?_) (fun hc => ?_)
    · have hf := (OB_f hf hc)
      refine lv_aload_n hx hb dX12_strike_22 rfl (lv_at hl 0 rfl) ?_
      refine gfX12_28 C hE hP dX12_strike_23 ?_
      refine lv_iload_n hx hb dX12_strike_26 rfl (lv_at hl 1 rfl) ?_
      refine lv_dup2_11 hx hb dX12_strike_27 rfl rfl ?_
      refine x_iald C hE hP sh139 g2 dX12_strike_28 ?_
      refine lv_iconst (v := 1) hx hb dX12_strike_29 (by decide) ?_
      refine lv_isub hx hb dX12_strike_30 ?_
      refine x_iast C hE hP hS sh139 g2 dX12_strike_31 (fun H locs hP hS => ?_)
      refine lv_aload_n hx hb dX12_strike_32 rfl (lv_at hl 0 rfl) ?_
      refine gfX12_28 C hE hP dX12_strike_33 ?_
      refine lv_iload_n hx hb dX12_strike_36 rfl (lv_at hl 1 rfl) ?_
      refine x_iald C hE hP sh139 g2 dX12_strike_37 ?_
      exact hret _ _ _ _ _ _ (OB_some hf) hP hS dX12_strike_38
    · have hf := (OB_t hf hc)
      refine lv_bipush (v := -103) hx hb dX12_strike_19 (by decide) ?_
      exact hret _ _ _ _ _ _ (OB_some hf) hP hS dX12_strike_21
  · have hf := (OB_f hf (bI_f hc))
    refine lv_bipush (v := -101) hx hb dX12_strike_7 (by decide) ?_
    exact hret _ _ _ _ _ _ (OB_some hf) hP hS dX12_strike_9
def rm_X12_holdsFor : Room := { frames := 0, cells := 0, slots := 0, locals := 0 }
set_option maxRecDepth 100000 in
set_option maxHeartbeats 8000000 in
theorem c_X12_holdsFor {l : Launch} {G : GG} {a1 : Int32} {a2 : Int32} {a3 : Int32} {a4 : Int32} {M : Mem} {h : Int64}  {P9 : (Bool × Mem) → Prop} (hf : OB (f_X12_holdsFor a1 a2 a3 a4 M) P9) : Met1 l yX12_holdsFor cX12_holdsFor 10 (some .boolean) rm_X12_holdsFor G [.ref (xa G 132), .int a1, .int a2, .int a3, .int a4] M h (QZ1 G h P9) := by
  unfold f_X12_holdsFor at hf
  refine xm_z1 (by decide) (Nat.le_of_ble_eq_true rfl) ?_
  intro p e s m args below meth c ls Q C hE hret hP hS hl
  have C : CallFix p m c cX12_holdsFor 10 s args TB RX12 := C
  have hx := C.1
  have hb := C.2.1
  have hl : lv_has ls 10 [(0, .ref (xa G 132)), (1, .int a1), (2, .int a2), (3, .int a3), (4, .int a4)] := hl
  refine lv_iconst (v := 0) hx hb dX12_holdsFor_0 (by decide) ?_
  refine lv_istore (lv' := [(5, .int 0), (0, .ref (xa G 132)), (1, .int a1), (2, .int a2), (3, .int a3), (4, .int a4)]) hx hb dX12_holdsFor_1 hl (by decide) rfl (fun ls hl => ?_)
  refine lv_iconst (v := 0) hx hb dX12_holdsFor_3 (by decide) ?_
  refine lv_istore (lv' := [(6, .int 0), (5, .int 0), (0, .ref (xa G 132)), (1, .int a1), (2, .int a2), (3, .int a3), (4, .int a4)]) hx hb dX12_holdsFor_4 hl (by decide) rfl (fun ls hl => ?_)
  refine xj (fun (zz : (Int32 × Mem)) => match zz with | (x196, M197) => ∀ (H : Heap) (locs : List Loc) (ls : Array Slot), va_P G.1 vwCl (wl G M197 h) H → va_S (Aw G) s.heap H locs → lv_has ls 10 [(0, .ref (xa G 132)), (5, .int x196)] → W p l e rm_X12_holdsFor s m args below meth c H locs 0 0 Q (F0 m 267 ls [])) hf ?_ (fun hf => ?_)
  · rintro ⟨x196, M197⟩ hf H locs ls hP hS hl
    refine lv_iload hx hb dX12_holdsFor_267 (lv_at hl 1 rfl) ?_
    refine xj (fun (x259 : Bool) => ∀ (H : Heap) (locs : List Loc) (ls : Array Slot), va_P G.1 vwCl (wl G M197 h) H → va_S (Aw G) s.heap H locs → lv_has ls 10 [] → W p l e rm_X12_holdsFor s m args below meth c H locs 0 0 Q (F0 m 286 ls [.int (bI x259)])) hf ?_ (fun hf => ?_)
    · rintro x259 hf H locs ls hP hS hl
      exact hret _ _ _ _ _ _ (OB_some hf) hP hS dX12_holdsFor_286
    · skip
      refine lv_if_eq (tgt := 281) hx hb dX12_holdsFor_269 (by decide) (fun hc => ?_) (fun hc => ?_)
      · have hf := (OB_t hf hc)
        refine lv_iconst (v := 1) hx hb dX12_holdsFor_281 (by decide) ?_
        refine lv_goto (tgt := 286) hx hb dX12_holdsFor_282 (by decide) ?_
        refine W.eq (g2 := F0 m 286 ls [.int (bI true)]) rfl ?_
        exact (OB_some hf) _ _ _ hP hS (lv_sub hl [] rfl)
      · have hf := (OB_f hf hc)
        refine lv_aload_n hx hb dX12_holdsFor_272 rfl (lv_at hl 0 rfl) ?_
        refine gfX12_55 C hE hP dX12_holdsFor_273 ?_
        refine lv_iconst (v := 0) hx hb dX12_holdsFor_276 (by decide) ?_
        refine x_zald C hE hP sh148 (by decide) dX12_holdsFor_277 ?_
        refine lv_if_eq (tgt := 285) hx hb dX12_holdsFor_278 (by decide) (fun hc => ?_) (fun hc => ?_)
        · have hf := (OB_t hf hc)
          refine lv_iconst (v := 0) hx hb dX12_holdsFor_285 (by decide) ?_
          refine W.eq (g2 := F0 m 286 ls [.int (bI false)]) rfl ?_
          exact (OB_some hf) _ _ _ hP hS (lv_sub hl [] rfl)
        · have hf := (OB_f hf hc)
          refine lv_iconst (v := 1) hx hb dX12_holdsFor_281 (by decide) ?_
          refine lv_goto (tgt := 286) hx hb dX12_holdsFor_282 (by decide) ?_
          refine W.eq (g2 := F0 m 286 ls [.int (bI true)]) rfl ?_
          exact (OB_some hf) _ _ _ hP hS (lv_sub hl [] rfl)
  · refine (it_W (fun (zz : (Int32 × Int32 × Mem)) => match zz with | (x193, x194, M195) => ∀ (H : Heap) (locs : List Loc) (ls : Array Slot), va_P G.1 vwCl (wl G M195 h) H → va_S (Aw G) s.heap H locs → lv_has ls 10 [(0, .ref (xa G 132)), (1, .int a1), (2, .int a2), (3, .int a3), (4, .int a4), (5, .int x193), (6, .int x194)] → W p l e rm_X12_holdsFor s m args below meth c H locs 0 0 Q (F0 m 6 ls [])) hf ?_) _ _ _ hP hS (lv_sub hl [2, 3, 4, 5, 6, 1, 0] rfl)
    rintro ⟨x193, x194, M195⟩ hf H locs ls hP hS hl
    unfold f_X12_holdsFor_b6 at hf
    refine lv_iload hx hb dX12_holdsFor_6 (lv_at hl 6 rfl) ?_
    refine lv_aload_n hx hb dX12_holdsFor_8 rfl (lv_at hl 0 rfl) ?_
    refine gfX12_37 C hE hP dX12_holdsFor_9 ?_
    refine lv_iload_n hx hb dX12_holdsFor_12 rfl (lv_at hl 1 rfl) ?_
    obtain ⟨g198, hf⟩ := OB_g hf
    refine x_iald C hE hP sh142 g198 dX12_holdsFor_13 ?_
    refine lv_icmp_ge (tgt := 267) hx hb dX12_holdsFor_14 (by decide) (fun hc => ?_) (fun hc => ?_)
    · have hf := (OB_t hf hc)
      exact (it_e hf) _ _ _ hP hS (lv_sub hl [0, 5] rfl)
    · have hf := (OB_f hf hc)
      refine lv_aload_n hx hb dX12_holdsFor_17 rfl (lv_at hl 0 rfl) ?_
      refine gfX12_40 C hE hP dX12_holdsFor_18 ?_
      refine lv_bipush (v := 50) hx hb dX12_holdsFor_21 (by decide) ?_
      refine lv_iload_n hx hb dX12_holdsFor_23 rfl (lv_at hl 1 rfl) ?_
      refine lv_imul hx hb dX12_holdsFor_24 ?_
      refine lv_iload hx hb dX12_holdsFor_25 (lv_at hl 6 rfl) ?_
      refine lv_iadd hx hb dX12_holdsFor_27 ?_
      obtain ⟨g199, hf⟩ := OB_g hf
      refine x_iald C hE hP sh143 g199 dX12_holdsFor_28 ?_
      refine lv_istore (lv' := [(7, .int (M195 143 (Int32.toNatClampNeg ((50 * a1) + x194)))), (0, .ref (xa G 132)), (1, .int a1), (2, .int a2), (3, .int a3), (4, .int a4), (5, .int x193), (6, .int x194)]) hx hb dX12_holdsFor_29 hl (by decide) rfl (fun ls hl => ?_)
      refine lv_iload hx hb dX12_holdsFor_31 (lv_at hl 0 rfl) ?_
      refine lv_bipush (v := 9) hx hb dX12_holdsFor_33 (by decide) ?_
      refine xj (fun (zz : (Int32 × Mem)) => match zz with | (x238, M239) => ∀ (H : Heap) (locs : List Loc) (ls : Array Slot), va_P G.1 vwCl (wl G M239 h) H → va_S (Aw G) s.heap H locs → lv_has ls 10 [(0, .ref (xa G 132)), (1, .int a1), (2, .int a2), (3, .int a3), (4, .int a4), (5, .int x238), (6, .int x194)] → W p l e rm_X12_holdsFor s m args below meth c H locs 0 0 Q (F0 m 261 ls [])) hf ?_ (fun hf => ?_)
      · rintro ⟨x238, M239⟩ hf H locs ls hP hS hl
        refine lv_iinc (v := (x194 + 1)) (lv' := [(6, .int (x194 + 1)), (0, .ref (xa G 132)), (1, .int a1), (2, .int a2), (3, .int a3), (4, .int a4), (5, .int x238)]) hx hb dX12_holdsFor_261 hl (k := 6) rfl rfl (by decide) rfl (fun ls hl => ?_)
        refine lv_goto (tgt := 6) hx hb dX12_holdsFor_264 (by decide) ?_
        exact (it_c hf) _ _ _ hP hS (lv_sub hl [1, 2, 3, 4, 5, 6, 0] rfl)
      · skip
        refine lv_icmp_ge (tgt := 149) hx hb dX12_holdsFor_35 (by decide) (fun hc => ?_) (fun hc => ?_)
        · have hf := (OB_t hf hc)
          refine lv_iload hx hb dX12_holdsFor_149 (lv_at hl 0 rfl) ?_
          refine lv_bipush (v := 9) hx hb dX12_holdsFor_151 (by decide) ?_
          refine lv_icmp_ne (tgt := 185) hx hb dX12_holdsFor_153 (by decide) (fun hc => ?_) (fun hc => ?_)
          · have hf := (OB_f hf hc)
            refine lv_iinc (v := (x193 + (-1))) (lv' := [(5, .int (x193 + (-1))), (7, .int (M195 143 (Int32.toNatClampNeg ((50 * a1) + x194)))), (0, .ref (xa G 132)), (1, .int a1), (2, .int a2), (3, .int a3), (4, .int a4), (6, .int x194)]) hx hb dX12_holdsFor_185 hl (k := 6) rfl rfl (by decide) rfl (fun ls hl => ?_)
            refine lv_aload_n hx hb dX12_holdsFor_188 rfl (lv_at hl 2 rfl) ?_
            refine gfX12_55 C hE hP dX12_holdsFor_189 ?_
            refine lv_iload hx hb dX12_holdsFor_192 (lv_at hl 0 rfl) ?_
            refine lv_iconst (v := 1) hx hb dX12_holdsFor_194 (by decide) ?_
            refine lv_isub hx hb dX12_holdsFor_195 ?_
            refine lv_iload hx hb dX12_holdsFor_196 (lv_at hl 1 rfl) ?_
            refine lv_bipush (v := 10) hx hb dX12_holdsFor_198 (by decide) ?_
            refine xj (fun (x248 : Bool) => ∀ (H : Heap) (locs : List Loc) (ls : Array Slot), va_P G.1 vwCl (wl G M195 h) H → va_S (Aw G) s.heap H locs → lv_has ls 10 [(0, .ref (xa G 132)), (1, .int a1), (2, .int a2), (3, .int a3), (4, .int a4), (5, .int (x193 + (-1))), (6, .int x194)] → W p l e rm_X12_holdsFor s m args below meth c H locs 0 0 Q (F0 m 260 ls [.int (bI x248), .int ((x193 + (-1)) - 1), .ref (xa G 148)])) hf ?_ (fun hf => ?_)
            · rintro x248 hf H locs ls hP hS hl
              obtain ⟨g253, hf⟩ := OB_g hf
              refine x_zast C hE hP hS sh148 (bI_v x248) g253 dX12_holdsFor_260 (fun H locs hP hS => ?_)
              exact (OB_some hf) _ _ _ hP hS (lv_sub hl [0, 1, 2, 3, 4, 5, 6] rfl)
            · skip
              refine lv_icmp_ne (tgt := 233) hx hb dX12_holdsFor_200 (by decide) (fun hc => ?_) (fun hc => ?_)
              · have hf := (OB_f hf hc)
                refine lv_aload_n hx hb dX12_holdsFor_233 rfl (lv_at hl 2 rfl) ?_
                refine gfX12_55 C hE hP dX12_holdsFor_234 ?_
                refine lv_iload hx hb dX12_holdsFor_237 (lv_at hl 0 rfl) ?_
                refine lv_iconst (v := 1) hx hb dX12_holdsFor_239 (by decide) ?_
                refine lv_isub hx hb dX12_holdsFor_240 ?_
                obtain ⟨g249, hf⟩ := OB_g hf
                refine x_zald C hE hP sh148 g249 dX12_holdsFor_241 ?_
                refine lv_if_ne (tgt := 255) hx hb dX12_holdsFor_242 (by decide) (fun hc => ?_) (fun hc => ?_)
                · have hf := (OB_f hf hc)
                  refine lv_iconst (v := 1) hx hb dX12_holdsFor_255 (by decide) ?_
                  refine lv_goto (tgt := 260) hx hb dX12_holdsFor_256 (by decide) ?_
                  refine W.eq (g2 := F0 m 260 ls [.int (bI true), .int ((x193 + (-1)) - 1), .ref (xa G 148)]) rfl ?_
                  exact (OB_some hf) _ _ _ hP hS (lv_sub hl [2, 3, 4, 5, 6, 0, 7] rfl)
                · have hf := (OB_t hf hc)
                  refine lv_aload_n hx hb dX12_holdsFor_245 rfl (lv_at hl 2 rfl) ?_
                  refine gfX12_55 C hE hP dX12_holdsFor_246 ?_
                  refine lv_iload hx hb dX12_holdsFor_249 (lv_at hl 0 rfl) ?_
                  obtain ⟨g250, hf⟩ := OB_g hf
                  refine x_zald C hE hP sh148 g250 dX12_holdsFor_251 ?_
                  refine lv_if_eq (tgt := 259) hx hb dX12_holdsFor_252 (by decide) (fun hc => ?_) (fun hc => ?_)
                  · have hf := (OB_t hf hc)
                    refine lv_iconst (v := 0) hx hb dX12_holdsFor_259 (by decide) ?_
                    refine W.eq (g2 := F0 m 260 ls [.int (bI false), .int ((x193 + (-1)) - 1), .ref (xa G 148)]) rfl ?_
                    exact (OB_some hf) _ _ _ hP hS (lv_sub hl [2, 3, 4, 5, 6, 0, 7] rfl)
                  · have hf := (OB_f hf hc)
                    refine lv_iconst (v := 1) hx hb dX12_holdsFor_255 (by decide) ?_
                    refine lv_goto (tgt := 260) hx hb dX12_holdsFor_256 (by decide) ?_
                    refine W.eq (g2 := F0 m 260 ls [.int (bI true), .int ((x193 + (-1)) - 1), .ref (xa G 148)]) rfl ?_
                    exact (OB_some hf) _ _ _ hP hS (lv_sub hl [2, 3, 4, 5, 6, 0, 7] rfl)
              · have hf := (OB_t hf hc)
                refine lv_aload_n hx hb dX12_holdsFor_203 rfl (lv_at hl 2 rfl) ?_
                refine gfX12_55 C hE hP dX12_holdsFor_204 ?_
                refine lv_iload hx hb dX12_holdsFor_207 (lv_at hl 0 rfl) ?_
                refine lv_iconst (v := 1) hx hb dX12_holdsFor_209 (by decide) ?_
                refine lv_isub hx hb dX12_holdsFor_210 ?_
                obtain ⟨g251, hf⟩ := OB_g hf
                refine x_zald C hE hP sh148 g251 dX12_holdsFor_211 ?_
                refine lv_if_eq (tgt := 229) hx hb dX12_holdsFor_212 (by decide) (fun hc => ?_) (fun hc => ?_)
                · have hf := (OB_t hf hc)
                  refine lv_iconst (v := 0) hx hb dX12_holdsFor_229 (by decide) ?_
                  refine lv_goto (tgt := 260) hx hb dX12_holdsFor_230 (by decide) ?_
                  refine W.eq (g2 := F0 m 260 ls [.int (bI false), .int ((x193 + (-1)) - 1), .ref (xa G 148)]) rfl ?_
                  exact (OB_some hf) _ _ _ hP hS (lv_sub hl [2, 3, 4, 5, 6, 0, 7] rfl)
                · have hf := (OB_f hf hc)
                  refine lv_aload_n hx hb dX12_holdsFor_215 rfl (lv_at hl 2 rfl) ?_
                  refine gfX12_55 C hE hP dX12_holdsFor_216 ?_
                  refine lv_iload hx hb dX12_holdsFor_219 (lv_at hl 0 rfl) ?_
                  obtain ⟨g252, hf⟩ := OB_g hf
                  refine x_zald C hE hP sh148 g252 dX12_holdsFor_221 ?_
                  refine lv_if_eq (tgt := 229) hx hb dX12_holdsFor_222 (by decide) (fun hc => ?_) (fun hc => ?_)
                  · have hf := (OB_t hf hc)
                    refine lv_iconst (v := 0) hx hb dX12_holdsFor_229 (by decide) ?_
                    refine lv_goto (tgt := 260) hx hb dX12_holdsFor_230 (by decide) ?_
                    refine W.eq (g2 := F0 m 260 ls [.int (bI false), .int ((x193 + (-1)) - 1), .ref (xa G 148)]) rfl ?_
                    exact (OB_some hf) _ _ _ hP hS (lv_sub hl [2, 3, 4, 5, 6, 0, 7] rfl)
                  · have hf := (OB_f hf hc)
                    refine lv_iconst (v := 1) hx hb dX12_holdsFor_225 (by decide) ?_
                    refine lv_goto (tgt := 260) hx hb dX12_holdsFor_226 (by decide) ?_
                    refine W.eq (g2 := F0 m 260 ls [.int (bI true), .int ((x193 + (-1)) - 1), .ref (xa G 148)]) rfl ?_
                    exact (OB_some hf) _ _ _ hP hS (lv_sub hl [2, 3, 4, 5, 6, 0, 7] rfl)
          · have hf := (OB_t hf hc)
            refine lv_aload_n hx hb dX12_holdsFor_156 rfl (lv_at hl 1 rfl) ?_
            refine gfX12_55 C hE hP dX12_holdsFor_157 ?_
            refine lv_iload hx hb dX12_holdsFor_160 (lv_at hl 6 rfl) ?_
            refine lv_iconst (v := 1) hx hb dX12_holdsFor_162 (by decide) ?_
            refine lv_isub hx hb dX12_holdsFor_163 ?_
            refine lv_aload_n hx hb dX12_holdsFor_164 rfl (lv_at hl 1 rfl) ?_
            refine gfX12_55 C hE hP dX12_holdsFor_165 ?_
            refine lv_iload hx hb dX12_holdsFor_168 (lv_at hl 6 rfl) ?_
            refine lv_iconst (v := 1) hx hb dX12_holdsFor_170 (by decide) ?_
            refine lv_isub hx hb dX12_holdsFor_171 ?_
            obtain ⟨g254, hf⟩ := OB_g hf
            refine x_zald C hE hP sh148 g254 dX12_holdsFor_172 ?_
            refine xj (fun (x255 : Bool) => ∀ (H : Heap) (locs : List Loc) (ls : Array Slot), va_P G.1 vwCl (wl G M195 h) H → va_S (Aw G) s.heap H locs → lv_has ls 10 [(0, .ref (xa G 132)), (1, .int a1), (2, .int a2), (3, .int a3), (4, .int a4), (5, .int x193), (6, .int x194)] → W p l e rm_X12_holdsFor s m args below meth c H locs 0 0 Q (F0 m 181 ls [.int (bI x255), .int (x193 - 1), .ref (xa G 148)])) hf ?_ (fun hf => ?_)
            · rintro x255 hf H locs ls hP hS hl
              refine x_zast C hE hP hS sh148 (bI_v x255) g254 dX12_holdsFor_181 (fun H locs hP hS => ?_)
              refine lv_goto (tgt := 261) hx hb dX12_holdsFor_182 (by decide) ?_
              exact (OB_some hf) _ _ _ hP hS (lv_sub hl [0, 1, 2, 3, 4, 5, 6] rfl)
            · skip
              refine lv_if_ne (tgt := 180) hx hb dX12_holdsFor_173 (by decide) (fun hc => ?_) (fun hc => ?_)
              · have hf := (OB_f hf hc)
                refine lv_iconst (v := 0) hx hb dX12_holdsFor_180 (by decide) ?_
                refine W.eq (g2 := F0 m 181 ls [.int (bI false), .int (x193 - 1), .ref (xa G 148)]) rfl ?_
                exact (OB_some hf) _ _ _ hP hS (lv_sub hl [1, 2, 3, 4, 5, 6, 7] rfl)
              · have hf := (OB_t hf hc)
                refine lv_iconst (v := 1) hx hb dX12_holdsFor_176 (by decide) ?_
                refine lv_goto (tgt := 181) hx hb dX12_holdsFor_177 (by decide) ?_
                refine W.eq (g2 := F0 m 181 ls [.int (bI true), .int (x193 - 1), .ref (xa G 148)]) rfl ?_
                exact (OB_some hf) _ _ _ hP hS (lv_sub hl [1, 2, 3, 4, 5, 6, 7] rfl)
        · have hf := (OB_f hf hc)
          refine lv_iload hx hb dX12_holdsFor_38 (lv_at hl 0 rfl) ?_
          refine lv_iconst (v := 3) hx hb dX12_holdsFor_40 (by decide) ?_
          refine lv_idiv hx hb dX12_holdsFor_41 (by decide) ?_
          refine xj (fun (x256 : Int32) => ∀ (H : Heap) (locs : List Loc) (ls : Array Slot), va_P G.1 vwCl (wl G M195 h) H → va_S (Aw G) s.heap H locs → lv_has ls 10 [(0, .ref (xa G 132)), (1, .int a1), (2, .int a2), (3, .int a3), (4, .int a4), (5, .int x193), (6, .int x194), (7, .int (M195 143 (Int32.toNatClampNeg ((50 * a1) + x194))))] → W p l e rm_X12_holdsFor s m args below meth c H locs 0 0 Q (F0 m 63 ls [.int x256])) hf ?_ (fun hf => ?_)
          · rintro x256 hf H locs ls hP hS hl
            refine lv_istore (lv' := [(8, .int x256), (0, .ref (xa G 132)), (1, .int a1), (2, .int a2), (3, .int a3), (4, .int a4), (5, .int x193), (6, .int x194), (7, .int (M195 143 (Int32.toNatClampNeg ((50 * a1) + x194))))]) hx hb dX12_holdsFor_63 hl (by decide) rfl (fun ls hl => ?_)
            refine lv_aload_n hx hb dX12_holdsFor_65 rfl (lv_at hl 1 rfl) ?_
            refine gfX12_43 C hE hP dX12_holdsFor_66 ?_
            refine lv_bipush (v := 50) hx hb dX12_holdsFor_69 (by decide) ?_
            refine lv_iload_n hx hb dX12_holdsFor_71 rfl (lv_at hl 2 rfl) ?_
            refine lv_imul hx hb dX12_holdsFor_72 ?_
            refine lv_iload hx hb dX12_holdsFor_73 (lv_at hl 7 rfl) ?_
            refine lv_iadd hx hb dX12_holdsFor_75 ?_
            refine x_iald C hE hP sh144 g199 dX12_holdsFor_76 ?_
            refine lv_istore (lv' := [(9, .int (M195 144 (Int32.toNatClampNeg ((50 * a1) + x194)))), (8, .int x256), (0, .ref (xa G 132)), (1, .int a1), (2, .int a2), (3, .int a3), (4, .int a4), (5, .int x193), (6, .int x194), (7, .int (M195 143 (Int32.toNatClampNeg ((50 * a1) + x194))))]) hx hb dX12_holdsFor_77 hl (by decide) rfl (fun ls hl => ?_)
            refine lv_aload_n hx hb dX12_holdsFor_79 rfl (lv_at hl 2 rfl) ?_
            refine gfX12_55 C hE hP dX12_holdsFor_80 ?_
            refine lv_iload hx hb dX12_holdsFor_83 (lv_at hl 7 rfl) ?_
            refine lv_iload hx hb dX12_holdsFor_85 (lv_at hl 9 rfl) ?_
            refine lv_iconst (v := 3) hx hb dX12_holdsFor_87 (by decide) ?_
            refine x_irem C dX12_holdsFor_88 (by decide) ?_
            refine xj (fun (x257 : Bool) => ∀ (H : Heap) (locs : List Loc) (ls : Array Slot), va_P G.1 vwCl (wl G M195 h) H → va_S (Aw G) s.heap H locs → lv_has ls 10 [(0, .ref (xa G 132)), (1, .int a1), (2, .int a2), (3, .int a3), (4, .int a4), (5, .int x193), (6, .int x194)] → W p l e rm_X12_holdsFor s m args below meth c H locs 0 0 Q (F0 m 142 ls [.int (bI x257), .int x193, .ref (xa G 148)])) hf ?_ (fun hf => ?_)
            · rintro x257 hf H locs ls hP hS hl
              obtain ⟨g258, hf⟩ := OB_g hf
              refine x_zast C hE hP hS sh148 (bI_v x257) g258 dX12_holdsFor_142 (fun H locs hP hS => ?_)
              refine lv_iinc (v := (x193 + 1)) (lv' := [(5, .int (x193 + 1)), (0, .ref (xa G 132)), (1, .int a1), (2, .int a2), (3, .int a3), (4, .int a4), (6, .int x194)]) hx hb dX12_holdsFor_143 hl (k := 5) rfl rfl (by decide) rfl (fun ls hl => ?_)
              refine lv_goto (tgt := 261) hx hb dX12_holdsFor_146 (by decide) ?_
              exact (OB_some hf) _ _ _ hP hS (lv_sub hl [1, 2, 3, 4, 5, 0, 6] rfl)
            · skip
              refine lv_if_ne (tgt := 107) hx hb dX12_holdsFor_89 (by decide) (fun hc => ?_) (fun hc => ?_)
              · have hf := (OB_f hf hc)
                refine lv_iload hx hb dX12_holdsFor_107 (lv_at hl 9 rfl) ?_
                refine lv_iconst (v := 3) hx hb dX12_holdsFor_109 (by decide) ?_
                refine x_irem C dX12_holdsFor_110 (by decide) ?_
                refine lv_iconst (v := 1) hx hb dX12_holdsFor_111 (by decide) ?_
                refine lv_icmp_ne (tgt := 130) hx hb dX12_holdsFor_112 (by decide) (fun hc => ?_) (fun hc => ?_)
                · have hf := (OB_f hf hc)
                  refine lv_iload hx hb dX12_holdsFor_130 (lv_at hl 1 rfl) ?_
                  refine lv_iload hx hb dX12_holdsFor_132 (lv_at hl 0 rfl) ?_
                  refine lv_icmp_le (tgt := 141) hx hb dX12_holdsFor_134 (by decide) (fun hc => ?_) (fun hc => ?_)
                  · have hf := (OB_t hf hc)
                    refine lv_iconst (v := 0) hx hb dX12_holdsFor_141 (by decide) ?_
                    refine W.eq (g2 := F0 m 142 ls [.int (bI false), .int x193, .ref (xa G 148)]) rfl ?_
                    exact (OB_some hf) _ _ _ hP hS (lv_sub hl [2, 3, 4, 5, 6, 7, 8] rfl)
                  · have hf := (OB_f hf hc)
                    refine lv_iconst (v := 1) hx hb dX12_holdsFor_137 (by decide) ?_
                    refine lv_goto (tgt := 142) hx hb dX12_holdsFor_138 (by decide) ?_
                    refine W.eq (g2 := F0 m 142 ls [.int (bI true), .int x193, .ref (xa G 148)]) rfl ?_
                    exact (OB_some hf) _ _ _ hP hS (lv_sub hl [2, 3, 4, 5, 6, 7, 8] rfl)
                · have hf := (OB_t hf hc)
                  refine lv_iload hx hb dX12_holdsFor_115 (lv_at hl 1 rfl) ?_
                  refine lv_iload hx hb dX12_holdsFor_117 (lv_at hl 0 rfl) ?_
                  refine lv_icmp_ne (tgt := 126) hx hb dX12_holdsFor_119 (by decide) (fun hc => ?_) (fun hc => ?_)
                  · have hf := (OB_f hf hc)
                    refine lv_iconst (v := 0) hx hb dX12_holdsFor_126 (by decide) ?_
                    refine lv_goto (tgt := 142) hx hb dX12_holdsFor_127 (by decide) ?_
                    refine W.eq (g2 := F0 m 142 ls [.int (bI false), .int x193, .ref (xa G 148)]) rfl ?_
                    exact (OB_some hf) _ _ _ hP hS (lv_sub hl [2, 3, 4, 5, 6, 7, 8] rfl)
                  · have hf := (OB_t hf hc)
                    refine lv_iconst (v := 1) hx hb dX12_holdsFor_122 (by decide) ?_
                    refine lv_goto (tgt := 142) hx hb dX12_holdsFor_123 (by decide) ?_
                    refine W.eq (g2 := F0 m 142 ls [.int (bI true), .int x193, .ref (xa G 148)]) rfl ?_
                    exact (OB_some hf) _ _ _ hP hS (lv_sub hl [2, 3, 4, 5, 6, 7, 8] rfl)
              · have hf := (OB_t hf hc)
                refine lv_iload hx hb dX12_holdsFor_92 (lv_at hl 1 rfl) ?_
                refine lv_iload hx hb dX12_holdsFor_94 (lv_at hl 0 rfl) ?_
                refine lv_icmp_ge (tgt := 103) hx hb dX12_holdsFor_96 (by decide) (fun hc => ?_) (fun hc => ?_)
                · have hf := (OB_t hf hc)
                  refine lv_iconst (v := 0) hx hb dX12_holdsFor_103 (by decide) ?_
                  refine lv_goto (tgt := 142) hx hb dX12_holdsFor_104 (by decide) ?_
                  refine W.eq (g2 := F0 m 142 ls [.int (bI false), .int x193, .ref (xa G 148)]) rfl ?_
                  exact (OB_some hf) _ _ _ hP hS (lv_sub hl [2, 3, 4, 5, 6, 7, 8] rfl)
                · have hf := (OB_f hf hc)
                  refine lv_iconst (v := 1) hx hb dX12_holdsFor_99 (by decide) ?_
                  refine lv_goto (tgt := 142) hx hb dX12_holdsFor_100 (by decide) ?_
                  refine W.eq (g2 := F0 m 142 ls [.int (bI true), .int x193, .ref (xa G 148)]) rfl ?_
                  exact (OB_some hf) _ _ _ hP hS (lv_sub hl [2, 3, 4, 5, 6, 7, 8] rfl)
          · skip
            refine lv_if_ne (tgt := 49) hx hb dX12_holdsFor_42 (by decide) (fun hc => ?_) (fun hc => ?_)
            · have hf := (OB_f hf hc)
              refine lv_iload hx hb dX12_holdsFor_49 (lv_at hl 0 rfl) ?_
              refine lv_iconst (v := 3) hx hb dX12_holdsFor_51 (by decide) ?_
              refine lv_idiv hx hb dX12_holdsFor_52 (by decide) ?_
              refine lv_iconst (v := 1) hx hb dX12_holdsFor_53 (by decide) ?_
              refine lv_icmp_ne (tgt := 61) hx hb dX12_holdsFor_54 (by decide) (fun hc => ?_) (fun hc => ?_)
              · have hf := (OB_f hf hc)
                refine lv_iload hx hb dX12_holdsFor_61 (lv_at hl 5 rfl) ?_
                exact (OB_some hf) _ _ _ hP hS (lv_sub hl [1, 2, 3, 4, 5, 6, 7, 0] rfl)
              · have hf := (OB_t hf hc)
                refine lv_iload_n hx hb dX12_holdsFor_57 rfl (lv_at hl 4 rfl) ?_
                refine lv_goto (tgt := 63) hx hb dX12_holdsFor_58 (by decide) ?_
                exact (OB_some hf) _ _ _ hP hS (lv_sub hl [1, 2, 3, 4, 5, 6, 7, 0] rfl)
            · have hf := (OB_t hf hc)
              refine lv_iload_n hx hb dX12_holdsFor_45 rfl (lv_at hl 3 rfl) ?_
              refine lv_goto (tgt := 63) hx hb dX12_holdsFor_46 (by decide) ?_
              exact (OB_some hf) _ _ _ hP hS (lv_sub hl [1, 2, 3, 4, 5, 6, 7, 0] rfl)
def rm_X12_apart : Room := { frames := 1, cells := 0, slots := 0, locals := 21 }
set_option maxRecDepth 100000 in
set_option maxHeartbeats 8000000 in
theorem c_X12_apart {l : Launch} {G : GG} {a0 : Int32} {a1 : Int32} {M : Mem} {h : Int64}  {P9 : Int32 → Prop} (hf : OB (f_X12_apart a0 a1) P9) : Met1 l yX12_apart cX12_apart 3 (some .int) rm_X12_apart G [.int a0, .int a1] M h (QI0 G M h P9) := by
  unfold f_X12_apart at hf
  refine xm_i0 (by decide) (Nat.le_of_ble_eq_true rfl) ?_
  intro p e s m args below meth c ls Q C hE hret hP hS hl
  have C : CallFix p m c cX12_apart 3 s args TB RX12 := C
  have hx := C.1
  have hb := C.2.1
  have hl : lv_has ls 3 [(0, .int a0), (1, .int a1)] := hl
  refine lv_iload_n hx hb dX12_apart_0 rfl (lv_at hl 0 rfl) ?_
  refine lv_bipush (v := 16) hx hb dX12_apart_1 (by decide) ?_
  refine x_irem C dX12_apart_3 (by decide) ?_
  refine lv_iload_n hx hb dX12_apart_4 rfl (lv_at hl 1 rfl) ?_
  refine lv_bipush (v := 16) hx hb dX12_apart_5 (by decide) ?_
  refine x_irem C dX12_apart_7 (by decide) ?_
  refine x_ci0 (rest := []) (x_runS C hE hP hS ykX12_off lkX12_137 (c_X12_off (OB_bind hf)) (by decide) rfl hl.1 (Nat.le_of_ble_eq_true rfl) dX12_apart_8) hS (fun r1 H locs hf hP hS => ?_)
  refine lv_istore_n (lv' := [(2, .int r1), (0, .int a0), (1, .int a1)]) hx hb dX12_apart_11 rfl hl (by decide) rfl (fun ls hl => ?_)
  refine lv_iload_n hx hb dX12_apart_12 rfl (lv_at hl 1 rfl) ?_
  refine lv_bipush (v := 16) hx hb dX12_apart_13 (by decide) ?_
  refine lv_idiv hx hb dX12_apart_15 (by decide) ?_
  refine lv_iload_n hx hb dX12_apart_16 rfl (lv_at hl 2 rfl) ?_
  refine lv_bipush (v := 16) hx hb dX12_apart_17 (by decide) ?_
  refine lv_idiv hx hb dX12_apart_19 (by decide) ?_
  refine x_ci0 (rest := []) (x_runS C hE hP hS ykX12_off lkX12_137 (c_X12_off (OB_bind hf)) (by decide) rfl hl.1 (Nat.le_of_ble_eq_true rfl) dX12_apart_20) hS (fun r2 H locs hf hP hS => ?_)
  refine lv_iload_n hx hb dX12_apart_23 rfl (lv_at hl 0 rfl) ?_
  refine lv_bipush (v := 8) hx hb dX12_apart_24 (by decide) ?_
  refine xj (fun (x3 : Int32) => ∀ (H : Heap) (locs : List Loc) (ls : Array Slot), va_P G.1 vwCl (wl G M h) H → va_S (Aw G) s.heap H locs → lv_has ls 3 [] → W p l e rm_X12_apart s m args below meth c H locs 0 0 Q (F0 m 37 ls [.int x3, .int r2])) hf ?_ (fun hf => ?_)
  · rintro x3 hf H locs ls hP hS hl
    refine lv_iadd hx hb dX12_apart_37 ?_
    exact hret _ _ _ _ _ (OB_some hf) hP hS dX12_apart_38
  · skip
    refine lv_icmp_le (tgt := 36) hx hb dX12_apart_26 (by decide) (fun hc => ?_) (fun hc => ?_)
    · have hf := (OB_t hf hc)
      refine lv_iload_n hx hb dX12_apart_36 rfl (lv_at hl 0 rfl) ?_
      exact (OB_some hf) _ _ _ hP hS (lv_sub hl [] rfl)
    · have hf := (OB_f hf hc)
      refine lv_bipush (v := 16) hx hb dX12_apart_29 (by decide) ?_
      refine lv_iload_n hx hb dX12_apart_31 rfl (lv_at hl 0 rfl) ?_
      refine lv_isub hx hb dX12_apart_32 ?_
      refine lv_goto (tgt := 37) hx hb dX12_apart_33 (by decide) ?_
      exact (OB_some hf) _ _ _ hP hS (lv_sub hl [] rfl)
def rm_X12_distanceOf : Room := { frames := 2, cells := 0, slots := 0, locals := 43 }
set_option maxRecDepth 100000 in
set_option maxHeartbeats 8000000 in
theorem c_X12_distanceOf {l : Launch} {G : GG} {a1 : Int32} {a2 : Int32} {M : Mem} {h : Int64}  {P9 : Int32 → Prop} (hf : OB (f_X12_distanceOf a1 a2 M) P9) : Met1 l yX12_distanceOf cX12_distanceOf 7 (some .int) rm_X12_distanceOf G [.ref (xa G 132), .int a1, .int a2] M h (QI0 G M h P9) := by
  unfold f_X12_distanceOf at hf
  refine xm_i0 (by decide) (Nat.le_of_ble_eq_true rfl) ?_
  intro p e s m args below meth c ls Q C hE hret hP hS hl
  have C : CallFix p m c cX12_distanceOf 7 s args TB RX12 := C
  have hx := C.1
  have hb := C.2.1
  have hl : lv_has ls 7 [(0, .ref (xa G 132)), (1, .int a1), (2, .int a2)] := hl
  refine lv_bipush (v := 99) hx hb dX12_distanceOf_0 (by decide) ?_
  refine lv_istore_n (lv' := [(3, .int 99), (0, .ref (xa G 132)), (1, .int a1), (2, .int a2)]) hx hb dX12_distanceOf_2 rfl hl (by decide) rfl (fun ls hl => ?_)
  refine lv_iconst (v := 0) hx hb dX12_distanceOf_3 (by decide) ?_
  refine lv_istore (lv' := [(4, .int 0), (3, .int 99), (0, .ref (xa G 132)), (1, .int a1), (2, .int a2)]) hx hb dX12_distanceOf_4 hl (by decide) rfl (fun ls hl => ?_)
  refine xj (fun (x83 : Int32) => ∀ (H : Heap) (locs : List Loc) (ls : Array Slot), va_P G.1 vwCl (wl G M h) H → va_S (Aw G) s.heap H locs → lv_has ls 7 [(3, .int x83)] → W p l e rm_X12_distanceOf s m args below meth c H locs 0 0 Q (F0 m 81 ls [])) hf ?_ (fun hf => ?_)
  · rintro x83 hf H locs ls hP hS hl
    refine lv_iload_n hx hb dX12_distanceOf_81 rfl (lv_at hl 0 rfl) ?_
    exact hret _ _ _ _ _ (OB_some hf) hP hS dX12_distanceOf_82
  · refine (it_W (fun (zz : (Int32 × Int32)) => match zz with | (x81, x82) => ∀ (H : Heap) (locs : List Loc) (ls : Array Slot), va_P G.1 vwCl (wl G M h) H → va_S (Aw G) s.heap H locs → lv_has ls 7 [(0, .ref (xa G 132)), (1, .int a1), (2, .int a2), (3, .int x81), (4, .int x82)] → W p l e rm_X12_distanceOf s m args below meth c H locs 0 0 Q (F0 m 6 ls [])) hf ?_) _ _ _ hP hS (lv_sub hl [2, 3, 4, 1, 0] rfl)
    rintro ⟨x81, x82⟩ hf H locs ls hP hS hl
    unfold f_X12_distanceOf_b6 at hf
    refine lv_iload hx hb dX12_distanceOf_6 (lv_at hl 4 rfl) ?_
    refine lv_sipush (v := 128) hx hb dX12_distanceOf_8 (by decide) ?_
    refine lv_icmp_ge (tgt := 81) hx hb dX12_distanceOf_11 (by decide) (fun hc => ?_) (fun hc => ?_)
    · have hf := (OB_t hf hc)
      exact (it_e hf) _ _ _ hP hS (lv_sub hl [3] rfl)
    · have hf := (OB_f hf hc)
      refine lv_iconst (v := 0) hx hb dX12_distanceOf_14 (by decide) ?_
      refine lv_istore (lv' := [(5, .int 0), (0, .ref (xa G 132)), (1, .int a1), (2, .int a2), (3, .int x81), (4, .int x82)]) hx hb dX12_distanceOf_15 hl (by decide) rfl (fun ls hl => ?_)
      refine xj (fun (zz : (Int32 × Int32)) => match zz with | (x111, x112) => ∀ (H : Heap) (locs : List Loc) (ls : Array Slot), va_P G.1 vwCl (wl G M h) H → va_S (Aw G) s.heap H locs → lv_has ls 7 [(0, .ref (xa G 132)), (1, .int a1), (2, .int a2), (3, .int x111), (4, .int x112)] → W p l e rm_X12_distanceOf s m args below meth c H locs 0 0 Q (F0 m 75 ls [])) hf ?_ (fun hf => ?_)
      · rintro ⟨x111, x112⟩ hf H locs ls hP hS hl
        refine lv_iinc (v := (x112 + 1)) (lv' := [(4, .int (x112 + 1)), (0, .ref (xa G 132)), (1, .int a1), (2, .int a2), (3, .int x111)]) hx hb dX12_distanceOf_75 hl (k := 4) rfl rfl (by decide) rfl (fun ls hl => ?_)
        refine lv_goto (tgt := 6) hx hb dX12_distanceOf_78 (by decide) ?_
        exact (it_c hf) _ _ _ hP hS (lv_sub hl [1, 2, 3, 4, 0] rfl)
      · refine (it_W (fun (zz : (Int32 × Int32 × Int32)) => match zz with | (x108, x109, x110) => ∀ (H : Heap) (locs : List Loc) (ls : Array Slot), va_P G.1 vwCl (wl G M h) H → va_S (Aw G) s.heap H locs → lv_has ls 7 [(0, .ref (xa G 132)), (1, .int a1), (2, .int a2), (3, .int x108), (4, .int x109), (5, .int x110)] → W p l e rm_X12_distanceOf s m args below meth c H locs 0 0 Q (F0 m 17 ls [])) hf ?_) _ _ _ hP hS (lv_sub hl [1, 2, 3, 4, 5, 0] rfl)
        rintro ⟨x108, x109, x110⟩ hf H locs ls hP hS hl
        unfold f_X12_distanceOf_b17 at hf
        refine lv_iload hx hb dX12_distanceOf_17 (lv_at hl 5 rfl) ?_
        refine lv_sipush (v := 128) hx hb dX12_distanceOf_19 (by decide) ?_
        refine lv_icmp_ge (tgt := 75) hx hb dX12_distanceOf_22 (by decide) (fun hc => ?_) (fun hc => ?_)
        · have hf := (OB_t hf hc)
          exact (it_e hf) _ _ _ hP hS (lv_sub hl [0, 1, 2, 3, 4] rfl)
        · have hf := (OB_f hf hc)
          refine lv_aload_n hx hb dX12_distanceOf_25 rfl (lv_at hl 0 rfl) ?_
          refine gfX12_7 C hE hP dX12_distanceOf_26 ?_
          refine lv_iload hx hb dX12_distanceOf_29 (lv_at hl 4 rfl) ?_
          obtain ⟨g113, hf⟩ := OB_g hf
          refine x_iald C hE hP sh133 g113 dX12_distanceOf_31 ?_
          refine lv_iload_n hx hb dX12_distanceOf_32 rfl (lv_at hl 1 rfl) ?_
          refine lv_icmp_ne (tgt := 75) hx hb dX12_distanceOf_33 (by decide) (fun hc => ?_) (fun hc => ?_)
          · have hf := (OB_f hf hc)
            exact (it_e hf) _ _ _ hP hS (lv_sub hl [0, 1, 2, 3, 4] rfl)
          · have hf := (OB_t hf hc)
            refine lv_aload_n hx hb dX12_distanceOf_36 rfl (lv_at hl 0 rfl) ?_
            refine gfX12_7 C hE hP dX12_distanceOf_37 ?_
            refine lv_iload hx hb dX12_distanceOf_40 (lv_at hl 5 rfl) ?_
            obtain ⟨g114, hf⟩ := OB_g hf
            refine x_iald C hE hP sh133 g114 dX12_distanceOf_42 ?_
            refine lv_iload_n hx hb dX12_distanceOf_43 rfl (lv_at hl 2 rfl) ?_
            refine xj (fun (x119 : Int32) => ∀ (H : Heap) (locs : List Loc) (ls : Array Slot), va_P G.1 vwCl (wl G M h) H → va_S (Aw G) s.heap H locs → lv_has ls 7 [(0, .ref (xa G 132)), (1, .int a1), (2, .int a2), (3, .int x119), (4, .int x109), (5, .int x110)] → W p l e rm_X12_distanceOf s m args below meth c H locs 0 0 Q (F0 m 69 ls [])) hf ?_ (fun hf => ?_)
            · rintro x119 hf H locs ls hP hS hl
              refine lv_iinc (v := (x110 + 1)) (lv' := [(5, .int (x110 + 1)), (0, .ref (xa G 132)), (1, .int a1), (2, .int a2), (3, .int x119), (4, .int x109)]) hx hb dX12_distanceOf_69 hl (k := 5) rfl rfl (by decide) rfl (fun ls hl => ?_)
              refine lv_goto (tgt := 17) hx hb dX12_distanceOf_72 (by decide) ?_
              exact (it_c hf) _ _ _ hP hS (lv_sub hl [1, 2, 3, 4, 5, 0] rfl)
            · skip
              refine lv_icmp_ne (tgt := 69) hx hb dX12_distanceOf_44 (by decide) (fun hc => ?_) (fun hc => ?_)
              · have hf := (OB_f hf hc)
                exact (OB_some hf) _ _ _ hP hS (lv_sub hl [0, 1, 2, 3, 4, 5] rfl)
              · have hf := (OB_t hf hc)
                refine lv_iload hx hb dX12_distanceOf_47 (lv_at hl 4 rfl) ?_
                refine lv_iload hx hb dX12_distanceOf_49 (lv_at hl 5 rfl) ?_
                refine x_ci0 (rest := []) (x_runS C hE hP hS ykX12_apart lkX12_255 (c_X12_apart (OB_bind hf)) (by decide) rfl hl.1 (Nat.le_of_ble_eq_true rfl) dX12_distanceOf_51) hS (fun r120 H locs hf hP hS => ?_)
                refine lv_istore (lv' := [(6, .int r120), (0, .ref (xa G 132)), (1, .int a1), (2, .int a2), (3, .int x108), (4, .int x109), (5, .int x110)]) hx hb dX12_distanceOf_54 hl (by decide) rfl (fun ls hl => ?_)
                refine lv_iload hx hb dX12_distanceOf_56 (lv_at hl 0 rfl) ?_
                refine lv_iload_n hx hb dX12_distanceOf_58 rfl (lv_at hl 4 rfl) ?_
                refine xj (fun (x121 : Int32) => ∀ (H : Heap) (locs : List Loc) (ls : Array Slot), va_P G.1 vwCl (wl G M h) H → va_S (Aw G) s.heap H locs → lv_has ls 7 [(0, .ref (xa G 132)), (1, .int a1), (2, .int a2), (4, .int x109), (5, .int x110)] → W p l e rm_X12_distanceOf s m args below meth c H locs 0 0 Q (F0 m 68 ls [.int x121])) hf ?_ (fun hf => ?_)
                · rintro x121 hf H locs ls hP hS hl
                  refine lv_istore_n (lv' := [(3, .int x121), (0, .ref (xa G 132)), (1, .int a1), (2, .int a2), (4, .int x109), (5, .int x110)]) hx hb dX12_distanceOf_68 rfl hl (by decide) rfl (fun ls hl => ?_)
                  exact (OB_some hf) _ _ _ hP hS (lv_sub hl [1, 2, 3, 0, 4, 5] rfl)
                · skip
                  refine lv_icmp_ge (tgt := 67) hx hb dX12_distanceOf_59 (by decide) (fun hc => ?_) (fun hc => ?_)
                  · have hf := (OB_t hf hc)
                    refine lv_iload_n hx hb dX12_distanceOf_67 rfl (lv_at hl 4 rfl) ?_
                    exact (OB_some hf) _ _ _ hP hS (lv_sub hl [1, 2, 3, 5, 6] rfl)
                  · have hf := (OB_f hf hc)
                    refine lv_iload hx hb dX12_distanceOf_62 (lv_at hl 0 rfl) ?_
                    refine lv_goto (tgt := 68) hx hb dX12_distanceOf_64 (by decide) ?_
                    exact (OB_some hf) _ _ _ hP hS (lv_sub hl [1, 2, 3, 5, 6] rfl)
def rm_X12_distance : Room := { frames := 3, cells := 0, slots := 0, locals := 69 }
set_option maxRecDepth 100000 in
set_option maxHeartbeats 8000000 in
theorem c_X12_distance {l : Launch} {G : GG} {a1 : Int32} {a2 : Int32} {M : Mem} {h : Int64}  {P9 : Int32 → Prop} (hf : OB (f_X12_distance a1 a2 M) P9) : Met1 l yX12_distance cX12_distance 3 (some .int) rm_X12_distance G [.ref (xa G 132), .int a1, .int a2] M h (QI0 G M h P9) := by
  unfold f_X12_distance at hf
  refine xm_i0 (by decide) (Nat.le_of_ble_eq_true rfl) ?_
  intro p e s m args below meth c ls Q C hE hret hP hS hl
  have C : CallFix p m c cX12_distance 3 s args TB RX12 := C
  have hx := C.1
  have hb := C.2.1
  have hl : lv_has ls 3 [(0, .ref (xa G 132)), (1, .int a1), (2, .int a2)] := hl
  refine lv_iload_n hx hb dX12_distance_0 rfl (lv_at hl 1 rfl) ?_
  refine lv_iload_n hx hb dX12_distance_1 rfl (lv_at hl 2 rfl) ?_
  refine x_cz0 (rest := []) (x_runS C hE hP hS ykX12_isPair lkX12_167 (c_X12_isPair (OB_bind hf)) (by decide) rfl hl.1 (Nat.le_of_ble_eq_true rfl) dX12_distance_2) hS (fun r1 H locs hf hP hS => ?_)
  refine xj (fun (x4 : Int32) => ∀ (H : Heap) (locs : List Loc) (ls : Array Slot), va_P G.1 vwCl (wl G M h) H → va_S (Aw G) s.heap H locs → lv_has ls 3 [] → W p l e rm_X12_distance s m args below meth c H locs 0 0 Q (F0 m 19 ls [.int x4])) hf ?_ (fun hf => ?_)
  · rintro x4 hf H locs ls hP hS hl
    exact hret _ _ _ _ _ (OB_some hf) hP hS dX12_distance_19
  · skip
    refine lv_if_eq (tgt := 17) hx hb dX12_distance_5 (by decide) (fun hc => ?_) (fun hc => ?_)
    · have hf := (OB_f hf (bI_f hc))
      refine lv_bipush (v := -101) hx hb dX12_distance_17 (by decide) ?_
      exact (OB_some hf) _ _ _ hP hS (lv_sub hl [] rfl)
    · have hf := (OB_t hf (bI_t hc))
      refine lv_aload_n hx hb dX12_distance_8 rfl (lv_at hl 0 rfl) ?_
      refine lv_iload_n hx hb dX12_distance_9 rfl (lv_at hl 1 rfl) ?_
      refine lv_iload_n hx hb dX12_distance_10 rfl (lv_at hl 2 rfl) ?_
      refine x_ci0 (rest := []) (x_runV C hE hP hS ykX12_distanceOf lkX12_258 sh132 rfl (c_X12_distanceOf (OB_bind hf)) (by decide) rfl hl.1 (Nat.le_of_ble_eq_true rfl) dX12_distance_11) hS (fun r5 H locs hf hP hS => ?_)
      refine lv_goto (tgt := 19) hx hb dX12_distance_14 (by decide) ?_
      exact (OB_some hf) _ _ _ hP hS (lv_sub hl [] rfl)
def rm_X12_beast : Room := { frames := 1, cells := 0, slots := 0, locals := 25 }
set_option maxRecDepth 100000 in
set_option maxHeartbeats 8000000 in
theorem c_X12_beast {l : Launch} {G : GG} {a1 : Int32} {a2 : Int32} {M : Mem} {h : Int64}  {P9 : (Int32 × Mem) → Prop} (hf : OB (f_X12_beast a1 a2 M) P9) : Met1 l yX12_beast cX12_beast 3 (some .int) rm_X12_beast G [.ref (xa G 132), .int a1, .int a2] M h (QI1 G h P9) := by
  unfold f_X12_beast at hf
  refine xm_i1 (by decide) (Nat.le_of_ble_eq_true rfl) ?_
  intro p e s m args below meth c ls Q C hE hret hP hS hl
  have C : CallFix p m c cX12_beast 3 s args TB RX12 := C
  have hx := C.1
  have hb := C.2.1
  have hl : lv_has ls 3 [(0, .ref (xa G 132)), (1, .int a1), (2, .int a2)] := hl
  refine lv_iload_n hx hb dX12_beast_0 rfl (lv_at hl 1 rfl) ?_
  refine lv_i2l hx hb dX12_beast_1 rfl ?_
  refine lv_lconst (v := 1) hx hb dX12_beast_2 (by decide) ?_
  refine lv_ldc2 hx hb C.2.2.2.1 (C.2.2.2.2 _ ckX12_261) dX12_beast_3 ?_
  refine x_cz0 (rest := []) (x_runS C hE hP hS ykX12_in lkX12_92 (c_X12_in (OB_bind hf)) (by decide) rfl hl.1 (Nat.le_of_ble_eq_true rfl) dX12_beast_6) hS (fun r1 H locs hf hP hS => ?_)
  refine lv_if_eq (tgt := 24) hx hb dX12_beast_9 (by decide) (fun hc => ?_) (fun hc => ?_)
  · have hf := (OB_f hf (bI_f hc))
    refine lv_bipush (v := -102) hx hb dX12_beast_24 (by decide) ?_
    exact hret _ _ _ _ _ _ (OB_some hf) hP hS dX12_beast_26
  · have hf := (OB_t hf (bI_t hc))
    refine lv_iload_n hx hb dX12_beast_12 rfl (lv_at hl 2 rfl) ?_
    refine lv_i2l hx hb dX12_beast_13 rfl ?_
    refine lv_lconst (v := 0) hx hb dX12_beast_14 (by decide) ?_
    refine lv_ldc2 hx hb C.2.2.2.1 (C.2.2.2.2 _ ckX12_263) dX12_beast_15 ?_
    refine x_cz0 (rest := []) (x_runS C hE hP hS ykX12_in lkX12_92 (c_X12_in (OB_bind hf)) (by decide) rfl hl.1 (Nat.le_of_ble_eq_true rfl) dX12_beast_18) hS (fun r2 H locs hf hP hS => ?_)
    refine lv_if_ne (tgt := 27) hx hb dX12_beast_21 (by decide) (fun hc => ?_) (fun hc => ?_)
    · have hf := (OB_t hf (bI_t hc))
      refine lv_aload_n hx hb dX12_beast_27 rfl (lv_at hl 0 rfl) ?_
      refine gfX12_265 C hE hP dX12_beast_28 ?_
      refine lv_bipush (v := 8) hx hb dX12_beast_31 (by decide) ?_
      refine lv_icmp_ne (tgt := 39) hx hb dX12_beast_33 (by decide) (fun hc => ?_) (fun hc => ?_)
      · have hf := (OB_f hf hc)
        refine lv_aload_n hx hb dX12_beast_39 rfl (lv_at hl 0 rfl) ?_
        refine gfX12_59 C hE hP dX12_beast_40 ?_
        refine lv_aload_n hx hb dX12_beast_43 rfl (lv_at hl 0 rfl) ?_
        refine gfX12_265 C hE hP dX12_beast_44 ?_
        refine lv_iload_n hx hb dX12_beast_47 rfl (lv_at hl 1 rfl) ?_
        obtain ⟨g3, hf⟩ := OB_g hf
        refine x_iast C hE hP hS sh149 g3 dX12_beast_48 (fun H locs hP hS => ?_)
        refine lv_aload_n hx hb dX12_beast_49 rfl (lv_at hl 0 rfl) ?_
        refine gfX12_62 C hE hP dX12_beast_50 ?_
        refine lv_aload_n hx hb dX12_beast_53 rfl (lv_at hl 0 rfl) ?_
        refine gfX12_265 C hE hP dX12_beast_54 ?_
        refine lv_iload_n hx hb dX12_beast_57 rfl (lv_at hl 2 rfl) ?_
        obtain ⟨g4, hf⟩ := OB_g hf
        refine x_iast C hE hP hS sh150 g4 dX12_beast_58 (fun H locs hP hS => ?_)
        refine lv_aload_n hx hb dX12_beast_59 rfl (lv_at hl 0 rfl) ?_
        refine lv_dup hx hb dX12_beast_60 rfl ?_
        refine gfX12_265 C hE hP dX12_beast_61 ?_
        refine lv_iconst (v := 1) hx hb dX12_beast_64 (by decide) ?_
        refine lv_iadd hx hb dX12_beast_65 ?_
        refine pfX12_265 C hE hP hS dX12_beast_66 (fun H locs hP hS => ?_)
        refine lv_aload_n hx hb dX12_beast_69 rfl (lv_at hl 0 rfl) ?_
        refine gfX12_265 C hE hP dX12_beast_70 ?_
        refine lv_iconst (v := 1) hx hb dX12_beast_73 (by decide) ?_
        refine lv_isub hx hb dX12_beast_74 ?_
        exact hret _ _ _ _ _ _ (OB_some hf) hP hS dX12_beast_75
      · have hf := (OB_t hf hc)
        refine lv_bipush (v := -104) hx hb dX12_beast_36 (by decide) ?_
        exact hret _ _ _ _ _ _ (OB_some hf) hP hS dX12_beast_38
    · have hf := (OB_f hf (bI_f hc))
      refine lv_bipush (v := -102) hx hb dX12_beast_24 (by decide) ?_
      exact hret _ _ _ _ _ _ (OB_some hf) hP hS dX12_beast_26
def rm_X12_wayCost : Room := { frames := 1, cells := 0, slots := 0, locals := 29 }
set_option maxRecDepth 100000 in
set_option maxHeartbeats 8000000 in
theorem c_X12_wayCost {l : Launch} {G : GG} {a1 : Int32} {a2 : Int32} {a3 : Int32} {a4 : Int32} {M : Mem} {h : Int64}  {P9 : (Int32 × Mem) → Prop} (hf : OB (f_X12_wayCost a1 a2 a3 a4 M) P9) : Met1 l yX12_wayCost cX12_wayCost 8 (some .int) rm_X12_wayCost G [.ref (xa G 132), .int a1, .int a2, .int a3, .int a4] M h (QI1 G h P9) := by
  unfold f_X12_wayCost at hf
  refine xm_i1 (by decide) (Nat.le_of_ble_eq_true rfl) ?_
  intro p e s m args below meth c ls Q C hE hret hP hS hl
  have C : CallFix p m c cX12_wayCost 8 s args TB RX12 := C
  have hx := C.1
  have hb := C.2.1
  have hl : lv_has ls 8 [(0, .ref (xa G 132)), (1, .int a1), (2, .int a2), (3, .int a3), (4, .int a4)] := hl
  refine lv_iconst (v := -1) hx hb dX12_wayCost_0 (by decide) ?_
  refine lv_istore (lv' := [(5, .int (-1)), (0, .ref (xa G 132)), (1, .int a1), (2, .int a2), (3, .int a3), (4, .int a4)]) hx hb dX12_wayCost_1 hl (by decide) rfl (fun ls hl => ?_)
  refine lv_bipush (v := 8) hx hb dX12_wayCost_3 (by decide) ?_
  refine lv_iload_n hx hb dX12_wayCost_5 rfl (lv_at hl 2 rfl) ?_
  refine lv_imul hx hb dX12_wayCost_6 ?_
  refine lv_istore (lv' := [(6, .int (8 * a1)), (5, .int (-1)), (0, .ref (xa G 132)), (1, .int a1), (2, .int a2), (3, .int a3), (4, .int a4)]) hx hb dX12_wayCost_7 hl (by decide) rfl (fun ls hl => ?_)
  refine xj (fun (zz : (Int32 × Mem)) => match zz with | (x44, M45) => ∀ (H : Heap) (locs : List Loc) (ls : Array Slot), va_P G.1 vwCl (wl G M45 h) H → va_S (Aw G) s.heap H locs → lv_has ls 8 [(3, .int a3), (4, .int a4), (5, .int x44)] → W p l e rm_X12_wayCost s m args below meth c H locs 0 0 Q (F0 m 94 ls [])) hf ?_ (fun hf => ?_)
  · rintro ⟨x44, M45⟩ hf H locs ls hP hS hl
    refine lv_iload hx hb dX12_wayCost_94 (lv_at hl 1 rfl) ?_
    refine xj (fun (x63 : Int32) => ∀ (H : Heap) (locs : List Loc) (ls : Array Slot), va_P G.1 vwCl (wl G M45 h) H → va_S (Aw G) s.heap H locs → lv_has ls 8 [] → W p l e rm_X12_wayCost s m args below meth c H locs 0 0 Q (F0 m 110 ls [.int x63])) hf ?_ (fun hf => ?_)
    · rintro x63 hf H locs ls hP hS hl
      exact hret _ _ _ _ _ _ (OB_some hf) hP hS dX12_wayCost_110
    · skip
      refine lv_if_ne (tgt := 108) hx hb dX12_wayCost_96 (by decide) (fun hc => ?_) (fun hc => ?_)
      · have hf := (OB_f hf hc)
        refine lv_iload hx hb dX12_wayCost_108 (lv_at hl 2 rfl) ?_
        exact (OB_some hf) _ _ _ hP hS (lv_sub hl [] rfl)
      · have hf := (OB_t hf hc)
        refine lv_iload_n hx hb dX12_wayCost_99 rfl (lv_at hl 0 rfl) ?_
        refine lv_iconst (v := 1) hx hb dX12_wayCost_100 (by decide) ?_
        refine lv_icmp_eq (tgt := 108) hx hb dX12_wayCost_101 (by decide) (fun hc => ?_) (fun hc => ?_)
        · have hf := (OB_t hf hc)
          refine lv_iload hx hb dX12_wayCost_108 (lv_at hl 2 rfl) ?_
          exact (OB_some hf) _ _ _ hP hS (lv_sub hl [] rfl)
        · have hf := (OB_f hf hc)
          refine lv_iconst (v := -1) hx hb dX12_wayCost_104 (by decide) ?_
          refine lv_goto (tgt := 110) hx hb dX12_wayCost_105 (by decide) ?_
          exact (OB_some hf) _ _ _ hP hS (lv_sub hl [] rfl)
  · refine (it_W (fun (zz : (Int32 × Int32 × Mem)) => match zz with | (x41, x42, M43) => ∀ (H : Heap) (locs : List Loc) (ls : Array Slot), va_P G.1 vwCl (wl G M43 h) H → va_S (Aw G) s.heap H locs → lv_has ls 8 [(0, .ref (xa G 132)), (1, .int a1), (2, .int a2), (3, .int a3), (4, .int a4), (5, .int x41), (6, .int x42)] → W p l e rm_X12_wayCost s m args below meth c H locs 0 0 Q (F0 m 9 ls [])) hf ?_) _ _ _ hP hS (lv_sub hl [2, 3, 4, 5, 6, 1, 0] rfl)
    rintro ⟨x41, x42, M43⟩ hf H locs ls hP hS hl
    unfold f_X12_wayCost_b9 at hf
    refine lv_iload hx hb dX12_wayCost_9 (lv_at hl 6 rfl) ?_
    refine lv_bipush (v := 8) hx hb dX12_wayCost_11 (by decide) ?_
    refine lv_iload_n hx hb dX12_wayCost_13 rfl (lv_at hl 1 rfl) ?_
    refine lv_imul hx hb dX12_wayCost_14 ?_
    refine lv_aload_n hx hb dX12_wayCost_15 rfl (lv_at hl 0 rfl) ?_
    refine gfX12_28 C hE hP dX12_wayCost_16 ?_
    refine lv_iload_n hx hb dX12_wayCost_19 rfl (lv_at hl 1 rfl) ?_
    obtain ⟨g46, hf⟩ := OB_g hf
    refine x_iald C hE hP sh139 g46 dX12_wayCost_20 ?_
    refine lv_iadd hx hb dX12_wayCost_21 ?_
    refine lv_icmp_ge (tgt := 94) hx hb dX12_wayCost_22 (by decide) (fun hc => ?_) (fun hc => ?_)
    · have hf := (OB_t hf hc)
      exact (it_e hf) _ _ _ hP hS (lv_sub hl [3, 4, 5] rfl)
    · have hf := (OB_f hf hc)
      refine lv_aload_n hx hb dX12_wayCost_25 rfl (lv_at hl 0 rfl) ?_
      refine gfX12_31 C hE hP dX12_wayCost_26 ?_
      refine lv_iload hx hb dX12_wayCost_29 (lv_at hl 6 rfl) ?_
      obtain ⟨g47, hf⟩ := OB_g hf
      refine x_iald C hE hP sh140 g47 dX12_wayCost_31 ?_
      refine lv_iload hx hb dX12_wayCost_32 (lv_at hl 4 rfl) ?_
      refine xj (fun (zz : (Bool × Mem)) => match zz with | (x56, M57) => ∀ (H : Heap) (locs : List Loc) (ls : Array Slot), va_P G.1 vwCl (wl G M57 h) H → va_S (Aw G) s.heap H locs → lv_has ls 8 [(0, .ref (xa G 132)), (1, .int a1), (2, .int a2), (3, .int a3), (4, .int a4), (5, .int x41), (6, .int x42)] → W p l e rm_X12_wayCost s m args below meth c H locs 0 0 Q (F0 m 67 ls [.int (bI x56)])) hf ?_ (fun hf => ?_)
      · rintro ⟨x56, M57⟩ hf H locs ls hP hS hl
        refine lv_istore (lv' := [(7, .int (bI x56)), (0, .ref (xa G 132)), (1, .int a1), (2, .int a2), (3, .int a3), (4, .int a4), (5, .int x41), (6, .int x42)]) hx hb dX12_wayCost_67 hl (by decide) rfl (fun ls hl => ?_)
        refine lv_iload hx hb dX12_wayCost_69 (lv_at hl 0 rfl) ?_
        refine xj (fun (x62 : Int32) => ∀ (H : Heap) (locs : List Loc) (ls : Array Slot), va_P G.1 vwCl (wl G M57 h) H → va_S (Aw G) s.heap H locs → lv_has ls 8 [(0, .ref (xa G 132)), (1, .int a1), (2, .int a2), (3, .int a3), (4, .int a4), (6, .int x42)] → W p l e rm_X12_wayCost s m args below meth c H locs 0 0 Q (F0 m 86 ls [.int x62])) hf ?_ (fun hf => ?_)
        · rintro x62 hf H locs ls hP hS hl
          refine lv_istore (lv' := [(5, .int x62), (0, .ref (xa G 132)), (1, .int a1), (2, .int a2), (3, .int a3), (4, .int a4), (6, .int x42)]) hx hb dX12_wayCost_86 hl (by decide) rfl (fun ls hl => ?_)
          refine lv_iinc (v := (x42 + 1)) (lv' := [(6, .int (x42 + 1)), (5, .int x62), (0, .ref (xa G 132)), (1, .int a1), (2, .int a2), (3, .int a3), (4, .int a4)]) hx hb dX12_wayCost_88 hl (k := 6) rfl rfl (by decide) rfl (fun ls hl => ?_)
          refine lv_goto (tgt := 9) hx hb dX12_wayCost_91 (by decide) ?_
          exact (it_c hf) _ _ _ hP hS (lv_sub hl [2, 3, 4, 5, 6, 1, 0] rfl)
        · skip
          refine lv_if_eq (tgt := 84) hx hb dX12_wayCost_71 (by decide) (fun hc => ?_) (fun hc => ?_)
          · have hf := (OB_f hf (bI_f hc))
            refine lv_iload hx hb dX12_wayCost_84 (lv_at hl 6 rfl) ?_
            exact (OB_some hf) _ _ _ hP hS (lv_sub hl [1, 2, 3, 4, 5, 7] rfl)
          · have hf := (OB_t hf (bI_t hc))
            refine lv_aload_n hx hb dX12_wayCost_74 rfl (lv_at hl 1 rfl) ?_
            refine gfX12_34 C hE hP dX12_wayCost_75 ?_
            refine lv_iload hx hb dX12_wayCost_78 (lv_at hl 7 rfl) ?_
            refine x_iald C hE hP sh141 g47 dX12_wayCost_80 ?_
            refine lv_goto (tgt := 86) hx hb dX12_wayCost_81 (by decide) ?_
            exact (OB_some hf) _ _ _ hP hS (lv_sub hl [1, 2, 3, 4, 5, 7] rfl)
      · skip
        refine lv_icmp_ne (tgt := 66) hx hb dX12_wayCost_34 (by decide) (fun hc => ?_) (fun hc => ?_)
        · have hf := (OB_f hf hc)
          refine lv_iconst (v := 0) hx hb dX12_wayCost_66 (by decide) ?_
          refine W.eq (g2 := F0 m 67 ls [.int (bI false)]) rfl ?_
          exact (OB_some hf) _ _ _ hP hS (lv_sub hl [0, 1, 2, 3, 4, 5, 6] rfl)
        · have hf := (OB_t hf hc)
          refine lv_aload_n hx hb dX12_wayCost_37 rfl (lv_at hl 0 rfl) ?_
          refine lv_iload hx hb dX12_wayCost_38 (lv_at hl 6 rfl) ?_
          refine lv_iload_n hx hb dX12_wayCost_40 rfl (lv_at hl 3 rfl) ?_
          refine lv_aload_n hx hb dX12_wayCost_41 rfl (lv_at hl 0 rfl) ?_
          refine gfX12_62 C hE hP dX12_wayCost_42 ?_
          refine lv_iload_n hx hb dX12_wayCost_45 rfl (lv_at hl 2 rfl) ?_
          obtain ⟨g58, hf⟩ := OB_g hf
          refine x_iald C hE hP sh150 g58 dX12_wayCost_46 ?_
          refine lv_aload_n hx hb dX12_wayCost_47 rfl (lv_at hl 0 rfl) ?_
          refine gfX12_59 C hE hP dX12_wayCost_48 ?_
          refine lv_iload_n hx hb dX12_wayCost_51 rfl (lv_at hl 2 rfl) ?_
          refine x_iald C hE hP sh149 g58 dX12_wayCost_52 ?_
          refine x_ci0 (rest := [.int (M43 150 (Int32.toNatClampNeg a2)), .int a3, .int x42, .ref (xa G 132)]) (x_runS C hE hP hS ykX12_bitsOf lkX12_268 (c_X12_bitsOf (OB_bind hf)) (by decide) rfl hl.1 (Nat.le_of_ble_eq_true rfl) dX12_wayCost_53) hS (fun r59 H locs hf hP hS => ?_)
          refine x_cz1 (rest := []) (x_runV C hE hP hS ykX12_holdsFor lkX12_271 sh132 rfl (c_X12_holdsFor (OB_bind hf)) (by decide) rfl hl.1 (Nat.le_of_ble_eq_true rfl) dX12_wayCost_56) hS (fun r60 M61 H locs hf hP hS => ?_)
          refine lv_if_eq (tgt := 66) hx hb dX12_wayCost_59 (by decide) (fun hc => ?_) (fun hc => ?_)
          · have hf := (OB_f hf (bI_f hc))
            refine lv_iconst (v := 0) hx hb dX12_wayCost_66 (by decide) ?_
            refine W.eq (g2 := F0 m 67 ls [.int (bI false)]) rfl ?_
            exact (OB_some hf) _ _ _ hP hS (lv_sub hl [0, 1, 2, 3, 4, 5, 6] rfl)
          · have hf := (OB_t hf (bI_t hc))
            refine lv_iconst (v := 1) hx hb dX12_wayCost_62 (by decide) ?_
            refine lv_goto (tgt := 67) hx hb dX12_wayCost_63 (by decide) ?_
            refine W.eq (g2 := F0 m 67 ls [.int (bI true)]) rfl ?_
            exact (OB_some hf) _ _ _ hP hS (lv_sub hl [0, 1, 2, 3, 4, 5, 6] rfl)
def rm_X12_crossingOf : Room := { frames := 3, cells := 0, slots := 0, locals := 69 }
set_option maxRecDepth 100000 in
set_option maxHeartbeats 8000000 in
theorem c_X12_crossingOf {l : Launch} {G : GG} {a1 : Int32} {a2 : Int32} {a3 : Int32} {a4 : Int32} {M : Mem} {h : Int64}  {P9 : (Int32 × Mem) → Prop} (hf : OB (f_X12_crossingOf a1 a2 a3 a4 M) P9) : Met1 l yX12_crossingOf cX12_crossingOf 9 (some .int) rm_X12_crossingOf G [.ref (xa G 132), .int a1, .int a2, .int a3, .int a4] M h (QI1 G h P9) := by
  unfold f_X12_crossingOf at hf
  refine xm_i1 (by decide) (Nat.le_of_ble_eq_true rfl) ?_
  intro p e s m args below meth c ls Q C hE hret hP hS hl
  have C : CallFix p m c cX12_crossingOf 9 s args TB RX12 := C
  have hx := C.1
  have hb := C.2.1
  have hl : lv_has ls 9 [(0, .ref (xa G 132)), (1, .int a1), (2, .int a2), (3, .int a3), (4, .int a4)] := hl
  refine lv_aload_n hx hb dX12_crossingOf_0 rfl (lv_at hl 0 rfl) ?_
  refine lv_iload_n hx hb dX12_crossingOf_1 rfl (lv_at hl 3 rfl) ?_
  refine lv_iload hx hb dX12_crossingOf_2 (lv_at hl 4 rfl) ?_
  refine x_ci0 (rest := []) (x_runV C hE hP hS ykX12_distanceOf lkX12_258 sh132 rfl (c_X12_distanceOf (OB_bind hf)) (by decide) rfl hl.1 (Nat.le_of_ble_eq_true rfl) dX12_crossingOf_4) hS (fun r1 H locs hf hP hS => ?_)
  refine lv_istore (lv' := [(5, .int r1), (0, .ref (xa G 132)), (1, .int a1), (2, .int a2), (3, .int a3), (4, .int a4)]) hx hb dX12_crossingOf_7 hl (by decide) rfl (fun ls hl => ?_)
  refine lv_iconst (v := -1) hx hb dX12_crossingOf_9 (by decide) ?_
  refine lv_istore (lv' := [(6, .int (-1)), (5, .int r1), (0, .ref (xa G 132)), (1, .int a1), (2, .int a2), (3, .int a3), (4, .int a4)]) hx hb dX12_crossingOf_10 hl (by decide) rfl (fun ls hl => ?_)
  refine lv_aload_n hx hb dX12_crossingOf_12 rfl (lv_at hl 2 rfl) ?_
  refine lv_iconst (v := -1) hx hb dX12_crossingOf_13 (by decide) ?_
  refine pfX12_274 C hE hP hS dX12_crossingOf_14 (fun H locs hP hS => ?_)
  refine lv_iconst (v := 0) hx hb dX12_crossingOf_17 (by decide) ?_
  refine lv_istore (lv' := [(7, .int 0), (6, .int (-1)), (5, .int r1), (0, .ref (xa G 132)), (1, .int a1), (2, .int a2), (3, .int a3), (4, .int a4)]) hx hb dX12_crossingOf_18 hl (by decide) rfl (fun ls hl => ?_)
  refine xj (fun (zz : (Int32 × Mem)) => match zz with | (x19, M20) => ∀ (H : Heap) (locs : List Loc) (ls : Array Slot), va_P G.1 vwCl (wl G M20 h) H → va_S (Aw G) s.heap H locs → lv_has ls 9 [(6, .int x19)] → W p l e rm_X12_crossingOf s m args below meth c H locs 0 0 Q (F0 m 73 ls [])) hf ?_ (fun hf => ?_)
  · rintro ⟨x19, M20⟩ hf H locs ls hP hS hl
    refine lv_iload hx hb dX12_crossingOf_73 (lv_at hl 0 rfl) ?_
    exact hret _ _ _ _ _ _ (OB_some hf) hP hS dX12_crossingOf_75
  · refine (it_W (fun (zz : (Int32 × Int32 × Mem)) => match zz with | (x16, x17, M18) => ∀ (H : Heap) (locs : List Loc) (ls : Array Slot), va_P G.1 vwCl (wl G M18 h) H → va_S (Aw G) s.heap H locs → lv_has ls 9 [(0, .ref (xa G 132)), (1, .int a1), (2, .int a2), (5, .int r1), (6, .int x16), (7, .int x17)] → W p l e rm_X12_crossingOf s m args below meth c H locs 0 0 Q (F0 m 20 ls [])) hf ?_) _ _ _ hP hS (lv_sub hl [3, 4, 5, 2, 1, 0] rfl)
    rintro ⟨x16, x17, M18⟩ hf H locs ls hP hS hl
    unfold f_X12_crossingOf_b20 at hf
    refine lv_iload hx hb dX12_crossingOf_20 (lv_at hl 5 rfl) ?_
    refine lv_iconst (v := 4) hx hb dX12_crossingOf_22 (by decide) ?_
    refine lv_icmp_ge (tgt := 73) hx hb dX12_crossingOf_23 (by decide) (fun hc => ?_) (fun hc => ?_)
    · have hf := (OB_t hf hc)
      exact (it_e hf) _ _ _ hP hS (lv_sub hl [4] rfl)
    · have hf := (OB_f hf hc)
      refine lv_aload_n hx hb dX12_crossingOf_26 rfl (lv_at hl 0 rfl) ?_
      refine lv_iload_n hx hb dX12_crossingOf_27 rfl (lv_at hl 1 rfl) ?_
      refine lv_iload_n hx hb dX12_crossingOf_28 rfl (lv_at hl 2 rfl) ?_
      refine lv_iload hx hb dX12_crossingOf_29 (lv_at hl 3 rfl) ?_
      refine lv_iload hx hb dX12_crossingOf_31 (lv_at hl 5 rfl) ?_
      refine x_ci1 (rest := []) (x_runV C hE hP hS ykX12_wayCost lkX12_277 sh132 rfl (c_X12_wayCost (OB_bind hf)) (by decide) rfl hl.1 (Nat.le_of_ble_eq_true rfl) dX12_crossingOf_33) hS (fun r21 M22 H locs hf hP hS => ?_)
      refine lv_istore (lv' := [(8, .int r21), (0, .ref (xa G 132)), (1, .int a1), (2, .int a2), (5, .int r1), (6, .int x16), (7, .int x17)]) hx hb dX12_crossingOf_36 hl (by decide) rfl (fun ls hl => ?_)
      refine lv_iload hx hb dX12_crossingOf_38 (lv_at hl 0 rfl) ?_
      refine lv_iconst (v := -1) hx hb dX12_crossingOf_40 (by decide) ?_
      refine xj (fun (zz : (Int32 × Mem)) => match zz with | (x23, M24) => ∀ (H : Heap) (locs : List Loc) (ls : Array Slot), va_P G.1 vwCl (wl G M24 h) H → va_S (Aw G) s.heap H locs → lv_has ls 9 [(0, .ref (xa G 132)), (1, .int a1), (2, .int a2), (5, .int r1), (6, .int x23), (7, .int x17)] → W p l e rm_X12_crossingOf s m args below meth c H locs 0 0 Q (F0 m 67 ls [])) hf ?_ (fun hf => ?_)
      · rintro ⟨x23, M24⟩ hf H locs ls hP hS hl
        refine lv_iinc (v := (x17 + 1)) (lv' := [(7, .int (x17 + 1)), (0, .ref (xa G 132)), (1, .int a1), (2, .int a2), (5, .int r1), (6, .int x23)]) hx hb dX12_crossingOf_67 hl (k := 5) rfl rfl (by decide) rfl (fun ls hl => ?_)
        refine lv_goto (tgt := 20) hx hb dX12_crossingOf_70 (by decide) ?_
        exact (it_c hf) _ _ _ hP hS (lv_sub hl [1, 2, 3, 4, 5, 0] rfl)
      · skip
        refine lv_icmp_eq (tgt := 67) hx hb dX12_crossingOf_41 (by decide) (fun hc => ?_) (fun hc => ?_)
        · have hf := (OB_t hf hc)
          exact (OB_some hf) _ _ _ hP hS (lv_sub hl [1, 2, 3, 4, 5, 6] rfl)
        · have hf := (OB_f hf hc)
          refine lv_iload hx hb dX12_crossingOf_44 (lv_at hl 5 rfl) ?_
          refine lv_iconst (v := -1) hx hb dX12_crossingOf_46 (by decide) ?_
          refine lv_icmp_eq (tgt := 57) hx hb dX12_crossingOf_47 (by decide) (fun hc => ?_) (fun hc => ?_)
          · have hf := (OB_t hf hc)
            refine lv_iload hx hb dX12_crossingOf_57 (lv_at hl 0 rfl) ?_
            refine lv_istore (lv' := [(6, .int r21), (8, .int r21), (0, .ref (xa G 132)), (1, .int a1), (2, .int a2), (5, .int r1), (7, .int x17)]) hx hb dX12_crossingOf_59 hl (by decide) rfl (fun ls hl => ?_)
            refine lv_aload_n hx hb dX12_crossingOf_61 rfl (lv_at hl 2 rfl) ?_
            refine lv_iload hx hb dX12_crossingOf_62 (lv_at hl 6 rfl) ?_
            refine pfX12_274 C hE hP hS dX12_crossingOf_64 (fun H locs hP hS => ?_)
            exact (OB_some hf) _ _ _ hP hS (lv_sub hl [2, 3, 4, 5, 0, 6] rfl)
          · have hf := (OB_f hf hc)
            refine lv_iload hx hb dX12_crossingOf_50 (lv_at hl 0 rfl) ?_
            refine lv_iload hx hb dX12_crossingOf_52 (lv_at hl 5 rfl) ?_
            refine lv_icmp_ge (tgt := 67) hx hb dX12_crossingOf_54 (by decide) (fun hc => ?_) (fun hc => ?_)
            · have hf := (OB_t hf hc)
              exact (OB_some hf) _ _ _ hP hS (lv_sub hl [1, 2, 3, 4, 5, 6] rfl)
            · have hf := (OB_f hf hc)
              refine lv_iload hx hb dX12_crossingOf_57 (lv_at hl 0 rfl) ?_
              refine lv_istore (lv' := [(6, .int r21), (8, .int r21), (0, .ref (xa G 132)), (1, .int a1), (2, .int a2), (5, .int r1), (7, .int x17)]) hx hb dX12_crossingOf_59 hl (by decide) rfl (fun ls hl => ?_)
              refine lv_aload_n hx hb dX12_crossingOf_61 rfl (lv_at hl 2 rfl) ?_
              refine lv_iload hx hb dX12_crossingOf_62 (lv_at hl 6 rfl) ?_
              refine pfX12_274 C hE hP hS dX12_crossingOf_64 (fun H locs hP hS => ?_)
              exact (OB_some hf) _ _ _ hP hS (lv_sub hl [2, 3, 4, 5, 0, 6] rfl)
def rm_X12_isBeast : Room := { frames := 1, cells := 0, slots := 0, locals := 25 }
set_option maxRecDepth 100000 in
set_option maxHeartbeats 8000000 in
theorem c_X12_isBeast {l : Launch} {G : GG} {a1 : Int32} {M : Mem} {h : Int64}  {P9 : Bool → Prop} (hf : OB (f_X12_isBeast a1 M) P9) : Met1 l yX12_isBeast cX12_isBeast 2 (some .boolean) rm_X12_isBeast G [.ref (xa G 132), .int a1] M h (QZ0 G M h P9) := by
  unfold f_X12_isBeast at hf
  refine xm_z0 (by decide) (Nat.le_of_ble_eq_true rfl) ?_
  intro p e s m args below meth c ls Q C hE hret hP hS hl
  have C : CallFix p m c cX12_isBeast 2 s args TB RX12 := C
  have hx := C.1
  have hb := C.2.1
  have hl : lv_has ls 2 [(0, .ref (xa G 132)), (1, .int a1)] := hl
  refine lv_iload_n hx hb dX12_isBeast_0 rfl (lv_at hl 1 rfl) ?_
  refine lv_i2l hx hb dX12_isBeast_1 rfl ?_
  refine lv_lconst (v := 0) hx hb dX12_isBeast_2 (by decide) ?_
  refine lv_aload_n hx hb dX12_isBeast_3 rfl (lv_at hl 0 rfl) ?_
  refine gfX12_265 C hE hP dX12_isBeast_4 ?_
  refine lv_iconst (v := 1) hx hb dX12_isBeast_7 (by decide) ?_
  refine lv_isub hx hb dX12_isBeast_8 ?_
  refine lv_i2l hx hb dX12_isBeast_9 rfl ?_
  refine x_cz0 (rest := []) (x_runS C hE hP hS ykX12_in lkX12_92 (c_X12_in (OB_bind hf)) (by decide) rfl hl.1 (Nat.le_of_ble_eq_true rfl) dX12_isBeast_10) hS (fun r1 H locs hf hP hS => ?_)
  exact hret _ _ _ _ _ (OB_some hf) hP hS dX12_isBeast_13
def rm_X12_crossing : Room := { frames := 4, cells := 0, slots := 0, locals := 97 }
set_option maxRecDepth 100000 in
set_option maxHeartbeats 8000000 in
theorem c_X12_crossing {l : Launch} {G : GG} {a1 : Int32} {a2 : Int32} {a3 : Int32} {a4 : Int32} {a5 : Int32} {M : Mem} {h : Int64}  {P9 : (Int32 × Mem) → Prop} (hf : OB (f_X12_crossing a1 a2 a3 a4 a5 M) P9) : Met1 l yX12_crossing cX12_crossing 7 (some .int) rm_X12_crossing G [.ref (xa G 132), .int a1, .int a2, .int a3, .int a4, .int a5] M h (QI1 G h P9) := by
  unfold f_X12_crossing at hf
  refine xm_i1 (by decide) (Nat.le_of_ble_eq_true rfl) ?_
  intro p e s m args below meth c ls Q C hE hret hP hS hl
  have C : CallFix p m c cX12_crossing 7 s args TB RX12 := C
  have hx := C.1
  have hb := C.2.1
  have hl : lv_has ls 7 [(0, .ref (xa G 132)), (1, .int a1), (2, .int a2), (3, .int a3), (4, .int a4), (5, .int a5)] := hl
  refine lv_iload_n hx hb dX12_crossing_0 rfl (lv_at hl 1 rfl) ?_
  refine x_cz0 (rest := []) (x_runS C hE hP hS ykX12_isHolder lkX12_252 (c_X12_isHolder (OB_bind hf)) (by decide) rfl hl.1 (Nat.le_of_ble_eq_true rfl) dX12_crossing_1) hS (fun r1 H locs hf hP hS => ?_)
  refine lv_if_eq (tgt := 24) hx hb dX12_crossing_4 (by decide) (fun hc => ?_) (fun hc => ?_)
  · have hf := (OB_f hf (bI_f hc))
    refine lv_bipush (v := -101) hx hb dX12_crossing_24 (by decide) ?_
    exact hret _ _ _ _ _ _ (OB_some hf) hP hS dX12_crossing_26
  · have hf := (OB_t hf (bI_t hc))
    refine lv_aload_n hx hb dX12_crossing_7 rfl (lv_at hl 0 rfl) ?_
    refine lv_iload_n hx hb dX12_crossing_8 rfl (lv_at hl 2 rfl) ?_
    refine x_cz0 (rest := []) (x_runV C hE hP hS ykX12_isBeast lkX12_280 sh132 rfl (c_X12_isBeast (OB_bind hf)) (by decide) rfl hl.1 (Nat.le_of_ble_eq_true rfl) dX12_crossing_9) hS (fun r2 H locs hf hP hS => ?_)
    refine lv_if_eq (tgt := 24) hx hb dX12_crossing_12 (by decide) (fun hc => ?_) (fun hc => ?_)
    · have hf := (OB_f hf (bI_f hc))
      refine lv_bipush (v := -101) hx hb dX12_crossing_24 (by decide) ?_
      exact hret _ _ _ _ _ _ (OB_some hf) hP hS dX12_crossing_26
    · have hf := (OB_t hf (bI_t hc))
      refine lv_iload_n hx hb dX12_crossing_15 rfl (lv_at hl 3 rfl) ?_
      refine lv_iload hx hb dX12_crossing_16 (lv_at hl 4 rfl) ?_
      refine x_cz0 (rest := []) (x_runS C hE hP hS ykX12_isPair lkX12_167 (c_X12_isPair (OB_bind hf)) (by decide) rfl hl.1 (Nat.le_of_ble_eq_true rfl) dX12_crossing_18) hS (fun r3 H locs hf hP hS => ?_)
      refine lv_if_ne (tgt := 27) hx hb dX12_crossing_21 (by decide) (fun hc => ?_) (fun hc => ?_)
      · have hf := (OB_t hf (bI_t hc))
        refine lv_iload hx hb dX12_crossing_27 (lv_at hl 5 rfl) ?_
        refine lv_i2l hx hb dX12_crossing_29 rfl ?_
        refine lv_lconst (v := 0) hx hb dX12_crossing_30 (by decide) ?_
        refine lv_lconst (v := 1) hx hb dX12_crossing_31 (by decide) ?_
        refine x_cz0 (rest := []) (x_runS C hE hP hS ykX12_in lkX12_92 (c_X12_in (OB_bind hf)) (by decide) rfl hl.1 (Nat.le_of_ble_eq_true rfl) dX12_crossing_32) hS (fun r4 H locs hf hP hS => ?_)
        refine lv_if_ne (tgt := 41) hx hb dX12_crossing_35 (by decide) (fun hc => ?_) (fun hc => ?_)
        · have hf := (OB_t hf (bI_t hc))
          refine lv_aload_n hx hb dX12_crossing_41 rfl (lv_at hl 0 rfl) ?_
          refine lv_iload_n hx hb dX12_crossing_42 rfl (lv_at hl 1 rfl) ?_
          refine lv_iload_n hx hb dX12_crossing_43 rfl (lv_at hl 2 rfl) ?_
          refine lv_iload_n hx hb dX12_crossing_44 rfl (lv_at hl 3 rfl) ?_
          refine lv_iload hx hb dX12_crossing_45 (lv_at hl 4 rfl) ?_
          refine x_ci1 (rest := []) (x_runV C hE hP hS ykX12_crossingOf lkX12_283 sh132 rfl (c_X12_crossingOf (OB_bind hf)) (by decide) rfl hl.1 (Nat.le_of_ble_eq_true rfl) dX12_crossing_47) hS (fun r5 M6 H locs hf hP hS => ?_)
          refine lv_istore (lv' := [(6, .int r5), (0, .ref (xa G 132)), (1, .int a1), (2, .int a2), (3, .int a3), (4, .int a4), (5, .int a5)]) hx hb dX12_crossing_50 hl (by decide) rfl (fun ls hl => ?_)
          refine lv_iload hx hb dX12_crossing_52 (lv_at hl 6 rfl) ?_
          refine xj (fun (x7 : Int32) => ∀ (H : Heap) (locs : List Loc) (ls : Array Slot), va_P G.1 vwCl (wl G M6 h) H → va_S (Aw G) s.heap H locs → lv_has ls 7 [] → W p l e rm_X12_crossing s m args below meth c H locs 0 0 Q (F0 m 66 ls [.int x7])) hf ?_ (fun hf => ?_)
          · rintro x7 hf H locs ls hP hS hl
            exact hret _ _ _ _ _ _ (OB_some hf) hP hS dX12_crossing_66
          · skip
            refine lv_if_ne (tgt := 62) hx hb dX12_crossing_54 (by decide) (fun hc => ?_) (fun hc => ?_)
            · have hf := (OB_f hf hc)
              refine lv_aload_n hx hb dX12_crossing_62 rfl (lv_at hl 1 rfl) ?_
              refine gfX12_274 C hE hP dX12_crossing_63 ?_
              exact (OB_some hf) _ _ _ hP hS (lv_sub hl [] rfl)
            · have hf := (OB_t hf hc)
              refine lv_iload hx hb dX12_crossing_57 (lv_at hl 0 rfl) ?_
              refine lv_goto (tgt := 66) hx hb dX12_crossing_59 (by decide) ?_
              exact (OB_some hf) _ _ _ hP hS (lv_sub hl [] rfl)
        · have hf := (OB_f hf (bI_f hc))
          refine lv_bipush (v := -102) hx hb dX12_crossing_38 (by decide) ?_
          exact hret _ _ _ _ _ _ (OB_some hf) hP hS dX12_crossing_40
      · have hf := (OB_f hf (bI_f hc))
        refine lv_bipush (v := -101) hx hb dX12_crossing_24 (by decide) ?_
        exact hret _ _ _ _ _ _ (OB_some hf) hP hS dX12_crossing_26
def rm_X12_layBetween : Room := { frames := 4, cells := 0, slots := 0, locals := 97 }
set_option maxRecDepth 100000 in
set_option maxHeartbeats 8000000 in
theorem c_X12_layBetween {l : Launch} {G : GG} {a1 : Int32} {a2 : Int32} {M : Mem} {h : Int64}  {P9 : Mem → Prop} (hf : OB (f_X12_layBetween a1 a2 M) P9) : Met1 l yX12_layBetween cX12_layBetween 6 none rm_X12_layBetween G [.ref (xa G 132), .int a1, .int a2] M h (QV1 G h P9) := by
  unfold f_X12_layBetween at hf
  refine xm_v1 (by decide) (Nat.le_of_ble_eq_true rfl) ?_
  intro p e s m args below meth c ls Q C hE hret hP hS hl
  have C : CallFix p m c cX12_layBetween 6 s args TB RX12 := C
  have hx := C.1
  have hb := C.2.1
  have hl : lv_has ls 6 [(0, .ref (xa G 132)), (1, .int a1), (2, .int a2)] := hl
  refine lv_iconst (v := 0) hx hb dX12_layBetween_0 (by decide) ?_
  refine lv_istore_n (lv' := [(3, .int 0), (0, .ref (xa G 132)), (1, .int a1), (2, .int a2)]) hx hb dX12_layBetween_1 rfl hl (by decide) rfl (fun ls hl => ?_)
  refine xj (fun (M89 : Mem) => ∀ (H : Heap) (locs : List Loc) (ls : Array Slot), va_P G.1 vwCl (wl G M89 h) H → va_S (Aw G) s.heap H locs → lv_has ls 6 [] → W p l e rm_X12_layBetween s m args below meth c H locs 0 0 Q (F0 m 77 ls [])) hf ?_ (fun hf => ?_)
  · rintro M89 hf H locs ls hP hS hl
    exact hret _ _ _ _ _ (OB_some hf) hP hS dX12_layBetween_77
  · refine (it_W (fun (zz : (Int32 × Mem)) => match zz with | (x87, M88) => ∀ (H : Heap) (locs : List Loc) (ls : Array Slot), va_P G.1 vwCl (wl G M88 h) H → va_S (Aw G) s.heap H locs → lv_has ls 6 [(0, .ref (xa G 132)), (1, .int a1), (2, .int a2), (3, .int x87)] → W p l e rm_X12_layBetween s m args below meth c H locs 0 0 Q (F0 m 2 ls [])) hf ?_) _ _ _ hP hS (lv_sub hl [1, 2, 3, 0] rfl)
    rintro ⟨x87, M88⟩ hf H locs ls hP hS hl
    unfold f_X12_layBetween_b2 at hf
    refine lv_iload_n hx hb dX12_layBetween_2 rfl (lv_at hl 3 rfl) ?_
    refine lv_bipush (v := 6) hx hb dX12_layBetween_3 (by decide) ?_
    refine lv_icmp_ge (tgt := 77) hx hb dX12_layBetween_5 (by decide) (fun hc => ?_) (fun hc => ?_)
    · have hf := (OB_t hf hc)
      exact (it_e hf) _ _ _ hP hS (lv_sub hl [] rfl)
    · have hf := (OB_f hf hc)
      refine lv_iconst (v := 0) hx hb dX12_layBetween_8 (by decide) ?_
      refine lv_istore (lv' := [(4, .int 0), (0, .ref (xa G 132)), (1, .int a1), (2, .int a2), (3, .int x87)]) hx hb dX12_layBetween_9 hl (by decide) rfl (fun ls hl => ?_)
      refine xj (fun (zz : (Int32 × Mem)) => match zz with | (x119, M120) => ∀ (H : Heap) (locs : List Loc) (ls : Array Slot), va_P G.1 vwCl (wl G M120 h) H → va_S (Aw G) s.heap H locs → lv_has ls 6 [(0, .ref (xa G 132)), (1, .int a1), (2, .int a2), (3, .int x119)] → W p l e rm_X12_layBetween s m args below meth c H locs 0 0 Q (F0 m 71 ls [])) hf ?_ (fun hf => ?_)
      · rintro ⟨x119, M120⟩ hf H locs ls hP hS hl
        refine lv_iinc (v := (x119 + 1)) (lv' := [(3, .int (x119 + 1)), (0, .ref (xa G 132)), (1, .int a1), (2, .int a2)]) hx hb dX12_layBetween_71 hl (k := 3) rfl rfl (by decide) rfl (fun ls hl => ?_)
        refine lv_goto (tgt := 2) hx hb dX12_layBetween_74 (by decide) ?_
        exact (it_c hf) _ _ _ hP hS (lv_sub hl [1, 2, 3, 0] rfl)
      · refine (it_W (fun (zz : (Int32 × Int32 × Mem)) => match zz with | (x116, x117, M118) => ∀ (H : Heap) (locs : List Loc) (ls : Array Slot), va_P G.1 vwCl (wl G M118 h) H → va_S (Aw G) s.heap H locs → lv_has ls 6 [(0, .ref (xa G 132)), (1, .int a1), (2, .int a2), (3, .int x116), (4, .int x117)] → W p l e rm_X12_layBetween s m args below meth c H locs 0 0 Q (F0 m 11 ls [])) hf ?_) _ _ _ hP hS (lv_sub hl [1, 2, 3, 4, 0] rfl)
        rintro ⟨x116, x117, M118⟩ hf H locs ls hP hS hl
        unfold f_X12_layBetween_b11 at hf
        refine lv_iload hx hb dX12_layBetween_11 (lv_at hl 4 rfl) ?_
        refine lv_bipush (v := 6) hx hb dX12_layBetween_13 (by decide) ?_
        refine lv_icmp_ge (tgt := 71) hx hb dX12_layBetween_15 (by decide) (fun hc => ?_) (fun hc => ?_)
        · have hf := (OB_t hf hc)
          exact (it_e hf) _ _ _ hP hS (lv_sub hl [0, 1, 2, 3] rfl)
        · have hf := (OB_f hf hc)
          refine lv_iload_n hx hb dX12_layBetween_18 rfl (lv_at hl 3 rfl) ?_
          refine lv_iload hx hb dX12_layBetween_19 (lv_at hl 4 rfl) ?_
          refine xj (fun (zz : (Int32 × Mem)) => match zz with | (x125, M126) => ∀ (H : Heap) (locs : List Loc) (ls : Array Slot), va_P G.1 vwCl (wl G M126 h) H → va_S (Aw G) s.heap H locs → lv_has ls 6 [(0, .ref (xa G 132)), (1, .int a1), (2, .int a2), (3, .int x116), (4, .int x117)] → W p l e rm_X12_layBetween s m args below meth c H locs 0 0 Q (F0 m 37 ls [.int x125])) hf ?_ (fun hf => ?_)
          · rintro ⟨x125, M126⟩ hf H locs ls hP hS hl
            refine lv_istore (lv' := [(5, .int x125), (0, .ref (xa G 132)), (1, .int a1), (2, .int a2), (3, .int x116), (4, .int x117)]) hx hb dX12_layBetween_37 hl (by decide) rfl (fun ls hl => ?_)
            refine lv_aload_n hx hb dX12_layBetween_39 rfl (lv_at hl 1 rfl) ?_
            refine gfX12_65 C hE hP dX12_layBetween_40 ?_
            refine lv_bipush (v := 6) hx hb dX12_layBetween_43 (by decide) ?_
            refine lv_iload_n hx hb dX12_layBetween_45 rfl (lv_at hl 4 rfl) ?_
            refine lv_imul hx hb dX12_layBetween_46 ?_
            refine lv_iload hx hb dX12_layBetween_47 (lv_at hl 5 rfl) ?_
            refine lv_iadd hx hb dX12_layBetween_49 ?_
            refine lv_iload hx hb dX12_layBetween_50 (lv_at hl 0 rfl) ?_
            refine lv_iconst (v := -1) hx hb dX12_layBetween_52 (by decide) ?_
            refine xj (fun (x129 : Int32) => ∀ (H : Heap) (locs : List Loc) (ls : Array Slot), va_P G.1 vwCl (wl G M126 h) H → va_S (Aw G) s.heap H locs → lv_has ls 6 [(0, .ref (xa G 132)), (1, .int a1), (2, .int a2), (3, .int x116), (4, .int x117)] → W p l e rm_X12_layBetween s m args below meth c H locs 0 0 Q (F0 m 64 ls [.int x129, .int ((6 * x116) + x117), .ref (xa G 151)])) hf ?_ (fun hf => ?_)
            · rintro x129 hf H locs ls hP hS hl
              obtain ⟨g130, hf⟩ := OB_g hf
              refine x_iast C hE hP hS sh151 g130 dX12_layBetween_64 (fun H locs hP hS => ?_)
              refine lv_iinc (v := (x117 + 1)) (lv' := [(4, .int (x117 + 1)), (0, .ref (xa G 132)), (1, .int a1), (2, .int a2), (3, .int x116)]) hx hb dX12_layBetween_65 hl (k := 4) rfl rfl (by decide) rfl (fun ls hl => ?_)
              refine lv_goto (tgt := 11) hx hb dX12_layBetween_68 (by decide) ?_
              exact (it_c hf) _ _ _ hP hS (lv_sub hl [1, 2, 3, 4, 0] rfl)
            · skip
              refine lv_icmp_ne (tgt := 62) hx hb dX12_layBetween_53 (by decide) (fun hc => ?_) (fun hc => ?_)
              · have hf := (OB_f hf hc)
                refine lv_iload hx hb dX12_layBetween_62 (lv_at hl 0 rfl) ?_
                exact (OB_some hf) _ _ _ hP hS (lv_sub hl [1, 2, 3, 4, 5] rfl)
              · have hf := (OB_t hf hc)
                refine lv_ldcw hx hb C.2.2.2.1 (C.2.2.2.2 _ ckX12_286) dX12_layBetween_56 ?_
                refine lv_goto (tgt := 64) hx hb dX12_layBetween_59 (by decide) ?_
                exact (OB_some hf) _ _ _ hP hS (lv_sub hl [1, 2, 3, 4, 5] rfl)
          · skip
            refine lv_icmp_ne (tgt := 28) hx hb dX12_layBetween_21 (by decide) (fun hc => ?_) (fun hc => ?_)
            · have hf := (OB_f hf hc)
              refine lv_aload_n hx hb dX12_layBetween_28 rfl (lv_at hl 0 rfl) ?_
              refine lv_iload_n hx hb dX12_layBetween_29 rfl (lv_at hl 1 rfl) ?_
              refine lv_iload_n hx hb dX12_layBetween_30 rfl (lv_at hl 2 rfl) ?_
              refine lv_iload_n hx hb dX12_layBetween_31 rfl (lv_at hl 3 rfl) ?_
              refine lv_iload hx hb dX12_layBetween_32 (lv_at hl 4 rfl) ?_
              refine x_ci1 (rest := []) (x_runV C hE hP hS ykX12_crossingOf lkX12_283 sh132 rfl (c_X12_crossingOf (OB_bind hf)) (by decide) rfl hl.1 (Nat.le_of_ble_eq_true rfl) dX12_layBetween_34) hS (fun r127 M128 H locs hf hP hS => ?_)
              exact (OB_some hf) _ _ _ hP hS (lv_sub hl [0, 1, 2, 3, 4] rfl)
            · have hf := (OB_t hf hc)
              refine lv_iconst (v := -1) hx hb dX12_layBetween_24 (by decide) ?_
              refine lv_goto (tgt := 37) hx hb dX12_layBetween_25 (by decide) ?_
              exact (OB_some hf) _ _ _ hP hS (lv_sub hl [0, 1, 2, 3, 4] rfl)
def rm_X12_joined : Room := { frames := 0, cells := 0, slots := 0, locals := 0 }
set_option maxRecDepth 100000 in
set_option maxHeartbeats 8000000 in
theorem c_X12_joined {l : Launch} {G : GG} {a1 : Int32} {M : Mem} {h : Int64}  {P9 : Int32 → Prop} (hf : OB (f_X12_joined a1 M) P9) : Met1 l yX12_joined cX12_joined 9 (some .int) rm_X12_joined G [.ref (xa G 132), .int a1] M h (QI0 G M h P9) := by
  unfold f_X12_joined at hf
  refine xm_i0 (by decide) (Nat.le_of_ble_eq_true rfl) ?_
  intro p e s m args below meth c ls Q C hE hret hP hS hl
  have C : CallFix p m c cX12_joined 9 s args TB RX12 := C
  have hx := C.1
  have hb := C.2.1
  have hl : lv_has ls 9 [(0, .ref (xa G 132)), (1, .int a1)] := hl
  refine lv_iload_n hx hb dX12_joined_0 rfl (lv_at hl 1 rfl) ?_
  refine lv_iload_n hx hb dX12_joined_1 rfl (lv_at hl 1 rfl) ?_
  refine lv_ineg hx hb dX12_joined_2 ?_
  refine lv_iand hx hb dX12_joined_3 ?_
  refine lv_istore_n (lv' := [(2, .int (a1 &&& (-a1))), (0, .ref (xa G 132)), (1, .int a1)]) hx hb dX12_joined_4 rfl hl (by decide) rfl (fun ls hl => ?_)
  refine lv_iconst (v := 0) hx hb dX12_joined_5 (by decide) ?_
  refine lv_istore_n (lv' := [(3, .int 0), (2, .int (a1 &&& (-a1))), (0, .ref (xa G 132)), (1, .int a1)]) hx hb dX12_joined_6 rfl hl (by decide) rfl (fun ls hl => ?_)
  refine xj (it_P (fun (x507 : Int32) => ∀ (H : Heap) (locs : List Loc) (ls : Array Slot), va_P G.1 vwCl (wl G M h) H → va_S (Aw G) s.heap H locs → lv_has ls 9 [(3, .int x507)] → W p l e rm_X12_joined s m args below meth c H locs 0 0 Q (F0 m 157 ls [])) P9) hf ?_ (fun hf => ?_)
  · rintro (x507 | v) hf
    · intro H locs ls hP hS hl
      refine lv_iload_n hx hb dX12_joined_157 rfl (lv_at hl 0 rfl) ?_
      exact hret _ _ _ _ _ (OB_some hf) hP hS dX12_joined_158
    · exact it_q hf
  · refine (it_W (fun (zz : (Int32 × Int32)) => match zz with | (x505, x506) => ∀ (H : Heap) (locs : List Loc) (ls : Array Slot), va_P G.1 vwCl (wl G M h) H → va_S (Aw G) s.heap H locs → lv_has ls 9 [(0, .ref (xa G 132)), (1, .int a1), (2, .int x505), (3, .int x506)] → W p l e rm_X12_joined s m args below meth c H locs 0 0 Q (F0 m 7 ls [])) hf ?_) _ _ _ hP hS (lv_sub hl [2, 3, 1, 0] rfl)
    rintro ⟨x505, x506⟩ hf H locs ls hP hS hl
    unfold f_X12_joined_b7 at hf
    refine lv_iload_n hx hb dX12_joined_7 rfl (lv_at hl 2 rfl) ?_
    refine lv_iload_n hx hb dX12_joined_8 rfl (lv_at hl 1 rfl) ?_
    refine lv_icmp_eq (tgt := 157) hx hb dX12_joined_9 (by decide) (fun hc => ?_) (fun hc => ?_)
    · have hf := (OB_t hf hc)
      exact (it_e hf) _ _ _ hP hS (lv_sub hl [3] rfl)
    · have hf := (OB_f hf hc)
      refine lv_ldcw hx hb C.2.2.2.1 (C.2.2.2.2 _ ckX12_286) dX12_joined_12 ?_
      refine lv_istore (lv' := [(4, .int 100000), (0, .ref (xa G 132)), (1, .int a1), (2, .int x505), (3, .int x506)]) hx hb dX12_joined_15 hl (by decide) rfl (fun ls hl => ?_)
      refine lv_iconst (v := 0) hx hb dX12_joined_17 (by decide) ?_
      refine lv_istore (lv' := [(5, .int 0), (4, .int 100000), (0, .ref (xa G 132)), (1, .int a1), (2, .int x505), (3, .int x506)]) hx hb dX12_joined_18 hl (by decide) rfl (fun ls hl => ?_)
      refine lv_iconst (v := 0) hx hb dX12_joined_20 (by decide) ?_
      refine lv_istore (lv' := [(6, .int 0), (5, .int 0), (4, .int 100000), (0, .ref (xa G 132)), (1, .int a1), (2, .int x505), (3, .int x506)]) hx hb dX12_joined_21 hl (by decide) rfl (fun ls hl => ?_)
      refine xj (fun (zz : (Int32 × Int32)) => match zz with | (x639, x640) => ∀ (H : Heap) (locs : List Loc) (ls : Array Slot), va_P G.1 vwCl (wl G M h) H → va_S (Aw G) s.heap H locs → lv_has ls 9 [(0, .ref (xa G 132)), (1, .int a1), (2, .int x505), (3, .int x506), (4, .int x639), (5, .int x640)] → W p l e rm_X12_joined s m args below meth c H locs 0 0 Q (F0 m 130 ls [])) hf ?_ (fun hf => ?_)
      · rintro ⟨x639, x640⟩ hf H locs ls hP hS hl
        refine lv_iload hx hb dX12_joined_130 (lv_at hl 4 rfl) ?_
        refine lv_ldcw hx hb C.2.2.2.1 (C.2.2.2.2 _ ckX12_286) dX12_joined_132 ?_
        refine lv_icmp_ne (tgt := 142) hx hb dX12_joined_135 (by decide) (fun hc => ?_) (fun hc => ?_)
        · have hf := (OB_f hf hc)
          refine lv_iload_n hx hb dX12_joined_142 rfl (lv_at hl 3 rfl) ?_
          refine lv_iload hx hb dX12_joined_143 (lv_at hl 4 rfl) ?_
          refine lv_iadd hx hb dX12_joined_145 ?_
          refine lv_istore_n (lv' := [(3, .int (x506 + x639)), (0, .ref (xa G 132)), (1, .int a1), (2, .int x505), (4, .int x639), (5, .int x640)]) hx hb dX12_joined_146 rfl hl (by decide) rfl (fun ls hl => ?_)
          refine lv_iload_n hx hb dX12_joined_147 rfl (lv_at hl 3 rfl) ?_
          refine lv_iconst (v := 1) hx hb dX12_joined_148 (by decide) ?_
          refine lv_iload hx hb dX12_joined_149 (lv_at hl 5 rfl) ?_
          refine x_ishl C dX12_joined_151 ?_
          refine lv_ior hx hb dX12_joined_152 ?_
          refine lv_istore_n (lv' := [(2, .int (x505 ||| (jshl 1 x640))), (3, .int (x506 + x639)), (0, .ref (xa G 132)), (1, .int a1), (4, .int x639), (5, .int x640)]) hx hb dX12_joined_153 rfl hl (by decide) rfl (fun ls hl => ?_)
          refine lv_goto (tgt := 7) hx hb dX12_joined_154 (by decide) ?_
          exact (it_c hf) _ _ _ hP hS (lv_sub hl [2, 3, 0, 1] rfl)
        · have hf := (OB_t hf hc)
          refine lv_ldcw hx hb C.2.2.2.1 (C.2.2.2.2 _ ckX12_286) dX12_joined_138 ?_
          exact hret _ _ _ _ _ (it_r hf) hP hS dX12_joined_141
      · refine (it_W (fun (zz : (Int32 × Int32 × Int32)) => match zz with | (x636, x637, x638) => ∀ (H : Heap) (locs : List Loc) (ls : Array Slot), va_P G.1 vwCl (wl G M h) H → va_S (Aw G) s.heap H locs → lv_has ls 9 [(0, .ref (xa G 132)), (1, .int a1), (2, .int x505), (3, .int x506), (4, .int x636), (5, .int x637), (6, .int x638)] → W p l e rm_X12_joined s m args below meth c H locs 0 0 Q (F0 m 23 ls [])) hf ?_) _ _ _ hP hS (lv_sub hl [3, 4, 5, 6, 2, 1, 0] rfl)
        rintro ⟨x636, x637, x638⟩ hf H locs ls hP hS hl
        unfold f_X12_joined_b23 at hf
        refine lv_iload hx hb dX12_joined_23 (lv_at hl 6 rfl) ?_
        refine lv_bipush (v := 6) hx hb dX12_joined_25 (by decide) ?_
        refine lv_icmp_ge (tgt := 130) hx hb dX12_joined_27 (by decide) (fun hc => ?_) (fun hc => ?_)
        · have hf := (OB_t hf hc)
          exact (it_e hf) _ _ _ hP hS (lv_sub hl [0, 1, 2, 3, 4, 5] rfl)
        · have hf := (OB_f hf hc)
          refine lv_iconst (v := 0) hx hb dX12_joined_30 (by decide) ?_
          refine lv_istore (lv' := [(7, .int 0), (0, .ref (xa G 132)), (1, .int a1), (2, .int x505), (3, .int x506), (4, .int x636), (5, .int x637), (6, .int x638)]) hx hb dX12_joined_31 hl (by decide) rfl (fun ls hl => ?_)
          refine xj (fun (zz : (Int32 × Int32 × Int32)) => match zz with | (x665, x666, x667) => ∀ (H : Heap) (locs : List Loc) (ls : Array Slot), va_P G.1 vwCl (wl G M h) H → va_S (Aw G) s.heap H locs → lv_has ls 9 [(0, .ref (xa G 132)), (1, .int a1), (2, .int x505), (3, .int x506), (4, .int x665), (5, .int x666), (6, .int x667)] → W p l e rm_X12_joined s m args below meth c H locs 0 0 Q (F0 m 124 ls [])) hf ?_ (fun hf => ?_)
          · rintro ⟨x665, x666, x667⟩ hf H locs ls hP hS hl
            refine lv_iinc (v := (x667 + 1)) (lv' := [(6, .int (x667 + 1)), (0, .ref (xa G 132)), (1, .int a1), (2, .int x505), (3, .int x506), (4, .int x665), (5, .int x666)]) hx hb dX12_joined_124 hl (k := 6) rfl rfl (by decide) rfl (fun ls hl => ?_)
            refine lv_goto (tgt := 23) hx hb dX12_joined_127 (by decide) ?_
            exact (it_c hf) _ _ _ hP hS (lv_sub hl [1, 2, 3, 4, 5, 6, 0] rfl)
          · refine (it_W (fun (zz : (Int32 × Int32 × Int32 × Int32)) => match zz with | (x661, x662, x663, x664) => ∀ (H : Heap) (locs : List Loc) (ls : Array Slot), va_P G.1 vwCl (wl G M h) H → va_S (Aw G) s.heap H locs → lv_has ls 9 [(0, .ref (xa G 132)), (1, .int a1), (2, .int x505), (3, .int x506), (4, .int x661), (5, .int x662), (6, .int x663), (7, .int x664)] → W p l e rm_X12_joined s m args below meth c H locs 0 0 Q (F0 m 33 ls [])) hf ?_) _ _ _ hP hS (lv_sub hl [1, 2, 3, 4, 5, 6, 7, 0] rfl)
            rintro ⟨x661, x662, x663, x664⟩ hf H locs ls hP hS hl
            unfold f_X12_joined_b33 at hf
            refine lv_iload hx hb dX12_joined_33 (lv_at hl 7 rfl) ?_
            refine lv_bipush (v := 6) hx hb dX12_joined_35 (by decide) ?_
            refine lv_icmp_ge (tgt := 124) hx hb dX12_joined_37 (by decide) (fun hc => ?_) (fun hc => ?_)
            · have hf := (OB_t hf hc)
              exact (it_e hf) _ _ _ hP hS (lv_sub hl [0, 1, 2, 3, 4, 5, 6] rfl)
            · have hf := (OB_f hf hc)
              refine lv_iload_n hx hb dX12_joined_40 rfl (lv_at hl 2 rfl) ?_
              refine lv_iload hx hb dX12_joined_41 (lv_at hl 6 rfl) ?_
              refine x_ishr C dX12_joined_43 ?_
              refine lv_iconst (v := 1) hx hb dX12_joined_44 (by decide) ?_
              refine lv_iand hx hb dX12_joined_45 ?_
              refine lv_iconst (v := 1) hx hb dX12_joined_46 (by decide) ?_
              refine xj (fun (x668 : Bool) => ∀ (H : Heap) (locs : List Loc) (ls : Array Slot), va_P G.1 vwCl (wl G M h) H → va_S (Aw G) s.heap H locs → lv_has ls 9 [(0, .ref (xa G 132)), (1, .int a1), (2, .int x505), (3, .int x506), (4, .int x661), (5, .int x662), (6, .int x663), (7, .int x664)] → W p l e rm_X12_joined s m args below meth c H locs 0 0 Q (F0 m 74 ls [.int (bI x668)])) hf ?_ (fun hf => ?_)
              · rintro x668 hf H locs ls hP hS hl
                refine lv_istore (lv' := [(8, .int (bI x668)), (0, .ref (xa G 132)), (1, .int a1), (2, .int x505), (3, .int x506), (4, .int x661), (5, .int x662), (6, .int x663), (7, .int x664)]) hx hb dX12_joined_74 hl (by decide) rfl (fun ls hl => ?_)
                refine lv_iload hx hb dX12_joined_76 (lv_at hl 0 rfl) ?_
                refine xj (fun (zz : (Int32 × Int32)) => match zz with | (x671, x672) => ∀ (H : Heap) (locs : List Loc) (ls : Array Slot), va_P G.1 vwCl (wl G M h) H → va_S (Aw G) s.heap H locs → lv_has ls 9 [(0, .ref (xa G 132)), (1, .int a1), (2, .int x505), (3, .int x506), (4, .int x671), (5, .int x672), (6, .int x663), (7, .int x664)] → W p l e rm_X12_joined s m args below meth c H locs 0 0 Q (F0 m 118 ls [])) hf ?_ (fun hf => ?_)
                · rintro ⟨x671, x672⟩ hf H locs ls hP hS hl
                  refine lv_iinc (v := (x664 + 1)) (lv' := [(7, .int (x664 + 1)), (0, .ref (xa G 132)), (1, .int a1), (2, .int x505), (3, .int x506), (4, .int x671), (5, .int x672), (6, .int x663)]) hx hb dX12_joined_118 hl (k := 7) rfl rfl (by decide) rfl (fun ls hl => ?_)
                  refine lv_goto (tgt := 33) hx hb dX12_joined_121 (by decide) ?_
                  exact (it_c hf) _ _ _ hP hS (lv_sub hl [1, 2, 3, 4, 5, 6, 7, 0] rfl)
                · skip
                  refine lv_if_eq (tgt := 118) hx hb dX12_joined_78 (by decide) (fun hc => ?_) (fun hc => ?_)
                  · have hf := (OB_f hf (bI_f hc))
                    exact (OB_some hf) _ _ _ hP hS (lv_sub hl [1, 2, 3, 4, 5, 6, 7, 8] rfl)
                  · have hf := (OB_t hf (bI_t hc))
                    refine lv_aload_n hx hb dX12_joined_81 rfl (lv_at hl 1 rfl) ?_
                    refine gfX12_65 C hE hP dX12_joined_82 ?_
                    refine lv_bipush (v := 6) hx hb dX12_joined_85 (by decide) ?_
                    refine lv_iload hx hb dX12_joined_87 (lv_at hl 7 rfl) ?_
                    refine lv_imul hx hb dX12_joined_89 ?_
                    refine lv_iload hx hb dX12_joined_90 (lv_at hl 8 rfl) ?_
                    refine lv_iadd hx hb dX12_joined_92 ?_
                    obtain ⟨g673, hf⟩ := OB_g hf
                    refine x_iald C hE hP sh151 g673 dX12_joined_93 ?_
                    refine lv_iload hx hb dX12_joined_94 (lv_at hl 5 rfl) ?_
                    refine lv_icmp_ge (tgt := 118) hx hb dX12_joined_96 (by decide) (fun hc => ?_) (fun hc => ?_)
                    · have hf := (OB_t hf hc)
                      exact (OB_some hf) _ _ _ hP hS (lv_sub hl [1, 2, 3, 4, 5, 6, 7, 8] rfl)
                    · have hf := (OB_f hf hc)
                      refine lv_aload_n hx hb dX12_joined_99 rfl (lv_at hl 1 rfl) ?_
                      refine gfX12_65 C hE hP dX12_joined_100 ?_
                      refine lv_bipush (v := 6) hx hb dX12_joined_103 (by decide) ?_
                      refine lv_iload hx hb dX12_joined_105 (lv_at hl 7 rfl) ?_
                      refine lv_imul hx hb dX12_joined_107 ?_
                      refine lv_iload hx hb dX12_joined_108 (lv_at hl 8 rfl) ?_
                      refine lv_iadd hx hb dX12_joined_110 ?_
                      refine x_iald C hE hP sh151 g673 dX12_joined_111 ?_
                      refine lv_istore (lv' := [(4, .int (M 151 (Int32.toNatClampNeg ((6 * x663) + x664)))), (8, .int (bI x668)), (0, .ref (xa G 132)), (1, .int a1), (2, .int x505), (3, .int x506), (5, .int x662), (6, .int x663), (7, .int x664)]) hx hb dX12_joined_112 hl (by decide) rfl (fun ls hl => ?_)
                      refine lv_iload hx hb dX12_joined_114 (lv_at hl 8 rfl) ?_
                      refine lv_istore (lv' := [(5, .int x664), (4, .int (M 151 (Int32.toNatClampNeg ((6 * x663) + x664)))), (8, .int (bI x668)), (0, .ref (xa G 132)), (1, .int a1), (2, .int x505), (3, .int x506), (6, .int x663), (7, .int x664)]) hx hb dX12_joined_116 hl (by decide) rfl (fun ls hl => ?_)
                      exact (OB_some hf) _ _ _ hP hS (lv_sub hl [3, 4, 5, 6, 1, 0, 7, 8] rfl)
              · skip
                refine lv_icmp_ne (tgt := 73) hx hb dX12_joined_47 (by decide) (fun hc => ?_) (fun hc => ?_)
                · have hf := (OB_f hf hc)
                  refine lv_iconst (v := 0) hx hb dX12_joined_73 (by decide) ?_
                  refine W.eq (g2 := F0 m 74 ls [.int (bI false)]) rfl ?_
                  exact (OB_some hf) _ _ _ hP hS (lv_sub hl [0, 1, 2, 3, 4, 5, 6, 7] rfl)
                · have hf := (OB_t hf hc)
                  refine lv_iload_n hx hb dX12_joined_50 rfl (lv_at hl 2 rfl) ?_
                  refine lv_iload hx hb dX12_joined_51 (lv_at hl 7 rfl) ?_
                  refine x_ishr C dX12_joined_53 ?_
                  refine lv_iconst (v := 1) hx hb dX12_joined_54 (by decide) ?_
                  refine lv_iand hx hb dX12_joined_55 ?_
                  refine lv_if_ne (tgt := 73) hx hb dX12_joined_56 (by decide) (fun hc => ?_) (fun hc => ?_)
                  · have hf := (OB_f hf hc)
                    refine lv_iconst (v := 0) hx hb dX12_joined_73 (by decide) ?_
                    refine W.eq (g2 := F0 m 74 ls [.int (bI false)]) rfl ?_
                    exact (OB_some hf) _ _ _ hP hS (lv_sub hl [0, 1, 2, 3, 4, 5, 6, 7] rfl)
                  · have hf := (OB_t hf hc)
                    refine lv_iload_n hx hb dX12_joined_59 rfl (lv_at hl 1 rfl) ?_
                    refine lv_iload hx hb dX12_joined_60 (lv_at hl 7 rfl) ?_
                    refine x_ishr C dX12_joined_62 ?_
                    refine lv_iconst (v := 1) hx hb dX12_joined_63 (by decide) ?_
                    refine lv_iand hx hb dX12_joined_64 ?_
                    refine lv_iconst (v := 1) hx hb dX12_joined_65 (by decide) ?_
                    refine lv_icmp_ne (tgt := 73) hx hb dX12_joined_66 (by decide) (fun hc => ?_) (fun hc => ?_)
                    · have hf := (OB_f hf hc)
                      refine lv_iconst (v := 0) hx hb dX12_joined_73 (by decide) ?_
                      refine W.eq (g2 := F0 m 74 ls [.int (bI false)]) rfl ?_
                      exact (OB_some hf) _ _ _ hP hS (lv_sub hl [0, 1, 2, 3, 4, 5, 6, 7] rfl)
                    · have hf := (OB_t hf hc)
                      refine lv_iconst (v := 1) hx hb dX12_joined_69 (by decide) ?_
                      refine lv_goto (tgt := 74) hx hb dX12_joined_70 (by decide) ?_
                      refine W.eq (g2 := F0 m 74 ls [.int (bI true)]) rfl ?_
                      exact (OB_some hf) _ _ _ hP hS (lv_sub hl [0, 1, 2, 3, 4, 5, 6, 7] rfl)
def rm_X12_findSpread : Room := { frames := 5, cells := 0, slots := 0, locals := 122 }
set_option maxRecDepth 100000 in
set_option maxHeartbeats 8000000 in
theorem c_X12_findSpread {l : Launch} {G : GG} {a1 : Int32} {a2 : Int32} {M : Mem} {h : Int64}  {P9 : Mem → Prop} (hf : OB (f_X12_findSpread a1 a2 M) P9) : Met1 l yX12_findSpread cX12_findSpread 7 none rm_X12_findSpread G [.ref (xa G 132), .int a1, .int a2] M h (QV1 G h P9) := by
  unfold f_X12_findSpread at hf
  refine xm_v1 (by decide) (Nat.le_of_ble_eq_true rfl) ?_
  intro p e s m args below meth c ls Q C hE hret hP hS hl
  have C : CallFix p m c cX12_findSpread 7 s args TB RX12 := C
  have hx := C.1
  have hb := C.2.1
  have hl : lv_has ls 7 [(0, .ref (xa G 132)), (1, .int a1), (2, .int a2)] := hl
  refine lv_aload_n hx hb dX12_findSpread_0 rfl (lv_at hl 0 rfl) ?_
  refine lv_iload_n hx hb dX12_findSpread_1 rfl (lv_at hl 1 rfl) ?_
  refine lv_iload_n hx hb dX12_findSpread_2 rfl (lv_at hl 2 rfl) ?_
  refine x_cv1 (rest := []) (x_runV C hE hP hS ykX12_layBetween lkX12_287 sh132 rfl (c_X12_layBetween (OB_bind hf)) (by decide) rfl hl.1 (Nat.le_of_ble_eq_true rfl) dX12_findSpread_3) hS (fun M1 H locs hf hP hS => ?_)
  refine lv_aload_n hx hb dX12_findSpread_6 rfl (lv_at hl 0 rfl) ?_
  refine lv_ldcw hx hb C.2.2.2.1 (C.2.2.2.2 _ ckX12_286) dX12_findSpread_7 ?_
  refine pfX12_290 C hE hP hS dX12_findSpread_10 (fun H locs hP hS => ?_)
  refine lv_aload_n hx hb dX12_findSpread_13 rfl (lv_at hl 0 rfl) ?_
  refine lv_iconst (v := -1) hx hb dX12_findSpread_14 (by decide) ?_
  refine pfX12_293 C hE hP hS dX12_findSpread_15 (fun H locs hP hS => ?_)
  refine lv_aload_n hx hb dX12_findSpread_18 rfl (lv_at hl 0 rfl) ?_
  refine gfX12_59 C hE hP dX12_findSpread_19 ?_
  refine lv_iload_n hx hb dX12_findSpread_22 rfl (lv_at hl 2 rfl) ?_
  obtain ⟨g2, hf⟩ := OB_g hf
  refine x_iald C hE hP sh149 g2 dX12_findSpread_23 ?_
  refine lv_istore_n (lv' := [(3, .int ((up (up M1 132 31 100000) 132 32 (-1)) 149 (Int32.toNatClampNeg a2))), (0, .ref (xa G 132)), (1, .int a1), (2, .int a2)]) hx hb dX12_findSpread_24 rfl hl (by decide) rfl (fun ls hl => ?_)
  refine lv_iconst (v := 0) hx hb dX12_findSpread_25 (by decide) ?_
  refine lv_istore (lv' := [(4, .int 0), (3, .int ((up (up M1 132 31 100000) 132 32 (-1)) 149 (Int32.toNatClampNeg a2))), (0, .ref (xa G 132)), (1, .int a1), (2, .int a2)]) hx hb dX12_findSpread_26 hl (by decide) rfl (fun ls hl => ?_)
  refine xj (fun (M71 : Mem) => ∀ (H : Heap) (locs : List Loc) (ls : Array Slot), va_P G.1 vwCl (wl G M71 h) H → va_S (Aw G) s.heap H locs → lv_has ls 7 [(0, .ref (xa G 132))] → W p l e rm_X12_findSpread s m args below meth c H locs 0 0 Q (F0 m 146 ls [])) hf ?_ (fun hf => ?_)
  · rintro M71 hf H locs ls hP hS hl
    refine lv_aload_n hx hb dX12_findSpread_146 rfl (lv_at hl 0 rfl) ?_
    refine lv_aload_n hx hb dX12_findSpread_147 rfl (lv_at hl 0 rfl) ?_
    refine gfX12_290 C hE hP dX12_findSpread_148 ?_
    refine lv_ldcw hx hb C.2.2.2.1 (C.2.2.2.2 _ ckX12_286) dX12_findSpread_151 ?_
    refine xj (fun (x103 : Int32) => ∀ (H : Heap) (locs : List Loc) (ls : Array Slot), va_P G.1 vwCl (wl G M71 h) H → va_S (Aw G) s.heap H locs → lv_has ls 7 [] → W p l e rm_X12_findSpread s m args below meth c H locs 0 0 Q (F0 m 165 ls [.int x103, .ref (xa G 132)])) hf ?_ (fun hf => ?_)
    · rintro x103 hf H locs ls hP hS hl
      refine pfX12_290 C hE hP hS dX12_findSpread_165 (fun H locs hP hS => ?_)
      exact hret _ _ _ _ _ (OB_some hf) hP hS dX12_findSpread_168
    · skip
      refine lv_icmp_ne (tgt := 161) hx hb dX12_findSpread_154 (by decide) (fun hc => ?_) (fun hc => ?_)
      · have hf := (OB_f hf hc)
        refine lv_aload_n hx hb dX12_findSpread_161 rfl (lv_at hl 0 rfl) ?_
        refine gfX12_290 C hE hP dX12_findSpread_162 ?_
        exact (OB_some hf) _ _ _ hP hS (lv_sub hl [] rfl)
      · have hf := (OB_t hf hc)
        refine lv_iconst (v := -1) hx hb dX12_findSpread_157 (by decide) ?_
        refine lv_goto (tgt := 165) hx hb dX12_findSpread_158 (by decide) ?_
        exact (OB_some hf) _ _ _ hP hS (lv_sub hl [] rfl)
  · refine (it_W (fun (zz : (Int32 × Mem)) => match zz with | (x69, M70) => ∀ (H : Heap) (locs : List Loc) (ls : Array Slot), va_P G.1 vwCl (wl G M70 h) H → va_S (Aw G) s.heap H locs → lv_has ls 7 [(0, .ref (xa G 132)), (3, .int ((up (up M1 132 31 100000) 132 32 (-1)) 149 (Int32.toNatClampNeg a2))), (4, .int x69)] → W p l e rm_X12_findSpread s m args below meth c H locs 0 0 Q (F0 m 28 ls [])) hf ?_) _ _ _ hP hS (lv_sub hl [2, 1, 0] rfl)
    rintro ⟨x69, M70⟩ hf H locs ls hP hS hl
    unfold f_X12_findSpread_b28 at hf
    refine lv_iload hx hb dX12_findSpread_28 (lv_at hl 2 rfl) ?_
    refine lv_bipush (v := 64) hx hb dX12_findSpread_30 (by decide) ?_
    refine lv_icmp_ge (tgt := 146) hx hb dX12_findSpread_32 (by decide) (fun hc => ?_) (fun hc => ?_)
    · have hf := (OB_t hf hc)
      exact (it_e hf) _ _ _ hP hS (lv_sub hl [0] rfl)
    · have hf := (OB_f hf hc)
      refine lv_iload hx hb dX12_findSpread_35 (lv_at hl 2 rfl) ?_
      refine lv_iload_n hx hb dX12_findSpread_37 rfl (lv_at hl 1 rfl) ?_
      refine lv_iand hx hb dX12_findSpread_38 ?_
      refine xj (fun (M92 : Mem) => ∀ (H : Heap) (locs : List Loc) (ls : Array Slot), va_P G.1 vwCl (wl G M92 h) H → va_S (Aw G) s.heap H locs → lv_has ls 7 [(0, .ref (xa G 132)), (3, .int ((up (up M1 132 31 100000) 132 32 (-1)) 149 (Int32.toNatClampNeg a2))), (4, .int x69)] → W p l e rm_X12_findSpread s m args below meth c H locs 0 0 Q (F0 m 140 ls [])) hf ?_ (fun hf => ?_)
      · rintro M92 hf H locs ls hP hS hl
        refine lv_iinc (v := (x69 + 1)) (lv' := [(4, .int (x69 + 1)), (0, .ref (xa G 132)), (3, .int ((up (up M1 132 31 100000) 132 32 (-1)) 149 (Int32.toNatClampNeg a2)))]) hx hb dX12_findSpread_140 hl (k := 2) rfl rfl (by decide) rfl (fun ls hl => ?_)
        refine lv_goto (tgt := 28) hx hb dX12_findSpread_143 (by decide) ?_
        exact (it_c hf) _ _ _ hP hS (lv_sub hl [1, 2, 0] rfl)
      · skip
        refine lv_if_ne (tgt := 140) hx hb dX12_findSpread_39 (by decide) (fun hc => ?_) (fun hc => ?_)
        · have hf := (OB_f hf hc)
          exact (OB_some hf) _ _ _ hP hS (lv_sub hl [0, 1, 2] rfl)
        · have hf := (OB_t hf hc)
          refine lv_aload_n hx hb dX12_findSpread_42 rfl (lv_at hl 0 rfl) ?_
          refine lv_iload_n hx hb dX12_findSpread_43 rfl (lv_at hl 1 rfl) ?_
          refine lv_iload hx hb dX12_findSpread_44 (lv_at hl 2 rfl) ?_
          refine lv_ior hx hb dX12_findSpread_46 ?_
          refine x_ci0 (rest := []) (x_runV C hE hP hS ykX12_joined lkX12_296 sh132 rfl (c_X12_joined (OB_bind hf)) (by decide) rfl hl.1 (Nat.le_of_ble_eq_true rfl) dX12_findSpread_47) hS (fun r93 H locs hf hP hS => ?_)
          refine lv_istore (lv' := [(5, .int r93), (0, .ref (xa G 132)), (3, .int ((up (up M1 132 31 100000) 132 32 (-1)) 149 (Int32.toNatClampNeg a2))), (4, .int x69)]) hx hb dX12_findSpread_50 hl (by decide) rfl (fun ls hl => ?_)
          refine lv_iload hx hb dX12_findSpread_52 (lv_at hl 0 rfl) ?_
          refine lv_aload_n hx hb dX12_findSpread_54 rfl (lv_at hl 1 rfl) ?_
          refine gfX12_290 C hE hP dX12_findSpread_55 ?_
          refine xj (fun (x98 : Bool) => ∀ (H : Heap) (locs : List Loc) (ls : Array Slot), va_P G.1 vwCl (wl G M70 h) H → va_S (Aw G) s.heap H locs → lv_has ls 7 [(0, .ref (xa G 132)), (3, .int ((up (up M1 132 31 100000) 132 32 (-1)) 149 (Int32.toNatClampNeg a2))), (4, .int x69), (5, .int r93)] → W p l e rm_X12_findSpread s m args below meth c H locs 0 0 Q (F0 m 89 ls [.int (bI x98)])) hf ?_ (fun hf => ?_)
          · rintro x98 hf H locs ls hP hS hl
            refine lv_istore (lv' := [(6, .int (bI x98)), (0, .ref (xa G 132)), (3, .int ((up (up M1 132 31 100000) 132 32 (-1)) 149 (Int32.toNatClampNeg a2))), (4, .int x69), (5, .int r93)]) hx hb dX12_findSpread_89 hl (by decide) rfl (fun ls hl => ?_)
            refine lv_aload_n hx hb dX12_findSpread_91 rfl (lv_at hl 1 rfl) ?_
            refine lv_iload hx hb dX12_findSpread_92 (lv_at hl 4 rfl) ?_
            refine lv_aload_n hx hb dX12_findSpread_94 rfl (lv_at hl 1 rfl) ?_
            refine gfX12_290 C hE hP dX12_findSpread_95 ?_
            refine xj (fun (x101 : Int32) => ∀ (H : Heap) (locs : List Loc) (ls : Array Slot), va_P G.1 vwCl (wl G M70 h) H → va_S (Aw G) s.heap H locs → lv_has ls 7 [(0, .ref (xa G 132)), (3, .int ((up (up M1 132 31 100000) 132 32 (-1)) 149 (Int32.toNatClampNeg a2))), (4, .int x69), (5, .int r93)] → W p l e rm_X12_findSpread s m args below meth c H locs 0 0 Q (F0 m 115 ls [.int x101, .ref (xa G 132)])) hf ?_ (fun hf => ?_)
            · rintro x101 hf H locs ls hP hS hl
              refine pfX12_293 C hE hP hS dX12_findSpread_115 (fun H locs hP hS => ?_)
              refine lv_aload_n hx hb dX12_findSpread_118 rfl (lv_at hl 0 rfl) ?_
              refine lv_iload hx hb dX12_findSpread_119 (lv_at hl 3 rfl) ?_
              refine lv_aload_n hx hb dX12_findSpread_121 rfl (lv_at hl 0 rfl) ?_
              refine gfX12_290 C hE hP dX12_findSpread_122 ?_
              refine xj (fun (x102 : Int32) => ∀ (H : Heap) (locs : List Loc) (ls : Array Slot), va_P G.1 vwCl (wl G (up M70 132 32 x101) h) H → va_S (Aw G) s.heap H locs → lv_has ls 7 [(0, .ref (xa G 132)), (3, .int ((up (up M1 132 31 100000) 132 32 (-1)) 149 (Int32.toNatClampNeg a2))), (4, .int x69)] → W p l e rm_X12_findSpread s m args below meth c H locs 0 0 Q (F0 m 137 ls [.int x102, .ref (xa G 132)])) hf ?_ (fun hf => ?_)
              · rintro x102 hf H locs ls hP hS hl
                refine pfX12_290 C hE hP hS dX12_findSpread_137 (fun H locs hP hS => ?_)
                exact (OB_some hf) _ _ _ hP hS (lv_sub hl [0, 1, 2] rfl)
              · skip
                refine lv_icmp_ge (tgt := 133) hx hb dX12_findSpread_125 (by decide) (fun hc => ?_) (fun hc => ?_)
                · have hf := (OB_t hf hc)
                  refine lv_aload_n hx hb dX12_findSpread_133 rfl (lv_at hl 0 rfl) ?_
                  refine gfX12_290 C hE hP dX12_findSpread_134 ?_
                  exact (OB_some hf) _ _ _ hP hS (lv_sub hl [0, 1, 2] rfl)
                · have hf := (OB_f hf hc)
                  refine lv_iload hx hb dX12_findSpread_128 (lv_at hl 3 rfl) ?_
                  refine lv_goto (tgt := 137) hx hb dX12_findSpread_130 (by decide) ?_
                  exact (OB_some hf) _ _ _ hP hS (lv_sub hl [0, 1, 2] rfl)
            · skip
              refine lv_icmp_lt (tgt := 106) hx hb dX12_findSpread_98 (by decide) (fun hc => ?_) (fun hc => ?_)
              · have hf := (OB_t hf hc)
                refine lv_iload hx hb dX12_findSpread_106 (lv_at hl 3 rfl) ?_
                refine lv_goto (tgt := 115) hx hb dX12_findSpread_108 (by decide) ?_
                exact (OB_some hf) _ _ _ hP hS (lv_sub hl [1, 2, 3, 4] rfl)
              · have hf := (OB_f hf hc)
                refine lv_iload hx hb dX12_findSpread_101 (lv_at hl 0 rfl) ?_
                refine lv_if_eq (tgt := 111) hx hb dX12_findSpread_103 (by decide) (fun hc => ?_) (fun hc => ?_)
                · have hf := (OB_f hf (bI_f hc))
                  refine lv_aload_n hx hb dX12_findSpread_111 rfl (lv_at hl 1 rfl) ?_
                  refine gfX12_293 C hE hP dX12_findSpread_112 ?_
                  exact (OB_some hf) _ _ _ hP hS (lv_sub hl [1, 2, 3, 4] rfl)
                · have hf := (OB_t hf (bI_t hc))
                  refine lv_iload hx hb dX12_findSpread_106 (lv_at hl 3 rfl) ?_
                  refine lv_goto (tgt := 115) hx hb dX12_findSpread_108 (by decide) ?_
                  exact (OB_some hf) _ _ _ hP hS (lv_sub hl [1, 2, 3, 4] rfl)
          · skip
            refine lv_icmp_ne (tgt := 88) hx hb dX12_findSpread_58 (by decide) (fun hc => ?_) (fun hc => ?_)
            · have hf := (OB_f hf hc)
              refine lv_iconst (v := 0) hx hb dX12_findSpread_88 (by decide) ?_
              refine W.eq (g2 := F0 m 89 ls [.int (bI false)]) rfl ?_
              exact (OB_some hf) _ _ _ hP hS (lv_sub hl [1, 2, 3, 0] rfl)
            · have hf := (OB_t hf hc)
              refine lv_iload hx hb dX12_findSpread_61 (lv_at hl 0 rfl) ?_
              refine lv_ldcw hx hb C.2.2.2.1 (C.2.2.2.2 _ ckX12_286) dX12_findSpread_63 ?_
              refine lv_icmp_ge (tgt := 88) hx hb dX12_findSpread_66 (by decide) (fun hc => ?_) (fun hc => ?_)
              · have hf := (OB_t hf hc)
                refine lv_iconst (v := 0) hx hb dX12_findSpread_88 (by decide) ?_
                refine W.eq (g2 := F0 m 89 ls [.int (bI false)]) rfl ?_
                exact (OB_some hf) _ _ _ hP hS (lv_sub hl [1, 2, 3, 0] rfl)
              · have hf := (OB_f hf hc)
                refine lv_iload hx hb dX12_findSpread_69 (lv_at hl 3 rfl) ?_
                refine x_ci0 (rest := []) (x_runS C hE hP hS ykX12_bitsOf lkX12_268 (c_X12_bitsOf (OB_bind hf)) (by decide) rfl hl.1 (Nat.le_of_ble_eq_true rfl) dX12_findSpread_71) hS (fun r99 H locs hf hP hS => ?_)
                refine lv_aload_n hx hb dX12_findSpread_74 rfl (lv_at hl 1 rfl) ?_
                refine gfX12_293 C hE hP dX12_findSpread_75 ?_
                refine x_ci0 (rest := [.int r99]) (x_runS C hE hP hS ykX12_bitsOf lkX12_268 (c_X12_bitsOf (OB_bind hf)) (by decide) rfl hl.1 (Nat.le_of_ble_eq_true rfl) dX12_findSpread_78) hS (fun r100 H locs hf hP hS => ?_)
                refine lv_icmp_ge (tgt := 88) hx hb dX12_findSpread_81 (by decide) (fun hc => ?_) (fun hc => ?_)
                · have hf := (OB_t hf hc)
                  refine lv_iconst (v := 0) hx hb dX12_findSpread_88 (by decide) ?_
                  refine W.eq (g2 := F0 m 89 ls [.int (bI false)]) rfl ?_
                  exact (OB_some hf) _ _ _ hP hS (lv_sub hl [1, 2, 3, 0] rfl)
                · have hf := (OB_f hf hc)
                  refine lv_iconst (v := 1) hx hb dX12_findSpread_84 (by decide) ?_
                  refine lv_goto (tgt := 89) hx hb dX12_findSpread_85 (by decide) ?_
                  refine W.eq (g2 := F0 m 89 ls [.int (bI true)]) rfl ?_
                  exact (OB_some hf) _ _ _ hP hS (lv_sub hl [1, 2, 3, 0] rfl)
def rm_X12_spreadOf : Room := { frames := 6, cells := 0, slots := 0, locals := 148 }
set_option maxRecDepth 100000 in
set_option maxHeartbeats 8000000 in
theorem c_X12_spreadOf {l : Launch} {G : GG} {a1 : Int32} {a2 : Int32} {M : Mem} {h : Int64}  {P9 : (Int32 × Mem) → Prop} (hf : OB (f_X12_spreadOf a1 a2 M) P9) : Met1 l yX12_spreadOf cX12_spreadOf 3 (some .int) rm_X12_spreadOf G [.ref (xa G 132), .int a1, .int a2] M h (QI1 G h P9) := by
  unfold f_X12_spreadOf at hf
  refine xm_i1 (by decide) (Nat.le_of_ble_eq_true rfl) ?_
  intro p e s m args below meth c ls Q C hE hret hP hS hl
  have C : CallFix p m c cX12_spreadOf 3 s args TB RX12 := C
  have hx := C.1
  have hb := C.2.1
  have hl : lv_has ls 3 [(0, .ref (xa G 132)), (1, .int a1), (2, .int a2)] := hl
  refine lv_aload_n hx hb dX12_spreadOf_0 rfl (lv_at hl 0 rfl) ?_
  refine lv_iload_n hx hb dX12_spreadOf_1 rfl (lv_at hl 1 rfl) ?_
  refine lv_iload_n hx hb dX12_spreadOf_2 rfl (lv_at hl 2 rfl) ?_
  refine x_cv1 (rest := []) (x_runV C hE hP hS ykX12_findSpread lkX12_299 sh132 rfl (c_X12_findSpread (OB_bind hf)) (by decide) rfl hl.1 (Nat.le_of_ble_eq_true rfl) dX12_spreadOf_3) hS (fun M1 H locs hf hP hS => ?_)
  refine lv_aload_n hx hb dX12_spreadOf_6 rfl (lv_at hl 0 rfl) ?_
  refine gfX12_290 C hE hP dX12_spreadOf_7 ?_
  exact hret _ _ _ _ _ _ (OB_some hf) hP hS dX12_spreadOf_10
def rm_X12_spread : Room := { frames := 6, cells := 0, slots := 0, locals := 148 }
set_option maxRecDepth 100000 in
set_option maxHeartbeats 8000000 in
theorem c_X12_spread {l : Launch} {G : GG} {a1 : Int32} {a2 : Int32} {a3 : Int32} {M : Mem} {h : Int64}  {P9 : (Int32 × Mem) → Prop} (hf : OB (f_X12_spread a1 a2 a3 M) P9) : Met1 l yX12_spread cX12_spread 4 (some .int) rm_X12_spread G [.ref (xa G 132), .int a1, .int a2, .int a3] M h (QI1 G h P9) := by
  unfold f_X12_spread at hf
  refine xm_i1 (by decide) (Nat.le_of_ble_eq_true rfl) ?_
  intro p e s m args below meth c ls Q C hE hret hP hS hl
  have C : CallFix p m c cX12_spread 4 s args TB RX12 := C
  have hx := C.1
  have hb := C.2.1
  have hl : lv_has ls 4 [(0, .ref (xa G 132)), (1, .int a1), (2, .int a2), (3, .int a3)] := hl
  refine lv_iload_n hx hb dX12_spread_0 rfl (lv_at hl 1 rfl) ?_
  refine x_cz0 (rest := []) (x_runS C hE hP hS ykX12_isHolder lkX12_252 (c_X12_isHolder (OB_bind hf)) (by decide) rfl hl.1 (Nat.le_of_ble_eq_true rfl) dX12_spread_1) hS (fun r1 H locs hf hP hS => ?_)
  refine lv_if_eq (tgt := 15) hx hb dX12_spread_4 (by decide) (fun hc => ?_) (fun hc => ?_)
  · have hf := (OB_f hf (bI_f hc))
    refine lv_bipush (v := -101) hx hb dX12_spread_15 (by decide) ?_
    exact hret _ _ _ _ _ _ (OB_some hf) hP hS dX12_spread_17
  · have hf := (OB_t hf (bI_t hc))
    refine lv_aload_n hx hb dX12_spread_7 rfl (lv_at hl 0 rfl) ?_
    refine lv_iload_n hx hb dX12_spread_8 rfl (lv_at hl 2 rfl) ?_
    refine x_cz0 (rest := []) (x_runV C hE hP hS ykX12_isBeast lkX12_280 sh132 rfl (c_X12_isBeast (OB_bind hf)) (by decide) rfl hl.1 (Nat.le_of_ble_eq_true rfl) dX12_spread_9) hS (fun r2 H locs hf hP hS => ?_)
    refine lv_if_ne (tgt := 18) hx hb dX12_spread_12 (by decide) (fun hc => ?_) (fun hc => ?_)
    · have hf := (OB_t hf (bI_t hc))
      refine lv_iload_n hx hb dX12_spread_18 rfl (lv_at hl 3 rfl) ?_
      refine lv_i2l hx hb dX12_spread_19 rfl ?_
      refine lv_lconst (v := 0) hx hb dX12_spread_20 (by decide) ?_
      refine lv_lconst (v := 1) hx hb dX12_spread_21 (by decide) ?_
      refine x_cz0 (rest := []) (x_runS C hE hP hS ykX12_in lkX12_92 (c_X12_in (OB_bind hf)) (by decide) rfl hl.1 (Nat.le_of_ble_eq_true rfl) dX12_spread_22) hS (fun r3 H locs hf hP hS => ?_)
      refine lv_if_ne (tgt := 31) hx hb dX12_spread_25 (by decide) (fun hc => ?_) (fun hc => ?_)
      · have hf := (OB_t hf (bI_t hc))
        refine lv_aload_n hx hb dX12_spread_31 rfl (lv_at hl 0 rfl) ?_
        refine lv_iload_n hx hb dX12_spread_32 rfl (lv_at hl 1 rfl) ?_
        refine lv_iload_n hx hb dX12_spread_33 rfl (lv_at hl 2 rfl) ?_
        refine x_cv1 (rest := []) (x_runV C hE hP hS ykX12_findSpread lkX12_299 sh132 rfl (c_X12_findSpread (OB_bind hf)) (by decide) rfl hl.1 (Nat.le_of_ble_eq_true rfl) dX12_spread_34) hS (fun M4 H locs hf hP hS => ?_)
        refine lv_iload_n hx hb dX12_spread_37 rfl (lv_at hl 3 rfl) ?_
        refine xj (fun (x5 : Int32) => ∀ (H : Heap) (locs : List Loc) (ls : Array Slot), va_P G.1 vwCl (wl G M4 h) H → va_S (Aw G) s.heap H locs → lv_has ls 4 [] → W p l e rm_X12_spread s m args below meth c H locs 0 0 Q (F0 m 52 ls [.int x5])) hf ?_ (fun hf => ?_)
        · rintro x5 hf H locs ls hP hS hl
          exact hret _ _ _ _ _ _ (OB_some hf) hP hS dX12_spread_52
        · skip
          refine lv_if_ne (tgt := 48) hx hb dX12_spread_38 (by decide) (fun hc => ?_) (fun hc => ?_)
          · have hf := (OB_f hf hc)
            refine lv_aload_n hx hb dX12_spread_48 rfl (lv_at hl 0 rfl) ?_
            refine gfX12_293 C hE hP dX12_spread_49 ?_
            exact (OB_some hf) _ _ _ hP hS (lv_sub hl [] rfl)
          · have hf := (OB_t hf hc)
            refine lv_aload_n hx hb dX12_spread_41 rfl (lv_at hl 0 rfl) ?_
            refine gfX12_290 C hE hP dX12_spread_42 ?_
            refine lv_goto (tgt := 52) hx hb dX12_spread_45 (by decide) ?_
            exact (OB_some hf) _ _ _ hP hS (lv_sub hl [] rfl)
      · have hf := (OB_f hf (bI_f hc))
        refine lv_bipush (v := -102) hx hb dX12_spread_28 (by decide) ?_
        exact hret _ _ _ _ _ _ (OB_some hf) hP hS dX12_spread_30
    · have hf := (OB_f hf (bI_f hc))
      refine lv_bipush (v := -101) hx hb dX12_spread_15 (by decide) ?_
      exact hret _ _ _ _ _ _ (OB_some hf) hP hS dX12_spread_17
def rm_X12_unlike : Room := { frames := 7, cells := 0, slots := 0, locals := 170 }
set_option maxRecDepth 100000 in
set_option maxHeartbeats 8000000 in
theorem c_X12_unlike {l : Launch} {G : GG} {a1 : Int32} {M : Mem} {h : Int64}  {P9 : (Int32 × Mem) → Prop} (hf : OB (f_X12_unlike a1 M) P9) : Met1 l yX12_unlike cX12_unlike 9 (some .int) rm_X12_unlike G [.ref (xa G 132), .int a1] M h (QI1 G h P9) := by
  unfold f_X12_unlike at hf
  refine xm_i1 (by decide) (Nat.le_of_ble_eq_true rfl) ?_
  intro p e s m args below meth c ls Q C hE hret hP hS hl
  have C : CallFix p m c cX12_unlike 9 s args TB RX12 := C
  have hx := C.1
  have hb := C.2.1
  have hl : lv_has ls 9 [(0, .ref (xa G 132)), (1, .int a1)] := hl
  refine lv_iload_n hx hb dX12_unlike_0 rfl (lv_at hl 1 rfl) ?_
  refine lv_i2l hx hb dX12_unlike_1 rfl ?_
  refine lv_lconst (v := 0) hx hb dX12_unlike_2 (by decide) ?_
  refine lv_lconst (v := 1) hx hb dX12_unlike_3 (by decide) ?_
  refine x_cz0 (rest := []) (x_runS C hE hP hS ykX12_in lkX12_92 (c_X12_in (OB_bind hf)) (by decide) rfl hl.1 (Nat.le_of_ble_eq_true rfl) dX12_unlike_4) hS (fun r1 H locs hf hP hS => ?_)
  refine lv_if_ne (tgt := 13) hx hb dX12_unlike_7 (by decide) (fun hc => ?_) (fun hc => ?_)
  · have hf := (OB_t hf (bI_t hc))
    refine lv_iconst (v := 0) hx hb dX12_unlike_13 (by decide) ?_
    refine lv_istore_n (lv' := [(2, .int 0), (0, .ref (xa G 132)), (1, .int a1)]) hx hb dX12_unlike_14 rfl hl (by decide) rfl (fun ls hl => ?_)
    refine lv_iconst (v := -1) hx hb dX12_unlike_15 (by decide) ?_
    refine lv_istore_n (lv' := [(3, .int (-1)), (2, .int 0), (0, .ref (xa G 132)), (1, .int a1)]) hx hb dX12_unlike_16 rfl hl (by decide) rfl (fun ls hl => ?_)
    refine lv_iconst (v := -1) hx hb dX12_unlike_17 (by decide) ?_
    refine lv_istore (lv' := [(4, .int (-1)), (3, .int (-1)), (2, .int 0), (0, .ref (xa G 132)), (1, .int a1)]) hx hb dX12_unlike_18 hl (by decide) rfl (fun ls hl => ?_)
    refine lv_iconst (v := 0) hx hb dX12_unlike_20 (by decide) ?_
    refine lv_istore (lv' := [(5, .int 0), (4, .int (-1)), (3, .int (-1)), (2, .int 0), (0, .ref (xa G 132)), (1, .int a1)]) hx hb dX12_unlike_21 hl (by decide) rfl (fun ls hl => ?_)
    refine xj (fun (zz : (Int32 × Int32 × Mem)) => match zz with | (x88, x89, M90) => ∀ (H : Heap) (locs : List Loc) (ls : Array Slot), va_P G.1 vwCl (wl G M90 h) H → va_S (Aw G) s.heap H locs → lv_has ls 9 [(1, .int a1), (2, .int x88), (3, .int x89)] → W p l e rm_X12_unlike s m args below meth c H locs 0 0 Q (F0 m 129 ls [])) hf ?_ (fun hf => ?_)
    · rintro ⟨x88, x89, M90⟩ hf H locs ls hP hS hl
      refine lv_iload_n hx hb dX12_unlike_129 rfl (lv_at hl 0 rfl) ?_
      refine xj (fun (x113 : Int32) => ∀ (H : Heap) (locs : List Loc) (ls : Array Slot), va_P G.1 vwCl (wl G M90 h) H → va_S (Aw G) s.heap H locs → lv_has ls 9 [] → W p l e rm_X12_unlike s m args below meth c H locs 0 0 Q (F0 m 138 ls [.int x113])) hf ?_ (fun hf => ?_)
      · rintro x113 hf H locs ls hP hS hl
        exact hret _ _ _ _ _ _ (OB_some hf) hP hS dX12_unlike_138
      · skip
        refine lv_if_ne (tgt := 137) hx hb dX12_unlike_130 (by decide) (fun hc => ?_) (fun hc => ?_)
        · have hf := (OB_f hf hc)
          refine lv_iload_n hx hb dX12_unlike_137 rfl (lv_at hl 2 rfl) ?_
          exact (OB_some hf) _ _ _ hP hS (lv_sub hl [] rfl)
        · have hf := (OB_t hf hc)
          refine lv_iload_n hx hb dX12_unlike_133 rfl (lv_at hl 1 rfl) ?_
          refine lv_goto (tgt := 138) hx hb dX12_unlike_134 (by decide) ?_
          exact (OB_some hf) _ _ _ hP hS (lv_sub hl [] rfl)
    · refine (it_W (fun (zz : (Int32 × Int32 × Int32 × Int32 × Mem)) => match zz with | (x83, x84, x85, x86, M87) => ∀ (H : Heap) (locs : List Loc) (ls : Array Slot), va_P G.1 vwCl (wl G M87 h) H → va_S (Aw G) s.heap H locs → lv_has ls 9 [(0, .ref (xa G 132)), (1, .int a1), (2, .int x83), (3, .int x84), (4, .int x85), (5, .int x86)] → W p l e rm_X12_unlike s m args below meth c H locs 0 0 Q (F0 m 23 ls [])) hf ?_) _ _ _ hP hS (lv_sub hl [4, 5, 3, 2, 1, 0] rfl)
      rintro ⟨x83, x84, x85, x86, M87⟩ hf H locs ls hP hS hl
      unfold f_X12_unlike_b23 at hf
      refine lv_iload hx hb dX12_unlike_23 (lv_at hl 5 rfl) ?_
      refine lv_aload_n hx hb dX12_unlike_25 rfl (lv_at hl 0 rfl) ?_
      refine gfX12_265 C hE hP dX12_unlike_26 ?_
      refine lv_icmp_ge (tgt := 129) hx hb dX12_unlike_29 (by decide) (fun hc => ?_) (fun hc => ?_)
      · have hf := (OB_t hf hc)
        exact (it_e hf) _ _ _ hP hS (lv_sub hl [1, 2, 3] rfl)
      · have hf := (OB_f hf hc)
        refine lv_aload_n hx hb dX12_unlike_32 rfl (lv_at hl 0 rfl) ?_
        refine lv_iconst (v := 0) hx hb dX12_unlike_33 (by decide) ?_
        refine lv_iload hx hb dX12_unlike_34 (lv_at hl 5 rfl) ?_
        refine x_ci1 (rest := []) (x_runV C hE hP hS ykX12_spreadOf lkX12_302 sh132 rfl (c_X12_spreadOf (OB_bind hf)) (by decide) rfl hl.1 (Nat.le_of_ble_eq_true rfl) dX12_unlike_36) hS (fun r91 M92 H locs hf hP hS => ?_)
        refine lv_istore (lv' := [(6, .int r91), (0, .ref (xa G 132)), (1, .int a1), (2, .int x83), (3, .int x84), (4, .int x85), (5, .int x86)]) hx hb dX12_unlike_39 hl (by decide) rfl (fun ls hl => ?_)
        refine lv_aload_n hx hb dX12_unlike_41 rfl (lv_at hl 1 rfl) ?_
        refine lv_iconst (v := 1) hx hb dX12_unlike_42 (by decide) ?_
        refine lv_iload hx hb dX12_unlike_43 (lv_at hl 6 rfl) ?_
        refine x_ci1 (rest := []) (x_runV C hE hP hS ykX12_spreadOf lkX12_302 sh132 rfl (c_X12_spreadOf (OB_bind hf)) (by decide) rfl hl.1 (Nat.le_of_ble_eq_true rfl) dX12_unlike_45) hS (fun r93 M94 H locs hf hP hS => ?_)
        refine lv_istore (lv' := [(7, .int r93), (6, .int r91), (0, .ref (xa G 132)), (1, .int a1), (2, .int x83), (3, .int x84), (4, .int x85), (5, .int x86)]) hx hb dX12_unlike_48 hl (by decide) rfl (fun ls hl => ?_)
        refine lv_iload hx hb dX12_unlike_50 (lv_at hl 1 rfl) ?_
        refine lv_iload hx hb dX12_unlike_52 (lv_at hl 0 rfl) ?_
        refine xj (fun (zz : (Int32 × Int32 × Int32)) => match zz with | (x105, x106, x107) => ∀ (H : Heap) (locs : List Loc) (ls : Array Slot), va_P G.1 vwCl (wl G M94 h) H → va_S (Aw G) s.heap H locs → lv_has ls 9 [(0, .ref (xa G 132)), (1, .int a1), (2, .int x105), (3, .int x106), (4, .int x107), (5, .int x86)] → W p l e rm_X12_unlike s m args below meth c H locs 0 0 Q (F0 m 123 ls [])) hf ?_ (fun hf => ?_)
        · rintro ⟨x105, x106, x107⟩ hf H locs ls hP hS hl
          refine lv_iinc (v := (x86 + 1)) (lv' := [(5, .int (x86 + 1)), (0, .ref (xa G 132)), (1, .int a1), (2, .int x105), (3, .int x106), (4, .int x107)]) hx hb dX12_unlike_123 hl (k := 5) rfl rfl (by decide) rfl (fun ls hl => ?_)
          refine lv_goto (tgt := 23) hx hb dX12_unlike_126 (by decide) ?_
          exact (it_c hf) _ _ _ hP hS (lv_sub hl [1, 2, 3, 4, 5, 0] rfl)
        · skip
          refine lv_icmp_eq (tgt := 123) hx hb dX12_unlike_54 (by decide) (fun hc => ?_) (fun hc => ?_)
          · have hf := (OB_t hf hc)
            exact (OB_some hf) _ _ _ hP hS (lv_sub hl [2, 3, 4, 5, 6, 7] rfl)
          · have hf := (OB_f hf hc)
            refine lv_iload hx hb dX12_unlike_57 (lv_at hl 1 rfl) ?_
            refine lv_iconst (v := -1) hx hb dX12_unlike_59 (by decide) ?_
            refine xj (fun (x108 : Int32) => ∀ (H : Heap) (locs : List Loc) (ls : Array Slot), va_P G.1 vwCl (wl G M94 h) H → va_S (Aw G) s.heap H locs → lv_has ls 9 [(0, .ref (xa G 132)), (1, .int a1), (2, .int x83), (3, .int x84), (4, .int x85), (5, .int x86), (7, .int r93)] → W p l e rm_X12_unlike s m args below meth c H locs 0 0 Q (F0 m 71 ls [.int x108])) hf ?_ (fun hf => ?_)
            · rintro x108 hf H locs ls hP hS hl
              refine lv_iload hx hb dX12_unlike_71 (lv_at hl 6 rfl) ?_
              refine lv_iconst (v := -1) hx hb dX12_unlike_73 (by decide) ?_
              refine xj (fun (x109 : Int32) => ∀ (H : Heap) (locs : List Loc) (ls : Array Slot), va_P G.1 vwCl (wl G M94 h) H → va_S (Aw G) s.heap H locs → lv_has ls 9 [(0, .ref (xa G 132)), (1, .int a1), (2, .int x83), (3, .int x84), (4, .int x85), (5, .int x86)] → W p l e rm_X12_unlike s m args below meth c H locs 0 0 Q (F0 m 85 ls [.int x109, .int x108])) hf ?_ (fun hf => ?_)
              · rintro x109 hf H locs ls hP hS hl
                refine x_ci0 (rest := []) (x_runS C hE hP hS ykX12_off lkX12_137 (c_X12_off (OB_bind hf)) (by decide) rfl hl.1 (Nat.le_of_ble_eq_true rfl) dX12_unlike_85) hS (fun r110 H locs hf hP hS => ?_)
                refine lv_istore (lv' := [(8, .int r110), (0, .ref (xa G 132)), (1, .int a1), (2, .int x83), (3, .int x84), (4, .int x85), (5, .int x86)]) hx hb dX12_unlike_88 hl (by decide) rfl (fun ls hl => ?_)
                refine lv_iinc (v := (x83 + 1)) (lv' := [(2, .int (x83 + 1)), (8, .int r110), (0, .ref (xa G 132)), (1, .int a1), (3, .int x84), (4, .int x85), (5, .int x86)]) hx hb dX12_unlike_90 hl (k := 3) rfl rfl (by decide) rfl (fun ls hl => ?_)
                refine lv_iload hx hb dX12_unlike_93 (lv_at hl 1 rfl) ?_
                refine lv_iload hx hb dX12_unlike_95 (lv_at hl 5 rfl) ?_
                refine xj (fun (x111 : Int32) => ∀ (H : Heap) (locs : List Loc) (ls : Array Slot), va_P G.1 vwCl (wl G M94 h) H → va_S (Aw G) s.heap H locs → lv_has ls 9 [(0, .ref (xa G 132)), (1, .int a1), (2, .int (x83 + 1)), (4, .int x85), (5, .int x86), (8, .int r110)] → W p l e rm_X12_unlike s m args below meth c H locs 0 0 Q (F0 m 106 ls [.int x111])) hf ?_ (fun hf => ?_)
                · rintro x111 hf H locs ls hP hS hl
                  refine lv_istore_n (lv' := [(3, .int x111), (0, .ref (xa G 132)), (1, .int a1), (2, .int (x83 + 1)), (4, .int x85), (5, .int x86), (8, .int r110)]) hx hb dX12_unlike_106 rfl hl (by decide) rfl (fun ls hl => ?_)
                  refine lv_iload hx hb dX12_unlike_107 (lv_at hl 6 rfl) ?_
                  refine lv_iload hx hb dX12_unlike_109 (lv_at hl 4 rfl) ?_
                  refine xj (fun (x112 : Int32) => ∀ (H : Heap) (locs : List Loc) (ls : Array Slot), va_P G.1 vwCl (wl G M94 h) H → va_S (Aw G) s.heap H locs → lv_has ls 9 [(0, .ref (xa G 132)), (1, .int a1), (2, .int (x83 + 1)), (3, .int x111), (5, .int x86)] → W p l e rm_X12_unlike s m args below meth c H locs 0 0 Q (F0 m 121 ls [.int x112])) hf ?_ (fun hf => ?_)
                  · rintro x112 hf H locs ls hP hS hl
                    refine lv_istore (lv' := [(4, .int x112), (0, .ref (xa G 132)), (1, .int a1), (2, .int (x83 + 1)), (3, .int x111), (5, .int x86)]) hx hb dX12_unlike_121 hl (by decide) rfl (fun ls hl => ?_)
                    exact (OB_some hf) _ _ _ hP hS (lv_sub hl [1, 2, 3, 4, 0, 5] rfl)
                  · skip
                    refine lv_icmp_le (tgt := 119) hx hb dX12_unlike_111 (by decide) (fun hc => ?_) (fun hc => ?_)
                    · have hf := (OB_t hf hc)
                      refine lv_iload hx hb dX12_unlike_119 (lv_at hl 4 rfl) ?_
                      exact (OB_some hf) _ _ _ hP hS (lv_sub hl [1, 2, 3, 0, 5] rfl)
                    · have hf := (OB_f hf hc)
                      refine lv_iload hx hb dX12_unlike_114 (lv_at hl 6 rfl) ?_
                      refine lv_goto (tgt := 121) hx hb dX12_unlike_116 (by decide) ?_
                      exact (OB_some hf) _ _ _ hP hS (lv_sub hl [1, 2, 3, 0, 5] rfl)
                · skip
                  refine lv_icmp_le (tgt := 105) hx hb dX12_unlike_97 (by decide) (fun hc => ?_) (fun hc => ?_)
                  · have hf := (OB_t hf hc)
                    refine lv_iload_n hx hb dX12_unlike_105 rfl (lv_at hl 4 rfl) ?_
                    exact (OB_some hf) _ _ _ hP hS (lv_sub hl [2, 3, 0, 5, 6, 1] rfl)
                  · have hf := (OB_f hf hc)
                    refine lv_iload hx hb dX12_unlike_100 (lv_at hl 6 rfl) ?_
                    refine lv_goto (tgt := 106) hx hb dX12_unlike_102 (by decide) ?_
                    exact (OB_some hf) _ _ _ hP hS (lv_sub hl [2, 3, 0, 5, 6, 1] rfl)
              · skip
                refine lv_icmp_ne (tgt := 83) hx hb dX12_unlike_74 (by decide) (fun hc => ?_) (fun hc => ?_)
                · have hf := (OB_f hf hc)
                  refine lv_iload hx hb dX12_unlike_83 (lv_at hl 6 rfl) ?_
                  exact (OB_some hf) _ _ _ hP hS (lv_sub hl [0, 1, 2, 3, 4, 5] rfl)
                · have hf := (OB_t hf hc)
                  refine lv_sipush (v := 999) hx hb dX12_unlike_77 (by decide) ?_
                  refine lv_goto (tgt := 85) hx hb dX12_unlike_80 (by decide) ?_
                  exact (OB_some hf) _ _ _ hP hS (lv_sub hl [0, 1, 2, 3, 4, 5] rfl)
            · skip
              refine lv_icmp_ne (tgt := 69) hx hb dX12_unlike_60 (by decide) (fun hc => ?_) (fun hc => ?_)
              · have hf := (OB_f hf hc)
                refine lv_iload hx hb dX12_unlike_69 (lv_at hl 1 rfl) ?_
                exact (OB_some hf) _ _ _ hP hS (lv_sub hl [2, 3, 4, 5, 6, 7, 0] rfl)
              · have hf := (OB_t hf hc)
                refine lv_sipush (v := 999) hx hb dX12_unlike_63 (by decide) ?_
                refine lv_goto (tgt := 71) hx hb dX12_unlike_66 (by decide) ?_
                exact (OB_some hf) _ _ _ hP hS (lv_sub hl [2, 3, 4, 5, 6, 7, 0] rfl)
  · have hf := (OB_f hf (bI_f hc))
    refine lv_bipush (v := -102) hx hb dX12_unlike_10 (by decide) ?_
    exact hret _ _ _ _ _ _ (OB_some hf) hP hS dX12_unlike_12
def rm_X12_speed : Room := { frames := 1, cells := 0, slots := 0, locals := 25 }
set_option maxRecDepth 100000 in
set_option maxHeartbeats 8000000 in
theorem c_X12_speed {l : Launch} {G : GG} {a1 : Int32} {M : Mem} {h : Int64}  {P9 : (Int32 × Mem) → Prop} (hf : OB (f_X12_speed a1 M) P9) : Met1 l yX12_speed cX12_speed 3 (some .int) rm_X12_speed G [.ref (xa G 132), .int a1] M h (QI1 G h P9) := by
  unfold f_X12_speed at hf
  refine xm_i1 (by decide) (Nat.le_of_ble_eq_true rfl) ?_
  intro p e s m args below meth c ls Q C hE hret hP hS hl
  have C : CallFix p m c cX12_speed 3 s args TB RX12 := C
  have hx := C.1
  have hb := C.2.1
  have hl : lv_has ls 3 [(0, .ref (xa G 132)), (1, .int a1)] := hl
  refine lv_iload_n hx hb dX12_speed_0 rfl (lv_at hl 1 rfl) ?_
  refine lv_i2l hx hb dX12_speed_1 rfl ?_
  refine lv_lconst (v := 0) hx hb dX12_speed_2 (by decide) ?_
  refine lv_ldc2 hx hb C.2.2.2.1 (C.2.2.2.2 _ ckX12_112) dX12_speed_3 ?_
  refine x_cz0 (rest := []) (x_runS C hE hP hS ykX12_in lkX12_92 (c_X12_in (OB_bind hf)) (by decide) rfl hl.1 (Nat.le_of_ble_eq_true rfl) dX12_speed_6) hS (fun r1 H locs hf hP hS => ?_)
  refine lv_if_ne (tgt := 15) hx hb dX12_speed_9 (by decide) (fun hc => ?_) (fun hc => ?_)
  · have hf := (OB_t hf (bI_t hc))
    refine lv_aload_n hx hb dX12_speed_15 rfl (lv_at hl 0 rfl) ?_
    refine gfX12_86 C hE hP dX12_speed_16 ?_
    refine lv_istore_n (lv' := [(2, .int (M 132 33)), (0, .ref (xa G 132)), (1, .int a1)]) hx hb dX12_speed_19 rfl hl (by decide) rfl (fun ls hl => ?_)
    refine lv_aload_n hx hb dX12_speed_20 rfl (lv_at hl 1 rfl) ?_
    refine lv_iload_n hx hb dX12_speed_21 rfl (lv_at hl 2 rfl) ?_
    refine pfX12_86 C hE hP hS dX12_speed_22 (fun H locs hP hS => ?_)
    refine lv_iload_n hx hb dX12_speed_25 rfl (lv_at hl 0 rfl) ?_
    exact hret _ _ _ _ _ _ (OB_some hf) hP hS dX12_speed_26
  · have hf := (OB_f hf (bI_f hc))
    refine lv_bipush (v := -102) hx hb dX12_speed_12 (by decide) ?_
    exact hret _ _ _ _ _ _ (OB_some hf) hP hS dX12_speed_14
def rm_X12_claim : Room := { frames := 3, cells := 0, slots := 0, locals := 66 }
set_option maxRecDepth 100000 in
set_option maxHeartbeats 8000000 in
theorem c_X12_claim {l : Launch} {G : GG} {a1 : Int32} {a2 : Int32} {a3 : Int32} {a4 : Bool} {a5 : Int32} {M : Mem} {h : Int64}  {P9 : (Int32 × Mem) → Prop} (hf : OB (f_X12_claim a1 a2 a3 a4 a5 M) P9) : Met1 l yX12_claim cX12_claim 6 (some .int) rm_X12_claim G [.ref (xa G 132), .int a1, .int a2, .int a3, .int (bI a4), .int a5] M h (QI1 G h P9) := by
  unfold f_X12_claim at hf
  refine xm_i1 (by decide) (Nat.le_of_ble_eq_true rfl) ?_
  intro p e s m args below meth c ls Q C hE hret hP hS hl
  have C : CallFix p m c cX12_claim 6 s args TB RX12 := C
  have hx := C.1
  have hb := C.2.1
  have hl : lv_has ls 6 [(0, .ref (xa G 132)), (1, .int a1), (2, .int a2), (3, .int a3), (4, .int (bI a4)), (5, .int a5)] := hl
  refine lv_iload_n hx hb dX12_claim_0 rfl (lv_at hl 1 rfl) ?_
  refine lv_iload_n hx hb dX12_claim_1 rfl (lv_at hl 2 rfl) ?_
  refine x_cz0 (rest := []) (x_runS C hE hP hS ykX12_isPair lkX12_167 (c_X12_isPair (OB_bind hf)) (by decide) rfl hl.1 (Nat.le_of_ble_eq_true rfl) dX12_claim_2) hS (fun r1 H locs hf hP hS => ?_)
  refine lv_if_ne (tgt := 11) hx hb dX12_claim_5 (by decide) (fun hc => ?_) (fun hc => ?_)
  · have hf := (OB_t hf (bI_t hc))
    refine lv_iload_n hx hb dX12_claim_11 rfl (lv_at hl 3 rfl) ?_
    refine lv_i2l hx hb dX12_claim_12 rfl ?_
    refine lv_lconst (v := 0) hx hb dX12_claim_13 (by decide) ?_
    refine lv_ldc2 hx hb C.2.2.2.1 (C.2.2.2.2 _ ckX12_263) dX12_claim_14 ?_
    refine x_cz0 (rest := []) (x_runS C hE hP hS ykX12_in lkX12_92 (c_X12_in (OB_bind hf)) (by decide) rfl hl.1 (Nat.le_of_ble_eq_true rfl) dX12_claim_17) hS (fun r2 H locs hf hP hS => ?_)
    refine lv_if_eq (tgt := 36) hx hb dX12_claim_20 (by decide) (fun hc => ?_) (fun hc => ?_)
    · have hf := (OB_f hf (bI_f hc))
      refine lv_bipush (v := -102) hx hb dX12_claim_36 (by decide) ?_
      exact hret _ _ _ _ _ _ (OB_some hf) hP hS dX12_claim_38
    · have hf := (OB_t hf (bI_t hc))
      refine lv_iload hx hb dX12_claim_23 (lv_at hl 5 rfl) ?_
      refine lv_i2l hx hb dX12_claim_25 rfl ?_
      refine lv_lconst (v := 1) hx hb dX12_claim_26 (by decide) ?_
      refine lv_ldc2 hx hb C.2.2.2.1 (C.2.2.2.2 _ ckX12_305) dX12_claim_27 ?_
      refine x_cz0 (rest := []) (x_runS C hE hP hS ykX12_in lkX12_92 (c_X12_in (OB_bind hf)) (by decide) rfl hl.1 (Nat.le_of_ble_eq_true rfl) dX12_claim_30) hS (fun r3 H locs hf hP hS => ?_)
      refine lv_if_ne (tgt := 39) hx hb dX12_claim_33 (by decide) (fun hc => ?_) (fun hc => ?_)
      · have hf := (OB_t hf (bI_t hc))
        refine lv_aload_n hx hb dX12_claim_39 rfl (lv_at hl 0 rfl) ?_
        refine gfX12_307 C hE hP dX12_claim_40 ?_
        refine lv_bipush (v := 12) hx hb dX12_claim_43 (by decide) ?_
        refine lv_icmp_ne (tgt := 51) hx hb dX12_claim_45 (by decide) (fun hc => ?_) (fun hc => ?_)
        · have hf := (OB_f hf hc)
          refine lv_aload_n hx hb dX12_claim_51 rfl (lv_at hl 0 rfl) ?_
          refine gfX12_68 C hE hP dX12_claim_52 ?_
          refine lv_aload_n hx hb dX12_claim_55 rfl (lv_at hl 0 rfl) ?_
          refine gfX12_307 C hE hP dX12_claim_56 ?_
          refine lv_iload_n hx hb dX12_claim_59 rfl (lv_at hl 1 rfl) ?_
          obtain ⟨g4, hf⟩ := OB_g hf
          refine x_iast C hE hP hS sh152 g4 dX12_claim_60 (fun H locs hP hS => ?_)
          refine lv_aload_n hx hb dX12_claim_61 rfl (lv_at hl 0 rfl) ?_
          refine gfX12_71 C hE hP dX12_claim_62 ?_
          refine lv_aload_n hx hb dX12_claim_65 rfl (lv_at hl 0 rfl) ?_
          refine gfX12_307 C hE hP dX12_claim_66 ?_
          refine lv_iload_n hx hb dX12_claim_69 rfl (lv_at hl 2 rfl) ?_
          obtain ⟨g5, hf⟩ := OB_g hf
          refine x_iast C hE hP hS sh153 g5 dX12_claim_70 (fun H locs hP hS => ?_)
          refine lv_aload_n hx hb dX12_claim_71 rfl (lv_at hl 0 rfl) ?_
          refine gfX12_74 C hE hP dX12_claim_72 ?_
          refine lv_aload_n hx hb dX12_claim_75 rfl (lv_at hl 0 rfl) ?_
          refine gfX12_307 C hE hP dX12_claim_76 ?_
          refine lv_iload_n hx hb dX12_claim_79 rfl (lv_at hl 3 rfl) ?_
          obtain ⟨g6, hf⟩ := OB_g hf
          refine x_iast C hE hP hS sh154 g6 dX12_claim_80 (fun H locs hP hS => ?_)
          refine lv_aload_n hx hb dX12_claim_81 rfl (lv_at hl 0 rfl) ?_
          refine gfX12_77 C hE hP dX12_claim_82 ?_
          refine lv_aload_n hx hb dX12_claim_85 rfl (lv_at hl 0 rfl) ?_
          refine gfX12_307 C hE hP dX12_claim_86 ?_
          refine lv_iload hx hb dX12_claim_89 (lv_at hl 4 rfl) ?_
          obtain ⟨g7, hf⟩ := OB_g hf
          refine x_zast C hE hP hS sh155 (bI_v a4) g7 dX12_claim_91 (fun H locs hP hS => ?_)
          refine lv_aload_n hx hb dX12_claim_92 rfl (lv_at hl 0 rfl) ?_
          refine gfX12_80 C hE hP dX12_claim_93 ?_
          refine lv_aload_n hx hb dX12_claim_96 rfl (lv_at hl 0 rfl) ?_
          refine gfX12_307 C hE hP dX12_claim_97 ?_
          refine lv_iload hx hb dX12_claim_100 (lv_at hl 5 rfl) ?_
          obtain ⟨g8, hf⟩ := OB_g hf
          refine x_iast C hE hP hS sh156 g8 dX12_claim_102 (fun H locs hP hS => ?_)
          refine lv_aload_n hx hb dX12_claim_103 rfl (lv_at hl 0 rfl) ?_
          refine lv_dup hx hb dX12_claim_104 rfl ?_
          refine gfX12_307 C hE hP dX12_claim_105 ?_
          refine lv_iconst (v := 1) hx hb dX12_claim_108 (by decide) ?_
          refine lv_iadd hx hb dX12_claim_109 ?_
          refine pfX12_307 C hE hP hS dX12_claim_110 (fun H locs hP hS => ?_)
          refine lv_aload_n hx hb dX12_claim_113 rfl (lv_at hl 0 rfl) ?_
          refine gfX12_307 C hE hP dX12_claim_114 ?_
          refine lv_iconst (v := 1) hx hb dX12_claim_117 (by decide) ?_
          refine lv_isub hx hb dX12_claim_118 ?_
          exact hret _ _ _ _ _ _ (OB_some hf) hP hS dX12_claim_119
        · have hf := (OB_t hf hc)
          refine lv_bipush (v := -104) hx hb dX12_claim_48 (by decide) ?_
          exact hret _ _ _ _ _ _ (OB_some hf) hP hS dX12_claim_50
      · have hf := (OB_f hf (bI_f hc))
        refine lv_bipush (v := -102) hx hb dX12_claim_36 (by decide) ?_
        exact hret _ _ _ _ _ _ (OB_some hf) hP hS dX12_claim_38
  · have hf := (OB_f hf (bI_f hc))
    refine lv_bipush (v := -101) hx hb dX12_claim_8 (by decide) ?_
    exact hret _ _ _ _ _ _ (OB_some hf) hP hS dX12_claim_10
def rm_X12_broken : Room := { frames := 2, cells := 0, slots := 0, locals := 52 }
set_option maxRecDepth 100000 in
set_option maxHeartbeats 8000000 in
theorem c_X12_broken {l : Launch} {G : GG} {a1 : Int32} {a2 : Int32} {a3 : Int32} {M : Mem} {h : Int64}  {P9 : (Int32 × Mem) → Prop} (hf : OB (f_X12_broken a1 a2 a3 M) P9) : Met1 l yX12_broken cX12_broken 7 (some .int) rm_X12_broken G [.ref (xa G 132), .int a1, .int a2, .int a3] M h (QI1 G h P9) := by
  unfold f_X12_broken at hf
  refine xm_i1 (by decide) (Nat.le_of_ble_eq_true rfl) ?_
  intro p e s m args below meth c ls Q C hE hret hP hS hl
  have C : CallFix p m c cX12_broken 7 s args TB RX12 := C
  have hx := C.1
  have hb := C.2.1
  have hl : lv_has ls 7 [(0, .ref (xa G 132)), (1, .int a1), (2, .int a2), (3, .int a3)] := hl
  refine lv_iconst (v := 0) hx hb dX12_broken_0 (by decide) ?_
  refine lv_istore (lv' := [(4, .int 0), (0, .ref (xa G 132)), (1, .int a1), (2, .int a2), (3, .int a3)]) hx hb dX12_broken_1 hl (by decide) rfl (fun ls hl => ?_)
  refine lv_iconst (v := 0) hx hb dX12_broken_3 (by decide) ?_
  refine lv_istore (lv' := [(5, .int 0), (4, .int 0), (0, .ref (xa G 132)), (1, .int a1), (2, .int a2), (3, .int a3)]) hx hb dX12_broken_4 hl (by decide) rfl (fun ls hl => ?_)
  refine xj (fun (zz : (Int32 × Mem)) => match zz with | (x121, M122) => ∀ (H : Heap) (locs : List Loc) (ls : Array Slot), va_P G.1 vwCl (wl G M122 h) H → va_S (Aw G) s.heap H locs → lv_has ls 7 [(4, .int x121)] → W p l e rm_X12_broken s m args below meth c H locs 0 0 Q (F0 m 120 ls [])) hf ?_ (fun hf => ?_)
  · rintro ⟨x121, M122⟩ hf H locs ls hP hS hl
    refine lv_iload hx hb dX12_broken_120 (lv_at hl 0 rfl) ?_
    exact hret _ _ _ _ _ _ (OB_some hf) hP hS dX12_broken_122
  · refine (it_W (fun (zz : (Int32 × Int32 × Mem)) => match zz with | (x118, x119, M120) => ∀ (H : Heap) (locs : List Loc) (ls : Array Slot), va_P G.1 vwCl (wl G M120 h) H → va_S (Aw G) s.heap H locs → lv_has ls 7 [(0, .ref (xa G 132)), (1, .int a1), (2, .int a2), (3, .int a3), (4, .int x118), (5, .int x119)] → W p l e rm_X12_broken s m args below meth c H locs 0 0 Q (F0 m 6 ls [])) hf ?_) _ _ _ hP hS (lv_sub hl [2, 3, 4, 5, 1, 0] rfl)
    rintro ⟨x118, x119, M120⟩ hf H locs ls hP hS hl
    unfold f_X12_broken_b6 at hf
    refine lv_iload hx hb dX12_broken_6 (lv_at hl 5 rfl) ?_
    refine lv_aload_n hx hb dX12_broken_8 rfl (lv_at hl 0 rfl) ?_
    refine gfX12_307 C hE hP dX12_broken_9 ?_
    refine lv_icmp_ge (tgt := 120) hx hb dX12_broken_12 (by decide) (fun hc => ?_) (fun hc => ?_)
    · have hf := (OB_t hf hc)
      exact (it_e hf) _ _ _ hP hS (lv_sub hl [4] rfl)
    · have hf := (OB_f hf hc)
      refine lv_aload_n hx hb dX12_broken_15 rfl (lv_at hl 0 rfl) ?_
      refine gfX12_68 C hE hP dX12_broken_16 ?_
      refine lv_iload hx hb dX12_broken_19 (lv_at hl 5 rfl) ?_
      obtain ⟨g123, hf⟩ := OB_g hf
      refine x_iald C hE hP sh152 g123 dX12_broken_21 ?_
      refine lv_iload_n hx hb dX12_broken_22 rfl (lv_at hl 1 rfl) ?_
      refine xj (fun (zz : (Int32 × Mem)) => match zz with | (x146, M147) => ∀ (H : Heap) (locs : List Loc) (ls : Array Slot), va_P G.1 vwCl (wl G M147 h) H → va_S (Aw G) s.heap H locs → lv_has ls 7 [(0, .ref (xa G 132)), (1, .int a1), (2, .int a2), (3, .int a3), (4, .int x146), (5, .int x119)] → W p l e rm_X12_broken s m args below meth c H locs 0 0 Q (F0 m 114 ls [])) hf ?_ (fun hf => ?_)
      · rintro ⟨x146, M147⟩ hf H locs ls hP hS hl
        refine lv_iinc (v := (x119 + 1)) (lv' := [(5, .int (x119 + 1)), (0, .ref (xa G 132)), (1, .int a1), (2, .int a2), (3, .int a3), (4, .int x146)]) hx hb dX12_broken_114 hl (k := 5) rfl rfl (by decide) rfl (fun ls hl => ?_)
        refine lv_goto (tgt := 6) hx hb dX12_broken_117 (by decide) ?_
        exact (it_c hf) _ _ _ hP hS (lv_sub hl [1, 2, 3, 4, 5, 0] rfl)
      · skip
        refine lv_icmp_ne (tgt := 114) hx hb dX12_broken_23 (by decide) (fun hc => ?_) (fun hc => ?_)
        · have hf := (OB_f hf hc)
          exact (OB_some hf) _ _ _ hP hS (lv_sub hl [0, 1, 2, 3, 4, 5] rfl)
        · have hf := (OB_t hf hc)
          refine lv_aload_n hx hb dX12_broken_26 rfl (lv_at hl 0 rfl) ?_
          refine gfX12_74 C hE hP dX12_broken_27 ?_
          refine lv_iload hx hb dX12_broken_30 (lv_at hl 5 rfl) ?_
          refine x_iald C hE hP sh154 g123 dX12_broken_32 ?_
          refine lv_iload_n hx hb dX12_broken_33 rfl (lv_at hl 2 rfl) ?_
          refine lv_icmp_ne (tgt := 114) hx hb dX12_broken_34 (by decide) (fun hc => ?_) (fun hc => ?_)
          · have hf := (OB_f hf hc)
            exact (OB_some hf) _ _ _ hP hS (lv_sub hl [0, 1, 2, 3, 4, 5] rfl)
          · have hf := (OB_t hf hc)
            refine lv_aload_n hx hb dX12_broken_37 rfl (lv_at hl 0 rfl) ?_
            refine lv_aload_n hx hb dX12_broken_38 rfl (lv_at hl 0 rfl) ?_
            refine gfX12_71 C hE hP dX12_broken_39 ?_
            refine lv_iload hx hb dX12_broken_42 (lv_at hl 5 rfl) ?_
            refine x_iald C hE hP sh153 g123 dX12_broken_44 ?_
            refine lv_iload_n hx hb dX12_broken_45 rfl (lv_at hl 1 rfl) ?_
            refine lv_iconst (v := 0) hx hb dX12_broken_46 (by decide) ?_
            refine lv_iload_n hx hb dX12_broken_47 rfl (lv_at hl 3 rfl) ?_
            refine x_cz1 (rest := []) (x_runV C hE hP hS ykX12_lay lkX12_161 sh132 rfl (c_X12_lay (OB_bind hf)) (by decide) rfl hl.1 (Nat.le_of_ble_eq_true rfl) dX12_broken_48) hS (fun r148 M149 H locs hf hP hS => ?_)
            refine lv_pop hx hb dX12_broken_51 rfl ?_
            refine lv_aload_n hx hb dX12_broken_52 rfl (lv_at hl 0 rfl) ?_
            refine x_ci0 (rest := []) (x_runV C hE hP hS ykX12_overlap lkX12_151 sh132 rfl (c_X12_overlap (OB_bind hf)) (by decide) rfl hl.1 (Nat.le_of_ble_eq_true rfl) dX12_broken_53) hS (fun r150 H locs hf hP hS => ?_)
            refine xj (fun (x155 : Bool) => ∀ (H : Heap) (locs : List Loc) (ls : Array Slot), va_P G.1 vwCl (wl G M149 h) H → va_S (Aw G) s.heap H locs → lv_has ls 7 [(0, .ref (xa G 132)), (1, .int a1), (2, .int a2), (3, .int a3), (4, .int x118), (5, .int x119)] → W p l e rm_X12_broken s m args below meth c H locs 0 0 Q (F0 m 91 ls [.int (bI x155)])) hf ?_ (fun hf => ?_)
            · rintro x155 hf H locs ls hP hS hl
              refine lv_istore (lv' := [(6, .int (bI x155)), (0, .ref (xa G 132)), (1, .int a1), (2, .int a2), (3, .int a3), (4, .int x118), (5, .int x119)]) hx hb dX12_broken_91 hl (by decide) rfl (fun ls hl => ?_)
              refine lv_iload hx hb dX12_broken_93 (lv_at hl 5 rfl) ?_
              refine lv_iload hx hb dX12_broken_95 (lv_at hl 0 rfl) ?_
              refine xj (fun (x158 : Int32) => ∀ (H : Heap) (locs : List Loc) (ls : Array Slot), va_P G.1 vwCl (wl G M149 h) H → va_S (Aw G) s.heap H locs → lv_has ls 7 [(0, .ref (xa G 132)), (1, .int a1), (2, .int a2), (3, .int a3), (5, .int x119)] → W p l e rm_X12_broken s m args below meth c H locs 0 0 Q (F0 m 111 ls [.int x158, .int x118])) hf ?_ (fun hf => ?_)
              · rintro x158 hf H locs ls hP hS hl
                refine lv_iadd hx hb dX12_broken_111 ?_
                refine lv_istore (lv' := [(4, .int (x118 + x158)), (0, .ref (xa G 132)), (1, .int a1), (2, .int a2), (3, .int a3), (5, .int x119)]) hx hb dX12_broken_112 hl (by decide) rfl (fun ls hl => ?_)
                exact (OB_some hf) _ _ _ hP hS (lv_sub hl [1, 2, 3, 4, 0, 5] rfl)
              · skip
                refine lv_if_eq (tgt := 104) hx hb dX12_broken_97 (by decide) (fun hc => ?_) (fun hc => ?_)
                · have hf := (OB_f hf (bI_f hc))
                  refine lv_aload_n hx hb dX12_broken_104 rfl (lv_at hl 1 rfl) ?_
                  refine gfX12_80 C hE hP dX12_broken_105 ?_
                  refine lv_iload hx hb dX12_broken_108 (lv_at hl 6 rfl) ?_
                  refine x_iald C hE hP sh156 g123 dX12_broken_110 ?_
                  exact (OB_some hf) _ _ _ hP hS (lv_sub hl [1, 2, 3, 4, 6] rfl)
                · have hf := (OB_t hf (bI_t hc))
                  refine lv_iconst (v := 0) hx hb dX12_broken_100 (by decide) ?_
                  refine lv_goto (tgt := 111) hx hb dX12_broken_101 (by decide) ?_
                  exact (OB_some hf) _ _ _ hP hS (lv_sub hl [1, 2, 3, 4, 6] rfl)
            · skip
              refine lv_if_ne (tgt := 90) hx hb dX12_broken_56 (by decide) (fun hc => ?_) (fun hc => ?_)
              · have hf := (OB_f hf hc)
                refine lv_iconst (v := 0) hx hb dX12_broken_90 (by decide) ?_
                refine W.eq (g2 := F0 m 91 ls [.int (bI false)]) rfl ?_
                exact (OB_some hf) _ _ _ hP hS (lv_sub hl [0, 1, 2, 3, 4, 5] rfl)
              · have hf := (OB_t hf hc)
                refine lv_aload_n hx hb dX12_broken_59 rfl (lv_at hl 0 rfl) ?_
                refine gfX12_77 C hE hP dX12_broken_60 ?_
                refine lv_iload hx hb dX12_broken_63 (lv_at hl 5 rfl) ?_
                refine x_zald C hE hP sh155 g123 dX12_broken_65 ?_
                refine lv_if_eq (tgt := 79) hx hb dX12_broken_66 (by decide) (fun hc => ?_) (fun hc => ?_)
                · have hf := (OB_t hf hc)
                  refine lv_aload_n hx hb dX12_broken_79 rfl (lv_at hl 0 rfl) ?_
                  refine x_ci0 (rest := []) (x_runV C hE hP hS ykX12_touch lkX12_158 sh132 rfl (c_X12_touch (OB_bind hf)) (by decide) rfl hl.1 (Nat.le_of_ble_eq_true rfl) dX12_broken_80) hS (fun r156 H locs hf hP hS => ?_)
                  refine lv_if_ne (tgt := 90) hx hb dX12_broken_83 (by decide) (fun hc => ?_) (fun hc => ?_)
                  · have hf := (OB_f hf hc)
                    refine lv_iconst (v := 0) hx hb dX12_broken_90 (by decide) ?_
                    refine W.eq (g2 := F0 m 91 ls [.int (bI false)]) rfl ?_
                    exact (OB_some hf) _ _ _ hP hS (lv_sub hl [0, 1, 2, 3, 4, 5] rfl)
                  · have hf := (OB_t hf hc)
                    refine lv_iconst (v := 1) hx hb dX12_broken_86 (by decide) ?_
                    refine lv_goto (tgt := 91) hx hb dX12_broken_87 (by decide) ?_
                    refine W.eq (g2 := F0 m 91 ls [.int (bI true)]) rfl ?_
                    exact (OB_some hf) _ _ _ hP hS (lv_sub hl [0, 1, 2, 3, 4, 5] rfl)
                · have hf := (OB_f hf hc)
                  refine lv_aload_n hx hb dX12_broken_69 rfl (lv_at hl 0 rfl) ?_
                  refine x_ci0 (rest := []) (x_runV C hE hP hS ykX12_touch lkX12_158 sh132 rfl (c_X12_touch (OB_bind hf)) (by decide) rfl hl.1 (Nat.le_of_ble_eq_true rfl) dX12_broken_70) hS (fun r157 H locs hf hP hS => ?_)
                  refine lv_if_le (tgt := 90) hx hb dX12_broken_73 (by decide) (fun hc => ?_) (fun hc => ?_)
                  · have hf := (OB_t hf hc)
                    refine lv_iconst (v := 0) hx hb dX12_broken_90 (by decide) ?_
                    refine W.eq (g2 := F0 m 91 ls [.int (bI false)]) rfl ?_
                    exact (OB_some hf) _ _ _ hP hS (lv_sub hl [0, 1, 2, 3, 4, 5] rfl)
                  · have hf := (OB_f hf hc)
                    refine lv_goto (tgt := 86) hx hb dX12_broken_76 (by decide) ?_
                    refine lv_iconst (v := 1) hx hb dX12_broken_86 (by decide) ?_
                    refine lv_goto (tgt := 91) hx hb dX12_broken_87 (by decide) ?_
                    refine W.eq (g2 := F0 m 91 ls [.int (bI true)]) rfl ?_
                    exact (OB_some hf) _ _ _ hP hS (lv_sub hl [0, 1, 2, 3, 4, 5] rfl)
def rm_X12_gone : Room := { frames := 1, cells := 0, slots := 0, locals := 21 }
set_option maxRecDepth 100000 in
set_option maxHeartbeats 8000000 in
theorem c_X12_gone {l : Launch} {G : GG} {a0 : Int32} {a1 : Int32} {M : Mem} {h : Int64}  {P9 : Int32 → Prop} (hf : OB (f_X12_gone a0 a1) P9) : Met1 l yX12_gone cX12_gone 3 (some .int) rm_X12_gone G [.int a0, .int a1] M h (QI0 G M h P9) := by
  unfold f_X12_gone at hf
  refine xm_i0 (by decide) (Nat.le_of_ble_eq_true rfl) ?_
  intro p e s m args below meth c ls Q C hE hret hP hS hl
  have C : CallFix p m c cX12_gone 3 s args TB RX12 := C
  have hx := C.1
  have hb := C.2.1
  have hl : lv_has ls 3 [(0, .int a0), (1, .int a1)] := hl
  refine lv_iload_n hx hb dX12_gone_0 rfl (lv_at hl 0 rfl) ?_
  refine lv_iload_n hx hb dX12_gone_1 rfl (lv_at hl 1 rfl) ?_
  refine x_ci0 (rest := []) (x_runS C hE hP hS ykX12_off lkX12_137 (c_X12_off (OB_bind hf)) (by decide) rfl hl.1 (Nat.le_of_ble_eq_true rfl) dX12_gone_2) hS (fun r1 H locs hf hP hS => ?_)
  refine lv_istore_n (lv' := [(2, .int r1), (0, .int a0), (1, .int a1)]) hx hb dX12_gone_5 rfl hl (by decide) rfl (fun ls hl => ?_)
  refine lv_iload_n hx hb dX12_gone_6 rfl (lv_at hl 0 rfl) ?_
  refine lv_bipush (v := 8) hx hb dX12_gone_7 (by decide) ?_
  refine xj (fun (x2 : Int32) => ∀ (H : Heap) (locs : List Loc) (ls : Array Slot), va_P G.1 vwCl (wl G M h) H → va_S (Aw G) s.heap H locs → lv_has ls 3 [] → W p l e rm_X12_gone s m args below meth c H locs 0 0 Q (F0 m 20 ls [.int x2])) hf ?_ (fun hf => ?_)
  · rintro x2 hf H locs ls hP hS hl
    exact hret _ _ _ _ _ (OB_some hf) hP hS dX12_gone_20
  · skip
    refine lv_icmp_le (tgt := 19) hx hb dX12_gone_9 (by decide) (fun hc => ?_) (fun hc => ?_)
    · have hf := (OB_t hf hc)
      refine lv_iload_n hx hb dX12_gone_19 rfl (lv_at hl 0 rfl) ?_
      exact (OB_some hf) _ _ _ hP hS (lv_sub hl [] rfl)
    · have hf := (OB_f hf hc)
      refine lv_bipush (v := 16) hx hb dX12_gone_12 (by decide) ?_
      refine lv_iload_n hx hb dX12_gone_14 rfl (lv_at hl 0 rfl) ?_
      refine lv_isub hx hb dX12_gone_15 ?_
      refine lv_goto (tgt := 20) hx hb dX12_gone_16 (by decide) ?_
      exact (OB_some hf) _ _ _ hP hS (lv_sub hl [] rfl)
def rm_X12_layOnward : Room := { frames := 3, cells := 0, slots := 0, locals := 78 }
set_option maxRecDepth 100000 in
set_option maxHeartbeats 8000000 in
theorem c_X12_layOnward {l : Launch} {G : GG} {a1 : Int32} {M : Mem} {h : Int64}  {P9 : Mem → Prop} (hf : OB (f_X12_layOnward a1 M) P9) : Met1 l yX12_layOnward cX12_layOnward 7 none rm_X12_layOnward G [.ref (xa G 132), .int a1] M h (QV1 G h P9) := by
  unfold f_X12_layOnward at hf
  refine xm_v1 (by decide) (Nat.le_of_ble_eq_true rfl) ?_
  intro p e s m args below meth c ls Q C hE hret hP hS hl
  have C : CallFix p m c cX12_layOnward 7 s args TB RX12 := C
  have hx := C.1
  have hb := C.2.1
  have hl : lv_has ls 7 [(0, .ref (xa G 132)), (1, .int a1)] := hl
  refine lv_bipush (v := 9) hx hb dX12_layOnward_0 (by decide) ?_
  refine lv_istore_n (lv' := [(2, .int 9), (0, .ref (xa G 132)), (1, .int a1)]) hx hb dX12_layOnward_2 rfl hl (by decide) rfl (fun ls hl => ?_)
  refine xj (fun (M85 : Mem) => ∀ (H : Heap) (locs : List Loc) (ls : Array Slot), va_P G.1 vwCl (wl G M85 h) H → va_S (Aw G) s.heap H locs → lv_has ls 7 [] → W p l e rm_X12_layOnward s m args below meth c H locs 0 0 Q (F0 m 138 ls [])) hf ?_ (fun hf => ?_)
  · rintro M85 hf H locs ls hP hS hl
    exact hret _ _ _ _ _ (OB_some hf) hP hS dX12_layOnward_138
  · refine (it_W (fun (zz : (Int32 × Mem)) => match zz with | (x83, M84) => ∀ (H : Heap) (locs : List Loc) (ls : Array Slot), va_P G.1 vwCl (wl G M84 h) H → va_S (Aw G) s.heap H locs → lv_has ls 7 [(0, .ref (xa G 132)), (1, .int a1), (2, .int x83)] → W p l e rm_X12_layOnward s m args below meth c H locs 0 0 Q (F0 m 3 ls [])) hf ?_) _ _ _ hP hS (lv_sub hl [1, 2, 0] rfl)
    rintro ⟨x83, M84⟩ hf H locs ls hP hS hl
    unfold f_X12_layOnward_b3 at hf
    refine lv_iload_n hx hb dX12_layOnward_3 rfl (lv_at hl 2 rfl) ?_
    refine lv_if_lt (tgt := 138) hx hb dX12_layOnward_4 (by decide) (fun hc => ?_) (fun hc => ?_)
    · have hf := (OB_t hf hc)
      exact (it_e hf) _ _ _ hP hS (lv_sub hl [] rfl)
    · have hf := (OB_f hf hc)
      refine lv_iconst (v := 0) hx hb dX12_layOnward_7 (by decide) ?_
      refine lv_istore_n (lv' := [(3, .int 0), (0, .ref (xa G 132)), (1, .int a1), (2, .int x83)]) hx hb dX12_layOnward_8 rfl hl (by decide) rfl (fun ls hl => ?_)
      refine xj (fun (zz : (Int32 × Mem)) => match zz with | (x141, M142) => ∀ (H : Heap) (locs : List Loc) (ls : Array Slot), va_P G.1 vwCl (wl G M142 h) H → va_S (Aw G) s.heap H locs → lv_has ls 7 [(0, .ref (xa G 132)), (1, .int a1), (2, .int x141)] → W p l e rm_X12_layOnward s m args below meth c H locs 0 0 Q (F0 m 132 ls [])) hf ?_ (fun hf => ?_)
      · rintro ⟨x141, M142⟩ hf H locs ls hP hS hl
        refine lv_iinc (v := (x141 + (-1))) (lv' := [(2, .int (x141 + (-1))), (0, .ref (xa G 132)), (1, .int a1)]) hx hb dX12_layOnward_132 hl (k := 2) rfl rfl (by decide) rfl (fun ls hl => ?_)
        refine lv_goto (tgt := 3) hx hb dX12_layOnward_135 (by decide) ?_
        exact (it_c hf) _ _ _ hP hS (lv_sub hl [1, 2, 0] rfl)
      · refine (it_W (fun (zz : (Int32 × Int32 × Mem)) => match zz with | (x138, x139, M140) => ∀ (H : Heap) (locs : List Loc) (ls : Array Slot), va_P G.1 vwCl (wl G M140 h) H → va_S (Aw G) s.heap H locs → lv_has ls 7 [(0, .ref (xa G 132)), (1, .int a1), (2, .int x138), (3, .int x139)] → W p l e rm_X12_layOnward s m args below meth c H locs 0 0 Q (F0 m 9 ls [])) hf ?_) _ _ _ hP hS (lv_sub hl [1, 2, 3, 0] rfl)
        rintro ⟨x138, x139, M140⟩ hf H locs ls hP hS hl
        unfold f_X12_layOnward_b9 at hf
        refine lv_iload_n hx hb dX12_layOnward_9 rfl (lv_at hl 3 rfl) ?_
        refine lv_bipush (v := 16) hx hb dX12_layOnward_10 (by decide) ?_
        refine lv_icmp_ge (tgt := 132) hx hb dX12_layOnward_12 (by decide) (fun hc => ?_) (fun hc => ?_)
        · have hf := (OB_t hf hc)
          exact (it_e hf) _ _ _ hP hS (lv_sub hl [0, 1, 2] rfl)
        · have hf := (OB_f hf hc)
          refine lv_iload_n hx hb dX12_layOnward_15 rfl (lv_at hl 2 rfl) ?_
          refine lv_bipush (v := 9) hx hb dX12_layOnward_16 (by decide) ?_
          refine xj (fun (x143 : Int32) => ∀ (H : Heap) (locs : List Loc) (ls : Array Slot), va_P G.1 vwCl (wl G M140 h) H → va_S (Aw G) s.heap H locs → lv_has ls 7 [(0, .ref (xa G 132)), (1, .int a1), (2, .int x138), (3, .int x139)] → W p l e rm_X12_layOnward s m args below meth c H locs 0 0 Q (F0 m 28 ls [.int x143])) hf ?_ (fun hf => ?_)
          · rintro x143 hf H locs ls hP hS hl
            refine lv_istore (lv' := [(4, .int x143), (0, .ref (xa G 132)), (1, .int a1), (2, .int x138), (3, .int x139)]) hx hb dX12_layOnward_28 hl (by decide) rfl (fun ls hl => ?_)
            refine lv_iconst (v := 0) hx hb dX12_layOnward_30 (by decide) ?_
            refine lv_istore (lv' := [(5, .int 0), (4, .int x143), (0, .ref (xa G 132)), (1, .int a1), (2, .int x138), (3, .int x139)]) hx hb dX12_layOnward_31 hl (by decide) rfl (fun ls hl => ?_)
            refine xj (fun (x158 : Int32) => ∀ (H : Heap) (locs : List Loc) (ls : Array Slot), va_P G.1 vwCl (wl G M140 h) H → va_S (Aw G) s.heap H locs → lv_has ls 7 [(0, .ref (xa G 132)), (1, .int a1), (2, .int x138), (3, .int x139), (4, .int x158)] → W p l e rm_X12_layOnward s m args below meth c H locs 0 0 Q (F0 m 105 ls [])) hf ?_ (fun hf => ?_)
            · rintro x158 hf H locs ls hP hS hl
              refine lv_aload_n hx hb dX12_layOnward_105 rfl (lv_at hl 0 rfl) ?_
              refine gfX12_83 C hE hP dX12_layOnward_106 ?_
              refine lv_bipush (v := 16) hx hb dX12_layOnward_109 (by decide) ?_
              refine lv_iload_n hx hb dX12_layOnward_111 rfl (lv_at hl 2 rfl) ?_
              refine lv_imul hx hb dX12_layOnward_112 ?_
              refine lv_iload_n hx hb dX12_layOnward_113 rfl (lv_at hl 3 rfl) ?_
              refine lv_iadd hx hb dX12_layOnward_114 ?_
              refine lv_iload hx hb dX12_layOnward_115 (lv_at hl 4 rfl) ?_
              refine lv_aload_n hx hb dX12_layOnward_117 rfl (lv_at hl 0 rfl) ?_
              refine lv_iload_n hx hb dX12_layOnward_118 rfl (lv_at hl 1 rfl) ?_
              refine lv_iload_n hx hb dX12_layOnward_119 rfl (lv_at hl 2 rfl) ?_
              refine lv_iload_n hx hb dX12_layOnward_120 rfl (lv_at hl 3 rfl) ?_
              refine x_ci1 (rest := [.int x158, .int ((16 * x138) + x139), .ref (xa G 157)]) (x_runV C hE hP hS ykX12_broken lkX12_313 sh132 rfl (c_X12_broken (OB_bind hf)) (by decide) rfl hl.1 (Nat.le_of_ble_eq_true rfl) dX12_layOnward_121) hS (fun r163 M164 H locs hf hP hS => ?_)
              refine lv_iadd hx hb dX12_layOnward_124 ?_
              obtain ⟨g165, hf⟩ := OB_g hf
              refine x_iast C hE hP hS sh157 g165 dX12_layOnward_125 (fun H locs hP hS => ?_)
              refine lv_iinc (v := (x139 + 1)) (lv' := [(3, .int (x139 + 1)), (0, .ref (xa G 132)), (1, .int a1), (2, .int x138), (4, .int x158)]) hx hb dX12_layOnward_126 hl (k := 3) rfl rfl (by decide) rfl (fun ls hl => ?_)
              refine lv_goto (tgt := 9) hx hb dX12_layOnward_129 (by decide) ?_
              exact (it_c hf) _ _ _ hP hS (lv_sub hl [1, 2, 3, 0] rfl)
            · refine (it_W (fun (zz : (Int32 × Int32)) => match zz with | (x156, x157) => ∀ (H : Heap) (locs : List Loc) (ls : Array Slot), va_P G.1 vwCl (wl G M140 h) H → va_S (Aw G) s.heap H locs → lv_has ls 7 [(0, .ref (xa G 132)), (1, .int a1), (2, .int x138), (3, .int x139), (4, .int x156), (5, .int x157)] → W p l e rm_X12_layOnward s m args below meth c H locs 0 0 Q (F0 m 33 ls [])) hf ?_) _ _ _ hP hS (lv_sub hl [2, 3, 4, 5, 1, 0] rfl)
              rintro ⟨x156, x157⟩ hf H locs ls hP hS hl
              unfold f_X12_layOnward_b33 at hf
              refine lv_iload hx hb dX12_layOnward_33 (lv_at hl 5 rfl) ?_
              refine lv_bipush (v := 16) hx hb dX12_layOnward_35 (by decide) ?_
              refine lv_icmp_ge (tgt := 105) hx hb dX12_layOnward_37 (by decide) (fun hc => ?_) (fun hc => ?_)
              · have hf := (OB_t hf hc)
                exact (it_e hf) _ _ _ hP hS (lv_sub hl [0, 1, 2, 3, 4] rfl)
              · have hf := (OB_f hf hc)
                refine lv_iload_n hx hb dX12_layOnward_40 rfl (lv_at hl 2 rfl) ?_
                refine lv_bipush (v := 9) hx hb dX12_layOnward_41 (by decide) ?_
                refine lv_icmp_ge (tgt := 105) hx hb dX12_layOnward_43 (by decide) (fun hc => ?_) (fun hc => ?_)
                · have hf := (OB_t hf hc)
                  exact (it_e hf) _ _ _ hP hS (lv_sub hl [0, 1, 2, 3, 4] rfl)
                · have hf := (OB_f hf hc)
                  refine lv_aload_n hx hb dX12_layOnward_46 rfl (lv_at hl 0 rfl) ?_
                  refine gfX12_83 C hE hP dX12_layOnward_47 ?_
                  refine lv_bipush (v := 16) hx hb dX12_layOnward_50 (by decide) ?_
                  refine lv_iload_n hx hb dX12_layOnward_52 rfl (lv_at hl 2 rfl) ?_
                  refine lv_imul hx hb dX12_layOnward_53 ?_
                  refine lv_bipush (v := 16) hx hb dX12_layOnward_54 (by decide) ?_
                  refine lv_iadd hx hb dX12_layOnward_56 ?_
                  refine lv_iload hx hb dX12_layOnward_57 (lv_at hl 5 rfl) ?_
                  refine lv_iadd hx hb dX12_layOnward_59 ?_
                  obtain ⟨g159, hf⟩ := OB_g hf
                  refine x_iald C hE hP sh157 g159 dX12_layOnward_60 ?_
                  refine lv_iload_n hx hb dX12_layOnward_61 rfl (lv_at hl 3 rfl) ?_
                  refine lv_iload hx hb dX12_layOnward_62 (lv_at hl 5 rfl) ?_
                  refine x_ci0 (rest := [.int (M140 157 (Int32.toNatClampNeg (((16 * x138) + 16) + x157)))]) (x_runS C hE hP hS ykX12_gone lkX12_310 (c_X12_gone (OB_bind hf)) (by decide) rfl hl.1 (Nat.le_of_ble_eq_true rfl) dX12_layOnward_64) hS (fun r160 H locs hf hP hS => ?_)
                  refine lv_iadd hx hb dX12_layOnward_67 ?_
                  refine lv_istore (lv' := [(6, .int ((M140 157 (Int32.toNatClampNeg (((16 * x138) + 16) + x157))) + r160)), (0, .ref (xa G 132)), (1, .int a1), (2, .int x138), (3, .int x139), (4, .int x156), (5, .int x157)]) hx hb dX12_layOnward_68 hl (by decide) rfl (fun ls hl => ?_)
                  refine lv_iload_n hx hb dX12_layOnward_70 rfl (lv_at hl 4 rfl) ?_
                  refine lv_iload hx hb dX12_layOnward_71 (lv_at hl 6 rfl) ?_
                  refine x_ci0 (rest := []) (x_runS C hE hP hS ykX12_gone lkX12_310 (c_X12_gone (OB_bind hf)) (by decide) rfl hl.1 (Nat.le_of_ble_eq_true rfl) dX12_layOnward_73) hS (fun r161 H locs hf hP hS => ?_)
                  refine lv_aload_n hx hb dX12_layOnward_76 rfl (lv_at hl 1 rfl) ?_
                  refine gfX12_86 C hE hP dX12_layOnward_77 ?_
                  refine xj (fun (x162 : Int32) => ∀ (H : Heap) (locs : List Loc) (ls : Array Slot), va_P G.1 vwCl (wl G M140 h) H → va_S (Aw G) s.heap H locs → lv_has ls 7 [(0, .ref (xa G 132)), (1, .int a1), (2, .int x138), (3, .int x139), (5, .int x157)] → W p l e rm_X12_layOnward s m args below meth c H locs 0 0 Q (F0 m 97 ls [.int x162])) hf ?_ (fun hf => ?_)
                  · rintro x162 hf H locs ls hP hS hl
                    refine lv_istore (lv' := [(4, .int x162), (0, .ref (xa G 132)), (1, .int a1), (2, .int x138), (3, .int x139), (5, .int x157)]) hx hb dX12_layOnward_97 hl (by decide) rfl (fun ls hl => ?_)
                    refine lv_iinc (v := (x157 + 1)) (lv' := [(5, .int (x157 + 1)), (4, .int x162), (0, .ref (xa G 132)), (1, .int a1), (2, .int x138), (3, .int x139)]) hx hb dX12_layOnward_99 hl (k := 5) rfl rfl (by decide) rfl (fun ls hl => ?_)
                    refine lv_goto (tgt := 33) hx hb dX12_layOnward_102 (by decide) ?_
                    exact (it_c hf) _ _ _ hP hS (lv_sub hl [2, 3, 4, 5, 1, 0] rfl)
                  · skip
                    refine lv_icmp_gt (tgt := 95) hx hb dX12_layOnward_80 (by decide) (fun hc => ?_) (fun hc => ?_)
                    · have hf := (OB_t hf hc)
                      refine lv_iload hx hb dX12_layOnward_95 (lv_at hl 5 rfl) ?_
                      exact (OB_some hf) _ _ _ hP hS (lv_sub hl [1, 2, 3, 4, 6] rfl)
                    · have hf := (OB_f hf hc)
                      refine lv_iload hx hb dX12_layOnward_83 (lv_at hl 0 rfl) ?_
                      refine lv_iload hx hb dX12_layOnward_85 (lv_at hl 5 rfl) ?_
                      refine lv_icmp_ge (tgt := 95) hx hb dX12_layOnward_87 (by decide) (fun hc => ?_) (fun hc => ?_)
                      · have hf := (OB_t hf hc)
                        refine lv_iload hx hb dX12_layOnward_95 (lv_at hl 5 rfl) ?_
                        exact (OB_some hf) _ _ _ hP hS (lv_sub hl [1, 2, 3, 4, 6] rfl)
                      · have hf := (OB_f hf hc)
                        refine lv_iload hx hb dX12_layOnward_90 (lv_at hl 0 rfl) ?_
                        refine lv_goto (tgt := 97) hx hb dX12_layOnward_92 (by decide) ?_
                        exact (OB_some hf) _ _ _ hP hS (lv_sub hl [1, 2, 3, 4, 6] rfl)
          · skip
            refine lv_icmp_ne (tgt := 25) hx hb dX12_layOnward_18 (by decide) (fun hc => ?_) (fun hc => ?_)
            · have hf := (OB_f hf hc)
              refine lv_ldcw hx hb C.2.2.2.1 (C.2.2.2.2 _ ckX12_286) dX12_layOnward_25 ?_
              exact (OB_some hf) _ _ _ hP hS (lv_sub hl [0, 1, 2, 3] rfl)
            · have hf := (OB_t hf hc)
              refine lv_iconst (v := 0) hx hb dX12_layOnward_21 (by decide) ?_
              refine lv_goto (tgt := 28) hx hb dX12_layOnward_22 (by decide) ?_
              exact (OB_some hf) _ _ _ hP hS (lv_sub hl [0, 1, 2, 3] rfl)
def rm_X12_storyAt : Room := { frames := 3, cells := 0, slots := 0, locals := 78 }
set_option maxRecDepth 100000 in
set_option maxHeartbeats 8000000 in
theorem c_X12_storyAt {l : Launch} {G : GG} {a1 : Int32} {a2 : Int32} {M : Mem} {h : Int64}  {P9 : (Int32 × Mem) → Prop} (hf : OB (f_X12_storyAt a1 a2 M) P9) : Met1 l yX12_storyAt cX12_storyAt 7 (some .int) rm_X12_storyAt G [.ref (xa G 132), .int a1, .int a2] M h (QI1 G h P9) := by
  unfold f_X12_storyAt at hf
  refine xm_i1 (by decide) (Nat.le_of_ble_eq_true rfl) ?_
  intro p e s m args below meth c ls Q C hE hret hP hS hl
  have C : CallFix p m c cX12_storyAt 7 s args TB RX12 := C
  have hx := C.1
  have hb := C.2.1
  have hl : lv_has ls 7 [(0, .ref (xa G 132)), (1, .int a1), (2, .int a2)] := hl
  refine lv_iconst (v := 0) hx hb dX12_storyAt_0 (by decide) ?_
  refine lv_istore_n (lv' := [(3, .int 0), (0, .ref (xa G 132)), (1, .int a1), (2, .int a2)]) hx hb dX12_storyAt_1 rfl hl (by decide) rfl (fun ls hl => ?_)
  refine lv_iconst (v := 0) hx hb dX12_storyAt_2 (by decide) ?_
  refine lv_istore (lv' := [(4, .int 0), (3, .int 0), (0, .ref (xa G 132)), (1, .int a1), (2, .int a2)]) hx hb dX12_storyAt_3 hl (by decide) rfl (fun ls hl => ?_)
  refine xj (fun (zz : (Int32 × Mem)) => match zz with | (x73, M74) => ∀ (H : Heap) (locs : List Loc) (ls : Array Slot), va_P G.1 vwCl (wl G M74 h) H → va_S (Aw G) s.heap H locs → lv_has ls 7 [(3, .int x73)] → W p l e rm_X12_storyAt s m args below meth c H locs 0 0 Q (F0 m 93 ls [])) hf ?_ (fun hf => ?_)
  · rintro ⟨x73, M74⟩ hf H locs ls hP hS hl
    refine lv_iload_n hx hb dX12_storyAt_93 rfl (lv_at hl 0 rfl) ?_
    exact hret _ _ _ _ _ _ (OB_some hf) hP hS dX12_storyAt_94
  · refine (it_W (fun (zz : (Int32 × Int32 × Mem)) => match zz with | (x70, x71, M72) => ∀ (H : Heap) (locs : List Loc) (ls : Array Slot), va_P G.1 vwCl (wl G M72 h) H → va_S (Aw G) s.heap H locs → lv_has ls 7 [(0, .ref (xa G 132)), (1, .int a1), (2, .int a2), (3, .int x70), (4, .int x71)] → W p l e rm_X12_storyAt s m args below meth c H locs 0 0 Q (F0 m 5 ls [])) hf ?_) _ _ _ hP hS (lv_sub hl [2, 3, 4, 1, 0] rfl)
    rintro ⟨x70, x71, M72⟩ hf H locs ls hP hS hl
    unfold f_X12_storyAt_b5 at hf
    refine lv_iload hx hb dX12_storyAt_5 (lv_at hl 4 rfl) ?_
    refine lv_iload_n hx hb dX12_storyAt_7 rfl (lv_at hl 2 rfl) ?_
    refine lv_icmp_ge (tgt := 93) hx hb dX12_storyAt_8 (by decide) (fun hc => ?_) (fun hc => ?_)
    · have hf := (OB_t hf hc)
      exact (it_e hf) _ _ _ hP hS (lv_sub hl [3] rfl)
    · have hf := (OB_f hf hc)
      refine lv_aload_n hx hb dX12_storyAt_11 rfl (lv_at hl 0 rfl) ?_
      refine gfX12_83 C hE hP dX12_storyAt_12 ?_
      refine lv_bipush (v := 16) hx hb dX12_storyAt_15 (by decide) ?_
      refine lv_iload hx hb dX12_storyAt_17 (lv_at hl 4 rfl) ?_
      refine lv_imul hx hb dX12_storyAt_19 ?_
      refine lv_iload_n hx hb dX12_storyAt_20 rfl (lv_at hl 3 rfl) ?_
      refine lv_iadd hx hb dX12_storyAt_21 ?_
      obtain ⟨g75, hf⟩ := OB_g hf
      refine x_iald C hE hP sh157 g75 dX12_storyAt_22 ?_
      refine lv_aload_n hx hb dX12_storyAt_23 rfl (lv_at hl 0 rfl) ?_
      refine lv_iload_n hx hb dX12_storyAt_24 rfl (lv_at hl 1 rfl) ?_
      refine lv_iload hx hb dX12_storyAt_25 (lv_at hl 4 rfl) ?_
      refine lv_iload_n hx hb dX12_storyAt_27 rfl (lv_at hl 3 rfl) ?_
      refine x_ci1 (rest := [.int (M72 157 (Int32.toNatClampNeg ((16 * x71) + x70)))]) (x_runV C hE hP hS ykX12_broken lkX12_313 sh132 rfl (c_X12_broken (OB_bind hf)) (by decide) rfl hl.1 (Nat.le_of_ble_eq_true rfl) dX12_storyAt_28) hS (fun r76 M77 H locs hf hP hS => ?_)
      refine lv_isub hx hb dX12_storyAt_31 ?_
      refine lv_istore (lv' := [(5, .int ((M72 157 (Int32.toNatClampNeg ((16 * x71) + x70))) - r76)), (0, .ref (xa G 132)), (1, .int a1), (2, .int a2), (3, .int x70), (4, .int x71)]) hx hb dX12_storyAt_32 hl (by decide) rfl (fun ls hl => ?_)
      refine lv_iconst (v := 0) hx hb dX12_storyAt_34 (by decide) ?_
      refine lv_istore (lv' := [(6, .int 0), (5, .int ((M72 157 (Int32.toNatClampNeg ((16 * x71) + x70))) - r76)), (0, .ref (xa G 132)), (1, .int a1), (2, .int a2), (3, .int x70), (4, .int x71)]) hx hb dX12_storyAt_35 hl (by decide) rfl (fun ls hl => ?_)
      refine xj (fun (x91 : Int32) => ∀ (H : Heap) (locs : List Loc) (ls : Array Slot), va_P G.1 vwCl (wl G M77 h) H → va_S (Aw G) s.heap H locs → lv_has ls 7 [(0, .ref (xa G 132)), (1, .int a1), (2, .int a2), (4, .int x71), (6, .int x91)] → W p l e rm_X12_storyAt s m args below meth c H locs 0 0 Q (F0 m 84 ls [])) hf ?_ (fun hf => ?_)
      · rintro x91 hf H locs ls hP hS hl
        refine lv_iload hx hb dX12_storyAt_84 (lv_at hl 4 rfl) ?_
        refine lv_istore_n (lv' := [(3, .int x91), (0, .ref (xa G 132)), (1, .int a1), (2, .int a2), (4, .int x71), (6, .int x91)]) hx hb dX12_storyAt_86 rfl hl (by decide) rfl (fun ls hl => ?_)
        refine lv_iinc (v := (x71 + 1)) (lv' := [(4, .int (x71 + 1)), (3, .int x91), (0, .ref (xa G 132)), (1, .int a1), (2, .int a2), (6, .int x91)]) hx hb dX12_storyAt_87 hl (k := 4) rfl rfl (by decide) rfl (fun ls hl => ?_)
        refine lv_goto (tgt := 5) hx hb dX12_storyAt_90 (by decide) ?_
        exact (it_c hf) _ _ _ hP hS (lv_sub hl [2, 3, 4, 1, 0] rfl)
      · refine (it_W (fun (x90 : Int32) => ∀ (H : Heap) (locs : List Loc) (ls : Array Slot), va_P G.1 vwCl (wl G M77 h) H → va_S (Aw G) s.heap H locs → lv_has ls 7 [(0, .ref (xa G 132)), (1, .int a1), (2, .int a2), (3, .int x70), (4, .int x71), (5, .int ((M72 157 (Int32.toNatClampNeg ((16 * x71) + x70))) - r76)), (6, .int x90)] → W p l e rm_X12_storyAt s m args below meth c H locs 0 0 Q (F0 m 37 ls [])) hf ?_) _ _ _ hP hS (lv_sub hl [2, 3, 4, 5, 6, 1, 0] rfl)
        rintro x90 hf H locs ls hP hS hl
        unfold f_X12_storyAt_b37 at hf
        refine lv_iload_n hx hb dX12_storyAt_37 rfl (lv_at hl 3 rfl) ?_
        refine lv_iload hx hb dX12_storyAt_38 (lv_at hl 6 rfl) ?_
        refine x_ci0 (rest := []) (x_runS C hE hP hS ykX12_gone lkX12_310 (c_X12_gone (OB_bind hf)) (by decide) rfl hl.1 (Nat.le_of_ble_eq_true rfl) dX12_storyAt_40) hS (fun r92 H locs hf hP hS => ?_)
        refine lv_aload_n hx hb dX12_storyAt_43 rfl (lv_at hl 0 rfl) ?_
        refine gfX12_86 C hE hP dX12_storyAt_44 ?_
        refine lv_icmp_gt (tgt := 78) hx hb dX12_storyAt_47 (by decide) (fun hc => ?_) (fun hc => ?_)
        · have hf := (OB_t hf hc)
          refine lv_iinc (v := (x90 + 1)) (lv' := [(6, .int (x90 + 1)), (0, .ref (xa G 132)), (1, .int a1), (2, .int a2), (3, .int x70), (4, .int x71), (5, .int ((M72 157 (Int32.toNatClampNeg ((16 * x71) + x70))) - r76))]) hx hb dX12_storyAt_78 hl (k := 6) rfl rfl (by decide) rfl (fun ls hl => ?_)
          refine lv_goto (tgt := 37) hx hb dX12_storyAt_81 (by decide) ?_
          exact (it_c hf) _ _ _ hP hS (lv_sub hl [1, 2, 3, 4, 5, 6, 0] rfl)
        · have hf := (OB_f hf hc)
          refine lv_aload_n hx hb dX12_storyAt_50 rfl (lv_at hl 0 rfl) ?_
          refine gfX12_83 C hE hP dX12_storyAt_51 ?_
          refine lv_bipush (v := 16) hx hb dX12_storyAt_54 (by decide) ?_
          refine lv_iload hx hb dX12_storyAt_56 (lv_at hl 4 rfl) ?_
          refine lv_imul hx hb dX12_storyAt_58 ?_
          refine lv_bipush (v := 16) hx hb dX12_storyAt_59 (by decide) ?_
          refine lv_iadd hx hb dX12_storyAt_61 ?_
          refine lv_iload hx hb dX12_storyAt_62 (lv_at hl 6 rfl) ?_
          refine lv_iadd hx hb dX12_storyAt_64 ?_
          obtain ⟨g93, hf⟩ := OB_g hf
          refine x_iald C hE hP sh157 g93 dX12_storyAt_65 ?_
          refine lv_iload_n hx hb dX12_storyAt_66 rfl (lv_at hl 3 rfl) ?_
          refine lv_iload hx hb dX12_storyAt_67 (lv_at hl 6 rfl) ?_
          refine x_ci0 (rest := [.int (M77 157 (Int32.toNatClampNeg (((16 * x71) + 16) + x90)))]) (x_runS C hE hP hS ykX12_gone lkX12_310 (c_X12_gone (OB_bind hf)) (by decide) rfl hl.1 (Nat.le_of_ble_eq_true rfl) dX12_storyAt_69) hS (fun r94 H locs hf hP hS => ?_)
          refine lv_iadd hx hb dX12_storyAt_72 ?_
          refine lv_iload hx hb dX12_storyAt_73 (lv_at hl 5 rfl) ?_
          refine lv_icmp_eq (tgt := 84) hx hb dX12_storyAt_75 (by decide) (fun hc => ?_) (fun hc => ?_)
          · have hf := (OB_t hf hc)
            exact (it_e hf) _ _ _ hP hS (lv_sub hl [0, 1, 2, 4, 6] rfl)
          · have hf := (OB_f hf hc)
            refine lv_iinc (v := (x90 + 1)) (lv' := [(6, .int (x90 + 1)), (0, .ref (xa G 132)), (1, .int a1), (2, .int a2), (3, .int x70), (4, .int x71), (5, .int ((M72 157 (Int32.toNatClampNeg ((16 * x71) + x70))) - r76))]) hx hb dX12_storyAt_78 hl (k := 6) rfl rfl (by decide) rfl (fun ls hl => ?_)
            refine lv_goto (tgt := 37) hx hb dX12_storyAt_81 (by decide) ?_
            exact (it_c hf) _ _ _ hP hS (lv_sub hl [1, 2, 3, 4, 5, 6, 0] rfl)
def rm_X12_story : Room := { frames := 4, cells := 0, slots := 0, locals := 104 }
set_option maxRecDepth 100000 in
set_option maxHeartbeats 8000000 in
theorem c_X12_story {l : Launch} {G : GG} {a1 : Int32} {a2 : Int32} {M : Mem} {h : Int64}  {P9 : (Int32 × Mem) → Prop} (hf : OB (f_X12_story a1 a2 M) P9) : Met1 l yX12_story cX12_story 3 (some .int) rm_X12_story G [.ref (xa G 132), .int a1, .int a2] M h (QI1 G h P9) := by
  unfold f_X12_story at hf
  refine xm_i1 (by decide) (Nat.le_of_ble_eq_true rfl) ?_
  intro p e s m args below meth c ls Q C hE hret hP hS hl
  have C : CallFix p m c cX12_story 3 s args TB RX12 := C
  have hx := C.1
  have hb := C.2.1
  have hl : lv_has ls 3 [(0, .ref (xa G 132)), (1, .int a1), (2, .int a2)] := hl
  refine lv_iload_n hx hb dX12_story_0 rfl (lv_at hl 1 rfl) ?_
  refine x_cz0 (rest := []) (x_runS C hE hP hS ykX12_isLand lkX12_101 (c_X12_isLand (OB_bind hf)) (by decide) rfl hl.1 (Nat.le_of_ble_eq_true rfl) dX12_story_1) hS (fun r1 H locs hf hP hS => ?_)
  refine lv_if_ne (tgt := 10) hx hb dX12_story_4 (by decide) (fun hc => ?_) (fun hc => ?_)
  · have hf := (OB_t hf (bI_t hc))
    refine lv_iload_n hx hb dX12_story_10 rfl (lv_at hl 2 rfl) ?_
    have hj31 : ∀ (H : Heap) (locs : List Loc) (ls : Array Slot), OB (f_X12_story_j31_0 a1 a2 M) P9 → va_P G.1 vwCl (wl G M h) H → va_S (Aw G) s.heap H locs → lv_has ls 3 [(0, .ref (xa G 132)), (1, .int a1), (2, .int a2)] → W p l e rm_X12_story s m args below meth c H locs 0 0 Q (F0 m 31 ls []) := by
      intro  H locs ls hf hP hS hl
      refine lv_aload_n hx hb dX12_story_31 rfl (lv_at hl 0 rfl) ?_
      refine lv_iload_n hx hb dX12_story_32 rfl (lv_at hl 1 rfl) ?_
      refine x_cv1 (rest := []) (x_runV C hE hP hS ykX12_layOnward lkX12_321 sh132 rfl (c_X12_layOnward (OB_bind hf)) (by decide) rfl hl.1 (Nat.le_of_ble_eq_true rfl) dX12_story_33) hS (fun M22 H locs hf hP hS => ?_)
      refine lv_iload_n hx hb dX12_story_36 rfl (lv_at hl 2 rfl) ?_
      refine xj (fun (zz : (Int32 × Mem)) => match zz with | (x27, M28) => ∀ (H : Heap) (locs : List Loc) (ls : Array Slot), va_P G.1 vwCl (wl G M28 h) H → va_S (Aw G) s.heap H locs → lv_has ls 3 [] → W p l e rm_X12_story s m args below meth c H locs 0 0 Q (F0 m 58 ls [.int x27])) hf ?_ (fun hf => ?_)
      · rintro ⟨x27, M28⟩ hf H locs ls hP hS hl
        exact hret _ _ _ _ _ _ (OB_some hf) hP hS dX12_story_58
      · skip
        refine lv_if_ne (tgt := 49) hx hb dX12_story_37 (by decide) (fun hc => ?_) (fun hc => ?_)
        · have hf := (OB_f hf hc)
          refine lv_aload_n hx hb dX12_story_49 rfl (lv_at hl 0 rfl) ?_
          refine lv_iload_n hx hb dX12_story_50 rfl (lv_at hl 1 rfl) ?_
          refine lv_iload_n hx hb dX12_story_51 rfl (lv_at hl 2 rfl) ?_
          refine lv_bipush (v := 10) hx hb dX12_story_52 (by decide) ?_
          refine lv_isub hx hb dX12_story_54 ?_
          refine x_ci1 (rest := []) (x_runV C hE hP hS ykX12_storyAt lkX12_324 sh132 rfl (c_X12_storyAt (OB_bind hf)) (by decide) rfl hl.1 (Nat.le_of_ble_eq_true rfl) dX12_story_55) hS (fun r29 M30 H locs hf hP hS => ?_)
          exact (OB_some hf) _ _ _ hP hS (lv_sub hl [] rfl)
        · have hf := (OB_t hf hc)
          refine lv_aload_n hx hb dX12_story_40 rfl (lv_at hl 0 rfl) ?_
          refine gfX12_83 C hE hP dX12_story_41 ?_
          refine lv_iconst (v := 0) hx hb dX12_story_44 (by decide) ?_
          refine x_iald C hE hP sh157 (by decide) dX12_story_45 ?_
          refine lv_goto (tgt := 58) hx hb dX12_story_46 (by decide) ?_
          exact (OB_some hf) _ _ _ hP hS (lv_sub hl [] rfl)
    refine lv_if_eq (tgt := 31) hx hb dX12_story_11 (by decide) (fun hc => ?_) (fun hc => ?_)
    · have hf := (OB_t hf hc)
      exact hj31  _ _ _ hf hP hS (lv_sub hl [0, 1, 2] rfl)
    · have hf := (OB_f hf hc)
      refine lv_iload_n hx hb dX12_story_14 rfl (lv_at hl 2 rfl) ?_
      refine lv_i2l hx hb dX12_story_15 rfl ?_
      refine lv_ldc2 hx hb C.2.2.2.1 (C.2.2.2.2 _ ckX12_317) dX12_story_16 ?_
      refine lv_ldc2 hx hb C.2.2.2.1 (C.2.2.2.2 _ ckX12_319) dX12_story_19 ?_
      refine x_cz0 (rest := []) (x_runS C hE hP hS ykX12_in lkX12_92 (c_X12_in (OB_bind hf)) (by decide) rfl hl.1 (Nat.le_of_ble_eq_true rfl) dX12_story_22) hS (fun r31 H locs hf hP hS => ?_)
      refine lv_if_ne (tgt := 31) hx hb dX12_story_25 (by decide) (fun hc => ?_) (fun hc => ?_)
      · have hf := (OB_t hf (bI_t hc))
        exact hj31  _ _ _ hf hP hS (lv_sub hl [0, 1, 2] rfl)
      · have hf := (OB_f hf (bI_f hc))
        refine lv_bipush (v := -102) hx hb dX12_story_28 (by decide) ?_
        exact hret _ _ _ _ _ _ (OB_some hf) hP hS dX12_story_30
  · have hf := (OB_f hf (bI_f hc))
    refine lv_bipush (v := -101) hx hb dX12_story_7 (by decide) ?_
    exact hret _ _ _ _ _ _ (OB_some hf) hP hS dX12_story_9
def rm_X12_judge : Room := { frames := 3, cells := 0, slots := 0, locals := 78 }
set_option maxRecDepth 100000 in
set_option maxHeartbeats 8000000 in
theorem c_X12_judge {l : Launch} {G : GG} {a1 : Int32} {a2 : Int64} {M : Mem} {h : Int64}  {P9 : (Int32 × Mem) → Prop} (hf : OB (f_X12_judge a1 a2 M) P9) : Met1 l yX12_judge cX12_judge 9 (some .int) rm_X12_judge G [.ref (xa G 132), .int a1, .long a2] M h (QI1 G h P9) := by
  unfold f_X12_judge at hf
  refine xm_i1 (by decide) (Nat.le_of_ble_eq_true rfl) ?_
  intro p e s m args below meth c ls Q C hE hret hP hS hl
  have C : CallFix p m c cX12_judge 9 s args TB RX12 := C
  have hx := C.1
  have hb := C.2.1
  have hl : lv_has ls 9 [(0, .ref (xa G 132)), (1, .int a1), (2, .long a2)] := hl
  refine lv_iload_n hx hb dX12_judge_0 rfl (lv_at hl 1 rfl) ?_
  refine x_cz0 (rest := []) (x_runS C hE hP hS ykX12_isLand lkX12_101 (c_X12_isLand (OB_bind hf)) (by decide) rfl hl.1 (Nat.le_of_ble_eq_true rfl) dX12_judge_1) hS (fun r1 H locs hf hP hS => ?_)
  refine lv_if_ne (tgt := 10) hx hb dX12_judge_4 (by decide) (fun hc => ?_) (fun hc => ?_)
  · have hf := (OB_t hf (bI_t hc))
    refine lv_lload_n hx hb dX12_judge_10 rfl (lv_at hl 2 rfl) ?_
    refine lv_lconst (v := 0) hx hb dX12_judge_11 (by decide) ?_
    refine lv_ldc2 hx hb C.2.2.2.1 (C.2.2.2.2 _ ckX12_327) dX12_judge_12 ?_
    refine x_cz0 (rest := []) (x_runS C hE hP hS ykX12_in lkX12_92 (c_X12_in (OB_bind hf)) (by decide) rfl hl.1 (Nat.le_of_ble_eq_true rfl) dX12_judge_15) hS (fun r2 H locs hf hP hS => ?_)
    refine lv_if_ne (tgt := 24) hx hb dX12_judge_18 (by decide) (fun hc => ?_) (fun hc => ?_)
    · have hf := (OB_t hf (bI_t hc))
      refine lv_iconst (v := 0) hx hb dX12_judge_24 (by decide) ?_
      refine lv_istore (lv' := [(4, .int 0), (0, .ref (xa G 132)), (1, .int a1), (2, .long a2)]) hx hb dX12_judge_25 hl (by decide) rfl (fun ls hl => ?_)
      refine lv_iconst (v := 0) hx hb dX12_judge_27 (by decide) ?_
      refine lv_istore (lv' := [(5, .int 0), (4, .int 0), (0, .ref (xa G 132)), (1, .int a1), (2, .long a2)]) hx hb dX12_judge_28 hl (by decide) rfl (fun ls hl => ?_)
      refine lv_iconst (v := 1) hx hb dX12_judge_30 (by decide) ?_
      refine lv_istore (lv' := [(6, .int 1), (5, .int 0), (4, .int 0), (0, .ref (xa G 132)), (1, .int a1), (2, .long a2)]) hx hb dX12_judge_31 hl (by decide) rfl (fun ls hl => ?_)
      refine lv_iconst (v := 0) hx hb dX12_judge_33 (by decide) ?_
      refine lv_istore (lv' := [(7, .int 0), (6, .int 1), (5, .int 0), (4, .int 0), (0, .ref (xa G 132)), (1, .int a1), (2, .long a2)]) hx hb dX12_judge_34 hl (by decide) rfl (fun ls hl => ?_)
      refine xj (fun (zz : (Int32 × Bool × Mem)) => match zz with | (x44, x45, M46) => ∀ (H : Heap) (locs : List Loc) (ls : Array Slot), va_P G.1 vwCl (wl G M46 h) H → va_S (Aw G) s.heap H locs → lv_has ls 9 [(4, .int x44), (6, .int (bI x45))] → W p l e rm_X12_judge s m args below meth c H locs 0 0 Q (F0 m 127 ls [])) hf ?_ (fun hf => ?_)
      · rintro ⟨x44, x45, M46⟩ hf H locs ls hP hS hl
        refine lv_iload hx hb dX12_judge_127 (lv_at hl 1 rfl) ?_
        refine xj (fun (x54 : Int32) => ∀ (H : Heap) (locs : List Loc) (ls : Array Slot), va_P G.1 vwCl (wl G M46 h) H → va_S (Aw G) s.heap H locs → lv_has ls 9 [] → W p l e rm_X12_judge s m args below meth c H locs 0 0 Q (F0 m 138 ls [.int x54])) hf ?_ (fun hf => ?_)
        · rintro x54 hf H locs ls hP hS hl
          exact hret _ _ _ _ _ _ (OB_some hf) hP hS dX12_judge_138
        · skip
          refine lv_if_eq (tgt := 137) hx hb dX12_judge_129 (by decide) (fun hc => ?_) (fun hc => ?_)
          · have hf := (OB_f hf (bI_f hc))
            refine lv_iconst (v := -1) hx hb dX12_judge_137 (by decide) ?_
            exact (OB_some hf) _ _ _ hP hS (lv_sub hl [] rfl)
          · have hf := (OB_t hf (bI_t hc))
            refine lv_iload hx hb dX12_judge_132 (lv_at hl 0 rfl) ?_
            refine lv_goto (tgt := 138) hx hb dX12_judge_134 (by decide) ?_
            exact (OB_some hf) _ _ _ hP hS (lv_sub hl [] rfl)
      · refine (it_W (fun (zz : (Int32 × Int32 × Bool × Int32 × Mem)) => match zz with | (x39, x40, x41, x42, M43) => ∀ (H : Heap) (locs : List Loc) (ls : Array Slot), va_P G.1 vwCl (wl G M43 h) H → va_S (Aw G) s.heap H locs → lv_has ls 9 [(0, .ref (xa G 132)), (1, .int a1), (2, .long a2), (4, .int x39), (5, .int x40), (6, .int (bI x41)), (7, .int x42)] → W p l e rm_X12_judge s m args below meth c H locs 0 0 Q (F0 m 36 ls [])) hf ?_) _ _ _ hP hS (lv_sub hl [4, 5, 6, 3, 2, 1, 0] rfl)
        rintro ⟨x39, x40, x41, x42, M43⟩ hf H locs ls hP hS hl
        unfold f_X12_judge_b36 at hf
        refine lv_iload hx hb dX12_judge_36 (lv_at hl 6 rfl) ?_
        refine lv_bipush (v := 10) hx hb dX12_judge_38 (by decide) ?_
        refine lv_icmp_ge (tgt := 127) hx hb dX12_judge_40 (by decide) (fun hc => ?_) (fun hc => ?_)
        · have hf := (OB_t hf hc)
          exact (it_e hf) _ _ _ hP hS (lv_sub hl [3, 5] rfl)
        · have hf := (OB_f hf hc)
          refine lv_lload_n hx hb dX12_judge_43 rfl (lv_at hl 2 rfl) ?_
          refine lv_iconst (v := 4) hx hb dX12_judge_44 (by decide) ?_
          refine lv_iload hx hb dX12_judge_45 (lv_at hl 6 rfl) ?_
          refine lv_imul hx hb dX12_judge_47 ?_
          refine x_lshr C dX12_judge_48 ?_
          refine lv_ldc2 hx hb C.2.2.2.1 (C.2.2.2.2 _ ckX12_114) dX12_judge_49 ?_
          refine lv_land hx hb dX12_judge_52 ?_
          refine lv_l2i hx hb dX12_judge_53 rfl ?_
          refine lv_istore (lv' := [(8, .int (Int64.toInt32 ((jlshr a2 (4 * x42)) &&& 15))), (0, .ref (xa G 132)), (1, .int a1), (2, .long a2), (4, .int x39), (5, .int x40), (6, .int (bI x41)), (7, .int x42)]) hx hb dX12_judge_54 hl (by decide) rfl (fun ls hl => ?_)
          refine lv_iload hx hb dX12_judge_56 (lv_at hl 6 rfl) ?_
          refine xj (fun (x49 : Bool) => ∀ (H : Heap) (locs : List Loc) (ls : Array Slot), va_P G.1 vwCl (wl G M43 h) H → va_S (Aw G) s.heap H locs → lv_has ls 9 [(0, .ref (xa G 132)), (1, .int a1), (2, .long a2), (4, .int x39), (5, .int x40), (7, .int x42), (8, .int (Int64.toInt32 ((jlshr a2 (4 * x42)) &&& 15)))] → W p l e rm_X12_judge s m args below meth c H locs 0 0 Q (F0 m 93 ls [.int (bI x49)])) hf ?_ (fun hf => ?_)
          · rintro x49 hf H locs ls hP hS hl
            refine lv_istore (lv' := [(6, .int (bI x49)), (0, .ref (xa G 132)), (1, .int a1), (2, .long a2), (4, .int x39), (5, .int x40), (7, .int x42), (8, .int (Int64.toInt32 ((jlshr a2 (4 * x42)) &&& 15)))]) hx hb dX12_judge_93 hl (by decide) rfl (fun ls hl => ?_)
            refine lv_iload hx hb dX12_judge_95 (lv_at hl 4 rfl) ?_
            refine lv_iload hx hb dX12_judge_97 (lv_at hl 5 rfl) ?_
            refine lv_iload hx hb dX12_judge_99 (lv_at hl 7 rfl) ?_
            refine x_ci0 (rest := [.int x39]) (x_runS C hE hP hS ykX12_gone lkX12_310 (c_X12_gone (OB_bind hf)) (by decide) rfl hl.1 (Nat.le_of_ble_eq_true rfl) dX12_judge_101) hS (fun r51 H locs hf hP hS => ?_)
            refine lv_aload_n hx hb dX12_judge_104 rfl (lv_at hl 1 rfl) ?_
            refine lv_iload_n hx hb dX12_judge_105 rfl (lv_at hl 2 rfl) ?_
            refine lv_iload hx hb dX12_judge_106 (lv_at hl 6 rfl) ?_
            refine lv_iload hx hb dX12_judge_108 (lv_at hl 7 rfl) ?_
            refine x_ci1 (rest := [.int r51, .int x39]) (x_runV C hE hP hS ykX12_broken lkX12_313 sh132 rfl (c_X12_broken (OB_bind hf)) (by decide) rfl hl.1 (Nat.le_of_ble_eq_true rfl) dX12_judge_110) hS (fun r52 M53 H locs hf hP hS => ?_)
            refine lv_iadd hx hb dX12_judge_113 ?_
            refine lv_iadd hx hb dX12_judge_114 ?_
            refine lv_istore (lv' := [(4, .int (x39 + (r51 + r52))), (6, .int (bI x49)), (0, .ref (xa G 132)), (1, .int a1), (2, .long a2), (5, .int x40), (7, .int x42), (8, .int (Int64.toInt32 ((jlshr a2 (4 * x42)) &&& 15)))]) hx hb dX12_judge_115 hl (by decide) rfl (fun ls hl => ?_)
            refine lv_iload hx hb dX12_judge_117 (lv_at hl 7 rfl) ?_
            refine lv_istore (lv' := [(5, .int (Int64.toInt32 ((jlshr a2 (4 * x42)) &&& 15))), (4, .int (x39 + (r51 + r52))), (6, .int (bI x49)), (0, .ref (xa G 132)), (1, .int a1), (2, .long a2), (7, .int x42), (8, .int (Int64.toInt32 ((jlshr a2 (4 * x42)) &&& 15)))]) hx hb dX12_judge_119 hl (by decide) rfl (fun ls hl => ?_)
            refine lv_iinc (v := (x42 + 1)) (lv' := [(7, .int (x42 + 1)), (5, .int (Int64.toInt32 ((jlshr a2 (4 * x42)) &&& 15))), (4, .int (x39 + (r51 + r52))), (6, .int (bI x49)), (0, .ref (xa G 132)), (1, .int a1), (2, .long a2), (8, .int (Int64.toInt32 ((jlshr a2 (4 * x42)) &&& 15)))]) hx hb dX12_judge_121 hl (k := 6) rfl rfl (by decide) rfl (fun ls hl => ?_)
            refine lv_goto (tgt := 36) hx hb dX12_judge_124 (by decide) ?_
            exact (it_c hf) _ _ _ hP hS (lv_sub hl [4, 5, 6, 2, 1, 3, 0] rfl)
          · skip
            refine lv_if_eq (tgt := 92) hx hb dX12_judge_58 (by decide) (fun hc => ?_) (fun hc => ?_)
            · have hf := (OB_f hf (bI_f hc))
              refine lv_iconst (v := 0) hx hb dX12_judge_92 (by decide) ?_
              refine W.eq (g2 := F0 m 93 ls [.int (bI false)]) rfl ?_
              exact (OB_some hf) _ _ _ hP hS (lv_sub hl [1, 2, 3, 4, 5, 7, 0] rfl)
            · have hf := (OB_t hf (bI_t hc))
              refine lv_iload hx hb dX12_judge_61 (lv_at hl 7 rfl) ?_
              refine lv_if_ne (tgt := 74) hx hb dX12_judge_63 (by decide) (fun hc => ?_) (fun hc => ?_)
              · have hf := (OB_f hf hc)
                refine lv_iload hx hb dX12_judge_74 (lv_at hl 5 rfl) ?_
                refine lv_iload hx hb dX12_judge_76 (lv_at hl 0 rfl) ?_
                refine x_ci0 (rest := []) (x_runS C hE hP hS ykX12_gone lkX12_310 (c_X12_gone (OB_bind hf)) (by decide) rfl hl.1 (Nat.le_of_ble_eq_true rfl) dX12_judge_78) hS (fun r50 H locs hf hP hS => ?_)
                refine lv_aload_n hx hb dX12_judge_81 rfl (lv_at hl 1 rfl) ?_
                refine gfX12_86 C hE hP dX12_judge_82 ?_
                refine lv_icmp_gt (tgt := 92) hx hb dX12_judge_85 (by decide) (fun hc => ?_) (fun hc => ?_)
                · have hf := (OB_t hf hc)
                  refine lv_iconst (v := 0) hx hb dX12_judge_92 (by decide) ?_
                  refine W.eq (g2 := F0 m 93 ls [.int (bI false)]) rfl ?_
                  exact (OB_some hf) _ _ _ hP hS (lv_sub hl [1, 2, 3, 4, 5, 7, 0] rfl)
                · have hf := (OB_f hf hc)
                  refine lv_iconst (v := 1) hx hb dX12_judge_88 (by decide) ?_
                  refine lv_goto (tgt := 93) hx hb dX12_judge_89 (by decide) ?_
                  refine W.eq (g2 := F0 m 93 ls [.int (bI true)]) rfl ?_
                  exact (OB_some hf) _ _ _ hP hS (lv_sub hl [1, 2, 3, 4, 5, 7, 0] rfl)
              · have hf := (OB_t hf hc)
                refine lv_iload hx hb dX12_judge_66 (lv_at hl 0 rfl) ?_
                refine lv_if_ne (tgt := 92) hx hb dX12_judge_68 (by decide) (fun hc => ?_) (fun hc => ?_)
                · have hf := (OB_f hf hc)
                  refine lv_iconst (v := 0) hx hb dX12_judge_92 (by decide) ?_
                  refine W.eq (g2 := F0 m 93 ls [.int (bI false)]) rfl ?_
                  exact (OB_some hf) _ _ _ hP hS (lv_sub hl [1, 2, 3, 4, 5, 7, 0] rfl)
                · have hf := (OB_t hf hc)
                  refine lv_goto (tgt := 88) hx hb dX12_judge_71 (by decide) ?_
                  refine lv_iconst (v := 1) hx hb dX12_judge_88 (by decide) ?_
                  refine lv_goto (tgt := 93) hx hb dX12_judge_89 (by decide) ?_
                  refine W.eq (g2 := F0 m 93 ls [.int (bI true)]) rfl ?_
                  exact (OB_some hf) _ _ _ hP hS (lv_sub hl [1, 2, 3, 4, 5, 7, 0] rfl)
    · have hf := (OB_f hf (bI_f hc))
      refine lv_bipush (v := -102) hx hb dX12_judge_21 (by decide) ?_
      exact hret _ _ _ _ _ _ (OB_some hf) hP hS dX12_judge_23
  · have hf := (OB_f hf (bI_f hc))
    refine lv_bipush (v := -101) hx hb dX12_judge_7 (by decide) ?_
    exact hret _ _ _ _ _ _ (OB_some hf) hP hS dX12_judge_9
def rm_X12_agreeAt : Room := { frames := 2, cells := 0, slots := 0, locals := 43 }
set_option maxRecDepth 100000 in
set_option maxHeartbeats 8000000 in
theorem c_X12_agreeAt {l : Launch} {G : GG} {a1 : Int32} {a2 : Int32} {a3 : Int32} {a4 : Int32} {M : Mem} {h : Int64}  {P9 : Int32 → Prop} (hf : OB (f_X12_agreeAt a1 a2 a3 a4 M) P9) : Met1 l yX12_agreeAt cX12_agreeAt 10 (some .int) rm_X12_agreeAt G [.ref (xa G 132), .int a1, .int a2, .int a3, .int a4] M h (QI0 G M h P9) := by
  unfold f_X12_agreeAt at hf
  refine xm_i0 (by decide) (Nat.le_of_ble_eq_true rfl) ?_
  intro p e s m args below meth c ls Q C hE hret hP hS hl
  have C : CallFix p m c cX12_agreeAt 10 s args TB RX12 := C
  have hx := C.1
  have hb := C.2.1
  have hl : lv_has ls 10 [(0, .ref (xa G 132)), (1, .int a1), (2, .int a2), (3, .int a3), (4, .int a4)] := hl
  refine lv_iconst (v := 0) hx hb dX12_agreeAt_0 (by decide) ?_
  refine lv_istore (lv' := [(5, .int 0), (0, .ref (xa G 132)), (1, .int a1), (2, .int a2), (3, .int a3), (4, .int a4)]) hx hb dX12_agreeAt_1 hl (by decide) rfl (fun ls hl => ?_)
  refine lv_iconst (v := 0) hx hb dX12_agreeAt_3 (by decide) ?_
  refine lv_istore (lv' := [(6, .int 0), (5, .int 0), (0, .ref (xa G 132)), (1, .int a1), (2, .int a2), (3, .int a3), (4, .int a4)]) hx hb dX12_agreeAt_4 hl (by decide) rfl (fun ls hl => ?_)
  refine xj (fun (x42 : Int32) => ∀ (H : Heap) (locs : List Loc) (ls : Array Slot), va_P G.1 vwCl (wl G M h) H → va_S (Aw G) s.heap H locs → lv_has ls 10 [(5, .int x42)] → W p l e rm_X12_agreeAt s m args below meth c H locs 0 0 Q (F0 m 130 ls [])) hf ?_ (fun hf => ?_)
  · rintro x42 hf H locs ls hP hS hl
    refine lv_iload hx hb dX12_agreeAt_130 (lv_at hl 0 rfl) ?_
    exact hret _ _ _ _ _ (OB_some hf) hP hS dX12_agreeAt_132
  · refine (it_W (fun (zz : (Int32 × Int32)) => match zz with | (x40, x41) => ∀ (H : Heap) (locs : List Loc) (ls : Array Slot), va_P G.1 vwCl (wl G M h) H → va_S (Aw G) s.heap H locs → lv_has ls 10 [(0, .ref (xa G 132)), (1, .int a1), (2, .int a2), (3, .int a3), (4, .int a4), (5, .int x40), (6, .int x41)] → W p l e rm_X12_agreeAt s m args below meth c H locs 0 0 Q (F0 m 6 ls [])) hf ?_) _ _ _ hP hS (lv_sub hl [2, 3, 4, 5, 6, 1, 0] rfl)
    rintro ⟨x40, x41⟩ hf H locs ls hP hS hl
    unfold f_X12_agreeAt_b6 at hf
    refine lv_iload hx hb dX12_agreeAt_6 (lv_at hl 6 rfl) ?_
    refine lv_aload_n hx hb dX12_agreeAt_8 rfl (lv_at hl 0 rfl) ?_
    refine gfX12_98 C hE hP dX12_agreeAt_9 ?_
    refine lv_icmp_ge (tgt := 130) hx hb dX12_agreeAt_12 (by decide) (fun hc => ?_) (fun hc => ?_)
    · have hf := (OB_t hf hc)
      exact (it_e hf) _ _ _ hP hS (lv_sub hl [5] rfl)
    · have hf := (OB_f hf hc)
      refine lv_aload_n hx hb dX12_agreeAt_15 rfl (lv_at hl 0 rfl) ?_
      refine gfX12_7 C hE hP dX12_agreeAt_16 ?_
      refine lv_aload_n hx hb dX12_agreeAt_19 rfl (lv_at hl 0 rfl) ?_
      refine gfX12_16 C hE hP dX12_agreeAt_20 ?_
      refine lv_iload hx hb dX12_agreeAt_23 (lv_at hl 6 rfl) ?_
      obtain ⟨g43, hf⟩ := OB_g hf
      refine x_iald C hE hP sh135 g43 dX12_agreeAt_25 ?_
      obtain ⟨g44, hf⟩ := OB_g hf
      refine x_iald C hE hP sh133 g44 dX12_agreeAt_26 ?_
      refine lv_istore (lv' := [(7, .int (M 133 (Int32.toNatClampNeg (M 135 (Int32.toNatClampNeg x41))))), (0, .ref (xa G 132)), (1, .int a1), (2, .int a2), (3, .int a3), (4, .int a4), (5, .int x40), (6, .int x41)]) hx hb dX12_agreeAt_27 hl (by decide) rfl (fun ls hl => ?_)
      refine lv_aload_n hx hb dX12_agreeAt_29 rfl (lv_at hl 1 rfl) ?_
      refine gfX12_13 C hE hP dX12_agreeAt_30 ?_
      refine lv_iload hx hb dX12_agreeAt_33 (lv_at hl 7 rfl) ?_
      refine x_iald C hE hP sh134 g43 dX12_agreeAt_35 ?_
      refine lv_iconst (v := 4) hx hb dX12_agreeAt_36 (by decide) ?_
      refine xj (fun (x45 : Bool) => ∀ (H : Heap) (locs : List Loc) (ls : Array Slot), va_P G.1 vwCl (wl G M h) H → va_S (Aw G) s.heap H locs → lv_has ls 10 [(0, .ref (xa G 132)), (1, .int a1), (2, .int a2), (3, .int a3), (4, .int a4), (5, .int x40), (6, .int x41), (7, .int (M 133 (Int32.toNatClampNeg (M 135 (Int32.toNatClampNeg x41)))))] → W p l e rm_X12_agreeAt s m args below meth c H locs 0 0 Q (F0 m 56 ls [.int (bI x45)])) hf ?_ (fun hf => ?_)
      · rintro x45 hf H locs ls hP hS hl
        refine lv_istore (lv' := [(8, .int (bI x45)), (0, .ref (xa G 132)), (1, .int a1), (2, .int a2), (3, .int a3), (4, .int a4), (5, .int x40), (6, .int x41), (7, .int (M 133 (Int32.toNatClampNeg (M 135 (Int32.toNatClampNeg x41)))))]) hx hb dX12_agreeAt_56 hl (by decide) rfl (fun ls hl => ?_)
        refine lv_iload_n hx hb dX12_agreeAt_58 rfl (lv_at hl 3 rfl) ?_
        refine lv_iconst (v := -1) hx hb dX12_agreeAt_59 (by decide) ?_
        refine xj (fun (x48 : Int32) => ∀ (H : Heap) (locs : List Loc) (ls : Array Slot), va_P G.1 vwCl (wl G M h) H → va_S (Aw G) s.heap H locs → lv_has ls 10 [(0, .ref (xa G 132)), (1, .int a1), (2, .int a2), (3, .int a3), (4, .int a4), (5, .int x40), (6, .int x41), (8, .int (bI x45))] → W p l e rm_X12_agreeAt s m args below meth c H locs 0 0 Q (F0 m 90 ls [.int x48])) hf ?_ (fun hf => ?_)
        · rintro x48 hf H locs ls hP hS hl
          refine lv_istore (lv' := [(9, .int x48), (0, .ref (xa G 132)), (1, .int a1), (2, .int a2), (3, .int a3), (4, .int a4), (5, .int x40), (6, .int x41), (8, .int (bI x45))]) hx hb dX12_agreeAt_90 hl (by decide) rfl (fun ls hl => ?_)
          refine lv_iload hx hb dX12_agreeAt_92 (lv_at hl 6 rfl) ?_
          refine lv_iload hx hb dX12_agreeAt_94 (lv_at hl 8 rfl) ?_
          refine xj (fun (x52 : Bool) => ∀ (H : Heap) (locs : List Loc) (ls : Array Slot), va_P G.1 vwCl (wl G M h) H → va_S (Aw G) s.heap H locs → lv_has ls 10 [(0, .ref (xa G 132)), (1, .int a1), (2, .int a2), (3, .int a3), (4, .int a4), (6, .int x41)] → W p l e rm_X12_agreeAt s m args below meth c H locs 0 0 Q (F0 m 121 ls [.int (bI x52), .int x40])) hf ?_ (fun hf => ?_)
          · rintro x52 hf H locs ls hP hS hl
            refine lv_iadd hx hb dX12_agreeAt_121 ?_
            refine lv_istore (lv' := [(5, .int (x40 + (bI x52))), (0, .ref (xa G 132)), (1, .int a1), (2, .int a2), (3, .int a3), (4, .int a4), (6, .int x41)]) hx hb dX12_agreeAt_122 hl (by decide) rfl (fun ls hl => ?_)
            refine lv_iinc (v := (x41 + 1)) (lv' := [(6, .int (x41 + 1)), (5, .int (x40 + (bI x52))), (0, .ref (xa G 132)), (1, .int a1), (2, .int a2), (3, .int a3), (4, .int a4)]) hx hb dX12_agreeAt_124 hl (k := 6) rfl rfl (by decide) rfl (fun ls hl => ?_)
            refine lv_goto (tgt := 6) hx hb dX12_agreeAt_127 (by decide) ?_
            exact (it_c hf) _ _ _ hP hS (lv_sub hl [2, 3, 4, 5, 6, 1, 0] rfl)
          · skip
            refine lv_if_eq (tgt := 120) hx hb dX12_agreeAt_96 (by decide) (fun hc => ?_) (fun hc => ?_)
            · have hf := (OB_f hf (bI_f hc))
              refine lv_iconst (v := 0) hx hb dX12_agreeAt_120 (by decide) ?_
              refine W.eq (g2 := F0 m 121 ls [.int (bI false), .int x40]) rfl ?_
              exact (OB_some hf) _ _ _ hP hS (lv_sub hl [1, 2, 3, 4, 5, 7] rfl)
            · have hf := (OB_t hf (bI_t hc))
              refine lv_iload hx hb dX12_agreeAt_99 (lv_at hl 0 rfl) ?_
              refine lv_iload hx hb dX12_agreeAt_101 (lv_at hl 5 rfl) ?_
              refine x_ci0 (rest := [.int x40]) (x_runS C hE hP hS ykX12_apart lkX12_255 (c_X12_apart (OB_bind hf)) (by decide) rfl hl.1 (Nat.le_of_ble_eq_true rfl) dX12_agreeAt_103) hS (fun r53 H locs hf hP hS => ?_)
              refine lv_aload_n hx hb dX12_agreeAt_106 rfl (lv_at hl 1 rfl) ?_
              refine gfX12_19 C hE hP dX12_agreeAt_107 ?_
              refine lv_iload hx hb dX12_agreeAt_110 (lv_at hl 7 rfl) ?_
              refine x_iald C hE hP sh136 g43 dX12_agreeAt_112 ?_
              refine lv_icmp_ne (tgt := 120) hx hb dX12_agreeAt_113 (by decide) (fun hc => ?_) (fun hc => ?_)
              · have hf := (OB_f hf hc)
                refine lv_iconst (v := 0) hx hb dX12_agreeAt_120 (by decide) ?_
                refine W.eq (g2 := F0 m 121 ls [.int (bI false), .int x40]) rfl ?_
                exact (OB_some hf) _ _ _ hP hS (lv_sub hl [1, 2, 3, 4, 5, 7] rfl)
              · have hf := (OB_t hf hc)
                refine lv_iconst (v := 1) hx hb dX12_agreeAt_116 (by decide) ?_
                refine lv_goto (tgt := 121) hx hb dX12_agreeAt_117 (by decide) ?_
                refine W.eq (g2 := F0 m 121 ls [.int (bI true), .int x40]) rfl ?_
                exact (OB_some hf) _ _ _ hP hS (lv_sub hl [1, 2, 3, 4, 5, 7] rfl)
        · skip
          refine lv_icmp_eq (tgt := 83) hx hb dX12_agreeAt_60 (by decide) (fun hc => ?_) (fun hc => ?_)
          · have hf := (OB_t hf hc)
            refine lv_aload_n hx hb dX12_agreeAt_83 rfl (lv_at hl 1 rfl) ?_
            refine gfX12_16 C hE hP dX12_agreeAt_84 ?_
            refine lv_iload hx hb dX12_agreeAt_87 (lv_at hl 7 rfl) ?_
            refine x_iald C hE hP sh135 g43 dX12_agreeAt_89 ?_
            exact (OB_some hf) _ _ _ hP hS (lv_sub hl [1, 2, 3, 4, 5, 6, 7, 0] rfl)
          · have hf := (OB_f hf hc)
            refine lv_iload hx hb dX12_agreeAt_63 (lv_at hl 8 rfl) ?_
            refine lv_iload_n hx hb dX12_agreeAt_65 rfl (lv_at hl 3 rfl) ?_
            refine lv_icmp_ne (tgt := 83) hx hb dX12_agreeAt_66 (by decide) (fun hc => ?_) (fun hc => ?_)
            · have hf := (OB_f hf hc)
              refine lv_aload_n hx hb dX12_agreeAt_83 rfl (lv_at hl 1 rfl) ?_
              refine gfX12_16 C hE hP dX12_agreeAt_84 ?_
              refine lv_iload hx hb dX12_agreeAt_87 (lv_at hl 7 rfl) ?_
              refine x_iald C hE hP sh135 g43 dX12_agreeAt_89 ?_
              exact (OB_some hf) _ _ _ hP hS (lv_sub hl [1, 2, 3, 4, 5, 6, 7, 0] rfl)
            · have hf := (OB_t hf hc)
              refine lv_aload_n hx hb dX12_agreeAt_69 rfl (lv_at hl 1 rfl) ?_
              refine gfX12_16 C hE hP dX12_agreeAt_70 ?_
              refine lv_iload hx hb dX12_agreeAt_73 (lv_at hl 7 rfl) ?_
              refine x_iald C hE hP sh135 g43 dX12_agreeAt_75 ?_
              refine lv_iload_n hx hb dX12_agreeAt_76 rfl (lv_at hl 4 rfl) ?_
              refine x_ci0 (rest := []) (x_runS C hE hP hS ykX12_east lkX12_145 (c_X12_east (OB_bind hf)) (by decide) rfl hl.1 (Nat.le_of_ble_eq_true rfl) dX12_agreeAt_77) hS (fun r49 H locs hf hP hS => ?_)
              refine lv_goto (tgt := 90) hx hb dX12_agreeAt_80 (by decide) ?_
              exact (OB_some hf) _ _ _ hP hS (lv_sub hl [1, 2, 3, 4, 5, 6, 7, 0] rfl)
      · skip
        refine lv_icmp_ne (tgt := 55) hx hb dX12_agreeAt_37 (by decide) (fun hc => ?_) (fun hc => ?_)
        · have hf := (OB_f hf hc)
          refine lv_iconst (v := 0) hx hb dX12_agreeAt_55 (by decide) ?_
          refine W.eq (g2 := F0 m 56 ls [.int (bI false)]) rfl ?_
          exact (OB_some hf) _ _ _ hP hS (lv_sub hl [1, 2, 3, 4, 5, 6, 7, 0] rfl)
        · have hf := (OB_t hf hc)
          refine lv_iload_n hx hb dX12_agreeAt_40 rfl (lv_at hl 2 rfl) ?_
          refine lv_iconst (v := -1) hx hb dX12_agreeAt_41 (by decide) ?_
          refine lv_icmp_eq (tgt := 51) hx hb dX12_agreeAt_42 (by decide) (fun hc => ?_) (fun hc => ?_)
          · have hf := (OB_t hf hc)
            refine lv_iconst (v := 1) hx hb dX12_agreeAt_51 (by decide) ?_
            refine lv_goto (tgt := 56) hx hb dX12_agreeAt_52 (by decide) ?_
            refine W.eq (g2 := F0 m 56 ls [.int (bI true)]) rfl ?_
            exact (OB_some hf) _ _ _ hP hS (lv_sub hl [1, 2, 3, 4, 5, 6, 7, 0] rfl)
          · have hf := (OB_f hf hc)
            refine lv_iload hx hb dX12_agreeAt_45 (lv_at hl 0 rfl) ?_
            refine lv_iload_n hx hb dX12_agreeAt_47 rfl (lv_at hl 2 rfl) ?_
            refine lv_icmp_ne (tgt := 55) hx hb dX12_agreeAt_48 (by decide) (fun hc => ?_) (fun hc => ?_)
            · have hf := (OB_f hf hc)
              refine lv_iconst (v := 0) hx hb dX12_agreeAt_55 (by decide) ?_
              refine W.eq (g2 := F0 m 56 ls [.int (bI false)]) rfl ?_
              exact (OB_some hf) _ _ _ hP hS (lv_sub hl [1, 2, 3, 4, 5, 6, 7, 0] rfl)
            · have hf := (OB_t hf hc)
              refine lv_iconst (v := 1) hx hb dX12_agreeAt_51 (by decide) ?_
              refine lv_goto (tgt := 56) hx hb dX12_agreeAt_52 (by decide) ?_
              refine W.eq (g2 := F0 m 56 ls [.int (bI true)]) rfl ?_
              exact (OB_some hf) _ _ _ hP hS (lv_sub hl [1, 2, 3, 4, 5, 6, 7, 0] rfl)
