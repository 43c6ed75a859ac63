set_option maxRecDepth 20000 in
theorem klL_7 : Cond.classLink RL 7 RX11 ∈ TB := (tb_k1 22 rfl rfl)
set_option maxRecDepth 20000 in
theorem klL_10 : Cond.classLink RL 10 RX12 ∈ TB := (tb_k5 115 rfl rfl)
set_option maxRecDepth 20000 in
theorem kn_11 : Cond.instantiable RX11 11 ∈ TB := (tb_k1 23 rfl rfl)
set_option maxRecDepth 20000 in
theorem kn_12 : Cond.instantiable RX12 43 ∈ TB := (tb_k5 116 rfl rfl)
set_option maxRecDepth 20000 in
theorem kz_11 : Cond.initialized RX11 ∈ TB := (tb_k1 1 rfl rfl)
set_option maxRecDepth 20000 in
theorem kz_12 : Cond.initialized RX12 ∈ TB := (tb_k1 14 rfl rfl)
set_option maxRecDepth 20000 in
theorem kiL_9 : Cond.methodLink RL 9 yX11_init ∈ TB := (tb_k1 24 rfl rfl)
set_option maxRecDepth 20000 in
theorem kiL_12 : Cond.methodLink RL 12 yX12_init ∈ TB := (tb_k5 117 rfl rfl)
theorem sc_in0 {L i : Nat} (hi : i + 6 ≤ L) (hL : L ≤ 3072) : vp_in (nI i) L := vp_in_nI (by omega) (by omega)
theorem sc_cond {L i : Nat} (hL : L ≤ 3072) (hi : i ≤ 4000) (hc : ¬ nI L - 6 < nI i) : i + 6 ≤ L := by
  have h1 : (nI L - nI 6).toInt = (L : Int) - 6 := pk_sub_toInt (by omega) (by decide)
  have h2 : (nI i).toInt = (i : Int) := nI_toInt (by omega)
  have h3 : ¬ (nI L - nI 6) < nI i := hc
  rw [Int32.lt_iff_toInt_lt, h1, h2] at h3
  omega
set_option maxRecDepth 100000 in
set_option maxHeartbeats 8000000 in
theorem law_loop {p : Program} {l : Launch} {e : Env} {s : State} {m : MethodId} {below : List Frame} {meth : Method} {c : Code} {G : GG} {b L : Nat} {xs : Nat → Int32} {Inv : Mem → Prop} (C : CallFix p m c cL_law 4 s #[Value.ref b] TB RL) (hr : meth.sig.returnType = ret) (hlk : meth.locks = false) (hE : EnvOK G s) (hX : va_X b L xs s s.heap) (hbl : b < s.heap.size) (hAG : ∀ q, Aw G q → s.heap.size ≤ q) (hL : L ≤ 3072) (hst : STALL Inv) : ∀ (n i : Nat), i ≤ L + 6 → L + 6 < n + i → LN p l e s m below meth c G b i Inv 18 := by
  have hbA : ¬ Aw G b := fun h => absurd (hAG b h) (by omega)
  intro n
  induction n with
  | zero => intro i h1 h2; omega
  | succ n ih =>
    intro i h1 h2 M h H locs ls hinv hP hS hl
    have hx := C.1
    have hb := C.2.1
    refine lv_iload_n hx hb dL_law_18 rfl (lv_at hl 3 rfl) ?_
    refine lv_aload_n hx hb dL_law_19 rfl (lv_at hl 0 rfl) ?_
    refine va_slen hx hb hX hbl hbA hS dL_law_20 ?_
    refine lv_bipush (v := 6) hx hb dL_law_21 (by decide) ?_
    refine lv_isub hx hb dL_law_23 ?_
    refine lv_icmp_gt (tgt := 1345) hx hb dL_law_24 (by decide) (fun hc => ?_) (fun hc => ?_)
    · refine lv_iconst (v := 1) hx hb dL_law_1345 (by decide) ?_
      refine va_forget (fun q hq => hAG _ (hS.2.2 q hq)) ?_
      exact lw_ret hx hb hr hlk dL_law_1346
    · have hi : i + 6 ≤ L := sc_cond hL (by omega) hc
      have hn : LN p l e s m below meth c G b i Inv 1339 := by
        intro M h H locs ls hinv hP hS hl
        refine lv_iinc (v := nI (i + 6)) (lv' := [(3, .int (nI (i + 6))), (0, .ref b), (1, .ref (xa G 0)), (2, .ref (xa G 132))]) hx hb dL_law_1339 hl (k := 3) rfl (by rw [← nI_add]; rfl) (by decide) rfl (fun ls hl => ?_)
        refine lv_goto (tgt := 18) hx hb dL_law_1342 (by decide) ?_
        exact ih (i + 6) (by omega) (by omega) M h H locs ls hinv hP hS (lv_sub hl [1, 2, 3, 0] rfl)
      refine lv_aload_n hx hb dL_law_27 rfl (lv_at hl 0 rfl) ?_
      refine lv_iload_n hx hb dL_law_28 rfl (lv_at hl 3 rfl) ?_
      refine va_sld hx hb hX hbl hbA hS (sc_in0 hi hL) dL_law_29 ?_
      refine lv_bipush (v := 31) hx hb dL_law_30 (by decide) ?_
      refine lv_iand hx hb dL_law_32 ?_
      obtain ⟨j, hj, ej⟩ := pk_andE (xs (nI i).toNatClampNeg) (m := 31) 5 (by decide)
      rw [ej]
      have hj : j < 32 := hj
      rcases (show j = 0 ∨ j = 1 ∨ j = 2 ∨ j = 3 ∨ j = 4 ∨ j = 5 ∨ j = 6 ∨ j = 7 ∨ j = 8 ∨ j = 9 ∨ j = 10 ∨ j = 11 ∨ j = 12 ∨ j = 13 ∨ j = 14 ∨ j = 15 ∨ j = 16 ∨ j = 17 ∨ j = 18 ∨ j = 19 ∨ j = 20 ∨ j = 21 ∨ j = 22 ∨ j = 23 ∨ j = 24 ∨ j = 25 ∨ j = 26 ∨ j = 27 ∨ j = 28 ∨ j = 29 ∨ j = 30 ∨ j = 31 by omega) with rfl | rfl | rfl | rfl | rfl | rfl | rfl | rfl | rfl | rfl | rfl | rfl | rfl | rfl | rfl | rfl | rfl | rfl | rfl | rfl | rfl | rfl | rfl | rfl | rfl | rfl | rfl | rfl | rfl | rfl | rfl | rfl
      · refine lv_tableIn (off := 143) (tgt := 176) hx hb dL_law_33 (by decide) (by decide) rfl (by decide) ?_
        exact law_c0 C hE hX hbl hbA hi hL hst.1 hn M h H locs ls hinv hP hS hl
      · refine lv_tableIn (off := 176) (tgt := 209) hx hb dL_law_33 (by decide) (by decide) rfl (by decide) ?_
        exact law_c1 C hE hX hbl hbA hi hL hst.2.1 hn M h H locs ls hinv hP hS hl
      · refine lv_tableIn (off := 229) (tgt := 262) hx hb dL_law_33 (by decide) (by decide) rfl (by decide) ?_
        exact law_c2 C hE hX hbl hbA hi hL hst.2.2.1 hn M h H locs ls hinv hP hS hl
      · refine lv_tableIn (off := 262) (tgt := 295) hx hb dL_law_33 (by decide) (by decide) rfl (by decide) ?_
        exact law_c3 C hE hX hbl hbA hi hL hst.2.2.2.1 hn M h H locs ls hinv hP hS hl
      · refine lv_tableIn (off := 305) (tgt := 338) hx hb dL_law_33 (by decide) (by decide) rfl (by decide) ?_
        exact law_c4 C hE hX hbl hbA hi hL hst.2.2.2.2.1 hn M h H locs ls hinv hP hS hl
      · refine lv_tableIn (off := 338) (tgt := 371) hx hb dL_law_33 (by decide) (by decide) rfl (by decide) ?_
        exact law_c5 C hE hX hbl hbA hi hL hst.2.2.2.2.2.1 hn M h H locs ls hinv hP hS hl
      · refine lv_tableIn (off := 371) (tgt := 404) hx hb dL_law_33 (by decide) (by decide) rfl (by decide) ?_
        exact law_c6 C hE hX hbl hbA hi hL hst.2.2.2.2.2.2.1 hn M h H locs ls hinv hP hS hl
      · refine lv_tableIn (off := 404) (tgt := 437) hx hb dL_law_33 (by decide) (by decide) rfl (by decide) ?_
        exact law_c7 C hE hX hbl hbA hi hL hst.2.2.2.2.2.2.2.1 hn M h H locs ls hinv hP hS hl
      · refine lv_tableIn (off := 417) (tgt := 450) hx hb dL_law_33 (by decide) (by decide) rfl (by decide) ?_
        exact law_c8 C hE hX hbl hbA hi hL hst.2.2.2.2.2.2.2.2.1 hn M h H locs ls hinv hP hS hl
      · refine lv_tableIn (off := 480) (tgt := 513) hx hb dL_law_33 (by decide) (by decide) rfl (by decide) ?_
        exact law_c9 C hE hX hbl hbA hi hL hst.2.2.2.2.2.2.2.2.2.1 hn M h H locs ls hinv hP hS hl
      · refine lv_tableIn (off := 523) (tgt := 556) hx hb dL_law_33 (by decide) (by decide) rfl (by decide) ?_
        exact law_c10 C hE hX hbl hbA hi hL hst.2.2.2.2.2.2.2.2.2.2.1 hn M h H locs ls hinv hP hS hl
      · refine lv_tableIn (off := 586) (tgt := 619) hx hb dL_law_33 (by decide) (by decide) rfl (by decide) ?_
        exact law_c11 C hE hX hbl hbA hi hL hst.2.2.2.2.2.2.2.2.2.2.2.1 hn M h H locs ls hinv hP hS hl
      · refine lv_tableIn (off := 639) (tgt := 672) hx hb dL_law_33 (by decide) (by decide) rfl (by decide) ?_
        exact law_c12 C hE hX hbl hbA hi hL hst.2.2.2.2.2.2.2.2.2.2.2.2.1 hn M h H locs ls hinv hP hS hl
      · refine lv_tableIn (off := 692) (tgt := 725) hx hb dL_law_33 (by decide) (by decide) rfl (by decide) ?_
        exact law_c13 C hE hX hbl hbA hi hL hst.2.2.2.2.2.2.2.2.2.2.2.2.2.1 hn M h H locs ls hinv hP hS hl
      · refine lv_tableIn (off := 705) (tgt := 738) hx hb dL_law_33 (by decide) (by decide) rfl (by decide) ?_
        exact law_c14 C hE hX hbl hbA hi hL hst.2.2.2.2.2.2.2.2.2.2.2.2.2.2.1 hn M h H locs ls hinv hP hS hl
      · refine lv_tableIn (off := 718) (tgt := 751) hx hb dL_law_33 (by decide) (by decide) rfl (by decide) ?_
        exact law_c15 C hE hX hbl hbA hi hL hst.2.2.2.2.2.2.2.2.2.2.2.2.2.2.2.1 hn M h H locs ls hinv hP hS hl
      · refine lv_tableIn (off := 741) (tgt := 774) hx hb dL_law_33 (by decide) (by decide) rfl (by decide) ?_
        exact law_c16 C hE hX hbl hbA hi hL hst.2.2.2.2.2.2.2.2.2.2.2.2.2.2.2.2.1 hn M h H locs ls hinv hP hS hl
      · refine lv_tableIn (off := 764) (tgt := 797) hx hb dL_law_33 (by decide) (by decide) rfl (by decide) ?_
        exact law_c17 C hE hX hbl hbA hi hL hst.2.2.2.2.2.2.2.2.2.2.2.2.2.2.2.2.2.1 hn M h H locs ls hinv hP hS hl
      · refine lv_tableIn (off := 797) (tgt := 830) hx hb dL_law_33 (by decide) (by decide) rfl (by decide) ?_
        exact law_c18 C hE hX hbl hbA hi hL hst.2.2.2.2.2.2.2.2.2.2.2.2.2.2.2.2.2.2.1 hn M h H locs ls hinv hP hS hl
      · refine lv_tableIn (off := 830) (tgt := 863) hx hb dL_law_33 (by decide) (by decide) rfl (by decide) ?_
        exact law_c19 C hE hX hbl hbA hi hL hst.2.2.2.2.2.2.2.2.2.2.2.2.2.2.2.2.2.2.2.1 hn M h H locs ls hinv hP hS hl
      · refine lv_tableIn (off := 893) (tgt := 926) hx hb dL_law_33 (by decide) (by decide) rfl (by decide) ?_
        exact law_c20 C hE hX hbl hbA hi hL hst.2.2.2.2.2.2.2.2.2.2.2.2.2.2.2.2.2.2.2.2.1 hn M h H locs ls hinv hP hS hl
      · refine lv_tableIn (off := 936) (tgt := 969) hx hb dL_law_33 (by decide) (by decide) rfl (by decide) ?_
        exact law_c21 C hE hX hbl hbA hi hL hst.2.2.2.2.2.2.2.2.2.2.2.2.2.2.2.2.2.2.2.2.2.1 hn M h H locs ls hinv hP hS hl
      · refine lv_tableIn (off := 959) (tgt := 992) hx hb dL_law_33 (by decide) (by decide) rfl (by decide) ?_
        exact law_c22 C hE hX hbl hbA hi hL hst.2.2.2.2.2.2.2.2.2.2.2.2.2.2.2.2.2.2.2.2.2.2.1 hn M h H locs ls hinv hP hS hl
      · refine lv_tableIn (off := 982) (tgt := 1015) hx hb dL_law_33 (by decide) (by decide) rfl (by decide) ?_
        exact law_c23 C hE hX hbl hbA hi hL hst.2.2.2.2.2.2.2.2.2.2.2.2.2.2.2.2.2.2.2.2.2.2.2.1 hn M h H locs ls hinv hP hS hl
      · refine lv_tableIn (off := 1061) (tgt := 1094) hx hb dL_law_33 (by decide) (by decide) rfl (by decide) ?_
        exact law_c24 C hE hX hbl hbA hi hL hst.2.2.2.2.2.2.2.2.2.2.2.2.2.2.2.2.2.2.2.2.2.2.2.2.1 hn M h H locs ls hinv hP hS hl
      · refine lv_tableIn (off := 1094) (tgt := 1127) hx hb dL_law_33 (by decide) (by decide) rfl (by decide) ?_
        exact law_c25 C hE hX hbl hbA hi hL hst.2.2.2.2.2.2.2.2.2.2.2.2.2.2.2.2.2.2.2.2.2.2.2.2.2.1 hn M h H locs ls hinv hP hS hl
      · refine lv_tableIn (off := 1157) (tgt := 1190) hx hb dL_law_33 (by decide) (by decide) rfl (by decide) ?_
        exact law_c26 C hE hX hbl hbA hi hL hst.2.2.2.2.2.2.2.2.2.2.2.2.2.2.2.2.2.2.2.2.2.2.2.2.2.2.1 hn M h H locs ls hinv hP hS hl
      · refine lv_tableIn (off := 1210) (tgt := 1243) hx hb dL_law_33 (by decide) (by decide) rfl (by decide) ?_
        exact law_c27 C hE hX hbl hbA hi hL hst.2.2.2.2.2.2.2.2.2.2.2.2.2.2.2.2.2.2.2.2.2.2.2.2.2.2.2.1 hn M h H locs ls hinv hP hS hl
      · refine lv_tableIn (off := 1233) (tgt := 1266) hx hb dL_law_33 (by decide) (by decide) rfl (by decide) ?_
        exact law_c28 C hE hX hbl hbA hi hL hst.2.2.2.2.2.2.2.2.2.2.2.2.2.2.2.2.2.2.2.2.2.2.2.2.2.2.2.2.1 hn M h H locs ls hinv hP hS hl
      · refine lv_tableIn (off := 1256) (tgt := 1289) hx hb dL_law_33 (by decide) (by decide) rfl (by decide) ?_
        exact law_c29 C hE hX hbl hbA hi hL hst.2.2.2.2.2.2.2.2.2.2.2.2.2.2.2.2.2.2.2.2.2.2.2.2.2.2.2.2.2.1 hn M h H locs ls hinv hP hS hl
      · refine lv_tableIn (off := 1269) (tgt := 1302) hx hb dL_law_33 (by decide) (by decide) rfl (by decide) ?_
        exact law_c30 C hE hX hbl hbA hi hL hst.2.2.2.2.2.2.2.2.2.2.2.2.2.2.2.2.2.2.2.2.2.2.2.2.2.2.2.2.2.2.1 hn M h H locs ls hinv hP hS hl
      · refine lv_tableIn (off := 1292) (tgt := 1325) hx hb dL_law_33 (by decide) (by decide) rfl (by decide) ?_
        exact law_c31 C hE hX hbl hbA hi hL hst.2.2.2.2.2.2.2.2.2.2.2.2.2.2.2.2.2.2.2.2.2.2.2.2.2.2.2.2.2.2.2 hn M h H locs ls hinv hP hS hl
set_option maxRecDepth 100000 in
set_option maxHeartbeats 8000000 in
theorem whole_start_open {p : Program} {e : Env} {s : State} {m : MethodId} {below : List Frame} {meth : Method} {c : Code} (l : Launch) {b L : Nat} {xs : Nat → Int32} {Inv : Mem → Prop} (hI0 : Inv M0) (hst : STALL Inv) (hL : L ≤ 3072) (C0 : lw_At p s m meth c b L xs) : W p l e room_1 s m #[Value.ref b] below meth c s.heap [] 0 0 (lw_Z below #[Value.ref b] s) (entryFrame m ([Value.ref b] : List Value).toArray 4) := by
  obtain ⟨D, cs, sx, hE, hEC⟩ := env_start C0
  generalize hGe : ((D, (fun q => s.heap.size + q), cs, sx) : GG) = G at hE hEC
  have hG : xa G = fun p => s.heap.size + p := by rw [← hGe]
  have hAG : ∀ q, Aw G q → s.heap.size ≤ q := by
    rintro q ⟨k, -, rfl⟩
    rw [hG]
    exact Nat.le_add_right _ _
  obtain ⟨hx, hb, hr, hml, hown, hts, hX, hbl, hlocks, hgv⟩ := id C0
  have C : CallFix p m c cL_law 4 s #[Value.ref b] TB RL := ⟨hx, hb, hml, hown, fun w hw => hts w (List.mem_filter.mp hw).1⟩
  have hS : va_S (AN s.heap.size) s.heap s.heap [] := va_S.rf
  have hW : GP G s.heap.size [] s.heap := fun k q h => by simp [gw] at h
  have hl := lv_entry ([.ref b]) (n := 4) (Nat.le_of_ble_eq_true rfl)
  rw [lg_entry_eq]
  generalize (lg_sl ([.ref b]) ++ List.replicate (4 - (lg_sl ([.ref b])).length) Slot.unset).toArray = ls at hl ⊢
  have hl : lv_has ls 4 [(0, .ref b)] := hl
  refine g_new (ci := 11) (fs := [.null, .null, .null, .null, .null, .null, .null, .null, .null, .null, .null]) (w' := [.inr (11, [.null, .null, .null, .null, .null, .null, .null, .null, .null, .null, .null])]) (a := s.heap.size + 0) C hEC hW hS rfl (Or.inr rfl) klL_7 kn_11 kz_11 rfl hinX11 tyX11_ok df_11 (by decide) (by decide) rfl rfl dL_law_0 (fun H hW hS => ?_)
  refine lv_dup hx hb dL_law_3 rfl ?_
  refine g_call (w' := seg_X11_init G s.heap.size) (rest := [.ref (s.heap.size + 0)]) (b := s.heap.size + 0) (As := []) C hEC hW hS rfl (Or.inl (by simp)) yi_X11_init kiL_9 ct_X11_init (by decide) rfl hl.1 (Nat.le_of_ble_eq_true rfl) rfl dL_law_4 (fun H locs hW hS => ?_)
  refine lv_astore_n (lv' := [(1, .ref (s.heap.size + 0)), (0, .ref b)]) hx hb dL_law_7 rfl hl (by decide) rfl (fun ls hl => ?_)
  have h132 : (seg_X11_init G s.heap.size).length = 132 := ((OKL_X11 hG).1.trans shX11_len)
  have hne : seg_X11_init G s.heap.size ≠ [] := by
    intro h
    rw [h] at h132
    cases h132
  refine g_new (ci := 12) (fs := [.null, .int 0, .null, .null, .null, .null, .null, .int 0, .null, .null, .null, .null, .null, .null, .int 0, .int 0, .int 0, .int 0, .int 0, .int 0, .null, .null, .int 0, .null, .int 0, .null, .int 0, .null, .null, .int 0, .null, .int 0, .int 0, .int 0, .int 0, .null, .null, .null, .null, .null, .null, .int 0, .long 0]) (w' := seg_X11_init G s.heap.size ++ [.inr (12, [.null, .int 0, .null, .null, .null, .null, .null, .int 0, .null, .null, .null, .null, .null, .null, .int 0, .int 0, .int 0, .int 0, .int 0, .int 0, .null, .null, .int 0, .null, .int 0, .null, .int 0, .null, .null, .int 0, .null, .int 0, .int 0, .int 0, .int 0, .null, .null, .null, .null, .null, .null, .int 0, .long 0])]) (a := s.heap.size + 132) C hEC hW hS (by rw [h132]; rfl) (Or.inl hne) klL_10 kn_12 kz_12 rfl hinX12 tyX12_ok df_12 (by decide) (by decide) rfl (by rw [h132]) dL_law_8 (fun H hW hS => ?_)
  refine lv_dup hx hb dL_law_11 rfl ?_
  refine g_call (w' := seg_X11_init G s.heap.size ++ seg_X12_init G s.heap.size 132) (rest := [.ref (s.heap.size + 132)]) (b := s.heap.size + 132) (As := []) C hEC hW hS (by rw [List.length_append, h132]; rfl) (Or.inl (by simp)) yi_X12_init kiL_12 (ct_X12_init (seg_X11_init G s.heap.size) 132 h132) (by decide) rfl hl.1 (Nat.le_of_ble_eq_true rfl) rfl dL_law_12 (fun H locs hW hS => ?_)
  refine lv_astore_n (lv' := [(2, .ref (s.heap.size + 132)), (1, .ref (s.heap.size + 0)), (0, .ref b)]) hx hb dL_law_15 rfl hl (by decide) rfl (fun ls hl => ?_)
  refine lv_iconst (v := 0) hx hb dL_law_16 (by decide) ?_
  refine lv_istore_n (lv' := [(3, .int 0), (2, .ref (s.heap.size + 132)), (1, .ref (s.heap.size + 0)), (0, .ref b)]) hx hb dL_law_17 rfl hl (by decide) rfl (fun ls hl => ?_)
  refine W.widen (k := 600000) (n := 7302249) (by decide) (by decide) ?_
  refine va_forget (fun q hq => hS.2.2 q hq) ?_
  have hP := start_P hG hW
  have hS2 : va_S (Aw G) s.heap H [] := ⟨hS.1, fun q h1 h2 => hS.2.1 q h1 (Nat.not_le.mpr h1), fun q h => by cases h⟩
  have hl : lv_has ls 4 (LL G b 0) := by
    have h9 := lv_sub (l' := [(0, .ref b), (1, .ref (s.heap.size + 0)), (2, .ref (s.heap.size + 132)), (3, .int 0)]) hl [3, 2, 1, 0] rfl
    unfold LL
    rw [hG]
    exact h9
  exact law_loop C hr hlocks hE hX hbl hAG hL hst (L + 7) 0 (by omega) (by omega) M0 0 H [] ls hI0 hP hS2 hl
