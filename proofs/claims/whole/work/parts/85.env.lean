theorem eq_ref {args : Array Value} {s : State} {t u : Term} {a : Nat} (h : (Cond.eq t u).before args s = true) (ht : t.eval args s none [] s = some (.ref a)) : u.eval args s none [] s = some (.ref a) := by
  cases hv : u.eval args s none [] s with
  | none => simp [Cond.before, Cond.holds, Cond.value, ht, hv] at h
  | some w =>
    simp only [Cond.before, Cond.holds, Cond.value, ht, hv] at h
    cases w <;> simp_all
theorem i3 {P : Nat → Prop} (h0 : P 0) (h1 : P 1) (h2 : P 2) : ∀ i, i < 3 → P i := by
  intro i hi
  rcases (show i = 0 ∨ i = 1 ∨ i = 2 by omega) with rfl | rfl | rfl
  · exact h0
  · exact h1
  · exact h2
def tmS (i : Nat) : Term := if i = 0 then .string "EdgesFit$Page" 35 else if i = 1 then .string "EdgesFit$Page" 49 else .string "EdgesFit$Page" 51
set_option maxRecDepth 100000 in
set_option maxHeartbeats 8000000 in
theorem str_start {s : State} {b : Nat} {A : Nat → Prop} (hgv : (Jvm.Cond.and given_1 narrow_1).before #[Value.ref b] s = true) (hA : ∀ a : Nat, a < s.heap.size → ¬ A a) : ∃ adK adV : Nat → Nat, vk_S 3 strN strB adK adV A s s.heap ∧ ∀ i : Nat, i < 3 → (tmS i).eval #[Value.ref b] s none [] s = some (.ref (adK i)) := by
  have hs := flat_of_before _ hgv
  refine vk_Sof (tm := tmS) ?_ ?_ ?_ ?_ ?_ ?_ ?_ hA
  · exact i3 (by decide) (by decide) (by decide)
  · exact i3 (hs (Cond.exactly (Term.string "EdgesFit$Page" 35) "java/lang/String") (by decide +kernel)) (hs (Cond.exactly (Term.string "EdgesFit$Page" 49) "java/lang/String") (by decide +kernel)) (hs (Cond.exactly (Term.string "EdgesFit$Page" 51) "java/lang/String") (by decide +kernel))
  · exact i3 (hs (Cond.eq (.field (Term.string "EdgesFit$Page" 35) "java/lang/String" "coder" "B") (.int 0)) (by decide +kernel)) (hs (Cond.eq (.field (Term.string "EdgesFit$Page" 49) "java/lang/String" "coder" "B") (.int 0)) (by decide +kernel)) (hs (Cond.eq (.field (Term.string "EdgesFit$Page" 51) "java/lang/String" "coder" "B") (.int 0)) (by decide +kernel))
  · exact i3 (hs (Cond.arrayOf (.field (Term.string "EdgesFit$Page" 35) "java/lang/String" "value" "[B") .byte) (by decide +kernel)) (hs (Cond.arrayOf (.field (Term.string "EdgesFit$Page" 49) "java/lang/String" "value" "[B") .byte) (by decide +kernel)) (hs (Cond.arrayOf (.field (Term.string "EdgesFit$Page" 51) "java/lang/String" "value" "[B") .byte) (by decide +kernel))
  · exact i3 (hs (Cond.eq (.length (.field (Term.string "EdgesFit$Page" 35) "java/lang/String" "value" "[B")) (.int 4)) (by decide +kernel)) (hs (Cond.eq (.length (.field (Term.string "EdgesFit$Page" 49) "java/lang/String" "value" "[B")) (.int 3)) (by decide +kernel)) (hs (Cond.eq (.length (.field (Term.string "EdgesFit$Page" 51) "java/lang/String" "value" "[B")) (.int 3)) (by decide +kernel))
  · refine i3 (P := fun i => ∀ j : Nat, j < strN.getD i 0 → _) ?_ ?_ ?_
    · exact (fun j hj => by
      have hj : j < 4 := hj
      rcases (show j = 0 ∨ j = 1 ∨ j = 2 ∨ j = 3 by omega) with rfl | rfl | rfl | rfl
      · exact hs (Cond.eq (.elem (.field (Term.string "EdgesFit$Page" 35) "java/lang/String" "value" "[B") (.int 0)) (.int 74)) (by decide +kernel)
      · exact hs (Cond.eq (.elem (.field (Term.string "EdgesFit$Page" 35) "java/lang/String" "value" "[B") (.int 1)) (.int 66)) (by decide +kernel)
      · exact hs (Cond.eq (.elem (.field (Term.string "EdgesFit$Page" 35) "java/lang/String" "value" "[B") (.int 2)) (.int 83)) (by decide +kernel)
      · exact hs (Cond.eq (.elem (.field (Term.string "EdgesFit$Page" 35) "java/lang/String" "value" "[B") (.int 3)) (.int 67)) (by decide +kernel))
    · exact (fun j hj => by
      have hj : j < 3 := hj
      rcases (show j = 0 ∨ j = 1 ∨ j = 2 by omega) with rfl | rfl | rfl
      · exact hs (Cond.eq (.elem (.field (Term.string "EdgesFit$Page" 49) "java/lang/String" "value" "[B") (.int 0)) (.int 100)) (by decide +kernel)
      · exact hs (Cond.eq (.elem (.field (Term.string "EdgesFit$Page" 49) "java/lang/String" "value" "[B") (.int 1)) (.int 101)) (by decide +kernel)
      · exact hs (Cond.eq (.elem (.field (Term.string "EdgesFit$Page" 49) "java/lang/String" "value" "[B") (.int 2)) (.int 107)) (by decide +kernel))
    · exact (fun j hj => by
      have hj : j < 3 := hj
      rcases (show j = 0 ∨ j = 1 ∨ j = 2 by omega) with rfl | rfl | rfl
      · exact hs (Cond.eq (.elem (.field (Term.string "EdgesFit$Page" 51) "java/lang/String" "value" "[B") (.int 0)) (.int 60)) (by decide +kernel)
      · exact hs (Cond.eq (.elem (.field (Term.string "EdgesFit$Page" 51) "java/lang/String" "value" "[B") (.int 1)) (.int 61)) (by decide +kernel)
      · exact hs (Cond.eq (.elem (.field (Term.string "EdgesFit$Page" 51) "java/lang/String" "value" "[B") (.int 2)) (.int 62)) (by decide +kernel))
  · intro i j hi hj hij
    rcases (show i = 0 ∨ i = 1 ∨ i = 2 by omega) with rfl | rfl | rfl <;> rcases (show j = 0 ∨ j = 1 ∨ j = 2 by omega) with rfl | rfl | rfl
    · exact absurd rfl hij
    · exact Or.inl (hs (Cond.not (Cond.eq (Term.string "EdgesFit$Page" 35) (Term.string "EdgesFit$Page" 49))) (by decide +kernel))
    · exact Or.inl (hs (Cond.not (Cond.eq (Term.string "EdgesFit$Page" 35) (Term.string "EdgesFit$Page" 51))) (by decide +kernel))
    · exact Or.inr (hs (Cond.not (Cond.eq (Term.string "EdgesFit$Page" 35) (Term.string "EdgesFit$Page" 49))) (by decide +kernel))
    · exact absurd rfl hij
    · exact Or.inl (hs (Cond.not (Cond.eq (Term.string "EdgesFit$Page" 49) (Term.string "EdgesFit$Page" 51))) (by decide +kernel))
    · exact Or.inr (hs (Cond.not (Cond.eq (Term.string "EdgesFit$Page" 35) (Term.string "EdgesFit$Page" 51))) (by decide +kernel))
    · exact Or.inr (hs (Cond.not (Cond.eq (Term.string "EdgesFit$Page" 49) (Term.string "EdgesFit$Page" 51))) (by decide +kernel))
    · exact absurd rfl hij
set_option maxRecDepth 100000 in
set_option maxHeartbeats 8000000 in
theorem env_start {p : Program} {s : State} {m : MethodId} {meth : Method} {c : Code} {b L : Nat} {xs : Nat → Int32} (C0 : lw_At p s m meth c b L xs) : ∃ (D : va_G) (cs : ClassId × ClassId × ClassId) (sx : Nat × (Nat → Nat) × (Nat → Nat)), EnvOK (D, (fun q => s.heap.size + q), cs, sx) s ∧ EnvC (D, (fun q => s.heap.size + q), cs, sx) s := by
  obtain ⟨hx, hb, hr, hml, hown, hts, hX, hbl, hlocks, hgv⟩ := C0
  have hs := flat_of_before _ hgv
  have htb : ∀ w ∈ TB, w.before #[Value.ref b] s = true := fun w hw => hts w (List.mem_filter.mp hw).1
  obtain ⟨c0, iS0, hK0⟩ := u_known (C := RX0) (T := TX0) (N := 3) (n := 3) htb hinX0 (hts (.instantiable RX0 3) (List.mem_append_right _ (List.mem_append_left _ (List.mem_of_getElem? (l := tables_1_1) (i := 195) rfl))))
  obtain ⟨c1, iS1, hK1⟩ := u_known (C := RX1) (T := TX1) (N := 9) (n := 9) htb hinX1 (hts (.instantiable RX1 9) (List.mem_append_right _ (List.mem_append_left _ (List.mem_of_getElem? (l := tables_1_1) (i := 73) rfl))))
  obtain ⟨c2, iS2, hK2⟩ := u_known (C := RX2) (T := TX2) (N := 3) (n := 3) htb hinX2 (hts (.instantiable RX2 3) (List.mem_append_right _ (List.mem_append_left _ (List.mem_of_getElem? (l := tables_1_1) (i := 31) rfl))))
  obtain ⟨c3, iS3, hK3⟩ := u_known (C := RX3) (T := TX3) (N := 5) (n := 5) htb hinX3 (hts (.instantiable RX3 5) (List.mem_append_right _ (List.mem_append_left _ (List.mem_of_getElem? (l := tables_1_1) (i := 129) rfl))))
  obtain ⟨c4, iS4, hK4⟩ := u_known (C := RX4) (T := TX4) (N := 10) (n := 10) htb hinX4 (hts (.instantiable RX4 10) (List.mem_append_right _ (List.mem_append_left _ (List.mem_of_getElem? (l := tables_1_1) (i := 136) rfl))))
  obtain ⟨c5, iS5, hK5⟩ := u_known (C := RX5) (T := TX5) (N := 5) (n := 5) htb hinX5 (hts (.instantiable RX5 5) (List.mem_append_right _ (List.mem_append_left _ (List.mem_of_getElem? (l := tables_1_1) (i := 51) rfl))))
  obtain ⟨c6, iS6, hK6⟩ := u_known (C := RX6) (T := TX6) (N := 2) (n := 2) htb hinX6 (hts (.instantiable RX6 2) (List.mem_append_right _ (List.mem_append_left _ (List.mem_of_getElem? (l := tables_1_1) (i := 116) rfl))))
  obtain ⟨c7, iS7, hK7⟩ := u_known (C := RX7) (T := TX7) (N := 5) (n := 5) htb hinX7 (hts (.instantiable RX7 5) (List.mem_append_right _ (List.mem_append_right _ (List.mem_append_left _ (List.mem_of_getElem? (l := tables_1_2) (i := 38) rfl)))))
  obtain ⟨c8, iS8, hK8⟩ := u_known (C := RX8) (T := TX8) (N := 6) (n := 6) htb hinX8 (hts (.instantiable RX8 6) (List.mem_append_right _ (List.mem_append_left _ (List.mem_of_getElem? (l := tables_1_1) (i := 211) rfl))))
  obtain ⟨c9, iS9, hK9⟩ := u_known (C := RX9) (T := TX9) (N := 11) (n := 11) htb hinX9 (hts (.instantiable RX9 11) (List.mem_append_right _ (List.mem_append_left _ (List.mem_of_getElem? (l := tables_1_1) (i := 238) rfl))))
  obtain ⟨c10, iS10, hK10⟩ := u_known (C := RX10) (T := TX10) (N := 1) (n := 1) htb hinX10 (hts (.instantiable RX10 1) (List.mem_append_right _ (List.mem_append_right _ (List.mem_append_left _ (List.mem_of_getElem? (l := tables_1_2) (i := 63) rfl)))))
  obtain ⟨c11, iS11, hK11⟩ := u_known (C := RX11) (T := TX11) (N := 11) (n := 11) htb hinX11 (hts (.instantiable RX11 11) (List.mem_append_right _ (List.mem_append_left _ (List.mem_of_getElem? (l := tables_1_1) (i := 23) rfl))))
  obtain ⟨c12, iS12, hK12⟩ := u_known (C := RX12) (T := TX12) (N := 43) (n := 43) htb hinX12 (hts (.instantiable RX12 43) (List.mem_append_right _ (List.mem_append_right _ (List.mem_append_right _ (List.mem_append_right _ (List.mem_append_right _ (List.mem_append_left _ (List.mem_of_getElem? (l := tables_1_5) (i := 116) rfl))))))))
  obtain ⟨cI, kI, oI, i1, i2, i3⟩ := Cond.arrayClass_spec (args := #[Value.ref b]) (first := s) (o := none) (s := s) (idx := []) (htb _ ka_int)
  obtain ⟨cZ, kZ, oZ, z1, z2, z3⟩ := Cond.arrayClass_spec (args := #[Value.ref b]) (first := s) (o := none) (s := s) (idx := []) (htb _ ka_bool)
  have hov : (Cond.arrayOver (.object "EdgesFit$Law")).before #[Value.ref b] s = true := hts _ (List.mem_append_right _ (List.mem_append_left _ (List.mem_of_getElem? (l := tables_1_1) (i := 135) rfl)))
  obtain ⟨oL, cL, kL, l1, l2, l3, l4, l5⟩ := Cond.arrayOver_spec (args := #[Value.ref b]) (first := s) (o := none) (s := s) (idx := []) hov
  have hA : ∀ a : Nat, a < s.heap.size → ¬ (∃ p, p < shp.length ∧ a = s.heap.size + p) := by
    rintro a ha ⟨q, -, rfl⟩
    omega
  obtain ⟨adK, adV, hstr, hev⟩ := str_start (A := fun q => ∃ p, p < shp.length ∧ q = s.heap.size + p) hgv hA
  obtain ⟨wa, hwa, hwT⟩ := va_Tof (tm := .static "EdgesFit$Marks" "WEIGHTS" "[I") (ty := .int) (N := 6) (f := fun k => .int (WT k)) (A := fun q => ∃ p, p < shp.length ∧ q = s.heap.size + p) (by decide) (hs (Cond.arrayOf (.static "EdgesFit$Marks" "WEIGHTS" "[I") .int) (by decide +kernel)) (va_eqt (hs (Cond.eq (.length (.static "EdgesFit$Marks" "WEIGHTS" "[I")) (.int 6)) (by decide +kernel))) (fun j hj => by
    rcases (show j = 0 ∨ j = 1 ∨ j = 2 ∨ j = 3 ∨ j = 4 ∨ j = 5 by omega) with rfl | rfl | rfl | rfl | rfl | rfl
    · exact va_eqt (hs (Cond.eq (.elem (.static "EdgesFit$Marks" "WEIGHTS" "[I") (.int 0)) (.int 1)) (by decide +kernel))
    · exact va_eqt (hs (Cond.eq (.elem (.static "EdgesFit$Marks" "WEIGHTS" "[I") (.int 1)) (.int 3)) (by decide +kernel))
    · exact va_eqt (hs (Cond.eq (.elem (.static "EdgesFit$Marks" "WEIGHTS" "[I") (.int 2)) (.int 4)) (by decide +kernel))
    · exact va_eqt (hs (Cond.eq (.elem (.static "EdgesFit$Marks" "WEIGHTS" "[I") (.int 3)) (.int 1)) (by decide +kernel))
    · exact va_eqt (hs (Cond.eq (.elem (.static "EdgesFit$Marks" "WEIGHTS" "[I") (.int 4)) (.int 0)) (by decide +kernel))
    · exact va_eqt (hs (Cond.eq (.elem (.static "EdgesFit$Marks" "WEIGHTS" "[I") (.int 5)) (.int 2)) (by decide +kernel))) hA
  have hwZ := va_Zof (A := fun q => ∃ p, p < shp.length ∧ q = s.heap.size + p) (hts (.laysStatic "EdgesFit$Marks" "WEIGHTS" "[I") (List.mem_append_right _ (List.mem_append_right _ (List.mem_append_left _ (List.mem_of_getElem? (l := tables_1_2) (i := 220) rfl))))) (hts (.initialized "EdgesFit$Marks") (List.mem_append_right _ (List.mem_append_left _ (List.mem_of_getElem? (l := tables_1_1) (i := 4) rfl)))) hwa hA
  have hcZ := va_Zof (A := fun q => ∃ p, p < shp.length ∧ q = s.heap.size + p) (hts (.laysStatic "java/lang/String" "COMPACT_STRINGS" "Z") (List.mem_append_right _ (List.mem_append_right _ (List.mem_append_right _ (List.mem_append_left _ (List.mem_of_getElem? (l := tables_1_3) (i := 159) rfl)))))) (hts (.initialized "java/lang/String") (List.mem_append_right _ (List.mem_append_left _ (List.mem_of_getElem? (l := tables_1_1) (i := 17) rfl)))) (va_eqi (hs (Cond.eq (.static "java/lang/String" "COMPACT_STRINGS" "Z") (.int 1)) (by decide +kernel))) hA
  have hK : va_K ((fun k => [c0, c1, c2, c3, c4, c5, c6, c7, c8, c9, c10, c11, c12].getD k c0), (fun k => [iS0, iS1, iS2, iS3, iS4, iS5, iS6, iS7, iS8, iS9, iS10, iS11, iS12].getD k iS0)) vwCl [(cI, .int), (cZ, .boolean), (cL, .object "EdgesFit$Law")] s := by
    refine ⟨fun k q hq => ?_, fun k q hq => ?_⟩
    · match k, hq with
      | 0, hq => cases hq; exact hK0
      | 1, hq => cases hq; exact hK1
      | 2, hq => cases hq; exact hK2
      | 3, hq => cases hq; exact hK3
      | 4, hq => cases hq; exact hK4
      | 5, hq => cases hq; exact hK5
      | 6, hq => cases hq; exact hK6
      | 7, hq => cases hq; exact hK7
      | 8, hq => cases hq; exact hK8
      | 9, hq => cases hq; exact hK9
      | 10, hq => cases hq; exact hK10
      | 11, hq => cases hq; exact hK11
      | 12, hq => cases hq; exact hK12
      | k + 13, hq => simp [vwCl] at hq
    · match k, hq with
      | 0, hq => cases hq; exact ⟨fun n z => ⟨fun k h => (by cases h), kI, i2, oI, i3⟩, i1⟩
      | 1, hq => cases hq; exact ⟨fun n z => ⟨fun k h => (by cases h), kZ, z2, oZ, z3⟩, z1⟩
      | 2, hq => cases hq; exact ⟨fun n z => ⟨fun k h => (by cases h), kL, l3, oL, l4⟩, kL, oL, l3, l4, l1, l5⟩
      | k + 3, hq => simp at hq
  have hW : EnvW s := fun w hw => okw_at (State.WarmedH.refl s) (List.mem_filter.mp hw).2 (htb w hw)
  refine ⟨_, (cI, cZ, cL), (wa, adK, adV), ⟨fun i j _ _ h => by have : s.heap.size + i = s.heap.size + j := h; omega, hK, hW, ⟨?_, ?_, ?_, ?_⟩, hwZ, hwT, hstr, hcZ⟩, hK, hW, va_AO.of hov⟩
  · exact vk_R.of (hts (.stringRef "EdgesFit$Page" 35 "JBSC") (List.mem_append_right _ (List.mem_append_right _ (List.mem_append_right _ (List.mem_append_left _ (List.mem_of_getElem? (l := tables_1_3) (i := 142) rfl)))))) (hev 0 (by decide))
  · exact vk_R.of (hts (.stringRef "EdgesFit$Page" 49 "dek") (List.mem_append_right _ (List.mem_append_right _ (List.mem_append_right _ (List.mem_append_left _ (List.mem_of_getElem? (l := tables_1_3) (i := 234) rfl)))))) (hev 1 (by decide))
  · exact vk_R.of (hts (.stringRef "EdgesFit$Page" 51 "<=>") (List.mem_append_right _ (List.mem_append_right _ (List.mem_append_right _ (List.mem_append_left _ (List.mem_of_getElem? (l := tables_1_3) (i := 235) rfl)))))) (hev 2 (by decide))
  · exact vk_R.of (hts (.stringRef "EdgesFit$Law" 51 "JBSC") (List.mem_append_right _ (List.mem_append_right _ (List.mem_append_right _ (List.mem_append_right _ (List.mem_append_left _ (List.mem_of_getElem? (l := tables_1_4) (i := 37) rfl))))))) (eq_ref (hs (Cond.eq (Term.string "EdgesFit$Page" 35) (.string "EdgesFit$Law" 51)) (by decide +kernel)) (hev 0 (by decide)))
