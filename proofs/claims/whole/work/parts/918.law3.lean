theorem st_law : ST_law Inv := by
  intro a1 M hI
  by_cases h : isN a1 2 = true
  · obtain ⟨g, hg, rfl⟩ := isN_of (by decide) h
    obtain ⟨k0, hk8, e1, e2, -⟩ := hI.2.2.2.1 g hg
    obtain ⟨n, hC, hM⟩ := hI.2.2.1.pg
    have hp := hP_of hg
    revert hC hM
    generalize (fun i => (M 11 i).toNatClampNeg) = pg
    intro hC hM
    have hlaw := c_law1 hC
    have hlt := sts_lt (fun i hi => (hC.2.2 i hi).1) n (Nat.le_refl _)
    have c0 : f_X11_law (nI g) M = (f_X6_isLaw M).bind fun (r2 : Bool) => if r2 = true then (f_X3_isFull (hP g) M).bind fun (r3 : Bool) => if r3 = true then some ((-104), M) else (f_X3_read (hP g) M).bind fun ((r4, M5) : (Int32 × Mem)) => (f_X6_wipe M5).bind fun ((r6, M7) : (Int32 × Mem)) => some (r4, M7) else some ((-103), M) := by
      unfold f_X11_law
      rw [wi_2, h, Option.bind_some, if_pos rfl, hq_nI g hg]
    have m0 : ∀ Mx, f_X12_law (nI g) Mx = (f_X12_faultOf Mx).bind fun ((r2, M3) : (Int32 × Mem)) => if r2 < (M3 132 7) then some ((-103), M3) else if (M3 132 14) = 3 then f_X12_law_j49_1 (nI g) M3 else if (M3 132 14) = 4 then f_X12_law_j49_1 (nI g) M3 else if 8 ≤ (M3 132 14) then f_X12_law_j49_1 (nI g) M3 else some ((-103), M3) := by
      intro Mx
      unfold f_X12_law
      rw [m_isHolder, h, Option.bind_some, if_pos rfl]
    by_cases q : stsN pg n = 3 ∨ stsN pg n = 4 ∨ stsN pg n = 8 ∨ stsN pg n = 9
    · rw [decide_eq_true q] at hlaw
      rw [hlaw, Option.bind_some, if_pos rfl] at c0
      have hall := sts_all (pg := pg) (n := n) (by omega)
      have jn : ∀ (M3 : Mem) (R : Option (Int32 × Mem)), M3 132 7 = nI n → M3 132 14 = nI (stsN pg n) → (if nI n < (M3 132 7) then some ((-103), M3) else if (M3 132 14) = 3 then R else if (M3 132 14) = 4 then R else if 8 ≤ (M3 132 14) then R else some ((-103), M3)) = R := by
        intro M3 R h7 h14
        rw [h7, if_neg (fun y => Int32.lt_irrefl y), h14]
        rcases q with q | q | q | q <;> rw [q] <;> rfl
      by_cases full : k0 = 8
      · subst full
        obtain ⟨M1, g1, g2, g3⟩ := m_faultOf hM (Nat.le_refl n) hall (fun y => absurd y (Nat.lt_irrefl _))
        have hst := RelM_st (g3 rfl)
        rw [as_st] at hst
        have i1 := inb_t (k := g) (n := 2) hg (by decide)
        have i2 := nI_cl (show g < 2 ^ 31 by omega)
        refine ob_mk (z := (-104, M)) ?_ (ob_mk (z := (-104, M1)) ?_ ⟨rfl, hI.mL g2⟩)
        · rw [c0]
          unfold f_X3_isFull
          rw [e1]
          rfl
        · rw [m0, g1, Option.bind_some]
          simp only
          rw [jn M1 _ ((g2 132 7 (by decide) (by decide) (by decide) (by omega)).trans hM.2.1) hst]
          unfold f_X12_law_j49_1
          rw [if_pos i1, i2, g2 139 g (by decide) (by decide) (by decide) (by omega), e2]
          rfl
      · have hk : k0 < 8 := by omega
        obtain ⟨Q, hQ⟩ : ∃ Q, Q = hP g + 3 + 6 * k0 := ⟨_, rfl⟩
        obtain ⟨M3, r1, r2, r3⟩ := c_read (Q := Q) hC (by omega) hall
        have i1 := inb_t (k := k0) (n := 8) hk (by decide)
        have i2 := nI_cl (show k0 < 2 ^ 31 by omega)
        have e3 : M3 (hP g) 2 = nI k0 := (r3 _ _ (by omega)).trans e1
        obtain ⟨Mc, hMc⟩ : ∃ Mc, Mc = up (up M3 (hP g) 2 (nI (k0 + 1))) 10 1 0 := ⟨_, rfl⟩
        have rdc : ∀ p k, ¬ (p = hP g ∧ k = 2) → ¬ (p = 10 ∧ k = 1) → Mc p k = M3 p k := fun p k h1 h2 => by
          rw [hMc, up_at, if_neg h2, up_at, if_neg h1]
        have cl : f_X11_law (nI g) M = some (nI (k0 + 1), Mc) := by
          have e4 : f_X3_isFull (hP g) M = some false := by
            unfold f_X3_isFull
            rw [e1, if_pos (show nI k0 < 8 from nI_lt (b := 8) hk (by decide))]
            rfl
          have e5 : up M3 (hP g) 2 (nI (k0 + 1)) (hP g) 2 = nI (k0 + 1) := by simp [up_at]
          have e6 : f_X3_read (hP g) M = some (nI (k0 + 1), up M3 (hP g) 2 (nI (k0 + 1))) := by
            unfold f_X3_read
            rw [e1, if_pos i1, i2, ← hQ, r1, Option.bind_some, e3, nI_1, e5]
          rw [c0, e4, Option.bind_some, if_neg Bool.false_ne_true, e6, Option.bind_some]
          simp only
          unfold f_X6_wipe
          rw [Option.bind_some, hMc]
        have pM : PgM pg n Mc := by
          refine ⟨hM.1, ?_, fun i hi => ⟨(hM.2.2 i hi).1, ?_⟩⟩
          · rw [rdc 132 7 (by omega) (by omega), r3 132 7 (by omega)]; exact hM.2.1
          · rw [rdc 138 i (by omega) (by omega), r3 138 i (by omega)]; exact (hM.2.2 i hi).2
        obtain ⟨Mf, g1, g2, g3⟩ := m_faultOf pM (Nat.le_refl n) hall (fun y => absurd y (Nat.lt_irrefl _))
        have rM := g3 rfl
        have hst := RelM_st rM
        rw [as_st] at hst
        have e9 : Mf 139 g = nI k0 := by
          rw [g2 139 g (by decide) (by decide) (by decide) (by omega), rdc 139 g (by omega) (by omega), r3 139 g (by omega)]
          exact e2
        have qs : (asN pg n).1 = 3 ∨ (asN pg n).1 = 4 ∨ (asN pg n).1 = 8 ∨ (asN pg n).1 = 9 := by rw [as_st]; exact q
        obtain ⟨Mm, w1, w2, w3, w4, w5, w6, w7, w8, w9⟩ := m_law hg hk rM r2 qs hM.1 e9 g2
        refine ob_mk cl (ob_mk (z := (nI (k0 + 1), Mm)) ?_ ⟨rfl, ?_⟩)
        · rw [m0, g1, Option.bind_some]
          simp only
          rw [jn Mf _ ((g2 132 7 (by decide) (by decide) (by decide) (by omega)).trans pM.2.1) hst]
          exact w1
        · have hw := RelC_w r2 (by omega)
          have back : ∀ p k, p < 130 → ¬ (p = hP g ∧ k = 2) → ¬ (p = 10 ∧ k = 1) → Mm p k = M3 p k := fun p k h1 h2 h3 => (w9 p k (by omega) (by omega) (by omega) (by omega) (by omega) (by omega) (by omega) (by omega)).trans (rdc p k h2 h3)
          have rows : ∀ j, j < 6 → Mm (Q + j) = M3 (Q + j) := fun j hj => funext fun k => back _ _ (by omega) (by omega) (by omega)
          have q0 := rows 0 (by decide)
          rw [Nat.add_zero] at q0
          show Inv Mm
          refine hI.law (M1 := Mm) hg hk e1 (fun p k hf => ?_) ?_ w2 ?_ w3 ?_
          · unfold frL at hf
            obtain ⟨f1, f2, f3, f4, f5, f6, f7, f8, f9, f10, f11⟩ := hf
            rw [w9 p k f4 f5 f6 f7 f8 f9 f10 f11, rdc p k f2 f3, r3 p k (by omega)]
          · rw [w9 (hP g) 2 (by omega) (by omega) (by omega) (by omega) (by omega) (by omega) (by omega) (by omega), hMc, up_at, if_neg (fun y => by omega), up_at, if_pos ⟨rfl, rfl⟩]
          · rw [w9 10 1 (by omega) (by omega) (by omega) (by omega) (by omega) (by omega) (by omega) (by omega), hMc, up_at, if_pos ⟨rfl, rfl⟩]
            rfl
          · rw [← hQ]
            exact ⟨⟨_, w4, by rw [q0]; exact hw.1, w5⟩, ⟨_, w6, by rw [q0]; exact hw.2, w7⟩, _, (RelC_cls r2 qs hM.1).kp rows, w8⟩
    · rw [decide_eq_false q] at hlaw
      rw [hlaw, Option.bind_some, if_neg Bool.false_ne_true] at c0
      obtain ⟨N, hN, -, k2, k3⟩ := c_fault hC
      obtain ⟨M1, g1, g2, g3⟩ := m_faultOf hM hN k2 k3
      have h7 : M1 132 7 = nI n := (g2 132 7 (by decide) (by decide) (by decide) (by omega)).trans hM.2.1
      have hn := hM.1
      refine ob_mk c0 (ob_mk (z := (-103, M1)) ?_ ⟨rfl, hI.mL g2⟩)
      rw [m0, g1, Option.bind_some]
      simp only
      by_cases y : N = n
      · have hst := RelM_st (g3 y)
        rw [as_st] at hst
        have n10 : ¬ stsN pg n = 10 := sts_pre k2 (by omega)
        have x3 : ¬ M1 132 14 = 3 := by
          rw [hst]
          intro w
          have := nI_inj (b := 3) (by omega) (by decide) w
          omega
        have x4 : ¬ M1 132 14 = 4 := by
          rw [hst]
          intro w
          have := nI_inj (b := 4) (by omega) (by decide) w
          omega
        have x8 : ¬ 8 ≤ M1 132 14 := by
          rw [hst]
          exact nI_ge (b := 8) (by omega) (by decide)
        rw [h7, y, if_neg (fun w => Int32.lt_irrefl w), if_neg x3, if_neg x4, if_neg x8]
      · rw [h7, if_pos (nI_lt (by omega) (by omega))]
  · refine ob_mk (z := (-101, M)) (by simp [f_X11_law, wi_2, h]) ?_
    exact ob_mk (z := (-101, M)) (by simp [f_X12_law, m_isHolder, h]) ⟨rfl, hI⟩
