theorem ob_mk {α : Type} {o : Option α} {z : α} {P : α → Prop} (h : o = some z) (hp : P z) : OB o P := ⟨z, h, hp⟩
theorem wi_2 (a : Int32) : f_X11_within a 2 = some (isN a 2) := s_withinN a 2
theorem wi_3 (a : Int32) : f_X11_within a 3 = some (isN a 3) := s_withinN a 3
theorem wi_6 (a : Int32) : f_X11_within a 6 = some (isN a 6) := s_withinN a 6
theorem wi_7 (a : Int32) : f_X11_within a 7 = some (isN a 7) := s_withinN a 7
theorem wi_8 (a : Int32) : f_X11_within a 8 = some (isN a 8) := s_withinN a 8
theorem wi_10 (a : Int32) : f_X11_within a 10 = some (isN a 10) := s_withinN a 10
theorem wi_16 (a : Int32) : f_X11_within a 16 = some (isN a 16) := s_withinN a 16
theorem wi_128 (a : Int32) : f_X11_within a 128 = some (isN a 128) := s_withinN a 128
theorem wn_2 (a : Int32) : f_X12_in (Int32.toInt64 a) 0 1 = some (isN a 2) := s_in0 a 2 (by decide) rfl
theorem wn_3 (a : Int32) : f_X12_in (Int32.toInt64 a) 0 2 = some (isN a 3) := s_in0 a 3 (by decide) rfl
theorem wn_4 (a : Int32) : f_X12_in (Int32.toInt64 a) 0 3 = some (isN a 4) := s_in0 a 4 (by decide) rfl
theorem wn_6 (a : Int32) : f_X12_in (Int32.toInt64 a) 0 5 = some (isN a 6) := s_in0 a 6 (by decide) rfl
theorem wn_8 (a : Int32) : f_X12_in (Int32.toInt64 a) 0 7 = some (isN a 8) := s_in0 a 8 (by decide) rfl
theorem wn_10 (a : Int32) : f_X12_in (Int32.toInt64 a) 0 9 = some (isN a 10) := s_in0 a 10 (by decide) rfl
theorem wn_16 (a : Int32) : f_X12_in (Int32.toInt64 a) 0 15 = some (isN a 16) := s_in0 a 16 (by decide) rfl
theorem wn_128 (a : Int32) : f_X12_in (Int32.toInt64 a) 0 127 = some (isN a 128) := s_in0 a 128 (by decide) rfl
theorem wn_16777216 (a : Int32) : f_X12_in (Int32.toInt64 a) 0 16777215 = some (isN a 16777216) := s_in0 a 16777216 (by decide) rfl
theorem wi_nI (a : Int32) (n : Nat) : f_X11_within a (nI n) = some (isN a n) := s_withinN a n
theorem wn_nI (a : Int32) {n : Nat} (hn : n ≤ 100) : f_X12_in (Int32.toInt64 a) 0 (Int32.toInt64 (nI n - 1)) = some (isN a n) := by
  refine s_in0 a n (by omega) ?_
  rw [w64]
  have h1 : (nI n - nI 1).toInt = (n : Int) - 1 := pk_sub_toInt (by omega) (by decide)
  exact h1
/-- low to high of small numbers, the class's test by two compares -/
theorem r_lh (a : Int32) (lo hi : Int32) : f_X12_in (Int32.toInt64 a) (Int32.toInt64 lo) (Int32.toInt64 hi) = some (decide (lo ≤ a) && decide (a ≤ hi)) := by
  rw [s_in, w64, w64, w64]
  congr 1
  congr 1 <;> apply decide_eq_decide.mpr <;> rw [i_le]
theorem nlt_le {a b : Int32} : ¬ a < b ↔ b ≤ a := by rw [i_lt, i_le]; omega
theorem nle_lt {a b : Int32} : ¬ a ≤ b ↔ b < a := by rw [i_lt, i_le]; omega
/-! speed, floor, blank, drop -/
theorem st_speed : ST_speed Inv := by
  intro a1 M hI
  obtain ⟨hG, hM, hPg, hL, hB, ⟨⟨v0, hv0, e1, e2⟩, n, hn, n1, n2, hc⟩, hF⟩ := id hI
  by_cases h : isN a1 8 = true
  · obtain ⟨v, hv, rfl⟩ := isN_of (by decide) h
    refine ob_mk (z := (M 120 7, up M 120 7 (nI v))) (by simp [f_X11_speed, wi_8, h, f_X9_changeSpeed]) ?_
    refine ob_mk (z := (M 132 33, up (up M 120 7 (nI v)) 132 33 (nI v))) (by simp [f_X12_speed, wn_8, h, up_at]) ⟨by rw [e1, e2], ?_⟩
    exact ⟨hG.sm ((Sm.rfl'.up' rfl).up' rfl), hM.sm ((Sm.rfl'.up' rfl).up' rfl), hPg.sm ((Sm.rfl'.up' rfl).up' rfl), hL.sm ((Sm.rfl'.up' rfl).up' rfl), hB.sm ((Sm.rfl'.up' rfl).up' rfl), ⟨⟨v, hv, by simp [up_at], by simp [up_at]⟩, n, hn, by simpa [up_at] using n1, by simpa [up_at] using n2, fun i hi => by simpa [up_at] using hc i hi⟩, hF.sm ((Sm.rfl'.up' rfl).up' rfl)⟩
  · refine ob_mk (z := (-102, M)) (by simp [f_X11_speed, wi_8, h]) ?_
    exact ob_mk (z := (-102, M)) (by simp [f_X12_speed, wn_8, h]) ⟨rfl, hI⟩
theorem st_floor : ST_floor Inv := by
  intro a1 M hI
  obtain ⟨hG, hM, hPg, hL, hB, hS, ⟨v0, hv0, e1, e2⟩⟩ := id hI
  by_cases h : isN a1 16777216 = true
  · obtain ⟨v, hv, rfl⟩ := isN_of (by decide) h
    have h1 : ¬ nI v < 0 := nI_n0 (by omega)
    have h2 : nI v ≤ 16777215 := nI_le (b := 16777215) (by omega) (by decide)
    refine ob_mk (z := (M 131 0, up M 131 0 (nI v))) (by simp [f_X11_floor, h1, h2, f_X10_change]) ?_
    refine ob_mk (z := (M 132 41, up (up M 131 0 (nI v)) 132 41 (nI v))) (by simp [f_X12_floor, wn_16777216, h, up_at]) ⟨by rw [e1, e2], ?_⟩
    exact ⟨hG.sm ((Sm.rfl'.up' rfl).up' rfl), hM.sm ((Sm.rfl'.up' rfl).up' rfl), hPg.sm ((Sm.rfl'.up' rfl).up' rfl), hL.sm ((Sm.rfl'.up' rfl).up' rfl), hB.sm ((Sm.rfl'.up' rfl).up' rfl), hS.sm ((Sm.rfl'.up' rfl).up' rfl), v, hv, by simp [up_at], by simp [up_at]⟩
  · have h9 : a1 < 0 ∨ ¬ a1 ≤ 16777215 := by
      by_cases q : a1 < 0
      · exact Or.inl q
      · refine Or.inr fun q2 => h ?_
        obtain ⟨j, hj, rfl⟩ := nI_of q
        have : j ≤ 16777215 := (nI_leI hj (by decide)).mp q2
        exact isN_nI (by omega) (by decide)
    refine ob_mk (z := (-102, M)) ?_ ?_
    · rcases h9 with q | q
      · simp [f_X11_floor, q]
      · by_cases q2 : a1 < 0 <;> simp [f_X11_floor, q, q2]
    · exact ob_mk (z := (-102, M)) (by simp [f_X12_floor, wn_16777216, h]) ⟨rfl, hI⟩
theorem st_blank : ST_blank Inv := by
  intro M hI
  obtain ⟨hG, hM, ⟨n, hn, e1, e2, hc⟩, hL, hB, hS, hF⟩ := id hI
  refine ob_mk (z := (M 10 1, up M 10 1 0)) (by simp [f_X11_blank, f_X6_wipe]) ?_
  refine ob_mk (z := (M 132 7, up (up M 10 1 0) 132 7 0)) (by simp [f_X12_blank, up_at]) ⟨by rw [e1, e2], ?_⟩
  exact ⟨hG.sm ((Sm.rfl'.up' rfl).up' rfl), hM.sm ((Sm.rfl'.up' rfl).up' rfl), ⟨0, by decide, by simp [up_at]; rfl, by simp [up_at]; rfl, fun i hi => by omega⟩, hL.sm ((Sm.rfl'.up' rfl).up' rfl), hB.sm ((Sm.rfl'.up' rfl).up' rfl), hS.sm ((Sm.rfl'.up' rfl).up' rfl), hF.sm ((Sm.rfl'.up' rfl).up' rfl)⟩
theorem nI_pd {n : Nat} (h : 0 < n) : nI n - 1 = nI (n - 1) := by
  obtain ⟨k, rfl⟩ : ∃ k, n = k + 1 := ⟨n - 1, by omega⟩
  exact nI_pred k
theorem st_drop : ST_drop Inv := by
  intro M hI
  obtain ⟨hG, ⟨n, hn, e1, e2, hc⟩, hPg, hL, hB, hS, hF⟩ := id hI
  by_cases h : n = 0
  · subst h
    have z1 : M 5 4 = 0 := e1
    have z2 : M 132 1 = 0 := e2
    refine ob_mk (z := (-103, M)) (by simp [f_X11_drop, f_X5_size, z1]) ?_
    exact ob_mk (z := (-103, M)) (by simp [f_X12_drop, z2]) ⟨rfl, hI⟩
  · have z1 : ¬ M 5 4 = 0 := by rw [e1]; exact nI_ne0 (by omega) (by omega)
    have z2 : ¬ M 132 1 = 0 := by rw [e2]; exact nI_ne0 (by omega) (by omega)
    have p1 : M 5 4 - 1 = nI (n - 1) := by rw [e1]; exact nI_pd (by omega)
    have p2 : M 132 1 - 1 = nI (n - 1) := by rw [e2]; exact nI_pd (by omega)
    refine ob_mk (z := (nI (n - 1), up M 5 4 (nI (n - 1)))) (by simp [f_X11_drop, f_X5_size, z1, f_X5_removeLast, p1, up_at]) ?_
    refine ob_mk (z := (nI (n - 1), up (up M 5 4 (nI (n - 1))) 132 1 (nI (n - 1)))) (by simp [f_X12_drop, z2, p2, up_at]) ⟨rfl, ?_⟩
    exact ⟨hG.sm ((Sm.rfl'.up' rfl).up' rfl), ⟨n - 1, by omega, by simp [up_at], by simp [up_at], fun i hi => by simpa [up_at] using hc i (by omega)⟩, hPg.sm ((Sm.rfl'.up' rfl).up' rfl), hL.sm ((Sm.rfl'.up' rfl).up' rfl), hB.sm ((Sm.rfl'.up' rfl).up' rfl), hS.sm ((Sm.rfl'.up' rfl).up' rfl), hF.sm ((Sm.rfl'.up' rfl).up' rfl)⟩
/-! beast -/
theorem f0_add {M : Mem} {n : Nat} (hn : n < 8) (e : M 114 2 = nI n) (a b : Int32) : f_X0_add a b M = some (nI n, up (up (up M 115 n a) 116 n b) 114 2 (nI (n + 1))) := by
  have h1 := inb_t (k := n) (n := 8) hn (by decide)
  have h2 : nI (n + 1) - 1 = nI n := nI_pred n
  simp [f_X0_add, up_at, e, h1, nI_cl (show n < 2 ^ 31 by omega), nI_1, h2]
theorem st_beast : ST_beast Inv := by
  intro a1 a2 M hI
  obtain ⟨hG, hM, hPg, hL, ⟨n, hn, e1, e2, hc⟩, hS, hF⟩ := id hI
  have hr : f_X12_in (Int32.toInt64 a1) 1 63 = some (decide (1 ≤ a1) && decide (a1 ≤ 63)) := r_lh a1 1 63
  by_cases q1 : a1 < 1
  · have q2 : ¬ (1 : Int32) ≤ a1 := by rw [nle_lt]; exact q1
    refine ob_mk (z := (-102, M)) (by simp [f_X11_beast, q1]) ?_
    exact ob_mk (z := (-102, M)) (by simp [f_X12_beast, hr, q2]) ⟨rfl, hI⟩
  have q2 : (1 : Int32) ≤ a1 := nlt_le.mp q1
  by_cases q3 : 63 < a1
  · have q4 : ¬ a1 ≤ 63 := by rw [nle_lt]; exact q3
    refine ob_mk (z := (-102, M)) (by simp [f_X11_beast, q1, q3]) ?_
    exact ob_mk (z := (-102, M)) (by simp [f_X12_beast, hr, q4]) ⟨rfl, hI⟩
  have q4 : a1 ≤ 63 := nlt_le.mp q3
  by_cases h : isN a2 10 = true
  · by_cases hf : n = 8
    · subst hf
      have z1 : M 114 2 = 8 := e1
      have z2 : M 132 26 = 8 := e2
      refine ob_mk (z := (-104, M)) (by simp [f_X11_beast, q1, q3, wi_10, h, f_X0_isFull, z1]) ?_
      exact ob_mk (z := (-104, M)) (by simp [f_X12_beast, hr, q2, q4, wn_10, h, z2]) ⟨rfl, hI⟩
    · have hn8 : n < 8 := by omega
      have z1 : M 114 2 < 8 := by rw [e1]; exact nI_lt (b := 8) hn8 (by decide)
      have z2 : ¬ nI n = 8 := fun q => hf (nI_inj (b := 8) (by omega) (by decide) q)
      have h1 := inb_t (k := n) (n := 8) hn8 (by decide)
      have h2 : nI (n + 1) - 1 = nI n := nI_pred n
      refine ob_mk (z := (nI n, up (up (up M 115 n a1) 116 n a2) 114 2 (nI (n + 1)))) (by simp [f_X11_beast, q1, q3, wi_10, h, f_X0_isFull, z1, f0_add hn8 e1]) ?_
      refine ob_mk (z := (nI n, up (up (up (up (up (up M 115 n a1) 116 n a2) 114 2 (nI (n + 1))) 149 n a1) 150 n a2) 132 26 (nI (n + 1)))) (by simp [f_X12_beast, hr, q2, q4, wn_10, h, z2, up_at, e2, h1, nI_cl (show n < 2 ^ 31 by omega), nI_1, h2]) ⟨rfl, ?_⟩
      obtain ⟨a, ha, rfl⟩ := isN_of (by decide) h
      obtain ⟨s, hs, rfl⟩ : ∃ s, s < 2 ^ 31 ∧ a1 = nI s := nI_of (by rw [i_lt]; rw [i_le] at q2; have : (1 : Int32).toInt = 1 := rfl; have : (0 : Int32).toInt = 0 := rfl; omega)
      have s1 : 1 ≤ s := (nI_leI (a := 1) (by decide) hs).mp q2
      have s2 : s ≤ 63 := (nI_leI hs (b := 63) (by decide)).mp q4
      refine ⟨hG.sm ((((((Sm.rfl'.up' rfl).up' rfl).up' rfl).up' rfl).up' rfl).up' rfl), hM.sm ((((((Sm.rfl'.up' rfl).up' rfl).up' rfl).up' rfl).up' rfl).up' rfl), hPg.sm ((((((Sm.rfl'.up' rfl).up' rfl).up' rfl).up' rfl).up' rfl).up' rfl), hL.sm ((((((Sm.rfl'.up' rfl).up' rfl).up' rfl).up' rfl).up' rfl).up' rfl), ⟨n + 1, by omega, by simp [up_at], by simp [up_at], fun i hi => ?_⟩, hS.sm ((((((Sm.rfl'.up' rfl).up' rfl).up' rfl).up' rfl).up' rfl).up' rfl), hF.sm ((((((Sm.rfl'.up' rfl).up' rfl).up' rfl).up' rfl).up' rfl).up' rfl)⟩
      by_cases hin : i = n
      · subst hin
        refine ⟨by simp [up_at], by simp [up_at], ⟨s, by omega, by omega, by simp [up_at]⟩, a, ha, by simp [up_at]⟩
      · have hi2 : i < n := by omega
        simpa [up_at, hin] using hc i hi2
  · refine ob_mk (z := (-102, M)) (by simp [f_X11_beast, q1, q3, wi_10, h]) ?_
    exact ob_mk (z := (-102, M)) (by simp [f_X12_beast, hr, q2, q4, wn_10, h]) ⟨rfl, hI⟩
