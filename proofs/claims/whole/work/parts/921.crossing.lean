theorem sm_choose {g : Nat} (hg : g < 2) {M M1 : Mem} (h : ∀ p j, p ≠ hP g + 2 → ¬ (p = hP g ∧ (j = 3 ∨ j = 4)) → M1 p j = M p j) : Sm rA M M1 := by
  intro p k hp
  rcases hP_of hg with ⟨-, e⟩ | ⟨-, e⟩
  · rw [e] at h
    refine h p k ?_ ?_
    · rintro rfl; cases hp
    · rintro ⟨rfl, rfl | rfl⟩ <;> cases hp
  · rw [e] at h
    refine h p k ?_ ?_
    · rintro rfl; cases hp
    · rintro ⟨rfl, rfl | rfl⟩ <;> cases hp
theorem rL_A {p k : Nat} (h : rL p k = true) : rA p k = true := by simp [rA, h]
theorem rB_A {p k : Nat} (h : rB p k = true) : rA p k = true := by simp [rA, h]
theorem Sm.L {M M1 : Mem} (h : Sm rA M M1) : Sm rL M M1 := fun p k hp => h p k (rL_A hp)
theorem Sm.four {M M1 : Mem} (h : Sm rX4 M M1) : Sm rL M M1 := fun p k hp => h p k (by
  by_cases q : p = 4
  · subst q; cases hp
  · simp [rX4, q])
theorem m_isBeast {M : Mem} {n : Nat} (hn : n ≤ 8) (e : M 132 26 = nI n) (a : Int32) : f_X12_isBeast a M = some (isN a n) := by
  unfold f_X12_isBeast
  rw [e, wn_nI a (show n ≤ 100 by omega)]
  rfl
theorem IvB.bs {M : Mem} (h : IvB M) : ∃ n, n ≤ 8 ∧ M 114 2 = nI n ∧ M 132 26 = nI n ∧ ∀ i, i < n → ∃ s, 0 < s ∧ BsC i s (M 116 i) M ∧ BsM i s (M 116 i) M ∧ ∃ a, a < 10 ∧ M 116 i = nI a := by
  obtain ⟨n, hn, e1, e2, hc⟩ := h
  refine ⟨n, hn, e1, e2, fun i hi => ?_⟩
  obtain ⟨k1, k2, ⟨s, s1, s2, s3⟩, a, a1, a2⟩ := hc i hi
  exact ⟨s, s1, ⟨by omega, s2, s3, rfl⟩, ⟨by omega, s2, k1.trans s3, k2⟩, a, a1, a2⟩
theorem c_age {M : Mem} {b s : Nat} {e : Int32} (h : BsC b s e M) : f_X0_ageOf (nI b) M = some e := by
  unfold f_X0_ageOf
  rw [if_pos (inb_t (k := b) (n := 8) h.1 (by decide)), nI_cl (show b < 2 ^ 31 by have := h.1; omega), h.2.2.2]
theorem c_howMany {M : Mem} {b s : Nat} {e : Int32} (h : BsC b s e M) : f_X0_howManyLands (nI b) M = some (nI (pcN s)) := by
  have h1 := h.2.1
  unfold f_X0_howManyLands
  rw [if_pos (inb_t (k := b) (n := 8) h.1 (by decide)), nI_cl (show b < 2 ^ 31 by have := h.1; omega), h.2.2.1, pc_I (by omega), Option.bind_some]
theorem st_crossing : ST_crossing Inv := by
  intro a1 a2 a3 a4 a5 M hI
  obtain ⟨nb, hnb, eb1, eb2, hbs⟩ := hI.2.2.2.2.1.bs
  have sz : f_X0_size M = some (nI nb) := by unfold f_X0_size; rw [eb1]
  by_cases h1 : isN a1 2 = true
  · by_cases h2 : isN a2 nb = true
    · by_cases h3 : isP a3 a4 = true
      · by_cases h4 : isN a5 2 = true
        · obtain ⟨g, hg, rfl⟩ := isN_of (by decide) h1
          obtain ⟨b, hb, rfl⟩ := isN_of (by omega) h2
          obtain ⟨x, y, hx, hy, hxy, rfl, rfl⟩ := isP_of h3
          obtain ⟨n, wy, pr, cd, lC, lM⟩ := hI.2.2.2.1.lw hg
          obtain ⟨s, -, bC, bM, -⟩ := hbs b hb
          obtain ⟨M7, k1, k2, k3⟩ := c_apart hI.1 hx hy hxy
          have hI7 := hI.four k2 k3
          have bC7 : BsC b s (M 116 b) M7 := ⟨bC.1, bC.2.1, (k3 115 b rfl).trans bC.2.2.1, k3 116 b rfl⟩
          obtain ⟨M10, c1, c2, c3⟩ := c_choose hg (lC.kp hg k3.four) (nI (dsN (M 2) x y)) (M 116 b) (nI (pcN s))
          have sA := sm_choose hg c3
          have hI10 := hI7.sm sA
          have sL : Sm rL M M10 := k3.four.trans' sA.L
          have bM10 : BsM b s (M 116 b) M10 := ⟨bM.1, bM.2.1, (sA 149 b rfl).trans ((k3 149 b rfl).trans bM.2.2.1), (sA 150 b rfl).trans ((k3 150 b rfl).trans bM.2.2.2)⟩
          have r2 : M10 2 = M 2 := (funext fun k => sA 2 k rfl).trans (funext fun k => k3 2 k rfl)
          obtain ⟨M12, m1, m2, m3⟩ := m_cross (a := x) (c := y) hI10.1 hg (lM.kp sL) bM10
          rw [r2] at m1 m2
          have hI12 : Inv M12 := hI10.sm fun p k hp => m3 p k (by rintro rfl; cases hp) (by rintro ⟨rfl, rfl⟩; cases hp)
          have e26 : M10 132 26 = nI nb := (sA 132 26 rfl).trans ((k3 132 26 rfl).trans eb2)
          rw [← c2] at m1 m2
          have cl : f_X11_crossing (nI g) (nI b) (nI x) (nI y) a5 M = some (if a5 = 0 then M10 (hP g) 3 else M10 (hP g) 4, M10) := by
            unfold f_X11_crossing
            rw [wi_2, h1, Option.bind_some, if_pos rfl, sz, Option.bind_some, wi_nI, h2, Option.bind_some, if_pos rfl, c_pair, h3, Option.bind_some, if_pos rfl, wi_2, h4, Option.bind_some, if_pos rfl, k1, Option.bind_some]
            simp only
            rw [c_age bC7, Option.bind_some, c_howMany bC7, Option.bind_some, hq_nI g hg, c1, Option.bind_some, ite_ss, Option.bind_some]
          have ml : f_X12_crossing (nI g) (nI b) (nI x) (nI y) a5 M10 = some (if a5 = 0 then M10 (hP g) 3 else M10 (hP g) 4, M12) := by
            unfold f_X12_crossing
            rw [m_isHolder, h1, Option.bind_some, if_pos rfl, m_isBeast hnb e26, h2, Option.bind_some, if_pos rfl, m_pair, h3, Option.bind_some, if_pos rfl, wn_2, h4, Option.bind_some, if_pos rfl, m1, Option.bind_some]
            simp only
            rw [m2, ite_ss, Option.bind_some]
          exact ob_mk cl (ob_mk ml ⟨rfl, hI12⟩)
        · refine ob_mk (z := (-102, M)) (by simp [f_X11_crossing, wi_2, h1, sz, wi_nI, h2, c_pair, h3, h4]) ?_
          exact ob_mk (z := (-102, M)) (by simp [f_X12_crossing, m_isHolder, h1, m_isBeast hnb eb2, h2, m_pair, h3, wn_2, h4]) ⟨rfl, hI⟩
      · refine ob_mk (z := (-101, M)) (by simp [f_X11_crossing, wi_2, h1, sz, wi_nI, h2, c_pair, h3]) ?_
        exact ob_mk (z := (-101, M)) (by simp [f_X12_crossing, m_isHolder, h1, m_isBeast hnb eb2, h2, m_pair, h3]) ⟨rfl, hI⟩
    · refine ob_mk (z := (-101, M)) (by simp [f_X11_crossing, wi_2, h1, sz, wi_nI, h2]) ?_
      exact ob_mk (z := (-101, M)) (by simp [f_X12_crossing, m_isHolder, h1, m_isBeast hnb eb2, h2]) ⟨rfl, hI⟩
  · refine ob_mk (z := (-101, M)) (by simp [f_X11_crossing, wi_2, h1]) ?_
    exact ob_mk (z := (-101, M)) (by simp [f_X12_crossing, m_isHolder, h1]) ⟨rfl, hI⟩
