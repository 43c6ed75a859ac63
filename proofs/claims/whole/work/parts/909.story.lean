theorem in_1019 (a : Int32) : f_X12_in (Int32.toInt64 a) 10 19 = some (isN (a - 10) 10) := by
  have hr : f_X12_in (Int32.toInt64 a) 10 19 = some (decide (10 ≤ a) && decide (a ≤ 19)) := r_lh a 10 19
  rw [hr]
  congr 1
  by_cases h : isN (a - 10) 10 = true
  · rw [h]
    obtain ⟨k, hk, e⟩ := isN_of (by decide) h
    have e2 : a = nI (k + 10) := by
      have : a - 10 + 10 = nI k + 10 := by rw [e]
      rw [Int32.sub_add_cancel] at this
      rw [this]
      exact nI_add k 10
    have h1 : (10 : Int32) ≤ a := by rw [e2]; exact nI_le (a := 10) (by omega) (by omega)
    have h2 : a ≤ 19 := by rw [e2]; exact nI_le (b := 19) (by omega) (by decide)
    rw [decide_eq_true h1, decide_eq_true h2]
    rfl
  · have h3 : isN (a - 10) 10 = false := by simpa using h
    rw [h3]
    cases hq : (decide (10 ≤ a) && decide (a ≤ 19)) with
    | false => rfl
    | true =>
      rw [Bool.and_eq_true, decide_eq_true_eq, decide_eq_true_eq] at hq
      have h0 : ¬ a < 0 := fun w => by
        have := hq.1
        rw [i_le] at this
        rw [i_lt] at w
        have g1 : (10 : Int32).toInt = 10 := rfl
        have g2 : (0 : Int32).toInt = 0 := rfl
        omega
      obtain ⟨j, hj, rfl⟩ := nI_of h0
      have g1 : 10 ≤ j := (nI_leI (a := 10) (by decide) hj).mp hq.1
      have g2 : j ≤ 19 := (nI_leI (b := 19) hj (by decide)).mp hq.2
      have e : nI j - 10 = nI (j - 10) := pk_sub (b := 10) g1
      rw [e] at h
      exact absurd (isN_nI (by omega) (by decide)) h
theorem st_story : ST_story Inv := by
  intro a1 a2 M hI
  by_cases h : isN a1 6 = true
  · obtain ⟨l, hl, rfl⟩ := isN_of (by decide) h
    obtain ⟨sp, n, hs, f1, f2, cC, cM⟩ := hI.2.2.2.2.2.1.cl
    have key : (a2 = 0 ∨ isN (a2 - 10) 10 = true) → OB (f_X11_story_j29_0 (nI l) a2 M) (fun z => OB (f_X12_story_j31_0 (nI l) a2 z.2) (fun w => w.1 = z.1 ∧ Inv w.2)) := by
      intro ha
      obtain ⟨M1, k1, k2, k3, k4⟩ := c_tell hI cC hs f1 hl
      have hI1 := hI.nS k4
      have r2 : M1 2 = M 2 := funext fun k => k4 2 k (by decide) (by decide) (by decide) (by decide)
      have g7 := (k4 132 33 (by decide) (by decide) (by decide) (by decide)).trans f2
      obtain ⟨M2, g1, g2, g3⟩ := m_onward hI1 (cM.kp k4) hs g7 hl
      have hB : ∀ a v, BRn (M1 2) (clT M) l n a v ≤ 1200 := fun a v => BR_le cC.1 fun i hi => (cC.2.2 i hi).2.2.2.1
      by_cases q : a2 = 0
      · refine ob_mk (z := (nI (onwN (BRn (M 2) (clT M) l n) sp 9 0), M1)) ?_ (ob_mk (z := (nI (onwN (BRn (M 2) (clT M) l n) sp 9 0), M2)) ?_ ⟨rfl, hI1.mS g3⟩)
        · unfold f_X11_story_j29_0 f_X9_leastPrice
          rw [k1, Option.bind_some, if_pos q, Option.bind_some, show Int32.toNatClampNeg 0 = 0 from rfl, k2]
          rfl
        · have := g2 9 (by decide) 0 (by decide)
          rw [r2] at this
          unfold f_X12_story_j31_0
          rw [g1, Option.bind_some, if_pos q, show Int32.toNatClampNeg 0 = 0 from rfl, show M2 157 0 = _ from this]
          rfl
      · obtain ⟨age, hage, e⟩ := isN_of (by decide) (ha.resolve_left q)
        have i1 := inb_t (k := age) (n := 10) hage (by decide)
        have i2 := nI_cl (show age < 2 ^ 31 by omega)
        obtain ⟨M3, s1, s2⟩ := m_storyAt hI1 (cM.kp k4) hs g7 hl g3 rfl hB g2 hage
        rw [r2] at s1
        refine ob_mk (z := (nI (plcN (BRn (M 2) (clT M) l n) sp age), M1)) ?_ (ob_mk (z := (nI (plcN (BRn (M 2) (clT M) l n) sp age), M3)) ?_ ⟨rfl, hI1.mS s2⟩)
        · unfold f_X11_story_j29_0 f_X9_placeAt
          rw [k1, Option.bind_some, if_neg q, e, if_pos i1, i2, k3 age hage]
          rfl
        · unfold f_X12_story_j31_0
          rw [g1, Option.bind_some, if_neg q, e, s1]
          rfl
    by_cases q : a2 = 0
    · have := key (.inl q)
      unfold f_X11_story f_X12_story f_X11_isLand f_X12_isLand
      rw [wi_6, h]
      simp only [Option.bind_some, if_true, wn_6, h, if_pos q]
      exact this
    · by_cases q2 : isN (a2 - 10) 10 = true
      · have := key (.inr q2)
        unfold f_X11_story f_X12_story f_X11_isLand f_X12_isLand
        rw [wi_6, h]
        simp only [Option.bind_some, if_true, wn_6, h, if_neg q, wi_10, in_1019, q2]
        exact this
      · refine ob_mk (z := (-102, M)) (by simp [f_X11_story, f_X11_isLand, wi_6, h, q, wi_10, q2]) ?_
        exact ob_mk (z := (-102, M)) (by simp [f_X12_story, f_X12_isLand, wn_6, h, q, in_1019, q2]) ⟨rfl, hI⟩
  · refine ob_mk (z := (-101, M)) (by simp [f_X11_story, f_X11_isLand, wi_6, h]) ?_
    exact ob_mk (z := (-101, M)) (by simp [f_X12_story, f_X12_isLand, wn_6, h]) ⟨rfl, hI⟩
