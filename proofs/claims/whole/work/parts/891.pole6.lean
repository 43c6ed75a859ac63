theorem ndb_rows {M M2 : Mem} (e2 : M2 2 = M 2) (e6 : M2 6 = M 6) (e7 : M2 7 = M 7) : ndb M2 = ndb M := by
  funext a1 i
  unfold ndb lo
  rw [e2, e6, e7]
theorem hasB_rows {M M2 : Mem} (e2 : M2 2 = M 2) (e6 : M2 6 = M 6) (e7 : M2 7 = M 7) (a1 : Int32) : ∀ n, hasB M2 a1 n = hasB M a1 n
  | 0 => rfl
  | n + 1 => by
    show (hasB M2 a1 n || ndb M2 a1 n) = (hasB M a1 n || ndb M a1 n)
    rw [hasB_rows e2 e6 e7 a1 n, ndb_rows e2 e6 e7]
theorem agN_rows {M M2 : Mem} (e2 : M2 2 = M 2) (e6 : M2 6 = M 6) (e7 : M2 7 = M 7) (e8 : M2 8 = M 8) : agN M2 = agN M := by
  funext a1 a2 u c n
  unfold agN agb tcl lo
  rw [e2, e6, e7, e8]
/-- what the two calls tell of the poles -/
def plA (M : Mem) (a1 a2 : Int32) (u n : Nat) : Int32 × Int32 × Int32 := if hasB M a1 n = true then (nI (plN (fun c => agN M a1 a2 u c n) 127).1, nI (plN (fun c => agN M a1 a2 u c n) 127).2.1, nI (plN (fun c => agN M a1 a2 u c n) 127).2.2) else (-1, 0, 0)
theorem c_seek {M : Mem} {n : Nat} (hn : n ≤ 40) (e1 : M 5 4 = nI n) (hc : ∀ i, i < n → M 134 i = M 6 i ∧ M 135 i = M 7 i ∧ M 136 i = M 8 i ∧ ∃ c, c < 128 ∧ M 7 i = nI c ∧ lo M i = M 2 c ∧ ¬ M 2 c = -1 ∧ ∃ v, v < 16 ∧ M 8 i = nI v) {a1 a2 : Int32} {u : Nat} (hu : u < 16) : ∃ M2, f_X7_seek a1 a2 (nI u) M = some M2 ∧ (M2 129 2, M2 129 3, M2 129 4) = plA M a1 a2 u n ∧ ∀ p k, p ≠ 129 → p ≠ 130 → M2 p k = M p k := by
  obtain ⟨M1, h1, h2, h3⟩ := c_seek1 (a1 := a1) (a2 := a2) hn e1 hc hu
  by_cases hb : hasB M a1 n = true
  · obtain ⟨M2, g1, g2, g3, g4, g5⟩ := c_walk (Ms := up (up (up M1 129 2 (-1)) 129 3 0) 129 4 0) (M1 := M1) (ag := fun c => agN M a1 a2 u c n) (fun c => Nat.le_trans (cnt_le _ n) hn) h2 (by simp [up_at]) (fun p k hp => by simp [up_at, hp])
    rw [hb] at h1
    refine ⟨M2, by simp only [f_X7_seek, h1, Option.bind_some, g1], ?_, fun p k p1 p2 => (g5 p k p1).trans (h3 p k p2)⟩
    unfold plA
    rw [if_pos hb, g2, g3, g4]
  · have hb2 : hasB M a1 n = false := by simpa using hb
    rw [hb2] at h1
    have hit := it_N (b := f_X7_seek_b107 false) (r := up (up (up M1 129 2 (-1)) 129 3 0) 129 4 0) (fun _ => (0, up (up (up M1 129 2 (-1)) 129 3 0) 129 4 0)) 0 (by decide) (fun i hi => absurd hi (Nat.not_lt_zero i)) rfl (s0 := (0, up (up (up M1 129 2 (-1)) 129 3 0) 129 4 0)) rfl
    refine ⟨up (up (up M1 129 2 (-1)) 129 3 0) 129 4 0, by simp only [f_X7_seek, h1, Option.bind_some, hit], ?_, fun p k p1 p2 => ?_⟩
    · unfold plA
      rw [if_neg hb]
      simp [up_at]
    · simp [up_at, p1, h3 p k p2]
theorem m_pole {M : Mem} (hG : IvG M) {n : Nat} (hn : n ≤ 40) (e2 : M 132 1 = nI n) (hc : ∀ i, i < n → M 134 i = M 6 i ∧ M 135 i = M 7 i ∧ M 136 i = M 8 i ∧ ∃ c, c < 128 ∧ M 7 i = nI c ∧ lo M i = M 2 c ∧ ¬ M 2 c = -1 ∧ ∃ v, v < 16 ∧ M 8 i = nI v) {a1 a2 a4 : Int32} {u : Nat} (hu : u < 16) (h4 : isN a4 3 = true) : f_X12_pole_j27_1 a1 a2 (nI u) a4 M = some (if a4 = 0 then (plA M a1 a2 u n).1 else if a4 = 1 then (plA M a1 a2 u n).2.1 else (plA M a1 a2 u n).2.2) := by
  have h3 : isN (nI u) 16 = true := isN_nI hu (by decide)
  have hh := m_hasN hG hn e2 hc a1
  by_cases hb : hasB M a1 n = true
  · have hw := m_walk (M := M) (a1 := a1) (a2 := a2) (u := u) (ag := fun c => agN M a1 a2 u c n) (fun c => Nat.le_trans (cnt_le _ n) hn) (fun c hcc => m_agree hG hn e2 hc hu hcc)
    have hp : plA M a1 a2 u n = (nI (plN (fun c => agN M a1 a2 u c n) 127).1, nI (plN (fun c => agN M a1 a2 u c n) 127).2.1, nI (plN (fun c => agN M a1 a2 u c n) 127).2.2) := by unfold plA; rw [if_pos hb]
    rw [hb] at hh
    simp only [f_X12_pole_j27_1, wn_16, h3, wn_3, h4, hh, hw, Option.bind_some, if_true, ite_ss, hp]
  · have hb2 : hasB M a1 n = false := by simpa using hb
    have hp : plA M a1 a2 u n = (-1, 0, 0) := by unfold plA; rw [if_neg hb]
    rw [hb2] at hh
    simp only [f_X12_pole_j27_1, wn_16, h3, wn_3, h4, hh, Option.bind_some, if_true, ite_ss, hp]
    by_cases q : a4 = 0
    · simp [q]
    · simp [q]
theorem st_pole : ST_pole Inv := by
  intro a1 a2 a3 a4 M hI
  have key : OB (f_X11_pole_j27_0 a1 a2 a3 a4 M) (fun z => OB (f_X12_pole_j27_1 a1 a2 a3 a4 z.2) (fun w => w = z.1 ∧ Inv z.2)) := by
    by_cases h3 : isN a3 16 = true
    · by_cases h4 : isN a4 3 = true
      · obtain ⟨u, hu, rfl⟩ := isN_of (by decide) h3
        obtain ⟨n, hn, e1, e2, hc⟩ := hI.2.1.at_
        obtain ⟨M2, k1, k2, k3⟩ := c_seek (a1 := a1) (a2 := a2) hn e1 hc hu
        have r2 : M2 2 = M 2 := funext fun k => k3 2 k (by decide) (by decide)
        have r6 : M2 6 = M 6 := funext fun k => k3 6 k (by decide) (by decide)
        have r7 : M2 7 = M 7 := funext fun k => k3 7 k (by decide) (by decide)
        have r8 : M2 8 = M 8 := funext fun k => k3 8 k (by decide) (by decide)
        have hI2 : Inv M2 := hI.sm fun p k hp => by
          refine k3 p k ?_ ?_
          · rintro rfl; cases hp
          · rintro rfl; cases hp
        obtain ⟨n2, hn2, d1, d2, hc2⟩ := hI2.2.1.at_
        have en : n2 = n := nI_inj (by omega) (by omega) (d1.symm.trans ((k3 5 4 (by decide) (by decide)).trans e1))
        subst en
        have hm := m_pole (a1 := a1) (a2 := a2) hI2.1 hn2 d2 hc2 hu h4
        have hpl : plA M2 a1 a2 u n2 = plA M a1 a2 u n2 := by
          unfold plA
          rw [hasB_rows r2 r6 r7, agN_rows r2 r6 r7 r8]
        rw [hpl, ← k2] at hm
        have hcl : f_X11_pole_j27_0 a1 a2 (nI u) a4 M = some (if a4 = 0 then M2 129 2 else if a4 = 1 then M2 129 3 else M2 129 4, M2) := by
          simp only [f_X11_pole_j27_0, wi_16, h3, wi_3, h4, k1, Option.bind_some, if_true]
          by_cases q0 : a4 = 0
          · rw [if_pos q0, if_pos q0]
          · rw [if_neg q0, if_neg q0]
            by_cases q1 : a4 = 1
            · rw [if_pos q1, if_pos q1]
            · rw [if_neg q1, if_neg q1]
        exact ob_mk hcl (ob_mk hm ⟨rfl, hI2⟩)
      · refine ob_mk (z := (-102, M)) (by simp [f_X11_pole_j27_0, wi_16, h3, wi_3, h4]) ?_
        exact ob_mk (z := -102) (by simp [f_X12_pole_j27_1, wn_16, h3, wn_3, h4]) ⟨rfl, hI⟩
    · refine ob_mk (z := (-102, M)) (by simp [f_X11_pole_j27_0, wi_16, h3]) ?_
      exact ob_mk (z := -102) (by simp [f_X12_pole_j27_1, wn_16, h3]) ⟨rfl, hI⟩
  have key2 : OB (f_X11_pole_j12_1 a1 a2 a3 a4 M) (fun z => OB (f_X12_pole_j12_2 a1 a2 a3 a4 z.2) (fun w => w = z.1 ∧ Inv z.2)) := by
    unfold f_X11_pole_j12_1 f_X12_pole_j12_2 f_X11_isLand f_X12_isLand
    by_cases h1 : a2 = -1
    · simpa only [if_pos h1] using key
    · by_cases h2 : isN a2 6 = true
      · simpa only [if_neg h1, wi_6, wn_6, h2, Option.bind_some, if_true] using key
      · refine ob_mk (z := (-101, M)) (by simp [h1, wi_6, h2]) ?_
        exact ob_mk (z := -101) (by simp [h1, wn_6, h2]) ⟨rfl, hI⟩
  unfold f_X11_pole f_X12_pole f_X11_isLand f_X12_isLand
  by_cases h1 : a1 = -1
  · simpa only [if_pos h1] using key2
  · by_cases h2 : isN a1 6 = true
    · simpa only [if_neg h1, wi_6, wn_6, h2, Option.bind_some, if_true] using key2
    · refine ob_mk (z := (-101, M)) (by simp [h1, wi_6, h2]) ?_
      exact ob_mk (z := -101) (by simp [h1, wn_6, h2]) ⟨rfl, hI⟩
