theorem gr_both {M Mx : Mem} (hI : Inv M) (hx : Inv Mx) (r : ∀ p k, p ≠ 137 → Mx p k = M p k) {a b w : Nat} (hb : b < 6) (hw : w < 16) (U T : Int32) : ∃ V M', f_X11_asGreat (nI a) (nI b) U (nI w) T M = some V ∧ f_X12_asGreat (nI a) (nI b) U (nI w) T Mx = some (V, M') ∧ ∀ p k, p ≠ 137 → M' p k = M p k := by
  by_cases hU : (decide (-7 ≤ U) && decide (U ≤ 7)) = true
  · obtain ⟨s, hs, rfl⟩ := isU_of hU
    have e2 : Mx 2 = M 2 := funext fun k => r 2 k (by decide)
    obtain ⟨M1, k1, -, k3⟩ := m_lay (own := M 2) (a := a) (b := b) (fun c hc => by rw [← e2]; exact (hx.1.1 c hc).1) hs hw
    have k4 : ∀ p k, p ≠ 137 → M1 p k = M p k := fun p k hp => (k3 p k hp).trans (r p k hp)
    cases hF : flB (M 2) b s 128 with
    | false =>
      rw [hF] at k1
      refine ⟨0, M1, ?_, ?_, k4⟩
      · unfold f_X11_asGreat
        rw [c_place, isPl_s hs hw, Option.bind_some, if_pos rfl, c_stays hI.1.C hb hs, Option.bind_some, hF]
        rfl
      · unfold f_X12_asGreat
        rw [m_inU, hU, Option.bind_some, if_pos rfl, k1]
        rfl
    | true =>
      rw [hF] at k1
      obtain ⟨n, hn, e1, -, hA⟩ := hI.2.1.mk
      have hI1 := hI.n137 k4
      obtain ⟨n1, hn1, d1, d2, hA1⟩ := hI1.2.1.mk
      have en : n1 = n := nI_inj (by omega) (by omega) (d1.symm.trans ((k4 5 4 (by decide)).trans e1))
      subst en
      have hc := c_on (a := nI a) (b := nI b) hn e1 hA hs hw
      have hm := m_on (a := nI a) (b := nI b) hn1 d2 (fun c hc => (hI1.1.1 c hc).1) hA1 hs hw
      rw [onV_rows (funext fun k => k4 2 k (by decide)) (funext fun k => k4 6 k (by decide)) (funext fun k => k4 7 k (by decide)) (funext fun k => k4 8 k (by decide))] at hm
      refine ⟨bI (!decide (onV M (nI a) (nI b) s w n1 < T)), M1, ?_, ?_, k4⟩
      · unfold f_X11_asGreat
        rw [c_place, isPl_s hs hw, Option.bind_some, if_pos rfl, c_stays hI.1.C hb hs, Option.bind_some, hF, if_pos rfl, hc, Option.bind_some]
        generalize onV M (nI a) (nI b) s w n1 = V
        by_cases q : V < T <;> simp [q]
      · unfold f_X12_asGreat
        rw [m_inU, hU, Option.bind_some, if_pos rfl, k1, Option.bind_some]
        simp only
        rw [if_pos True.intro, Option.bind_some]
        simp only
        rw [if_pos True.intro, hm, Option.bind_some]
        generalize onV M (nI a) (nI b) s w n1 = V
        by_cases q : V < T <;> simp [q]
  · have hU2 : (decide (-7 ≤ U) && decide (U ≤ 7)) = false := by simpa using hU
    have hp : isPl U (nI w) = false := by unfold isPl; rw [hU2]; rfl
    refine ⟨0, Mx, ?_, ?_, r⟩
    · unfold f_X11_asGreat
      rw [c_place, hp]
      rfl
    · unfold f_X12_asGreat
      rw [m_inU, hU2]
      rfl
theorem st_beside : ST_beside Inv := by
  intro a1 a2 a3 a4 M hI
  by_cases h : isP a1 a2 = true
  · by_cases h2 : isPl a3 a4 = true
    · obtain ⟨a, b, ha, hb, hab, rfl, rfl⟩ := isP_of h
      obtain ⟨s, v, hs, hv, rfl, rfl⟩ := isPl_of h2
      obtain ⟨M1, k1, -, k3⟩ := m_lay (own := M 2) (a := a) (b := b) (fun c hc => (hI.1.1 c hc).1) hs hv
      have hI1 := hI.n137 k3
      cases hF : flB (M 2) b s 128 with
      | false =>
        rw [hF] at k1
        refine ob_mk (z := -103) ?_ (ob_mk (z := (-103, M1)) ?_ ⟨rfl, hI1⟩)
        · unfold f_X11_beside
          rw [c_pair, h, Option.bind_some, if_pos rfl, c_place, h2, Option.bind_some, if_pos rfl, c_stays hI.1.C hb hs, Option.bind_some, hF]
          rfl
        · unfold f_X12_beside
          rw [m_pair, h, Option.bind_some, if_pos rfl, m_place, h2, Option.bind_some, if_pos rfl, k1]
          rfl
      | true =>
        rw [hF] at k1
        obtain ⟨n, hn, e1, -, hA⟩ := hI.2.1.mk
        obtain ⟨n1, hn1, d1, d2, hA1⟩ := hI1.2.1.mk
        have en : n1 = n := nI_inj (by omega) (by omega) (d1.symm.trans ((k3 5 4 (by decide)).trans e1))
        subst en
        have hc := c_on (a := nI a) (b := nI b) hn e1 hA hs hv
        have hm := m_on (a := nI a) (b := nI b) hn1 d2 (fun c hc => (hI1.1.1 c hc).1) hA1 hs hv
        rw [onV_rows (funext fun k => k3 2 k (by decide)) (funext fun k => k3 6 k (by decide)) (funext fun k => k3 7 k (by decide)) (funext fun k => k3 8 k (by decide))] at hm
        obtain ⟨T, hT⟩ : ∃ T, T = onV M (nI a) (nI b) s v n1 := ⟨_, rfl⟩
        rw [← hT] at hc hm
        obtain ⟨V1, N1, x1, y1, z1⟩ := gr_both hI hI1 k3 (a := a) hb hv (nI s - 7 - 1) T
        obtain ⟨V2, N2, x2, y2, z2⟩ := gr_both hI (hI.n137 z1) z1 (a := a) hb hv (nI s - 7 + 1) T
        obtain ⟨V3, N3, x3, y3, z3⟩ := gr_both hI (hI.n137 z2) z2 (a := a) hb (show (v + 15) % 16 < 16 by omega) (nI s - 7) T
        obtain ⟨V4, N4, x4, y4, z4⟩ := gr_both hI (hI.n137 z3) z3 (a := a) hb (show (v + 1) % 16 < 16 by omega) (nI s - 7) T
        have s15 : f_X11_eastOf (nI v) 15 = some (nI ((v + 15) % 16)) := c_east (v := 15) hv (by decide)
        have s1 : f_X11_eastOf (nI v) 1 = some (nI ((v + 1) % 16)) := c_east (v := 1) hv (by decide)
        have t15 : jrem (nI v + 15) 16 = nI ((v + 15) % 16) := by
          rw [show nI v + 15 = nI (v + 15) from nI_add v 15]
          exact jrem_nI (d := 16) (by omega) (by decide) (by decide)
        have t1 : jrem (nI v + 1) 16 = nI ((v + 1) % 16) := by
          rw [show nI v + 1 = nI (v + 1) from nI_add v 1]
          exact jrem_nI (d := 16) (by omega) (by decide) (by decide)
        refine ob_mk (z := V1 + V2 + V3 + V4) ?_ (ob_mk (z := (V1 + V2 + V3 + V4, N4)) ?_ ⟨rfl, hI.n137 z4⟩)
        · unfold f_X11_beside
          rw [c_pair, h, Option.bind_some, if_pos rfl, c_place, h2, Option.bind_some, if_pos rfl, c_stays hI.1.C hb hs, Option.bind_some, hF, if_pos rfl, hc, Option.bind_some, x1, Option.bind_some, x2, Option.bind_some, s15, Option.bind_some, x3, Option.bind_some, s1, Option.bind_some, x4, Option.bind_some]
        · unfold f_X12_beside
          rw [m_pair, h, Option.bind_some, if_pos rfl, m_place, h2, Option.bind_some, if_pos rfl, k1, Option.bind_some]
          simp only
          rw [if_pos True.intro, hm, Option.bind_some, y1, Option.bind_some]
          simp only
          rw [y2, Option.bind_some]
          simp only
          rw [t15, y3, Option.bind_some]
          simp only
          rw [t1, y4, Option.bind_some]
    · refine ob_mk (z := -102) (by simp [f_X11_beside, c_pair, h, c_place, h2]) ?_
      exact ob_mk (z := (-102, M)) (by simp [f_X12_beside, m_pair, h, m_place, h2]) ⟨rfl, hI⟩
  · refine ob_mk (z := -101) (by simp [f_X11_beside, c_pair, h]) ?_
    exact ob_mk (z := (-101, M)) (by simp [f_X12_beside, m_pair, h]) ⟨rfl, hI⟩
