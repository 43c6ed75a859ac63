/-! marks -/
def gsv (k1 k2 v1 v2 : Int32) : Bool := if k1 = k2 then (if k1 = 4 then false else if k1 = 1 then !decide (1 < jabs (v1 - v2)) else if k1 = 3 then decide (jrem v1 4 = jrem v2 4) else decide (v1 = v2)) else false
theorem x_off : ∀ a, a < 16 → ∀ b, b < 16 → f_X12_off (nI a) (nI b) = some (jabs (nI a - nI b)) := by decide +kernel
theorem c_lead {M : Mem} {i j : Nat} (hi : i < 40) (hj : j < 40) : f_X5_leadsInto (nI i) (nI j) M = some (gsv (M 6 i) (M 6 j) (M 8 i) (M 8 j)) := by
  unfold f_X5_leadsInto f_X5_leadsInto_j105_0 gsv
  simp only [inb_t hi (by decide), inb_t hj (by decide), nI_cl (show i < 2 ^ 31 by omega), nI_cl (show j < 2 ^ 31 by omega), if_true]
  by_cases h0 : M 6 i = M 6 j
  · rw [← h0]
    by_cases h1 : M 6 i = 1
    · by_cases h9 : 1 < jabs (M 8 i - M 8 j) <;> simp [h1, h9]
    · by_cases h2 : M 6 i = 2
      · by_cases h9 : M 8 i = M 8 j <;> simp [h2, h9]
      · by_cases h3 : M 6 i = 3
        · by_cases h9 : jrem (M 8 i) 4 = jrem (M 8 j) 4 <;> simp [h3, h9]
        · by_cases h4 : M 6 i = 4
          · simp [h4]
          · by_cases h9 : M 8 i = M 8 j <;> simp [h1, h2, h3, h4, h9]
  · simp [h0]
theorem m_goes {M : Mem} {i j : Nat} (hi : i < 40) (hj : j < 40) (hv : ∃ v, v < 16 ∧ M 136 i = nI v) (hw : ∃ v, v < 16 ∧ M 136 j = nI v) : f_X12_goes (nI i) (nI j) M = some (gsv (M 134 i) (M 134 j) (M 136 i) (M 136 j)) := by
  have ho : f_X12_off (M 136 i) (M 136 j) = some (jabs (M 136 i - M 136 j)) := by
    obtain ⟨a, ha, e1⟩ := hv
    obtain ⟨b, hb, e2⟩ := hw
    rw [e1, e2]
    exact x_off a ha b hb
  unfold f_X12_goes gsv
  simp only [inb_t hi (by decide), inb_t hj (by decide), nI_cl (show i < 2 ^ 31 by omega), nI_cl (show j < 2 ^ 31 by omega), if_true]
  by_cases h0 : M 134 i = M 134 j
  · rw [← h0]
    by_cases h4 : M 134 i = 4
    · simp [h4]
    · by_cases h1 : M 134 i = 1
      · by_cases h9 : 1 < jabs (M 136 i - M 136 j) <;> simp [h1, ho, h9]
      · by_cases h3 : M 134 i = 3
        · by_cases h9 : jrem (M 136 i) 4 = jrem (M 136 j) 4 <;> simp [h3, h9]
        · by_cases h9 : M 136 i = M 136 j <;> simp [h1, h3, h4, h9]
  · simp [h0]
theorem c_wt {M : Mem} {i k : Nat} (hi : i < 40) (hk : k < 6) (e : M 6 i = nI k) : f_X5_weightOf (nI i) M = some (WT k) := by
  simp [f_X5_weightOf, inb_t hi (by decide), nI_cl (show i < 2 ^ 31 by omega), e, inb_t hk (by decide), nI_cl (show k < 2 ^ 31 by omega)]
theorem m_wt {M : Mem} {i k : Nat} (hi : i < 40) (hk : k < 6) (e : M 134 i = nI k) : f_X12_weight (nI i) M = some (WT k) := by
  unfold f_X12_weight
  simp only [inb_t hi (by decide), nI_cl (show i < 2 ^ 31 by omega), e, if_true]
  rcases (show k = 0 ∨ k = 1 ∨ k = 2 ∨ k = 3 ∨ k = 4 ∨ k = 5 by omega) with rfl | rfl | rfl | rfl | rfl | rfl <;> decide
theorem m_isMark {M : Mem} {n : Nat} (hn : n ≤ 40) (e : M 132 1 = nI n) (a : Int32) : f_X12_isMark a M = some (isN a n) := by
  simp [f_X12_isMark, e, wn_nI a (show n ≤ 100 by omega)]
theorem st_as : ST_as Inv := by
  intro a1 a2 M hI
  obtain ⟨-, ⟨n, hn, e1, e2, hc⟩, -⟩ := id hI
  by_cases h : isN a1 n = true
  · obtain ⟨i, hi, rfl⟩ := isN_of (by omega) h
    obtain ⟨g1, g2, g3, ⟨k, hk, g4⟩, -⟩ := hc i hi
    by_cases h2 : isN a2 6 = true
    · have q1 := inb_t (k := i) (n := 40) (by omega) (by decide)
      have q2 := nI_cl (show i < 2 ^ 31 by omega)
      refine ob_mk (z := if (a2 = 0 ∨ a2 = M 6 i ∨ (a2 = 2 ∧ M 6 i = 5)) then nI i else -1) ?_ ?_
      · simp only [f_X11_as, f_X5_size, e1, Option.bind_some, wi_nI, h, wi_6, h2, if_true, f_X5_isOf, q1, q2]
        by_cases p1 : a2 = 0
        · simp [p1]
        · by_cases p2 : a2 = M 6 i
          · simp [p1, ← p2]
          · by_cases p3 : a2 = 2
            · by_cases p4 : M 6 i = 5
              · simp [p3, p4]
              · rw [p3] at p2; simp [p2, p3, p4]
            · simp [p1, p2, p3]
      · refine ob_mk (z := if (a2 = 0 ∨ a2 = M 6 i ∨ (a2 = 2 ∧ M 6 i = 5)) then nI i else -1) ?_ ⟨rfl, hI⟩
        simp only [f_X12_as, m_isMark hn e2, Option.bind_some, h, wn_6, h2, if_true, q1, q2, g1]
        by_cases p1 : a2 = 0
        · simp [p1]
        · by_cases p2 : a2 = M 6 i
          · simp [p1, ← p2]
          · by_cases p3 : a2 = 2
            · by_cases p4 : M 6 i = 5
              · simp [p3, p4]
              · rw [p3] at p2; simp [p2, p3, p4]
            · simp [p1, p2, p3]
    · refine ob_mk (z := -102) (by simp [f_X11_as, f_X5_size, e1, wi_nI, h, wi_6, h2]) ?_
      exact ob_mk (z := -102) (by simp [f_X12_as, m_isMark hn e2, h, wn_6, h2]) ⟨rfl, hI⟩
  · refine ob_mk (z := -101) (by simp [f_X11_as, f_X5_size, e1, wi_nI, h]) ?_
    exact ob_mk (z := -101) (by simp [f_X12_as, m_isMark hn e2, h]) ⟨rfl, hI⟩
theorem isN_4 {a : Int32} (h : isN a 4 = true) : a = 0 ∨ a = 1 ∨ a = 2 ∨ a = 3 := by
  obtain ⟨k, hk, rfl⟩ := isN_of (by decide) h
  rcases (show k = 0 ∨ k = 1 ∨ k = 2 ∨ k = 3 by omega) with rfl | rfl | rfl | rfl <;> simp [nI]
theorem st_about : ST_about Inv := by
  intro a1 a2 M hI
  obtain ⟨-, ⟨n, hn, e1, e2, hc⟩, -⟩ := id hI
  by_cases h : isN a1 n = true
  · obtain ⟨i, hi, rfl⟩ := isN_of (by omega) h
    obtain ⟨g1, g2, g3, ⟨k, hk, g4⟩, -⟩ := hc i hi
    have q1 := inb_t (k := i) (n := 40) (by omega) (by decide)
    have q2 := nI_cl (show i < 2 ^ 31 by omega)
    have w1 := c_wt (M := M) (show i < 40 by omega) hk g4
    have w2 := m_wt (M := M) (show i < 40 by omega) hk (g1.trans g4)
    by_cases h2 : isN a2 4 = true
    · refine ob_mk (z := if a2 = 0 then M 6 i else if a2 = 1 then M 7 i else if a2 = 2 then M 8 i else WT k) ?_ (ob_mk (z := if a2 = 0 then M 6 i else if a2 = 1 then M 7 i else if a2 = 2 then M 8 i else WT k) ?_ ⟨rfl, hI⟩)
      · rcases isN_4 h2 with rfl | rfl | rfl | rfl <;> simp [f_X11_about, f_X5_size, e1, wi_nI, h, f_X5_kindOf, f_X5_cellOf, f_X5_numberOf, q1, q2, w1]
      · have h3 : f_X12_in (Int32.toInt64 a2) 0 3 = some true := by rw [wn_4, h2]
        simp only [f_X12_about, m_isMark hn e2, Option.bind_some, h, h3, if_true, q1, q2, g1, g2, g3, w2]
        rcases isN_4 h2 with rfl | rfl | rfl | rfl <;> simp
    · have h3 : ¬ a2 = 0 ∧ ¬ a2 = 1 ∧ ¬ a2 = 2 ∧ ¬ a2 = 3 := by
        refine ⟨fun q => h2 ?_, fun q => h2 ?_, fun q => h2 ?_, fun q => h2 ?_⟩ <;> rw [q] <;> decide
      refine ob_mk (z := -102) (by simp [f_X11_about, f_X5_size, e1, wi_nI, h, h3]) ?_
      exact ob_mk (z := -102) (by simp [f_X12_about, m_isMark hn e2, h, wn_4, h2]) ⟨rfl, hI⟩
  · refine ob_mk (z := -101) (by simp [f_X11_about, f_X5_size, e1, wi_nI, h]) ?_
    exact ob_mk (z := -101) (by simp [f_X12_about, m_isMark hn e2, h]) ⟨rfl, hI⟩
theorem st_goesOn : ST_goesOn Inv := by
  intro a1 a2 M hI
  obtain ⟨-, ⟨n, hn, e1, e2, hc⟩, -⟩ := id hI
  by_cases h : isN a1 n = true
  · by_cases h2 : isN a2 n = true
    · obtain ⟨i, hi, rfl⟩ := isN_of (by omega) h
      obtain ⟨j, hj, rfl⟩ := isN_of (by omega) h2
      obtain ⟨g1, g2, g3, -, -, ⟨v, hv, g4⟩⟩ := hc i hi
      obtain ⟨k1, k2, k3, -, -, ⟨w, hw, k4⟩⟩ := hc j hj
      have l1 := c_lead (M := M) (show i < 40 by omega) (show j < 40 by omega)
      have l2 := m_goes (M := M) (show i < 40 by omega) (show j < 40 by omega) ⟨v, hv, g3.trans g4⟩ ⟨w, hw, k3.trans k4⟩
      rw [g1, g3, k1, k3] at l2
      refine ob_mk (z := bI (gsv (M 6 i) (M 6 j) (M 8 i) (M 8 j))) ?_ (ob_mk (z := bI (gsv (M 6 i) (M 6 j) (M 8 i) (M 8 j))) ?_ ⟨rfl, hI⟩)
      · simp only [f_X11_goesOn, f_X5_size, e1, Option.bind_some, wi_nI, h, h2, if_true, l1, ite_ss]
        cases gsv (M 6 i) (M 6 j) (M 8 i) (M 8 j) <;> rfl
      · simp only [f_X12_goesOn, m_isMark hn e2, Option.bind_some, h, h2, if_true, l2, ite_ss]
        cases gsv (M 6 i) (M 6 j) (M 8 i) (M 8 j) <;> rfl
    · refine ob_mk (z := -101) (by simp [f_X11_goesOn, f_X5_size, e1, wi_nI, h, h2]) ?_
      exact ob_mk (z := -101) (by simp [f_X12_goesOn, m_isMark hn e2, h, h2]) ⟨rfl, hI⟩
  · refine ob_mk (z := -101) (by simp [f_X11_goesOn, f_X5_size, e1, wi_nI, h]) ?_
    exact ob_mk (z := -101) (by simp [f_X12_goesOn, m_isMark hn e2, h]) ⟨rfl, hI⟩
/-! mark: a new one -/
theorem c_add {M : Mem} {n : Nat} (hn : n < 40) (e : M 5 4 = nI n) (a b c : Int32) : f_X5_add a b c M = some (nI n, up (up (up (up M 6 n a) 7 n b) 8 n c) 5 4 (nI (n + 1))) := by
  have h1 := inb_t (k := n) (n := 40) hn (by decide)
  have h2 : nI (n + 1) - 1 = nI n := nI_pred n
  simp [f_X5_add, up_at, e, h1, nI_cl (show n < 2 ^ 31 by omega), nI_1, h2]
theorem st_mark : ST_mark Inv := by
  intro a1 a2 a3 M hI
  obtain ⟨hG, ⟨n, hn, e1, e2, hc⟩, hPg, hL, hB, hS, hF⟩ := id hI
  by_cases h : isN a2 128 = true
  · obtain ⟨c, hc2, rfl⟩ := isN_of (by decide) h
    obtain ⟨o1, o2⟩ := hG.1 c hc2
    have q1 := inb_t (k := c) (n := 128) hc2 (by decide)
    have q2 := nI_cl (show c < 2 ^ 31 by omega)
    have ic : f_X12_isCell (nI c) = some true := by simp only [f_X12_isCell, wn_128, h]; rfl
    by_cases hz : M 2 c = -1
    · refine ob_mk (z := (-101, M)) (by simp [f_X11_mark, wi_128, h, f_X2_ownerOf, q1, q2, hz]) ?_
      exact ob_mk (z := (-101, M)) (by simp [f_X12_mark, ic, q1, q2, o1, hz]) ⟨rfl, hI⟩
    · by_cases h1 : isN a1 6 = true
      · by_cases h3 : isN a3 16 = true
        · by_cases hf : n = 40
          · subst hf
            have z1 : M 5 4 = 40 := e1
            have z2 : M 132 1 = 40 := e2
            refine ob_mk (z := (-104, M)) (by simp [f_X11_mark, wi_128, h, f_X2_ownerOf, q1, q2, hz, wi_6, h1, wi_16, h3, f_X5_isFull, z1]) ?_
            exact ob_mk (z := (-104, M)) (by simp [f_X12_mark, ic, q1, q2, o1, hz, wn_6, h1, wn_16, h3, z2]) ⟨rfl, hI⟩
          · have hn8 : n < 40 := by omega
            have z1 : M 5 4 < 40 := by rw [e1]; exact nI_lt (b := 40) hn8 (by decide)
            have z2 : ¬ nI n = 40 := fun q => hf (nI_inj (b := 40) (by omega) (by decide) q)
            have p1 := inb_t (k := n) (n := 40) hn8 (by decide)
            have p2 : nI (n + 1) - 1 = nI n := nI_pred n
            refine ob_mk (z := (nI n, up (up (up (up M 6 n a1) 7 n (nI c)) 8 n a3) 5 4 (nI (n + 1)))) (by simp [f_X11_mark, wi_128, h, f_X2_ownerOf, q1, q2, hz, wi_6, h1, wi_16, h3, f_X5_isFull, z1, c_add hn8 e1]) ?_
            refine ob_mk (z := (nI n, up (up (up (up (up (up (up (up M 6 n a1) 7 n (nI c)) 8 n a3) 5 4 (nI (n + 1))) 134 n a1) 135 n (nI c)) 136 n a3) 132 1 (nI (n + 1)))) (by simp [f_X12_mark, ic, q1, q2, o1, hz, wn_6, h1, wn_16, h3, z2, up_at, e2, p1, nI_cl (show n < 2 ^ 31 by omega), nI_1, p2]) ⟨rfl, ?_⟩
            obtain ⟨k, hk, rfl⟩ := isN_of (by decide) h1
            obtain ⟨v, hv, rfl⟩ := isN_of (by decide) h3
            refine ⟨hG.sm ((((((((Sm.rfl'.up' rfl).up' rfl).up' rfl).up' rfl).up' rfl).up' rfl).up' rfl).up' rfl), ⟨n + 1, by omega, by simp [up_at], by simp [up_at], fun i hi => ?_⟩, hPg.sm ((((((((Sm.rfl'.up' rfl).up' rfl).up' rfl).up' rfl).up' rfl).up' rfl).up' rfl).up' rfl), hL.sm ((((((((Sm.rfl'.up' rfl).up' rfl).up' rfl).up' rfl).up' rfl).up' rfl).up' rfl).up' rfl), hB.sm ((((((((Sm.rfl'.up' rfl).up' rfl).up' rfl).up' rfl).up' rfl).up' rfl).up' rfl).up' rfl), hS.sm ((((((((Sm.rfl'.up' rfl).up' rfl).up' rfl).up' rfl).up' rfl).up' rfl).up' rfl).up' rfl), hF.sm ((((((((Sm.rfl'.up' rfl).up' rfl).up' rfl).up' rfl).up' rfl).up' rfl).up' rfl).up' rfl)⟩
            by_cases hin : i = n
            · subst hin
              exact ⟨by simp [up_at], by simp [up_at], by simp [up_at], ⟨k, hk, by simp [up_at]⟩, ⟨c, hc2, by simp [up_at], by simpa [up_at] using hz⟩, v, hv, by simp [up_at]⟩
            · simpa [up_at, hin] using hc i (by omega)
        · refine ob_mk (z := (-102, M)) (by simp [f_X11_mark, wi_128, h, f_X2_ownerOf, q1, q2, hz, wi_6, h1, wi_16, h3]) ?_
          exact ob_mk (z := (-102, M)) (by simp [f_X12_mark, ic, q1, q2, o1, hz, wn_6, h1, wn_16, h3]) ⟨rfl, hI⟩
      · refine ob_mk (z := (-102, M)) (by simp [f_X11_mark, wi_128, h, f_X2_ownerOf, q1, q2, hz, wi_6, h1]) ?_
        exact ob_mk (z := (-102, M)) (by simp [f_X12_mark, ic, q1, q2, o1, hz, wn_6, h1]) ⟨rfl, hI⟩
  · refine ob_mk (z := (-101, M)) (by simp [f_X11_mark, wi_128, h]) ?_
    exact ob_mk (z := (-101, M)) (by simp [f_X12_mark, f_X12_isCell, wn_128, h]) ⟨rfl, hI⟩
/-! strike -/
theorem hq_nI (g : Nat) (hg : g < 2) : hq (nI g) = hP g := by
  rcases (show g = 0 ∨ g = 1 by omega) with rfl | rfl <;> rfl
theorem IvL.cut {M M1 : Mem} {g n : Nat} (h : IvL M) (hg : g < 2) (e : M (hP g) 2 = nI (n + 1)) (hn : n < 8) (h1 : M1 (hP g) 2 = nI n) (h2 : M1 139 g = nI n) (ho : ∀ p k, rL p k = true → ¬ (p = hP g ∧ k = 2) → ¬ (p = 139 ∧ k = g) → M1 p k = M p k) : IvL M1 := by
  intro g2 hg2
  obtain ⟨n2, q1, q2, q3, q4⟩ := h g2 hg2
  have rows : ∀ i, i < n2 → LawR M1 (hP g2 + 3 + 6 * i) (8 * g2 + i) := by
    intro i hi
    have hrow : ∀ p, (∀ k, rL p k = true) → p ≠ 12 → p ≠ 63 → p ≠ 139 → M1 p = M p := by
      intro p hr p1 p2 p3
      funext k
      refine ho p k (hr k) ?_ ?_
      · rintro ⟨rfl, -⟩
        rcases (show g = 0 ∨ g = 1 by omega) with rfl | rfl
        · exact p1 rfl
        · exact p2 rfl
      · rintro ⟨rfl, -⟩
        exact p3 rfl
    refine (q4 i hi).sm (fun j hj => ?_) (hrow 140 (fun _ => rfl) (by decide) (by decide) (by decide)) (hrow 141 (fun _ => rfl) (by decide) (by decide) (by decide)) (hrow 142 (fun _ => rfl) (by decide) (by decide) (by decide)) (hrow 143 (fun _ => rfl) (by decide) (by decide) (by decide)) (hrow 144 (fun _ => rfl) (by decide) (by decide) (by decide))
    rcases (show g2 = 0 ∨ g2 = 1 by omega) with rfl | rfl
    · have a0 : hP 0 = 12 := rfl
      refine hrow _ (fun k => ?_) (by omega) (by omega) (by omega)
      have a1 : 15 ≤ hP 0 + 3 + 6 * i + j := by omega
      have a2 : hP 0 + 3 + 6 * i + j < 63 := by omega
      simp [rL, a1, a2]
    · have a0 : hP 1 = 63 := rfl
      refine hrow _ (fun k => ?_) (by omega) (by omega) (by omega)
      have a1 : 66 ≤ hP 1 + 3 + 6 * i + j := by omega
      have a2 : hP 1 + 3 + 6 * i + j < 114 := by omega
      simp [rL, a1, a2]
  by_cases hgg : g2 = g
  · subst hgg
    have hnn : n2 = n + 1 := nI_inj (by omega) (by omega) (q2.symm.trans e)
    exact ⟨n, by omega, h1, h2, fun i hi => rows i (by omega)⟩
  · refine ⟨n2, q1, ?_, ?_, rows⟩
    · rw [← q2]
      refine ho _ _ ?_ ?_ ?_
      · rcases (show g2 = 0 ∨ g2 = 1 by omega) with rfl | rfl <;> rfl
      · rintro ⟨q, -⟩
        rcases (show g2 = 0 ∨ g2 = 1 by omega) with rfl | rfl <;> rcases (show g = 0 ∨ g = 1 by omega) with rfl | rfl <;> first | exact hgg rfl | (exact absurd q (by decide))
      · rintro ⟨q, -⟩
        rcases (show g2 = 0 ∨ g2 = 1 by omega) with rfl | rfl <;> exact absurd q (by decide)
    · rw [← q3]
      refine ho 139 g2 rfl ?_ ?_
      · rintro ⟨q, -⟩
        rcases (show g = 0 ∨ g = 1 by omega) with rfl | rfl <;> exact absurd q (by decide)
      · rintro ⟨-, q⟩
        exact hgg q
