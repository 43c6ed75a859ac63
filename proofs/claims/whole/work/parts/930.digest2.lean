def cvI (M : Mem) (k : Nat) : Int32 := if k = 0 then nI (128 - cnt (fun c => M 2 c = -1) 128) else if k = 1 then M 5 4 else if k = 2 then M 12 2 else if k = 3 then M 63 2 else if k = 4 then M 114 2 else if k = 5 then M 120 6 else M 10 1
theorem cv_rows {M M1 : Mem} (h : AgM M M1) : cvI M1 = cvI M := by
  funext k
  unfold cvI
  rw [h.row 2 (fun _ => rfl) (by decide), h.2 5 4 rfl (by decide), h.2 12 2 rfl (by decide), h.2 63 2 rfl (by decide), h.2 114 2 rfl (by decide), h.2 120 6 rfl (by decide), h.2 10 1 rfl (by decide)]
theorem d_cnt {M : Mem} (hI : Inv M) : ∀ k, k < 7 → f_X11_count (nI k) M = some (cvI M k) ∧ f_X12_countOf (nI k) M = some (cvI M k) := by
  obtain ⟨hG, ⟨n1, l1, d1, e1, -⟩, ⟨n6, l6, d6, e6, -⟩, hL, ⟨n4, l4, d4, e4, -⟩, ⟨-, n5, l5, d5, e5, -⟩, hF⟩ := id hI
  obtain ⟨u, hu, eu, k0⟩ := c_sizeAll hG.C
  have g0 := m_cells (fun c hc => (hG.1 c hc).1) (-1)
  rw [eu] at g0
  have s0 : (128 : Int32) - nI u = nI (128 - u) := pk_sub (a := 128) hu
  obtain ⟨n2, l2, d2, e2, -⟩ := hL 0 (by decide)
  obtain ⟨n3, l3, d3, e3, -⟩ := hL 1 (by decide)
  have f2 : M 12 2 = nI n2 := d2
  have f3 : M 63 2 = nI n3 := d3
  intro k hk
  rcases (show k = 0 ∨ k = 1 ∨ k = 2 ∨ k = 3 ∨ k = 4 ∨ k = 5 ∨ k = 6 by omega) with rfl | rfl | rfl | rfl | rfl | rfl | rfl
  · have ev : cvI M 0 = nI (128 - u) := by unfold cvI; rw [if_pos rfl, eu]
    rw [ev]
    constructor
    · show f_X11_count 0 M = _
      unfold f_X11_count
      rw [if_pos rfl, k0, Option.bind_some]
    · show f_X12_countOf 0 M = _
      unfold f_X12_countOf
      rw [if_pos rfl, g0, Option.bind_some, s0]
  · have ev : cvI M 1 = nI n1 := d1
    rw [ev]
    constructor
    · show f_X11_count 1 M = _
      unfold f_X11_count f_X5_size
      rw [d1]
      rfl
    · show f_X12_countOf 1 M = _
      unfold f_X12_countOf
      rw [e1]
      rfl
  · have ev : cvI M 2 = nI n2 := f2
    rw [ev]
    constructor
    · show f_X11_count 2 M = _
      unfold f_X11_count f_X3_size
      rw [f2]
      rfl
    · show f_X12_countOf 2 M = _
      unfold f_X12_countOf
      rw [show Int32.toNatClampNeg 0 = 0 from rfl, e2]
      rfl
  · have ev : cvI M 3 = nI n3 := f3
    rw [ev]
    constructor
    · show f_X11_count 3 M = _
      unfold f_X11_count f_X3_size
      rw [f3]
      rfl
    · show f_X12_countOf 3 M = _
      unfold f_X12_countOf
      rw [show Int32.toNatClampNeg 1 = 1 from rfl, e3]
      rfl
  · have ev : cvI M 4 = nI n4 := d4
    rw [ev]
    constructor
    · show f_X11_count 4 M = _
      unfold f_X11_count f_X0_size
      rw [d4]
      rfl
    · show f_X12_countOf 4 M = _
      unfold f_X12_countOf
      rw [e4]
      rfl
  · have ev : cvI M 5 = nI n5 := d5
    rw [ev]
    constructor
    · show f_X11_count 5 M = _
      unfold f_X11_count f_X9_size
      rw [d5]
      rfl
    · show f_X12_countOf 5 M = _
      unfold f_X12_countOf
      rw [e5]
      rfl
  · have ev : cvI M 6 = nI n6 := d6
    rw [ev]
    constructor
    · show f_X11_count 6 M = _
      unfold f_X11_count f_X6_size
      rw [d6]
      rfl
    · show f_X12_countOf 6 M = _
      unfold f_X12_countOf
      rw [e6]
      rfl
theorem c_dCnt (h : Int64) {M : Mem} (hI : Inv M) : it (f_X11_digest_b75 M) FU (h, 0) = some (flH (fun i h => tlH h (cvI M i).toInt64) h 7) := by
  refine it_N (b := f_X11_digest_b75 M) (fun i => (flH (fun i h => tlH h (cvI M i).toInt64) h i, nI i)) 7 (by decide) ?_ ?_ rfl
  · intro i hi
    have a1 : ¬ (6 : Int32) < nI i := nI_nlt (a := 6) (by omega) (by decide)
    simp only [f_X11_digest_b75]
    rw [if_neg a1, (d_cnt hI i hi).1, Option.bind_some, th_, Option.bind_some, nI_1, fl_s]
  · have a1 : (6 : Int32) < nI 7 := by decide
    simp only [f_X11_digest_b75, a1, if_true]
theorem m_dCnt (h : Int64) {M : Mem} (hI : Inv M) : it (f_X12_digest_b327 M) FU (0, h) = some (flH (fun i h => tlH h (cvI M i).toInt64) h 7) := by
  refine it_N (b := f_X12_digest_b327 M) (fun i => (nI i, flH (fun i h => tlH h (cvI M i).toInt64) h i)) 7 (by decide) ?_ ?_ rfl
  · intro i hi
    have a1 : ¬ (7 : Int32) ≤ nI i := nI_ge (b := 7) hi (by decide)
    simp only [f_X12_digest_b327]
    rw [if_neg a1, (d_cnt hI i hi).2, Option.bind_some, te_, Option.bind_some, nI_1, fl_s]
  · have a1 : (7 : Int32) ≤ nI 7 := by decide
    simp only [f_X12_digest_b327, a1, if_true]
theorem mkF_rows {M M1 : Mem} (h : AgM M M1) : mkF M1 = mkF M := by
  funext i x
  unfold mkF
  rw [h.row 6 (fun _ => rfl) (by decide), h.row 7 (fun _ => rfl) (by decide), h.row 8 (fun _ => rfl) (by decide)]
theorem clF_rows {M M1 : Mem} (h : AgM M M1) : clF M1 = clF M := by
  funext i x
  unfold clF
  rw [h.row 121 (fun _ => rfl) (by decide), h.row 122 (fun _ => rfl) (by decide), h.row 123 (fun _ => rfl) (by decide), h.row 124 (fun _ => rfl) (by decide), h.row 125 (fun _ => rfl) (by decide)]
theorem st_digest : ST_digest Inv := by
  intro M hh hI
  obtain ⟨n2, hn2, p1, p2, hA⟩ := hI.2.1.mk
  obtain ⟨nb, T, hnb, eb1, eb2, hT⟩ := sp_all hI
  obtain ⟨⟨sp, hsp, v1, v2⟩, n5, hn5, q1, q2, hc5⟩ := id hI.2.2.2.2.2.1
  obtain ⟨n7, hn7, w1, w2, hc7⟩ := id hI.2.2.1
  obtain ⟨fl, hfl, y1, y2⟩ := id hI.2.2.2.2.2.2
  -- the class
  obtain ⟨h1, e1⟩ : ∃ h1, h1 = flH (fun i h => tlH h (M 2 i).toInt64) 313 128 := ⟨_, rfl⟩
  obtain ⟨h2, e2⟩ : ∃ h2, h2 = flH (mkF M) h1 n2 := ⟨_, rfl⟩
  obtain ⟨h3, e3⟩ : ∃ h3, h3 = flH (dsF2 (M 2)) h2 6 := ⟨_, rfl⟩
  obtain ⟨h4, e4⟩ : ∃ h4, h4 = flH (bsF (M 115) (M 116) T) h3 nb := ⟨_, rfl⟩
  obtain ⟨h5, e5⟩ : ∃ h5, h5 = flH (clF M) (tlH h4 (M 120 7).toInt64) n5 := ⟨_, rfl⟩
  obtain ⟨h6, e6⟩ : ∃ h6, h6 = tlH (tlH h5 (M 131 0).toInt64) (nI (rdg (M 131 0) 22)).toInt64 := ⟨_, rfl⟩
  obtain ⟨h7, e7⟩ : ∃ h7, h7 = flH (fun i h => tlH h (M 11 i).toInt64) h6 n7 := ⟨_, rfl⟩
  obtain ⟨h8, e8⟩ : ∃ h8, h8 = flH (fun i h => tlH h (cvI M i).toInt64) h7 7 := ⟨_, rfl⟩
  have c1 := c_dCells 313 M
  rw [← e1] at c1
  have c2 := c_dMarks h1 hn2 p1 hA
  rw [← e2] at c2
  obtain ⟨M4, c3, a4⟩ := c_dDist h2 hI
  rw [← e3] at c3
  obtain ⟨M6, c4, a6⟩ := c_dBeasts h3 hnb eb1 hT a4
  rw [← e4] at c4
  have c5 := c_dClaims h4 hn5 ((a6.2 120 6 rfl (by decide)).trans q1)
  rw [clF_rows a6, a6.2 120 7 rfl (by decide), ← e5] at c5
  have c6 : f_X10_told h5 M6 = some h6 := by
    unfold f_X10_told
    rw [th_, Option.bind_some, c_ridge, Option.bind_some, th_, Option.bind_some, a6.2 131 0 rfl (by decide), e6]
  have c7 := c_dPage h6 hn7 ((a6.2 10 1 rfl (by decide)).trans w1)
  rw [a6.row 11 (fun _ => rfl) (by decide), ← e7] at c7
  have c8 := c_dCnt h7 a6.1
  rw [cv_rows a6, ← e8] at c8
  have cl : f_X11_digest M = some (h8, M6) := by
    unfold f_X11_digest
    rw [c1, Option.bind_some, c2, Option.bind_some, c3, Option.bind_some]
    simp only
    rw [c4, Option.bind_some]
    simp only
    rw [c5, Option.bind_some, c6, Option.bind_some, c7, Option.bind_some, c8, Option.bind_some]
  -- the reference
  have hI6 := a6.1
  obtain ⟨n2', hn2', p1', p2', hA'⟩ := hI6.2.1.mk
  have en2 : n2' = n2 := nI_inj (by omega) (by omega) (p1'.symm.trans ((a6.2 5 4 rfl (by decide)).trans p1))
  subst en2
  have m1 := m_dCells 313 hI6.1
  rw [a6.row 2 (fun _ => rfl) (by decide), ← e1] at m1
  have m2 := m_dMarks h1 hn2' p2' hA'
  rw [mkF_rows a6, ← e2] at m2
  have m3 := m_dDist h2 hI6.1
  rw [a6.row 2 (fun _ => rfl) (by decide), ← e3] at m3
  obtain ⟨M9, m4, a9⟩ := m_dBeasts h3 hI hnb eb2 hT a6
  rw [← e4] at m4
  have hI9 := a9.1
  obtain ⟨⟨sp', hsp', v1', v2'⟩, n5', hn5', q1', q2', hc5'⟩ := id hI9.2.2.2.2.2.1
  have en5 : n5' = n5 := nI_inj (by omega) (by omega) (q1'.symm.trans ((a9.2 120 6 rfl (by decide)).trans q1))
  subst en5
  have m5 := m_dClaims (tlH h4 (M 120 7).toInt64) hn5' q2' (fun i hi => ⟨(hc5' i hi).1, (hc5' i hi).2.1, (hc5' i hi).2.2.1, (hc5' i hi).2.2.2.1, (hc5' i hi).2.2.2.2.1⟩)
  rw [clF_rows a9, ← e5] at m5
  have e33 : M9 132 33 = M 120 7 := (v2'.trans v1'.symm).trans (a9.2 120 7 rfl (by decide))
  obtain ⟨fl', hfl', y1', y2'⟩ := id hI9.2.2.2.2.2.2
  have e41 : M9 132 41 = M 131 0 := (y2'.trans y1'.symm).trans (a9.2 131 0 rfl (by decide))
  obtain ⟨n7', hn7', w1', w2', hc7'⟩ := id hI9.2.2.1
  have en7 : n7' = n7 := nI_inj (by omega) (by omega) (w1'.symm.trans ((a9.2 10 1 rfl (by decide)).trans w1))
  subst en7
  have m7 := m_dPage h6 hn7' w2' (fun i hi => (hc7' i hi).1)
  rw [a9.row 11 (fun _ => rfl) (by decide), ← e7] at m7
  have m8 := m_dCnt h7 hI9
  rw [cv_rows a9, ← e8] at m8
  have ml : f_X12_digest M6 hh = some (h8, M9, h8) := by
    unfold f_X12_digest
    rw [m1, Option.bind_some, m2, Option.bind_some, m3, Option.bind_some, m4, Option.bind_some]
    simp only
    rw [te_, Option.bind_some, e33, m5, Option.bind_some, te_, Option.bind_some, e41, m_ridge, Option.bind_some, e41, te_, Option.bind_some, ← e6, m7, Option.bind_some, m8, Option.bind_some]
  exact ob_mk cl (ob_mk ml ⟨rfl, hI9⟩)
