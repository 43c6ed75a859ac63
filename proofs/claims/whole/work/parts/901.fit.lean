/-- the reference's account of the places so far -/
def svF (t : Nat × Nat × Int32 × Nat × Nat) : Int32 × Int32 × Int32 × Int32 := if t.1 = 0 then (0, -1, -1, 0) else (nI t.1, nI t.2.2.2.1, nI t.2.2.2.2, t.2.2.1)
theorem lk_p7 : ∀ s, s < 15 → nI s - 7 + 7 = nI s := by decide +kernel
theorem svF_1 (t : Nat × Nat × Int32 × Nat × Nat) : (svF t).1 = nI t.1 := by
  unfold svF
  by_cases q : t.1 = 0
  · rw [if_pos q, q]; rfl
  · rw [if_neg q]
theorem svF_p {t : Nat × Nat × Int32 × Nat × Nat} (q : ¬ t.1 = 0) : svF t = (nI t.1, nI t.2.2.2.1, nI t.2.2.2.2, t.2.2.1) := by
  unfold svF
  rw [if_neg q]
theorem es_at {own : Nat → Int32} {a b s v : Nat} {lim : Int32} (hv : v < 16) : svN own a b lim (16 * s + (v + 1)) = svS (flB own b s 128 && ctB own a b s v) (prI own a b s v) lim s v (svN own a b lim (16 * s + v)) := by
  show svS (ckB own a b (16 * s + v)) (prI own a b ((16 * s + v) / 16) ((16 * s + v) % 16)) lim ((16 * s + v) / 16) ((16 * s + v) % 16) (svN own a b lim (16 * s + v)) = _
  unfold ckB
  rw [show (16 * s + v) / 16 = s by omega, show (16 * s + v) % 16 = v by omega]
theorem m_fitF {t : Nat × Nat × Int32 × Nat × Nat} (hb : t.1 < 2 ^ 30) {P lim : Int32} {s v : Nat} (hs : s < 15) : (Option.bind (if (svF t).1 = 0 then some ((nI s - 7) + 7, nI v, P) else if (svF t).2.2.2 ≤ P then some ((svF t).2.1, (svF t).2.2.1, (svF t).2.2.2) else some ((nI s - 7) + 7, nI v, P)) fun ((x377, x378, x379) : (Int32 × Int32 × Int32)) => some ((svF t).1 + 1, x377, x378, x379)) = some (svF (svS true P lim s v t)) := by
  rw [lk_p7 s hs, svF_1]
  have q9 : ¬ t.1 + 1 = 0 := by omega
  by_cases q : t.1 = 0
  · have q2 : nI t.1 = 0 := by rw [q]; rfl
    have eS : svS true P lim s v t = (t.1 + 1, t.2.1 + (if lim < P then 0 else 1), (P, s, v)) := by
      unfold svS
      rw [if_pos rfl, if_pos (Or.inl q)]
    rw [if_pos q2, Option.bind_some, eS, svF_p (t := (t.1 + 1, t.2.1 + (if lim < P then 0 else 1), (P, s, v))) q9, nI_1]
  · have q2 : ¬ nI t.1 = 0 := nI_ne0 (by omega) (by omega)
    rw [if_neg q2, svF_p q, nI_1]
    simp only
    by_cases q3 : t.2.2.1 ≤ P
    · have eS : svS true P lim s v t = (t.1 + 1, t.2.1 + (if lim < P then 0 else 1), t.2.2) := by
        unfold svS
        have : ¬ (t.1 = 0 ∨ ¬ t.2.2.1 ≤ P) := by rintro (w | w); exact q w; exact w q3
        rw [if_pos rfl, if_neg this]
      rw [if_pos q3, Option.bind_some, eS, svF_p (t := (t.1 + 1, t.2.1 + (if lim < P then 0 else 1), t.2.2)) q9]
    · have eS : svS true P lim s v t = (t.1 + 1, t.2.1 + (if lim < P then 0 else 1), (P, s, v)) := by
        unfold svS
        rw [if_pos rfl, if_pos (Or.inr q3)]
      rw [if_neg q3, Option.bind_some, eS, svF_p (t := (t.1 + 1, t.2.1 + (if lim < P then 0 else 1), (P, s, v))) q9]
theorem m_fit {M : Mem} (hI : Inv M) {a b : Nat} : ∃ M1, it (f_X12_fit_b42 (nI a) (nI b)) FU (0, -1, -1, 0, -7, M) = some ((svF (svN (M 2) a b 0 240)).1, (svF (svN (M 2) a b 0 240)).2.1, (svF (svN (M 2) a b 0 240)).2.2.1, M1) ∧ ∀ p k, p ≠ 137 → M1 p k = M p k := by
  have inner : ∀ s, s < 15 → ∀ M0 : Mem, (∀ p k, p ≠ 137 → M0 p k = M p k) → ∃ M1, it (f_X12_fit_b52 (nI a) (nI b)) FU ((svF (svN (M 2) a b 0 (16 * s))).1, (svF (svN (M 2) a b 0 (16 * s))).2.1, (svF (svN (M 2) a b 0 (16 * s))).2.2.1, (svF (svN (M 2) a b 0 (16 * s))).2.2.2, nI s - 7, 0, M0) = some ((svF (svN (M 2) a b 0 (16 * (s + 1)))).1, (svF (svN (M 2) a b 0 (16 * (s + 1)))).2.1, (svF (svN (M 2) a b 0 (16 * (s + 1)))).2.2.1, (svF (svN (M 2) a b 0 (16 * (s + 1)))).2.2.2, nI s - 7, M1) ∧ ∀ p k, p ≠ 137 → M1 p k = M p k := by
    intro s hs M0 h0
    obtain ⟨z, hz, z1, z2⟩ := it_inv (b := f_X12_fit_b52 (nI a) (nI b)) (fun v S => (∃ Mi, S = ((svF (svN (M 2) a b 0 (16 * s + v))).1, (svF (svN (M 2) a b 0 (16 * s + v))).2.1, (svF (svN (M 2) a b 0 (16 * s + v))).2.2.1, (svF (svN (M 2) a b 0 (16 * s + v))).2.2.2, nI s - 7, nI v, Mi) ∧ ∀ p k, p ≠ 137 → Mi p k = M p k)) 16 (Q := fun Z => ∃ Mi, Z = ((svF (svN (M 2) a b 0 (16 * s + 16))).1, (svF (svN (M 2) a b 0 (16 * s + 16))).2.1, (svF (svN (M 2) a b 0 (16 * s + 16))).2.2.1, (svF (svN (M 2) a b 0 (16 * s + 16))).2.2.2, nI s - 7, Mi) ∧ ∀ p k, p ≠ 137 → Mi p k = M p k) (by decide) (by
      rintro v hv S ⟨Mi, rfl, h3⟩
      have a1 : ¬ (16 : Int32) ≤ nI v := nI_ge (b := 16) hv (by decide)
      have hIi := hI.n137 h3
      have r2 : Mi 2 = M 2 := funext fun k => h3 2 k (by decide)
      obtain ⟨M1, k1, k2, k3⟩ := m_cnt (a := a) (b := b) (own := M 2) (fun c hc => by rw [← r2]; exact (hIi.1.1 c hc).1) hs hv
      have hle := (svN_le (M 2) a b 0 (16 * s + v)).1
      have es := es_at (own := M 2) (a := a) (b := b) (s := s) (lim := 0) hv
      have g3 : ∀ p k, p ≠ 137 → M1 p k = M p k := fun p k hp => (k3 p k hp).trans (h3 p k hp)
      rw [es]
      cases hc : flB (M 2) b s 128 && ctB (M 2) a b s v with
      | false =>
        rw [hc] at k1
        refine ⟨_, ?_, M1, rfl, g3⟩
        simp only [f_X12_fit_b52]
        rw [if_neg a1, k1, nI_1]
        rfl
      | true =>
        rw [hc] at k1
        have hf := m_fitF (t := svN (M 2) a b 0 (16 * s + v)) (by omega) (P := prI (M 2) a b s v) (lim := 0) (s := s) (v := v) hs
        refine ⟨_, ?_, M1, rfl, g3⟩
        simp only [f_X12_fit_b52]
        rw [if_neg a1, k1, Option.bind_some]
        simp only
        rw [if_pos True.intro, m_cost k2, Option.bind_some, hf, Option.bind_some, nI_1]) (by
      rintro S ⟨Mi, rfl, h3⟩
      have a1 : (16 : Int32) ≤ nI 16 := by decide
      exact ⟨_, by simp only [f_X12_fit_b52, a1, if_true], Mi, rfl, h3⟩) (s0 := ((svF (svN (M 2) a b 0 (16 * s))).1, (svF (svN (M 2) a b 0 (16 * s))).2.1, (svF (svN (M 2) a b 0 (16 * s))).2.2.1, (svF (svN (M 2) a b 0 (16 * s))).2.2.2, nI s - 7, 0, M0)) ⟨M0, rfl, h0⟩
    obtain ⟨rfl, z2⟩ := z2
    rw [show 16 * (s + 1) = 16 * s + 16 by omega]
    exact ⟨z1, hz, z2⟩
  obtain ⟨z, hz, M1, rfl, z2⟩ := it_inv (b := f_X12_fit_b42 (nI a) (nI b)) (fun s S => (∃ Mi, S = ((svF (svN (M 2) a b 0 (16 * s))).1, (svF (svN (M 2) a b 0 (16 * s))).2.1, (svF (svN (M 2) a b 0 (16 * s))).2.2.1, (svF (svN (M 2) a b 0 (16 * s))).2.2.2, nI s - 7, Mi) ∧ ∀ p k, p ≠ 137 → Mi p k = M p k)) 15 (Q := fun Z => ∃ Mi, Z = ((svF (svN (M 2) a b 0 (16 * 15))).1, (svF (svN (M 2) a b 0 (16 * 15))).2.1, (svF (svN (M 2) a b 0 (16 * 15))).2.2.1, Mi) ∧ ∀ p k, p ≠ 137 → Mi p k = M p k) (by decide) (by
    rintro s hs S ⟨Mi, rfl, h3⟩
    obtain ⟨M1, k1, k2⟩ := inner s hs Mi h3
    refine ⟨_, ?_, M1, rfl, k2⟩
    simp only [f_X12_fit_b42]
    rw [if_neg (lk_8 s hs), k1, Option.bind_some]
    simp only
    rw [lk_p1 s hs]) (by
    rintro S ⟨Mi, rfl, h3⟩
    have a1 : (8 : Int32) ≤ nI 15 - 7 := by decide
    exact ⟨_, by simp only [f_X12_fit_b42, a1, if_true], Mi, rfl, h3⟩) (s0 := (0, -1, -1, 0, -7, M)) ⟨M, by
      have : (-7 : Int32) = nI 0 - 7 := by decide
      rw [← this]
      rfl, fun _ _ _ => rfl⟩
  rw [show 16 * 15 = 240 from rfl] at hz
  exact ⟨M1, hz, z2⟩
theorem isN_3 {a : Int32} (h : isN a 3 = true) : a = 0 ∨ a = 1 ∨ a = 2 := by
  obtain ⟨k, hk, rfl⟩ := isN_of (by decide) h
  rcases (show k = 0 ∨ k = 1 ∨ k = 2 by omega) with rfl | rfl | rfl <;> simp [nI]
theorem st_fit : ST_fit Inv := by
  intro a1 a2 a3 M hI
  by_cases h : isP a1 a2 = true
  · by_cases h3 : isN a3 3 = true
    · obtain ⟨a, b, ha, hb, hab, rfl, rfl⟩ := isP_of h
      obtain ⟨M1, k1, ⟨s1, s2, s3⟩, k3⟩ := c_survey hI (lim := 0) ha hb
      have hI1 := hI.n9 k3
      have r2 : M1 2 = M 2 := funext fun k => k3 2 k (by decide)
      obtain ⟨M2, g1, g2⟩ := m_fit hI1 (a := a) (b := b)
      rw [r2] at g1
      have hI2 := hI1.n137 g2
      have hle := (svN_le (M 2) a b 0 240).1
      have m0 : f_X12_fit (nI a) (nI b) a3 M1 = some (if a3 = 0 then (svF (svN (M 2) a b 0 240)).2.1 else if a3 = 1 then (svF (svN (M 2) a b 0 240)).2.2.1 else (svF (svN (M 2) a b 0 240)).1, M2) := by
        unfold f_X12_fit
        rw [m_pair, h, Option.bind_some, if_pos rfl, wn_3, h3, Option.bind_some, if_pos rfl, g1, Option.bind_some]
        simp only
        rw [ite_ss, ite_ss, Option.bind_some]
      refine ob_mk (z := (if a3 = 0 then (svF (svN (M 2) a b 0 240)).2.1 else if a3 = 1 then (svF (svN (M 2) a b 0 240)).2.2.1 else (svF (svN (M 2) a b 0 240)).1, M1)) ?_ (ob_mk m0 ⟨rfl, hI2⟩)
      unfold f_X11_fit
      rw [c_pair, h, Option.bind_some, if_pos rfl, wi_3, h3, Option.bind_some, if_pos rfl, k1, Option.bind_some, s1, svF_1]
      revert hle s3
      generalize svN (M 2) a b 0 240 = t
      intro s3 hle
      by_cases q : t.1 = 0
      · have e : svF t = (0, -1, -1, 0) := by unfold svF; rw [if_pos q]
        have q2 : nI t.1 = 0 := by rw [q]; rfl
        rw [e, q2]
        rcases isN_3 h3 with rfl | rfl | rfl <;> simp
      · have e : svF t = (nI t.1, nI t.2.2.2.1, nI t.2.2.2.2, t.2.2.1) := by unfold svF; rw [if_neg q]
        have q2 : ¬ nI t.1 = 0 := nI_ne0 (by omega) (by omega)
        obtain ⟨w1, w2, w3⟩ := s3 (by omega)
        have w4 : M1 9 6 + 7 = nI t.2.2.2.1 := by
          rw [w2, Int32.sub_add_cancel]
        rw [e, w4, w3]
        rcases isN_3 h3 with rfl | rfl | rfl <;> simp [q2]
    · refine ob_mk (z := (-102, M)) (by simp [f_X11_fit, c_pair, h, wi_3, h3]) ?_
      exact ob_mk (z := (-102, M)) (by simp [f_X12_fit, m_pair, h, wn_3, h3]) ⟨rfl, hI⟩
  · refine ob_mk (z := (-101, M)) (by simp [f_X11_fit, c_pair, h]) ?_
    exact ob_mk (z := (-101, M)) (by simp [f_X12_fit, m_pair, h]) ⟨rfl, hI⟩
