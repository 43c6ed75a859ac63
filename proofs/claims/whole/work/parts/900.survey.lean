/-! all places of two lands -/
def svS (ct : Bool) (p lim : Int32) (s v : Nat) (t : Nat × Nat × Int32 × Nat × Nat) : Nat × Nat × Int32 × Nat × Nat := if ct = true then (t.1 + 1, t.2.1 + (if lim < p then 0 else 1), if t.1 = 0 ∨ ¬ t.2.2.1 ≤ p then (p, s, v) else t.2.2) else t
def ckB (own : Nat → Int32) (a b k : Nat) : Bool := flB own b (k / 16) 128 && ctB own a b (k / 16) (k % 16)
def svN (own : Nat → Int32) (a b : Nat) (lim : Int32) : Nat → Nat × Nat × Int32 × Nat × Nat
  | 0 => (0, 0, 0, 0, 0)
  | k + 1 => svS (ckB own a b k) (prI own a b (k / 16) (k % 16)) lim (k / 16) (k % 16) (svN own a b lim k)
theorem svS_le (ct : Bool) (p lim : Int32) (s v : Nat) (t : Nat × Nat × Int32 × Nat × Nat) {k : Nat} (h : t.1 ≤ k ∧ t.2.1 ≤ t.1) : (svS ct p lim s v t).1 ≤ k + 1 ∧ (svS ct p lim s v t).2.1 ≤ (svS ct p lim s v t).1 := by
  unfold svS
  cases ct
  · exact ⟨by simp; omega, by simp; omega⟩
  · refine ⟨by simp; omega, ?_⟩
    simp only [if_true]
    split <;> omega
theorem svN_le (own : Nat → Int32) (a b : Nat) (lim : Int32) : ∀ k, (svN own a b lim k).1 ≤ k ∧ (svN own a b lim k).2.1 ≤ (svN own a b lim k).1
  | 0 => ⟨Nat.le_refl _, Nat.le_refl _⟩
  | k + 1 => by
    have ih := svN_le own a b lim k
    have e : svN own a b lim (k + 1) = svS (ckB own a b k) (prI own a b (k / 16) (k % 16)) lim (k / 16) (k % 16) (svN own a b lim k) := rfl
    rw [e]
    exact svS_le _ _ _ _ _ _ ih
/-- the class's account of the places so far -/
def svC (t : Nat × Nat × Int32 × Nat × Nat) (M : Mem) : Prop := M 9 4 = nI t.1 ∧ M 9 5 = nI t.2.1 ∧ (0 < t.1 → M 9 8 = t.2.2.1 ∧ M 9 6 = nI t.2.2.2.1 - 7 ∧ M 9 7 = nI t.2.2.2.2)
theorem c_take {M : Mem} {U V lim P : Int32} {s v : Nat} {t : Nat × Nat × Int32 × Nat × Nat} (h : svC t M) (hp : f_X1_price M = some P) (eU : U = nI s - 7) (eV : V = nI v) (hb : t.1 < 2 ^ 31) : ∃ M3, f_X1_take U V lim M = some M3 ∧ svC (svS true P lim s v t) M3 ∧ ∀ p j, p ≠ 9 → M3 p j = M p j := by
  obtain ⟨h1, h2, h3⟩ := h
  have z1 : nI t.2.1 + 1 = nI (t.2.1 + 1) := nI_1 _
  have z2 : nI t.1 + 1 = nI (t.1 + 1) := nI_1 _
  have s1 : ∃ M2, (if M 9 4 = 0 then some (up (up (up M 9 8 P) 9 6 U) 9 7 V) else if M 9 8 ≤ P then some M else some (up (up (up M 9 8 P) 9 6 U) 9 7 V)) = some M2 ∧ M2 9 4 = nI t.1 ∧ M2 9 5 = nI t.2.1 ∧ (M2 9 8 = (if t.1 = 0 ∨ ¬ t.2.2.1 ≤ P then (P, s, v) else t.2.2).1 ∧ M2 9 6 = nI (if t.1 = 0 ∨ ¬ t.2.2.1 ≤ P then (P, s, v) else t.2.2).2.1 - 7 ∧ M2 9 7 = nI (if t.1 = 0 ∨ ¬ t.2.2.1 ≤ P then (P, s, v) else t.2.2).2.2) ∧ ∀ p j, p ≠ 9 → M2 p j = M p j := by
    by_cases q0 : t.1 = 0
    · have q0' : M 9 4 = 0 := by rw [h1, q0]; rfl
      refine ⟨up (up (up M 9 8 P) 9 6 U) 9 7 V, by rw [if_pos q0'], ?_, ?_, ?_, fun p j hp => ?_⟩
      · simp [up_at, h1]
      · simp [up_at, h2]
      · rw [if_pos (.inl q0)]
        exact ⟨by simp [up_at], by simp [up_at, eU], by simp [up_at, eV]⟩
      · simp [up_at, hp]
    · have q0' : ¬ M 9 4 = 0 := by rw [h1]; exact nI_ne0 (by omega) hb
      obtain ⟨g1, g2, g3⟩ := h3 (by omega)
      by_cases q1 : t.2.2.1 ≤ P
      · refine ⟨M, by rw [if_neg q0', g1, if_pos q1], h1, h2, ?_, fun _ _ _ => rfl⟩
        rw [if_neg (by rintro (w | w); exact q0 w; exact w q1)]
        exact ⟨g1, g2, g3⟩
      · refine ⟨up (up (up M 9 8 P) 9 6 U) 9 7 V, by rw [if_neg q0', g1, if_neg q1], ?_, ?_, ?_, fun p j hp => ?_⟩
        · simp [up_at, h1]
        · simp [up_at, h2]
        · rw [if_pos (.inr q1)]
          exact ⟨by simp [up_at], by simp [up_at, eU], by simp [up_at, eV]⟩
        · simp [up_at, hp]
  obtain ⟨M2, e2, a1, a2, ⟨a3, a4, a5⟩, a6⟩ := s1
  by_cases q : lim < P
  · refine ⟨up M2 9 4 (nI (t.1 + 1)), ?_, ⟨?_, ?_, fun _ => ⟨?_, ?_, ?_⟩⟩, fun p j hp => ?_⟩
    · unfold f_X1_take
      rw [hp, Option.bind_some, e2, Option.bind_some, if_pos q, a1, z2]
      rfl
    · simp [up_at, svS]
    · simp [up_at, svS, q, a2]
    · simpa [up_at, svS] using a3
    · simpa [up_at, svS] using a4
    · simpa [up_at, svS] using a5
    · simp [up_at, hp, a6 p j hp]
  · refine ⟨up (up M2 9 4 (nI (t.1 + 1))) 9 5 (nI (t.2.1 + 1)), ?_, ⟨?_, ?_, fun _ => ⟨?_, ?_, ?_⟩⟩, fun p j hp => ?_⟩
    · unfold f_X1_take
      rw [hp, Option.bind_some, e2, Option.bind_some, if_neg q, a1, z2]
      have : up M2 9 4 (nI (t.1 + 1)) 9 5 = nI t.2.1 := by simp [up_at, a2]
      rw [this, z1]
      rfl
    · simp [up_at, svS]
    · simp [up_at, svS, q]
    · simpa [up_at, svS] using a3
    · simpa [up_at, svS] using a4
    · simpa [up_at, svS] using a5
    · simp [up_at, hp, a6 p j hp]
theorem svC_keep {t : Nat × Nat × Int32 × Nat × Nat} {M M1 : Mem} (h : svC t M) (e : ∀ p k, ¬ (p = 9 ∧ (k = 1 ∨ k = 2 ∨ k = 3)) → M1 p k = M p k) : svC t M1 := by
  obtain ⟨h1, h2, h3⟩ := h
  unfold svC
  rw [e 9 4 (by omega), e 9 5 (by omega), e 9 6 (by omega), e 9 7 (by omega), e 9 8 (by omega)]
  exact ⟨h1, h2, h3⟩
theorem c_ringS {M M0 : Mem} (hI : Inv M) {a b s : Nat} {lim : Int32} (ha : a < 6) (hb : b < 6) (hs : s < 15) (hF : flB (M 2) b s 128 = true) (hM : ∀ p j, p ≠ 9 → M0 p j = M p j) (h0 : svC (svN (M 2) a b lim (16 * s)) M0) : ∃ M1, f_X1_surveyRing (nI a) (nI b) (nI s - 7) lim M0 = some M1 ∧ svC (svN (M 2) a b lim (16 * (s + 1))) M1 ∧ ∀ p j, p ≠ 9 → M1 p j = M p j := by
  obtain ⟨z, hz, z1, z2⟩ := it_inv (b := f_X1_surveyRing_b3 (nI a) (nI b) (nI s - 7) lim) (fun v S => S.1 = nI v ∧ svC (svN (M 2) a b lim (16 * s + v)) S.2 ∧ ∀ p j, p ≠ 9 → S.2 p j = M p j) 16 (Q := fun Z => svC (svN (M 2) a b lim (16 * s + 16)) Z ∧ ∀ p j, p ≠ 9 → Z p j = M p j) (by decide) (by
    rintro v hv ⟨x, Mi⟩ ⟨h1, h2, h3⟩
    simp only at h1 h2 h3
    subst h1
    have a1 : ¬ (16 : Int32) ≤ nI v := nI_ge (b := 16) hv (by decide)
    have hIi := hI.n9 h3
    have r2 : Mi 2 = M 2 := funext fun k => h3 2 k (by decide)
    obtain ⟨M1, l1, l2, l3, l4, l5⟩ := c_look hIi.1.C ha hb hs hv
    rw [r2] at l2 l3 l4
    have g3 : ∀ p j, p ≠ 9 → M1 p j = M p j := fun p j hp => (l5 p j (fun w => hp w.1)).trans (h3 p j hp)
    have g2 := svC_keep h2 l5
    have es : svN (M 2) a b lim (16 * s + (v + 1)) = svS (ctB (M 2) a b s v) (prI (M 2) a b s v) lim s v (svN (M 2) a b lim (16 * s + v)) := by
      show svS (ckB (M 2) a b (16 * s + v)) (prI (M 2) a b ((16 * s + v) / 16) ((16 * s + v) % 16)) lim ((16 * s + v) / 16) ((16 * s + v) % 16) (svN (M 2) a b lim (16 * s + v)) = _
      unfold ckB
      rw [show (16 * s + v) / 16 = s by omega, show (16 * s + v) % 16 = v by omega, hF, Bool.true_and]
    have hle := (svN_le (M 2) a b lim (16 * s + v)).1
    cases hc : ctB (M 2) a b s v with
    | false =>
      rw [hc] at es
      refine ⟨(nI (v + 1), M1), ?_, rfl, ?_, g3⟩
      · simp only [f_X1_surveyRing_b3]
        rw [if_neg a1, l1, Option.bind_some, c_cnt l2 l3, Option.bind_some, hc, nI_1]
        rfl
      · show svC (svN (M 2) a b lim (16 * s + (v + 1))) M1
        rw [es]
        exact g2
    | true =>
      rw [hc] at es
      obtain ⟨M3, t1, t2, t3⟩ := c_take (U := nI s - 7) (V := nI v) (lim := lim) g2 (c_price l2 l3 l4) rfl rfl (by omega)
      refine ⟨(nI (v + 1), M3), ?_, rfl, ?_, fun p j hp => (t3 p j hp).trans (g3 p j hp)⟩
      · simp only [f_X1_surveyRing_b3]
        rw [if_neg a1, l1, Option.bind_some, c_cnt l2 l3, Option.bind_some, hc, if_pos rfl, t1, nI_1]
        rfl
      · show svC (svN (M 2) a b lim (16 * s + (v + 1))) M3
        rw [es]
        exact t2) (by
    rintro ⟨x, Mi⟩ ⟨h1, h2, h3⟩
    simp only at h1 h2 h3
    subst h1
    have a1 : (16 : Int32) ≤ nI 16 := by decide
    exact ⟨Mi, by simp only [f_X1_surveyRing_b3, a1, if_true], h2, h3⟩) (s0 := (0, M0)) ⟨rfl, h0, hM⟩
  refine ⟨z, ?_, z1, z2⟩
  unfold f_X1_surveyRing
  rw [hz, Option.bind_some]
theorem sv_off {own : Nat → Int32} {a b s : Nat} {lim : Int32} (hF : flB own b s 128 = false) : ∀ v, v ≤ 16 → svN own a b lim (16 * s + v) = svN own a b lim (16 * s)
  | 0, _ => rfl
  | v + 1, hv => by
    rw [← sv_off hF v (by omega)]
    show svS (ckB own a b (16 * s + v)) _ lim _ _ (svN own a b lim (16 * s + v)) = _
    unfold ckB
    rw [show (16 * s + v) / 16 = s by omega, hF, Bool.false_and]
    rfl
theorem lk_n7 : ∀ s, s < 15 → ¬ 7 < nI s - 7 := by decide +kernel
theorem lk_p1 : ∀ s, s < 15 → nI s - 7 + 1 = nI (s + 1) - 7 := by decide +kernel
theorem lk_8 : ∀ s, s < 15 → ¬ 8 ≤ nI s - 7 := by decide +kernel
theorem c_survey {M : Mem} (hI : Inv M) {a b : Nat} {lim : Int32} (ha : a < 6) (hb : b < 6) : ∃ M1, f_X1_survey (nI a) (nI b) lim M = some M1 ∧ svC (svN (M 2) a b lim 240) M1 ∧ ∀ p j, p ≠ 9 → M1 p j = M p j := by
  obtain ⟨z, hz, z1, z2⟩ := it_inv (b := f_X1_survey_b14 (nI a) (nI b) lim) (fun s S => S.1 = nI s - 7 ∧ svC (svN (M 2) a b lim (16 * s)) S.2 ∧ ∀ p j, p ≠ 9 → S.2 p j = M p j) 15 (Q := fun Z => svC (svN (M 2) a b lim (16 * 15)) Z ∧ ∀ p j, p ≠ 9 → Z p j = M p j) (by decide) (by
    rintro s hs ⟨x, Mi⟩ ⟨h1, h2, h3⟩
    simp only at h1 h2 h3
    subst h1
    have hIi := hI.n9 h3
    have r2 : Mi 2 = M 2 := funext fun k => h3 2 k (by decide)
    have hst := c_stays hIi.1.C hb hs
    rw [r2] at hst
    cases hF : flB (M 2) b s 128 with
    | false =>
      rw [hF] at hst
      refine ⟨(nI (s + 1) - 7, Mi), ?_, rfl, ?_, h3⟩
      · simp only [f_X1_survey_b14]
        rw [if_neg (lk_n7 s hs), hst, Option.bind_some, lk_p1 s hs]
        rfl
      · show svC (svN (M 2) a b lim (16 * (s + 1))) Mi
        rw [show 16 * (s + 1) = 16 * s + 16 by omega, sv_off hF 16 (Nat.le_refl _)]
        exact h2
    | true =>
      rw [hF] at hst
      obtain ⟨M1, k1, k2, k3⟩ := c_ringS hI ha hb hs hF h3 h2
      refine ⟨(nI (s + 1) - 7, M1), ?_, rfl, k2, k3⟩
      simp only [f_X1_survey_b14]
      rw [if_neg (lk_n7 s hs), hst, Option.bind_some, if_pos rfl, k1, lk_p1 s hs]
      rfl) (by
    rintro ⟨x, Mi⟩ ⟨h1, h2, h3⟩
    simp only at h1 h2 h3
    subst h1
    have a1 : (7 : Int32) < nI 15 - 7 := by decide
    exact ⟨Mi, by simp only [f_X1_survey_b14, a1, if_true], h2, h3⟩) (s0 := (-7, up (up M 9 4 0) 9 5 0)) ⟨show (-7 : Int32) = nI 0 - 7 by decide, ⟨by simp [up_at, svN]; rfl, by simp [up_at, svN]; rfl, fun w => absurd w (Nat.lt_irrefl 0)⟩, fun p j hp => by simp [up_at, hp]⟩
  refine ⟨z, ?_, z1, z2⟩
  unfold f_X1_survey
  rw [hz, Option.bind_some]
