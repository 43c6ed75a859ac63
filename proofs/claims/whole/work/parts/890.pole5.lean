theorem c_walk {M1 Ms : Mem} {ag : Nat → Nat} (hb : ∀ c, ag c ≤ 40) (h : ∀ c, c < 128 → M1 130 c = nI (ag c)) (h0 : Ms 129 2 = -1) (hs : ∀ p k, p ≠ 129 → Ms p k = M1 p k) : ∃ M2, it (f_X7_seek_b107 true) FU (0, Ms) = some M2 ∧ M2 129 2 = nI (plN ag 127).1 ∧ M2 129 3 = nI (plN ag 127).2.1 ∧ M2 129 4 = nI (plN ag 127).2.2 ∧ ∀ p k, p ≠ 129 → M2 p k = M1 p k := by
  obtain ⟨z, hz, z1⟩ := it_inv (b := f_X7_seek_b107 true) (fun k s => s.1 = nI k ∧ (k = 0 → s.2 129 2 = -1) ∧ (∀ j, k = j + 1 → s.2 129 2 = nI (plN ag j).1 ∧ s.2 129 3 = nI (plN ag j).2.1 ∧ s.2 129 4 = nI (plN ag j).2.2) ∧ ∀ p q, p ≠ 129 → s.2 p q = M1 p q) 128 (Q := fun M2 => M2 129 2 = nI (plN ag 127).1 ∧ M2 129 3 = nI (plN ag 127).2.1 ∧ M2 129 4 = nI (plN ag 127).2.2 ∧ ∀ p k, p ≠ 129 → M2 p k = M1 p k) (by decide) (by
    rintro k hk ⟨x, Mi⟩ ⟨h1, h2, h3, h4⟩
    simp only at h1 h2 h3 h4
    subst h1
    have a0 : ¬ (128 : Int32) ≤ nI k := nI_ge (b := 128) hk (by decide)
    have q1 := inb_t (k := k) (n := 128) hk (by decide)
    have q2 := nI_cl (show k < 2 ^ 31 by omega)
    have hag : Mi 130 k = nI (ag k) := (h4 130 k (by decide)).trans (h k hk)
    have hbk := hb k
    cases k with
    | zero =>
      refine ⟨(nI 1, up (up (up (up Mi 129 2 (nI 0)) 129 3 (nI (ag 0))) 129 4 0) 129 4 (0 + 1)), ?_, rfl, fun w => absurd w (by decide), ?_, fun p q hp => ?_⟩
      · simp [f_X7_seek_b107, f_X7_take, a0, q1, q2, h2 rfl, up_at, hag, nI_1]
      · intro j hj
        have : j = 0 := by omega
        subst this
        refine ⟨by simp [up_at, plN], by simp [up_at, plN], ?_⟩
        simp [up_at, plN]
        rfl
      · simp [up_at, hp, h4 p q hp]
    | succ k =>
      obtain ⟨g1, g2, g3⟩ := h3 k rfl
      obtain ⟨b1, b2, b3⟩ := plN_b hb k
      have c0 : ¬ nI (plN ag k).1 = -1 := nI_m1 (by omega)
      have c1 : (nI (ag (k + 1)) ≤ nI (plN ag k).2.1) ↔ ag (k + 1) ≤ (plN ag k).2.1 := nI_leI (by omega) (by omega)
      have c2 : (nI (ag (k + 1)) = nI (plN ag k).2.1) ↔ ag (k + 1) = (plN ag k).2.1 := nI_eq (by omega) (by omega)
      by_cases q : ag (k + 1) ≤ (plN ag k).2.1
      · by_cases q3 : ag (k + 1) = (plN ag k).2.1
        · refine ⟨(nI (k + 2), up Mi 129 4 (nI ((plN ag k).2.2 + 1))), ?_, rfl, fun w => absurd w (by omega), ?_, fun p q hp => ?_⟩
          · simp [f_X7_seek_b107, f_X7_take, a0, q1, q2, g1, g2, g3, c0, hag, c1, c2, q, q3, nI_1]
          · intro j hj
            have : j = k + 1 := by omega
            subst this
            simp [up_at, plN, q3, g1, g2]
          · simp [up_at, hp, h4 p q hp]
        · refine ⟨(nI (k + 2), Mi), ?_, rfl, fun w => absurd w (by omega), ?_, h4⟩
          · simp [f_X7_seek_b107, f_X7_take, a0, q1, q2, g1, g2, c0, hag, c1, c2, q, q3, nI_1]
          · intro j hj
            have : j = k + 1 := by omega
            subst this
            simp [plN, q, q3, g1, g2, g3]
      · refine ⟨(nI (k + 2), up (up (up (up Mi 129 2 (nI (k + 1))) 129 3 (nI (ag (k + 1)))) 129 4 0) 129 4 (0 + 1)), ?_, rfl, fun w => absurd w (by omega), ?_, fun p q hp => ?_⟩
        · simp [f_X7_seek_b107, f_X7_take, a0, q1, q2, g1, g2, c0, hag, c1, q, up_at, nI_1]
        · intro j hj
          have : j = k + 1 := by omega
          subst this
          refine ⟨by simp [up_at, plN, q], by simp [up_at, plN, q], ?_⟩
          simp [up_at, plN, q]
          rfl
        · simp [up_at, hp, h4 p q hp]) (by
    rintro ⟨x, Mi⟩ ⟨h1, h2, h3, h4⟩
    simp only at h1 h2 h3 h4
    subst h1
    have a0 : (128 : Int32) ≤ nI 128 := by decide
    obtain ⟨g1, g2, g3⟩ := h3 127 rfl
    exact ⟨Mi, by simp only [f_X7_seek_b107, a0, if_true], g1, g2, g3, h4⟩) (s0 := (0, Ms)) ⟨rfl, fun _ => h0, fun j hj => absurd hj (by omega), hs⟩
  exact ⟨z, hz, z1⟩
