theorem c_ask {M : Mem} {i d u : Nat} (hi : i < 40) (hd : d < 128) (k6 : M 7 i = nI d) (hu : u < 16) : ∃ M1, f_X7_ask (nI i) (nI u) M = some M1 ∧ (∀ c, c < 128 → M1 130 c = if nI (stp (d / 16 * 16 + (d % 16 + u) % 16) c) = M 8 i then M 130 c + 1 else M 130 c) ∧ ∀ p k, p ≠ 130 → M1 p k = M p k := by
  have p1 := inb_t (k := i) (n := 40) hi (by decide)
  have p2 := nI_cl (show i < 2 ^ 31 by omega)
  have e2 : jrem (nI d) 16 = nI (d % 16) := jrem_nI (d := 16) (by omega) (by decide) (by decide)
  have e3 : nI (d / 16) * 16 = nI (d / 16 * 16) := pk_mul _ 16
  have e1 : nI d / 16 = nI (d / 16) := pk_div (d := 16) (by omega) (by decide) (by decide)
  have e4 : (nI (d % 16) + nI u) &&& 15 = nI ((d % 16 + u) % 16) := by
    rw [nI_add]
    exact pk_andN (by omega) 4 rfl
  have ht : d / 16 * 16 + (d % 16 + u) % 16 < 128 := by omega
  obtain ⟨z, hz, z1, z2⟩ := it_inv (b := f_X7_ask_b30 (nI i) (nI d) (nI ((d % 16 + u) % 16))) (fun c s => s.1 = nI c ∧ (∀ j, j < 128 → s.2 130 j = if j < c ∧ nI (stp (d / 16 * 16 + (d % 16 + u) % 16) j) = M 8 i then M 130 j + 1 else M 130 j) ∧ ∀ p k, p ≠ 130 → s.2 p k = M p k) 128 (Q := fun M1 => (∀ c, c < 128 → M1 130 c = if nI (stp (d / 16 * 16 + (d % 16 + u) % 16) c) = M 8 i then M 130 c + 1 else M 130 c) ∧ ∀ p k, p ≠ 130 → M1 p k = M p k) (by decide) (by
    rintro c hc ⟨x, Mi⟩ ⟨h1, h2, h3⟩
    simp only at h1 h2 h3
    subst h1
    have a1 : ¬ (128 : Int32) ≤ nI c := nI_ge (b := 128) hc (by decide)
    have q1 := inb_t (k := c) (n := 128) hc (by decide)
    have q2 := nI_cl (show c < 2 ^ 31 by omega)
    have hs := c_steps ht hc
    have h8 : Mi 8 i = M 8 i := h3 8 i (by decide)
    by_cases q : nI (stp (d / 16 * 16 + (d % 16 + u) % 16) c) = M 8 i
    · refine ⟨(nI (c + 1), up Mi 130 c (Mi 130 c + 1)), ?_, rfl, fun j hj => ?_, fun p k hp => ?_⟩
      · simp only [f_X7_ask_b30, a1, if_false, e1, e3, nI_add, hs, Option.bind_some, f_X5_numberOf, p1, if_true, p2, h8, q, q1, q2, nI_1]
      · show up Mi 130 c (Mi 130 c + 1) 130 j = _
        rw [up_at]
        by_cases w : j = c
        · subst w
          rw [if_pos ⟨rfl, rfl⟩, if_pos ⟨by omega, q⟩, h2 j hc, if_neg (fun y => Nat.lt_irrefl _ y.1)]
        · rw [if_neg (fun y => w y.2), h2 j hj]
          have : j < c ↔ j < c + 1 := by omega
          simp only [this]
      · show up Mi 130 c (Mi 130 c + 1) p k = _
        rw [up_at, if_neg (fun y => hp y.1)]
        exact h3 p k hp
    · refine ⟨(nI (c + 1), Mi), ?_, rfl, fun j hj => ?_, h3⟩
      · simp only [f_X7_ask_b30, a1, if_false, e1, e3, nI_add, hs, Option.bind_some, f_X5_numberOf, p1, if_true, p2, h8, q, nI_1]
      · show Mi 130 j = _
        rw [h2 j hj]
        by_cases w : j = c
        · subst w
          rw [if_neg (fun y => q y.2), if_neg (fun y => q y.2)]
        · have : j < c ↔ j < c + 1 := by omega
          simp only [this]) (by
    rintro ⟨x, Mi⟩ ⟨h1, h2, h3⟩
    simp only at h1 h2 h3
    subst h1
    have a1 : (128 : Int32) ≤ nI 128 := by decide
    refine ⟨Mi, by simp only [f_X7_ask_b30, a1, if_true], fun c hc => ?_, h3⟩
    rw [h2 c hc]
    simp only [hc, true_and]) (s0 := (0, M)) ⟨rfl, fun j _ => by rw [if_neg (fun y => Nat.not_lt_zero _ y.1)], fun _ _ _ => rfl⟩
  refine ⟨z, ?_, z1, z2⟩
  simp only [f_X7_ask, f_X5_cellOf, p1, if_true, p2, k6, Option.bind_some, f_X11_eastOf, e2, e4, hz]
