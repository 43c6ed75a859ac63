theorem m_hasN {M : Mem} (hG : IvG M) {n : Nat} (hn : n ≤ 40) (e2 : M 132 1 = nI n) (hc : ∀ i, i < n → M 134 i = M 6 i ∧ M 135 i = M 7 i ∧ M 136 i = M 8 i ∧ ∃ c, c < 128 ∧ M 7 i = nI c ∧ lo M i = M 2 c ∧ ¬ M 2 c = -1 ∧ ∃ v, v < 16 ∧ M 8 i = nI v) (a1 : Int32) : f_X12_hasNeedle a1 M = some (hasB M a1 n) := by
  have hit := it_N (b := f_X12_hasNeedle_b4 a1 M) (r := hasB M a1 n) (fun i => (hasB M a1 i, nI i)) n (by omega) (by
    intro i hi
    have g1 : ¬ nI n ≤ nI i := nI_ge hi (by omega)
    have p1 := inb_t (k := i) (n := 40) (by omega) (by decide)
    obtain ⟨k1, k2, k3, d, k5, k6, k7, k8, -⟩ := hc i hi
    have p2 := inb_t (k := d) (n := 128) k5 (by decide)
    have p3 := nI_cl (show d < 2 ^ 31 by omega)
    have e : hasB M a1 (i + 1) = (hasB M a1 i || ndb M a1 i) := rfl
    simp only [f_X12_hasNeedle_b4, e2, g1, if_false, p1, if_true, nI_cl (show i < 2 ^ 31 by omega), k1, k2, k6, p2, p3, (hG.1 d k5).1, nI_1, e]
    unfold ndb
    rw [k7]
    cases hasB M a1 i <;> by_cases x1 : M 6 i = 4 <;> by_cases x2 : a1 = -1 <;> by_cases x3 : M 2 d = a1 <;> simp [x1, x2, x3]) (by
    have g1 : nI n ≤ nI n := Int32.le_refl _
    simp only [f_X12_hasNeedle_b4, e2, g1, if_true]) (s0 := (false, 0)) rfl
  simp [f_X12_hasNeedle, hit]
/-- (the least cell, how many agree there, how many such) behind the cells 0..k -/
def plN (ag : Nat → Nat) : Nat → Nat × Nat × Nat
  | 0 => (0, ag 0, 1)
  | k + 1 =>
    let s := plN ag k
    if ag (k + 1) ≤ s.2.1 then (s.1, s.2.1, if ag (k + 1) = s.2.1 then s.2.2 + 1 else s.2.2) else (k + 1, ag (k + 1), 1)
theorem plN_b {ag : Nat → Nat} (h : ∀ c, ag c ≤ 40) : ∀ k, (plN ag k).1 ≤ k ∧ (plN ag k).2.1 ≤ 40 ∧ (plN ag k).2.2 ≤ k + 1
  | 0 => ⟨Nat.le_refl _, h 0, Nat.le_refl _⟩
  | k + 1 => by
    obtain ⟨h1, h2, h3⟩ := plN_b h k
    have hh := h (k + 1)
    simp only [plN]
    split
    · refine ⟨by simp only; omega, by simp only; omega, ?_⟩
      simp only
      split <;> omega
    · exact ⟨Nat.le_refl _, hh, by simp only; omega⟩
theorem m_walk {M : Mem} {a1 a2 : Int32} {u : Nat} {ag : Nat → Nat} (hb : ∀ c, ag c ≤ 40) (h : ∀ c, c < 128 → f_X12_agreeAt a1 a2 (nI u) (nI c) M = some (nI (ag c))) : it (f_X12_pole_b86 a1 a2 (nI u) M) FU (-1, -1, 0, 0) = some (nI (plN ag 127).1, nI (plN ag 127).2.1, nI (plN ag 127).2.2) := by
  refine it_N (fun k => match k with | 0 => (-1, -1, 0, 0) | k + 1 => (nI (plN ag k).1, nI (plN ag k).2.1, nI (plN ag k).2.2, nI (k + 1))) 128 (by decide) ?_ ?_ rfl
  · intro k hk
    have a0 : ¬ (128 : Int32) ≤ nI k := nI_ge (b := 128) hk (by decide)
    have hbk := hb k
    cases k with
    | zero =>
      have q : ¬ nI (ag 0) ≤ -1 := fun w => by
        have h1 : nI 0 ≤ nI (ag 0) := nI_le (by omega) (by omega)
        rw [i_le] at w h1
        have : (-1 : Int32).toInt = -1 := rfl
        have : (nI 0).toInt = 0 := rfl
        omega
      have a2' : ¬ (128 : Int32) ≤ 0 := by decide
      have h0 : f_X12_agreeAt a1 a2 (nI u) 0 M = some (nI (ag 0)) := h 0 (by decide)
      simp [f_X12_pole_b86, a2', h0, q, plN]
      exact ⟨rfl, rfl⟩
    | succ k =>
      obtain ⟨b1, b2, b3⟩ := plN_b hb k
      have c1 : (nI (ag (k + 1)) ≤ nI (plN ag k).2.1) ↔ ag (k + 1) ≤ (plN ag k).2.1 := nI_leI (by omega) (by omega)
      have c2 : (nI (ag (k + 1)) = nI (plN ag k).2.1) ↔ ag (k + 1) = (plN ag k).2.1 := nI_eq (by omega) (by omega)
      simp only [f_X12_pole_b86, a0, if_false, h (k + 1) hk, Option.bind_some, c1, c2, nI_1, plN]
      by_cases q : ag (k + 1) ≤ (plN ag k).2.1
      · by_cases q2 : ag (k + 1) = (plN ag k).2.1 <;> simp [q, q2]
      · simp [q]
        rfl
  · have a0 : (128 : Int32) ≤ nI 128 := by decide
    simp only [f_X12_pole_b86, a0, if_true]
