theorem m_hasN {M : Mem} (hG : IvG M) {n : Nat} (hn : n ≤ 40) (e2 : M 132 1 = nI n) (hc : ∀ i, i < n → M 134 i = M 6 i ∧ M 135 i = M 7 i ∧ M 136 i = M 8 i ∧ ∃ c, c < 128 ∧ M 7 i = nI c ∧ lo M i = M 2 c ∧ ¬ M 2 c = -1 ∧ ∃ v, v < 16 ∧ M 8 i = nI v) (a1 : Int32) : f_X12_hasNeedle a1 M = some (hasB M a1 n) := by
  have hit := it_N (b := f_X12_hasNeedle_b4 a1 M) (r := hasB M a1 n) (fun i => (hasB M a1 i, nI i)) n (by omega) (by
    intro i hi
    have g1 : ¬ nI n ≤ nI i := nI_ge hi (by omega)
    have p1 := inb_t (k := i) (n := 40) (by omega) (by decide)
    obtain ⟨k1, k2, k3, d, k5, k6, k7, k8, -⟩ := hc i hi
    have p2 := inb_t (k := d) (n := 128) k5 (by decide)
    have p3 := nI_cl (show d < 2 ^ 31 by omega)
    have e : hasB M a1 (i + 1) = (hasB M a1 i || ndb M a1 i) := rfl
    simp only [f_X12_hasNeedle_b4, e2, g1, if_false, p1, if_true, nI_cl (show i < 2 ^ 31 by omega), k1, k2, k6, p2, p3, (hG.1 d k5).1, nI_1, e]
    unfold ndb
    rw [k7]
    cases hasB M a1 i <;> by_cases x1 : M 6 i = 4 <;> by_cases x2 : a1 = -1 <;> by_cases x3 : M 2 d = a1 <;> simp [x1, x2, x3]) (by
    have g1 : nI n ≤ nI n := Int32.le_refl _
    simp only [f_X12_hasNeedle_b4, e2, g1, if_true]) (s0 := (false, 0)) rfl
  simp [f_X12_hasNeedle, hit]
