theorem sI_if (f : Nat → Int32) (c : Prop) [Decidable c] : ∀ n, sI (fun j => if c then f j else 0) n = if c then sI f n else 0
  | 0 => by split <;> rfl
  | n + 1 => by
    rw [sI_s, sI_if f c n]
    by_cases h : c
    · simp [h, sI_s]
    · simp [h]
theorem m_on {M : Mem} {n s v : Nat} {a b : Int32} (hn : n ≤ 40) (e2 : M 132 1 = nI n) (hG : ∀ c, c < 128 → M 133 c = M 2 c) (hA : MkA M n) (hs : s < 15) (hv : v < 16) : f_X12_onOf a b (nI s - 7) (nI v) M = some (onV M a b s v n) := by
  have inner : ∀ i, i < n → ∀ acc, it (f_X12_onOf_b18 a b (nI s - 7) (nI v) M) FU (acc, nI i, 0) = some (acc + onI M a b s v n i, nI i) := by
    intro i hi acc
    obtain ⟨⟨f1, f2, f3⟩, ⟨ki, k1, k2⟩, ⟨ci, k3, k4, k4', k5⟩, vi, k6, k7⟩ := hA i hi
    have i1 := inb_t (k := i) (n := 40) (by omega) (by decide)
    have i2 := nI_cl (show i < 2 ^ 31 by omega)
    have i3 := inb_t (k := ci) (n := 128) k3 (by decide)
    have i4 := nI_cl (show ci < 2 ^ 31 by omega)
    have hw := m_wt (M := M) (show i < 40 by omega) k1 (f1.trans k2)
    have hw2 : WT (M 6 i).toNatClampNeg = WT ki := by rw [k2, nI_cl (by omega)]
    have m133 := hG ci k3
    have east1 : f_X12_east (nI ci) 1 = some (nI (ci / 16 * 16 + (ci % 16 + 1) % 16)) := m_east (u := 1) k3 (by decide)
    refine it_N (b := f_X12_onOf_b18 a b (nI s - 7) (nI v) M) (fun j => (acc + sI (fun j => if lo M i = a then onT M b s v i j else 0) j, nI i, nI j)) n (by omega) ?_ ?_ ?_
    · intro j hj
      obtain ⟨⟨h1, h2, h3⟩, ⟨kj, g1, g2⟩, ⟨cj, g3, g4, g4', g5⟩, vj, g6, g7⟩ := hA j hj
      have a1 : ¬ nI n ≤ nI j := nI_ge hj (by omega)
      have p1 := inb_t (k := j) (n := 40) (by omega) (by decide)
      have p2 := nI_cl (show j < 2 ^ 31 by omega)
      have p3 := inb_t (k := cj) (n := 128) g3 (by decide)
      have p4 := nI_cl (show cj < 2 ^ 31 by omega)
      have m134 := hG cj g3
      have hx := m_next (ci := ci) (cj := cj) (v := v) k3 g3 hs hv
      have hld := m_goes (M := M) (show i < 40 by omega) (show j < 40 by omega) ⟨vi, k6, f3.trans k7⟩ ⟨vj, g6, h3.trans g7⟩
      rw [f1, h1, f3, h3] at hld
      have et : onT M b s v i j = if M 6 i = M 6 j ∧ M 2 cj = b ∧ nxB ci cj s v = true then (if gsv (M 6 i) (M 6 j) (M 8 i) (M 8 j) = true then WT ki else -WT ki) else 0 := by
        unfold onT
        rw [k4', g4', hw2, g5]
      show f_X12_onOf_b18 a b (nI s - 7) (nI v) M (acc + sI (fun j => if lo M i = a then onT M b s v i j else 0) j, nI i, nI j) = some (.inl (acc + sI (fun j => if lo M i = a then onT M b s v i j else 0) (j + 1), nI i, nI (j + 1)))
      rw [sI_s, et, k5, ← Int32.add_assoc]
      generalize sI (fun j => if M 2 ci = a then onT M b s v i j else 0) j = S
      simp only [f_X12_onOf_b18]
      rw [e2, if_neg a1, if_pos i1, i2, p2, f2, h2, k4, g4, i4, p4, if_pos i3, if_pos p1, if_pos p3, m133, m134, f1, h1, east1, Option.bind_some, hx, Option.bind_some, hld, hw, nI_1]
      generalize nxB ci cj s v = X
      generalize gsv (M 6 i) (M 6 j) (M 8 i) (M 8 j) = G
      generalize WT ki = W
      by_cases q0 : M 2 ci = a
      · by_cases q1 : M 6 i = M 6 j
        · by_cases q2 : M 2 cj = b
          · cases X
            · simp [q0, q1, q2, p1]
            · cases G <;> simp [q0, q1, q2, p1]
          · simp [q0, q1, q2, p1]
        · simp [q0, q1, p1]
      · simp [q0]
    · have a1 : nI n ≤ nI n := Int32.le_refl _
      simp only [f_X12_onOf_b18, e2, a1, if_true]
      rw [sI_if]
      rfl
    · show (acc, nI i, 0) = (acc + 0, nI i, nI 0)
      rw [Int32.add_zero]
      rfl
  have hit := it_N (b := f_X12_onOf_b6 a b (nI s - 7) (nI v) M) (r := sI (onI M a b s v n) n) (fun i => (sI (onI M a b s v n) i, nI i)) n (by omega) (by
    intro i hi
    have a1 : ¬ nI n ≤ nI i := nI_ge hi (by omega)
    simp only [f_X12_onOf_b6, e2, a1, if_false, inner i hi, Option.bind_some, nI_1, sI_s]) (by
    have a1 : nI n ≤ nI n := Int32.le_refl _
    simp only [f_X12_onOf_b6, e2, a1, if_true]) (s0 := (0, 0)) rfl
  simp only [f_X12_onOf, hit, Option.bind_some, onV]
