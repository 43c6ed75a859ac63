def av0 : AVt := (0, (0, 0), 0, 0, (false, false), (0, 0, 0), (ffC, ttC))
def asN (pg : Nat → Nat) : Nat → AVt
  | 0 => av0
  | i + 1 => aS (asN pg i) (pg i)
theorem aE_st (t way num m neg : Nat) (hO hA : Bool) (l g v : Nat) (O A : CdT) (c : Nat) : (aE t way num m neg hO hA l g v O A c).1 = t := by
  unfold aE
  split <;> rfl
theorem aS_st (s : AVt) (c : Nat) : (aS s c).1 = nxN s.1 c := by
  obtain ⟨st, ⟨way, num⟩, m, neg, ⟨hO, hA⟩, ⟨l, g, v⟩, O, A⟩ := s
  unfold aS
  simp only
  by_cases h0 : st = 0
  · rw [if_pos h0]
  rw [if_neg h0]
  by_cases h2 : st = 2
  · rw [if_pos h2]
  rw [if_neg h2]
  by_cases h3 : st = 3
  · rw [if_pos h3]
    split <;> rfl
  rw [if_neg h3]
  by_cases h5 : st = 5
  · rw [if_pos h5]
    split <;> rfl
  rw [if_neg h5]
  by_cases h6 : st = 6
  · rw [if_pos h6]
  rw [if_neg h6]
  by_cases h7 : st = 7
  · rw [if_pos h7]
  rw [if_neg h7]
  by_cases h8 : st = 8
  · rw [if_pos h8]
    split
    · rfl
    · exact aE_st _ _ _ _ _ _ _ _ _ _ _ _ _
  rw [if_neg h8]
  by_cases h9 : st = 9
  · rw [if_pos h9]
    exact aE_st _ _ _ _ _ _ _ _ _ _ _ _ _
  rw [if_neg h9]
theorem as_st (pg : Nat → Nat) : ∀ i, (asN pg i).1 = stsN pg i
  | 0 => rfl
  | i + 1 => by
    show (aS (asN pg i) (pg i)).1 = nxN (stsN pg i) (pg i)
    rw [aS_st, as_st pg i]
theorem rA_132 {k : Nat} (h : rA 132 k = true) : k < 14 ∨ 24 < k := by
  simp [rA, rG, rM, rP, rL, rB, rS, rF] at h
  omega
theorem Inv.mL {M M1 : Mem} (h : Inv M) (s : KmL M M1) : Inv M1 := h.sm fun p k hp => s p k (by rintro rfl; cases hp) (by rintro rfl; cases hp) (by rintro rfl; cases hp) (by
  rintro ⟨rfl, h1, h2⟩
  have := rA_132 hp
  omega)
theorem sts_pre {pg : Nat → Nat} {N : Nat} (h : ∀ j, j < N → ¬ stsN pg (j + 1) = 10) {i : Nat} (hi : i ≤ N) : ¬ stsN pg i = 10 := by
  cases i with
  | zero => show ¬ 0 = 10; decide
  | succ j => exact h j (by omega)
theorem m_faultOf {M : Mem} {pg : Nat → Nat} {n N : Nat} (h : PgM pg n M) (hN : N ≤ n) (h1 : ∀ i, i < N → ¬ stsN pg (i + 1) = 10) (h2 : N < n → stsN pg (N + 1) = 10) : ∃ M1, f_X12_faultOf M = some (nI N, M1) ∧ KmL M M1 ∧ (N = n → RelM (asN pg n) n M1) := by
  obtain ⟨hn, e1, hc⟩ := h
  have hlt := sts_lt fun i hi => (hc i hi).1
  have s10 : ∀ i, i ≤ N → (asN pg i).1 < 10 := by
    intro i hi
    rw [as_st]
    have := hlt i (by omega)
    have := sts_pre h1 hi
    omega
  have rd : ∀ Mi, KmL M Mi → Mi 132 7 = nI n ∧ ∀ i, i < n → Mi 138 i = nI (pg i) := fun Mi hk => ⟨(hk 132 7 (by decide) (by decide) (by decide) (by omega)).trans e1, fun i hi => (hk 138 i (by decide) (by decide) (by decide) (by omega)).trans (hc i hi).2⟩
  obtain ⟨z, hz, M1, rfl, z1, z2⟩ := it_inv (b := f_X12_faultOf_b17) (fun i S => ∃ Mi, S = (nI i, Mi) ∧ RelM (asN pg i) i Mi ∧ KmL M Mi) N (Q := fun Z => ∃ Mi, Z = (nI N, Mi) ∧ KmL M Mi ∧ (N = n → RelM (asN pg n) n Mi)) (by omega) (by
    rintro i hi S ⟨Mi, rfl, r1, r2⟩
    obtain ⟨d1, d2⟩ := rd Mi r2
    have a1 : ¬ nI n ≤ nI i := nI_ge (by omega) (by omega)
    have i1 := inb_t (k := i) (n := 50) (by omega) (by decide)
    have i2 := nI_cl (show i < 2 ^ 31 by omega)
    have hne : nxN (asN pg i).1 (pg i) ≠ 10 := by
      rw [as_st]
      exact h1 i hi
    obtain ⟨M', g1, g2, g3⟩ := (m_go r1 (s10 i (by omega)) (hc i (by omega)).1 (by omega)).1 hne
    refine ⟨(nI (i + 1), M'), ?_, M', rfl, g2, r2.tr g3⟩
    simp only [f_X12_faultOf_b17]
    rw [d1, if_neg a1, if_pos i1, i2, d2 i (by omega), g1, Option.bind_some]
    simp only
    rw [if_pos True.intro, nI_1]) (by
    rintro S ⟨Mi, rfl, r1, r2⟩
    obtain ⟨d1, d2⟩ := rd Mi r2
    by_cases q : N = n
    · subst q
      have a1 : nI N ≤ nI N := Int32.le_refl _
      exact ⟨(nI N, Mi), by simp only [f_X12_faultOf_b17, d1, a1, if_true], Mi, rfl, r2, fun _ => r1⟩
    · have a1 : ¬ nI n ≤ nI N := nI_ge (by omega) (by omega)
      have i1 := inb_t (k := N) (n := 50) (by omega) (by decide)
      have i2 := nI_cl (show N < 2 ^ 31 by omega)
      have hne : nxN (asN pg N).1 (pg N) = 10 := by
        rw [as_st]
        exact h2 (by omega)
      obtain ⟨M', g1, g3⟩ := (m_go r1 (s10 N (Nat.le_refl _)) (hc N (by omega)).1 (by omega)).2 hne
      refine ⟨(nI N, M'), ?_, M', rfl, r2.tr g3, fun y => absurd y q⟩
      simp only [f_X12_faultOf_b17]
      rw [d1, if_neg a1, if_pos i1, i2, d2 N (by omega), g1, Option.bind_some]
      simp only
      rw [if_neg Bool.false_ne_true]) (s0 := (0, up (up (up M 132 14 0) 132 22 0) 132 24 0)) ⟨up (up (up M 132 14 0) 132 22 0) 132 24 0, rfl, ⟨⟨by simp [up_at]; rfl, fun y => absurd y (by decide), fun y => absurd y (by decide), fun y => absurd y (by decide), fun y => absurd y (by decide), fun y => absurd y (by decide), fun y => absurd y (by decide), fun y => absurd y (by decide)⟩, fun _ => rfl, fun _ => rfl, 0, ⟨by simp [up_at]; rfl, by simp [up_at]; rfl, True.intro, fun _ _ _ => rfl⟩, Nat.le_refl 0⟩, ((KmL.rf.u1 (j := 14) (by decide) (by decide)).u1 (j := 22) (by decide) (by decide)).u1 (j := 24) (by decide) (by decide)⟩
  refine ⟨M1, ?_, z1, z2⟩
  unfold f_X12_faultOf
  rw [hz, Option.bind_some]
theorem st_fault : ST_fault Inv := by
  intro M hI
  obtain ⟨n, hC, hM⟩ := hI.2.2.1.pg
  obtain ⟨N, hN, k1, k2, k3⟩ := c_fault hC
  obtain ⟨M1, g1, g2, -⟩ := m_faultOf hM hN k2 k3
  refine ob_mk (z := nI N) ?_ (ob_mk (z := (nI N, M1)) ?_ ⟨rfl, hI.mL g2⟩)
  · unfold f_X11_fault
    rw [k1, Option.bind_some]
  · unfold f_X12_fault
    rw [g1, Option.bind_some]
