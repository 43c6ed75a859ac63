def ndb (M : Mem) (a1 : Int32) (i : Nat) : Bool := decide (M 6 i = 4) && (decide (a1 = -1) || decide (lo M i = a1))
def hasB (M : Mem) (a1 : Int32) : Nat → Bool
  | 0 => false
  | i + 1 => hasB M a1 i || ndb M a1 i
theorem c_seek1 {M : Mem} {n : Nat} (hn : n ≤ 40) (e1 : M 5 4 = nI n) (hc : ∀ i, i < n → M 134 i = M 6 i ∧ M 135 i = M 7 i ∧ M 136 i = M 8 i ∧ ∃ c, c < 128 ∧ M 7 i = nI c ∧ lo M i = M 2 c ∧ ¬ M 2 c = -1 ∧ ∃ v, v < 16 ∧ M 8 i = nI v) {a1 a2 : Int32} {u : Nat} (hu : u < 16) : ∃ M1, it (f_X7_seek_b14 a1 a2 (nI u)) FU (false, 0, fil M 130 128 0) = some (hasB M a1 n, M1) ∧ (∀ c, c < 128 → M1 130 c = nI (agN M a1 a2 u c n)) ∧ ∀ p k, p ≠ 130 → M1 p k = M p k := by
  obtain ⟨z, hz, z1, z2, z3⟩ := it_inv (b := f_X7_seek_b14 a1 a2 (nI u)) (fun i s => s.1 = hasB M a1 i ∧ s.2.1 = nI i ∧ (∀ c, c < 128 → s.2.2 130 c = nI (agN M a1 a2 u c i)) ∧ ∀ p k, p ≠ 130 → s.2.2 p k = M p k) n (Q := fun z => z.1 = hasB M a1 n ∧ (∀ c, c < 128 → z.2 130 c = nI (agN M a1 a2 u c n)) ∧ ∀ p k, p ≠ 130 → z.2 p k = M p k) (by omega) (by
    rintro i hi ⟨x, y, Mi⟩ ⟨h1, h2, h3, h4⟩
    simp only at h1 h2 h3 h4
    subst h1 h2
    have a1' : ¬ nI n ≤ nI i := nI_ge hi (by omega)
    have p1 := inb_t (k := i) (n := 40) (by omega) (by decide)
    have p2 := nI_cl (show i < 2 ^ 31 by omega)
    obtain ⟨-, -, -, d, k5, k6, k7, k8, -⟩ := hc i hi
    have q1 := inb_t (k := d) (n := 128) k5 (by decide)
    have q2 := nI_cl (show d < 2 ^ 31 by omega)
    have f1 : Mi 5 4 = nI n := (h4 5 4 (by decide)).trans e1
    have f2 : Mi 6 i = M 6 i := h4 6 i (by decide)
    have f3 : Mi 7 i = nI d := (h4 7 i (by decide)).trans k6
    have f4 : Mi 2 d = M 2 d := h4 2 d (by decide)
    have f5 : Mi 8 i = M 8 i := h4 8 i (by decide)
    have hl : f_X5_landOf (nI i) Mi = some (M 2 d) := by
      simp only [f_X5_landOf, p1, if_true, p2, f3, f_X2_ownerOf, q1, q2, f4, Option.bind_some]
    have eh : hasB M a1 (i + 1) = (hasB M a1 i || ndb M a1 i) := rfl
    have ea : ∀ c, agN M a1 a2 u c (i + 1) = agN M a1 a2 u c i + (if agb M a1 a2 u c i = true then 1 else 0) := fun c => rfl
    have hask : ndb M a1 i = true → ∃ M1, f_X7_seek_j56_0 a2 (nI u) (nI i) Mi = some (true, M1) ∧ (∀ c, c < 128 → M1 130 c = nI (agN M a1 a2 u c (i + 1))) ∧ ∀ p k, p ≠ 130 → M1 p k = M p k := by
      intro hnd
      have fin : ∀ w, w < 16 → d / 16 * 16 + (d % 16 + w) % 16 = tcl M a2 u i → (if M 2 d = a2 then some (nI u) else some 0) = some (nI w) → ∃ M1, f_X7_seek_j56_0 a2 (nI u) (nI i) Mi = some (true, M1) ∧ (∀ c, c < 128 → M1 130 c = nI (agN M a1 a2 u c (i + 1))) ∧ ∀ p k, p ≠ 130 → M1 p k = M p k := by
        intro w hw et ew
        obtain ⟨M1, g1, g2, g3⟩ := c_ask (M := Mi) (show i < 40 by omega) k5 f3 hw
        refine ⟨M1, by simp only [f_X7_seek_j56_0, hl, Option.bind_some, ew, g1], fun c hcc => ?_, fun p k hp => (g3 p k hp).trans (h4 p k hp)⟩
        rw [g2 c hcc, et, f5, h3 c hcc, ea c]
        have eb : agb M a1 a2 u c i = decide (nI (stp (tcl M a2 u i) c) = M 8 i) := by
          show (ndb M a1 i && _) = _
          rw [hnd, Bool.true_and]
        rw [eb]
        by_cases q : nI (stp (tcl M a2 u i) c) = M 8 i
        · simp [q, nI_1]
        · simp [q]
      by_cases q : M 2 d = a2
      · refine fin u hu ?_ (by rw [if_pos q])
        unfold tcl
        rw [k7, if_pos q, k6, q2]
      · refine fin 0 (by decide) ?_ (by rw [if_neg q]; rfl)
        unfold tcl
        rw [k7, if_neg q, k6, q2]
        omega
    by_cases hnd : ndb M a1 i = true
    · obtain ⟨M1, g1, g2, g3⟩ := hask hnd
      refine ⟨(true, nI (i + 1), M1), ?_, by rw [eh, hnd, Bool.or_true], rfl, g2, g3⟩
      unfold ndb at hnd
      rw [k7] at hnd
      simp only [Bool.and_eq_true, Bool.or_eq_true, decide_eq_true_eq] at hnd
      by_cases x2 : a1 = -1
      · simp [f_X7_seek_b14, f_X5_size, f1, a1', f_X5_isNeedle, p1, p2, f2, hnd.1, x2, g1, nI_1]
      · simp [f_X7_seek_b14, f_X5_size, f1, a1', f_X5_isNeedle, p1, p2, f2, hnd.1, x2, hl, hnd.2.resolve_left x2, g1, nI_1]
    · have hnd' : ndb M a1 i = false := by simpa using hnd
      refine ⟨(hasB M a1 i, nI (i + 1), Mi), ?_, by rw [eh, hnd', Bool.or_false], rfl, fun c hcc => ?_, h4⟩
      · unfold ndb at hnd
        rw [k7] at hnd
        by_cases x1 : M 6 i = 4
        · by_cases x2 : a1 = -1
          · exact absurd (by simp [x1, x2]) hnd
          · by_cases x3 : M 2 d = a1
            · exact absurd (by simp [x1, x3]) hnd
            · simp [f_X7_seek_b14, f_X5_size, f1, a1', f_X5_isNeedle, p1, p2, f2, x1, x2, hl, x3, nI_1]
        · simp [f_X7_seek_b14, f_X5_size, f1, a1', f_X5_isNeedle, p1, p2, f2, x1, nI_1]
      · show Mi 130 c = _
        have eb : agb M a1 a2 u c i = false := by
          show (ndb M a1 i && _) = _
          rw [hnd', Bool.false_and]
        rw [ea c, eb, h3 c hcc]
        simp) (by
    rintro ⟨x, y, Mi⟩ ⟨h1, h2, h3, h4⟩
    simp only at h1 h2 h3 h4
    subst h1 h2
    have f1 : Mi 5 4 = nI n := (h4 5 4 (by decide)).trans e1
    have a1' : nI n ≤ nI n := Int32.le_refl _
    exact ⟨(hasB M a1 n, Mi), by simp only [f_X7_seek_b14, f_X5_size, Option.bind_some, f1, a1', if_true], rfl, h3, h4⟩) (s0 := (false, 0, fil M 130 128 0)) ⟨rfl, rfl, fun c hcc => by show fil M 130 128 0 130 c = _; rw [fil_at, if_pos ⟨rfl, hcc⟩]; rfl, fun p k hp => by show fil M 130 128 0 p k = _; rw [fil_at, if_neg (fun w => hp w.1)]⟩
  refine ⟨z.2, ?_, z2, z3⟩
  rw [hz, ← z1]
