/-! the page: which letter may stand behind which -/
def dgB (c : Nat) : Bool := decide (48 ≤ c) && decide (c ≤ 57)
def nxN (s c : Nat) : Nat :=
  if s = 0 then (if c = 74 ∨ c = 66 ∨ c = 83 ∨ c = 67 then 1 else 10)
  else if s = 1 then (if c = 58 then 2 else 10)
  else if s = 2 then (if dgB c = true then 3 else 10)
  else if s = 3 then (if dgB c = true then 4 else if c = 63 then 5 else 10)
  else if s = 4 then (if c = 63 then 5 else 10)
  else if s = 5 then (if c = 33 then 5 else if c = 100 ∨ c = 101 ∨ c = 107 then 6 else 10)
  else if s = 6 then (if c = 60 ∨ c = 61 ∨ c = 62 then 7 else 10)
  else if s = 7 then (if dgB c = true then 8 else 10)
  else if s = 8 then (if dgB c = true then 9 else if c = 38 ∨ c = 124 then 5 else 10)
  else if s = 9 then (if c = 38 ∨ c = 124 then 5 else 10)
  else 10
def stI (s : Nat) : Int32 := if s = 10 then -1 else nI s
theorem c_nx6 : ∀ s, s < 11 → ∀ c, c < 127 → f_X6_next (stI s) (nI c) = some (stI (nxN s c)) := by decide +kernel
theorem nx_lt : ∀ s, s < 11 → ∀ c, c < 127 → nxN s c < 11 := by decide +kernel
theorem stI_10 {s : Nat} (h : s < 11) : stI s = -1 ↔ s = 10 := by
  unfold stI
  by_cases q : s = 10
  · rw [if_pos q]; exact ⟨fun _ => q, fun _ => rfl⟩
  · rw [if_neg q]; exact ⟨fun w => absurd w (nI_m1 (by omega)), fun w => absurd w q⟩
def stsN (pg : Nat → Nat) : Nat → Nat
  | 0 => 0
  | i + 1 => nxN (stsN pg i) (pg i)
theorem sts_lt {pg : Nat → Nat} {n : Nat} (h : ∀ i, i < n → pg i < 127) : ∀ i, i ≤ n → stsN pg i < 11
  | 0, _ => by show 0 < 11; decide
  | i + 1, hi => nx_lt _ (sts_lt h i (by omega)) _ (h i (by omega))
theorem nx_10 (c : Nat) : nxN 10 c = 10 := rfl
theorem sts_10 {pg : Nat → Nat} {i : Nat} (h : stsN pg i = 10) : ∀ j, stsN pg (i + j) = 10
  | 0 => h
  | j + 1 => by
    show nxN (stsN pg (i + j)) (pg (i + j)) = 10
    rw [sts_10 h j, nx_10]
def PgC (pg : Nat → Nat) (n : Nat) (M : Mem) : Prop := n ≤ 50 ∧ M 10 1 = nI n ∧ ∀ i, i < n → pg i < 127 ∧ M 11 i = nI (pg i)
def PgM (pg : Nat → Nat) (n : Nat) (M : Mem) : Prop := n ≤ 50 ∧ M 132 7 = nI n ∧ ∀ i, i < n → pg i < 127 ∧ M 138 i = nI (pg i)
theorem IvP.pg {M : Mem} (h : IvP M) : ∃ n, PgC (fun i => (M 11 i).toNatClampNeg) n M ∧ PgM (fun i => (M 11 i).toNatClampNeg) n M := by
  obtain ⟨n, hn, e1, e2, hc⟩ := h
  have key : ∀ i, i < n → (M 11 i).toNatClampNeg < 127 ∧ M 11 i = nI (M 11 i).toNatClampNeg := by
    intro i hi
    obtain ⟨-, c, -, h2, h3⟩ := hc i hi
    rw [h3, nI_cl (by omega)]
    exact ⟨h2, rfl⟩
  exact ⟨n, ⟨hn, e1, key⟩, ⟨hn, e2, fun i hi => ⟨(key i hi).1, (hc i hi).1.trans (key i hi).2⟩⟩⟩
theorem c_law1 {M : Mem} {pg : Nat → Nat} {n : Nat} (h : PgC pg n M) : f_X6_isLaw M = some (decide (stsN pg n = 3 ∨ stsN pg n = 4 ∨ stsN pg n = 8 ∨ stsN pg n = 9)) := by
  obtain ⟨hn, e1, hc⟩ := h
  have hlt := sts_lt fun i hi => (hc i hi).1
  have hit := it_N (b := f_X6_isLaw_b4 M) (r := stI (stsN pg n)) (fun i => (stI (stsN pg i), nI i)) n (by omega) (by
    intro i hi
    have a1 : ¬ nI n ≤ nI i := nI_ge hi (by omega)
    have i1 := inb_t (k := i) (n := 50) (by omega) (by decide)
    have i2 := nI_cl (show i < 2 ^ 31 by omega)
    show f_X6_isLaw_b4 M (stI (stsN pg i), nI i) = some (.inl (stI (nxN (stsN pg i) (pg i)), nI (i + 1)))
    simp only [f_X6_isLaw_b4]
    rw [e1, if_neg a1, if_pos i1, i2, (hc i hi).2, c_nx6 _ (hlt i (by omega)) _ (hc i hi).1, Option.bind_some, nI_1]) (by
    have a1 : nI n ≤ nI n := Int32.le_refl _
    simp only [f_X6_isLaw_b4, e1, a1, if_true]) (s0 := (0, 0)) rfl
  unfold f_X6_isLaw
  rw [hit, Option.bind_some]
  have h11 := hlt n (Nat.le_refl _)
  revert h11
  generalize stsN pg n = s
  revert s
  decide +kernel
theorem c_fault {M : Mem} {pg : Nat → Nat} {n : Nat} (h : PgC pg n M) : ∃ N, N ≤ n ∧ f_X6_faultPlace M = some (nI N) ∧ (∀ i, i < N → ¬ stsN pg (i + 1) = 10) ∧ (N < n → stsN pg (N + 1) = 10) := by
  obtain ⟨hn, e1, hc⟩ := h
  have hlt := sts_lt fun i hi => (hc i hi).1
  have st : ∀ i, i < n → ¬ stsN pg i = 10 → f_X6_faultPlace_b4 M (nI (stsN pg i), nI i) = if stsN pg (i + 1) = 10 then some (.inr (.inr (nI i))) else some (.inl (nI (stsN pg (i + 1)), nI (i + 1))) := by
    intro i hi hne
    have a1 : ¬ nI n ≤ nI i := nI_ge hi (by omega)
    have i1 := inb_t (k := i) (n := 50) (by omega) (by decide)
    have i2 := nI_cl (show i < 2 ^ 31 by omega)
    have g1 := c_nx6 _ (hlt i (by omega)) _ (hc i hi).1
    have g2 : stI (stsN pg i) = nI (stsN pg i) := by unfold stI; rw [if_neg hne]
    rw [g2] at g1
    have g3 : nxN (stsN pg i) (pg i) = stsN pg (i + 1) := rfl
    rw [g3] at g1
    simp only [f_X6_faultPlace_b4]
    rw [e1, if_neg a1, if_pos i1, i2, (hc i hi).2, g1, Option.bind_some, nI_1]
    by_cases q : stsN pg (i + 1) = 10
    · rw [if_pos q, if_pos ((stI_10 (hlt (i + 1) (by omega))).mpr q)]
    · rw [if_neg q, if_neg (fun w => q ((stI_10 (hlt (i + 1) (by omega))).mp w))]
      have g4 : stI (stsN pg (i + 1)) = nI (stsN pg (i + 1)) := by unfold stI; rw [if_neg q]
      rw [g4]
  have pre : ∀ N, (∀ j, j < N → ¬ stsN pg (j + 1) = 10) → ∀ i, i ≤ N → ¬ stsN pg i = 10 := by
    intro N h i hi
    cases i with
    | zero => show ¬ 0 = 10; decide
    | succ j => exact h j (by omega)
  rcases fst_of (fun i => stsN pg (i + 1) = 10) n with ⟨N, hN, h1, h2⟩ | hall
  · have p := pre N h2
    have hit := it_N (b := f_X6_faultPlace_b4 M) (r := .inr (nI N)) (fun i => (nI (stsN pg i), nI i)) N (by omega) (fun i hi => by
      rw [st i (by omega) (p i (by omega)), if_neg (h2 i hi)]) (by
      rw [st N hN (p N (Nat.le_refl _)), if_pos h1]) (s0 := (0, 0)) rfl
    refine ⟨N, by omega, ?_, h2, fun _ => h1⟩
    unfold f_X6_faultPlace
    rw [hit]
    rfl
  · have p := pre n hall
    have hit := it_N (b := f_X6_faultPlace_b4 M) (r := .inl ()) (fun i => (nI (stsN pg i), nI i)) n (by omega) (fun i hi => by
      rw [st i hi (p i (by omega)), if_neg (hall i hi)]) (by
      have a1 : nI n ≤ nI n := Int32.le_refl _
      simp only [f_X6_faultPlace_b4, e1, a1, if_true]) (s0 := (0, 0)) rfl
    refine ⟨n, Nat.le_refl _, ?_, hall, fun w => absurd w (Nat.lt_irrefl _)⟩
    unfold f_X6_faultPlace
    rw [hit, Option.bind_some]
    simp only
    rw [e1]
