/-! ===== the pure side ===== -/
theorem it_for {S R : Type} {b : S → Option (S ⊕ R)} (g : Nat → S) (N : Nat) {r : R} (hs : ∀ i, i < N → b (g i) = some (.inl (g (i + 1)))) (he : b (g N) = some (.inr r)) : ∀ (k i n : Nat), k + i = N → k < n → it b n (g i) = some r := by
  intro k
  induction k with
  | zero =>
    intro i n h1 h2
    obtain ⟨n', rfl⟩ : ∃ n', n = n' + 1 := ⟨n - 1, by omega⟩
    have hi : i = N := by omega
    subst hi
    simp [it, he]
  | succ k ih =>
    intro i n h1 h2
    obtain ⟨n', rfl⟩ : ∃ n', n = n' + 1 := ⟨n - 1, by omega⟩
    have h3 := ih (i + 1) n' (by omega) (by omega)
    simp [it, hs i (by omega), h3]
theorem it_N {S R : Type} {b : S → Option (S ⊕ R)} (g : Nat → S) (N : Nat) {r : R} (hN : N < 2000) (hs : ∀ i, i < N → b (g i) = some (.inl (g (i + 1)))) (he : b (g N) = some (.inr r)) {s0 : S} (h0 : s0 = g 0) : it b FU s0 = some r := by
  rw [h0]
  exact it_for g N hs he N 0 FU rfl (by unfold FU; exact hN)
theorem ite_ss {α : Type} {c : Prop} [Decidable c] (a b : α) : (if c then some a else some b) = some (if c then a else b) := by split <;> rfl
theorem ite_tf {c : Prop} [Decidable c] : (if c then true else false) = decide c := by by_cases h : c <;> simp [h]
theorem ite_ft {c : Prop} [Decidable c] : (if c then false else true) = !decide c := by by_cases h : c <;> simp [h]
theorem bind_id {α : Type} (o : Option α) : (o.bind fun x => some x) = o := by cases o <;> rfl
theorem up_at (M : Mem) (p k : Nat) (v : Int32) (q j : Nat) : up M p k v q j = if q = p ∧ j = k then v else M q j := by
  unfold up
  by_cases h : q = p
  · by_cases h2 : j = k <;> simp [h, h2, upd]
  · simp [h]
theorem up_row (M : Mem) {p q : Nat} (k : Nat) (v : Int32) (h : q ≠ p) : up M p k v q = M q := up_ne M k v h
theorem fil_at (M : Mem) (p n : Nat) (v : Int32) (q j : Nat) : fil M p n v q j = if q = p ∧ j < n then v else M q j := by
  unfold fil
  by_cases h : q = p <;> simp [h]
/-! numbers -/
theorem i_lt (a b : Int32) : a < b ↔ a.toInt < b.toInt := Int32.lt_iff_toInt_lt
theorem i_le (a b : Int32) : a ≤ b ↔ a.toInt ≤ b.toInt := Int32.le_iff_toInt_le
theorem i_eq (a b : Int32) : a = b ↔ a.toInt = b.toInt := ⟨fun h => by rw [h], fun h => Int32.toInt_inj.mp h⟩
theorem w_of {a : Int32} {n : Nat} (hn : n < 2 ^ 31) (h1 : ¬ a < 0) (h2 : a < nI n) : ∃ k, k < n ∧ a = nI k := by
  obtain ⟨j, hj, rfl⟩ := nI_of h1
  exact ⟨j, (nI_ltI hj hn).mp h2, rfl⟩
theorem nI_n0 {k : Nat} (h : k < 2 ^ 31) : ¬ nI k < 0 := nI_pos h
theorem nI_cl {k : Nat} (h : k < 2 ^ 31) : (nI k).toNatClampNeg = k := nI_clamp h
theorem inb_nI {k n : Nat} (h : k < 2 ^ 31) : inb (nI k) n = decide (k < n) := by
  unfold inb
  rw [nI_clamp h]
  have : (0 : Int32) ≤ nI k := nI_pos' h
  simp [this]
theorem inb_t {k n : Nat} (h : k < n) (hn : n < 2 ^ 31) : inb (nI k) n = true := by
  rw [inb_nI (by omega)]
  simp [h]
theorem nI_inj {a b : Nat} (ha : a < 2 ^ 31) (hb : b < 2 ^ 31) (h : nI a = nI b) : a = b := (nI_eq ha hb).mp h
theorem nI_m1 {k : Nat} (h : k < 2 ^ 31) : ¬ nI k = -1 := by
  rw [i_eq, nI_toInt h]
  have : (-1 : Int32).toInt = -1 := rfl
  omega
/-- a number in 0 .. n - 1 -/
def isN (a : Int32) (n : Nat) : Bool := decide (0 ≤ a) && decide (a < nI n)
theorem isN_of {a : Int32} {n : Nat} (hn : n < 2 ^ 31) (h : isN a n = true) : ∃ k, k < n ∧ a = nI k := by
  simp only [isN, Bool.and_eq_true, decide_eq_true_eq] at h
  refine w_of hn ?_ h.2
  intro q
  have := h.1
  rw [i_le] at this
  rw [i_lt] at q
  omega
theorem isN_nI {k n : Nat} (hk : k < n) (hn : n < 2 ^ 31) : isN (nI k) n = true := by
  have h1 : (0 : Int32) ≤ nI k := nI_pos' (by omega)
  have h2 : nI k < nI n := nI_lt hk hn
  simp [isN, h1, h2]
theorem s_within (a b : Int32) : f_X11_within a b = some (decide (0 ≤ a) && decide (a < b)) := by
  unfold f_X11_within
  by_cases h1 : a < 0
  · have h2 : ¬ (0 : Int32) ≤ a := by rw [i_le]; rw [i_lt] at h1; omega
    simp [h1, h2]
  · have h2 : (0 : Int32) ≤ a := by rw [i_le]; rw [i_lt] at h1; omega
    by_cases h3 : a < b
    · have h4 : ¬ b ≤ a := by rw [i_le]; rw [i_lt] at h3; omega
      simp [h1, h2, h3, h4]
    · have h4 : b ≤ a := by rw [i_le]; rw [i_lt] at h3; omega
      simp [h1, h2, h3, h4]
theorem s_withinN (a : Int32) (n : Nat) : f_X11_within a (nI n) = some (isN a n) := s_within a (nI n)
theorem lc_neg (x y : Int64) : lg_cmp x y < 0 ↔ x.toInt < y.toInt := by
  unfold lg_cmp
  by_cases h1 : x > y
  · have h2 : y.toInt < x.toInt := Int64.lt_iff_toInt_lt.mp h1
    simp only [h1, if_true]
    constructor
    · intro h; exact absurd h (by decide)
    · intro h; omega
  · by_cases h3 : x = y
    · subst h3
      simp only [h1, if_true, if_false]
      constructor
      · intro h; exact absurd h (by decide)
      · intro h; omega
    · simp only [h1, h3, if_false]
      have h4 : ¬ y.toInt < x.toInt := fun h => h1 (Int64.lt_iff_toInt_lt.mpr h)
      have h5 : x.toInt ≠ y.toInt := fun h => h3 (Int64.toInt_inj.mp h)
      constructor
      · intro _; omega
      · intro _; decide
theorem lc_pos (x y : Int64) : 0 < lg_cmp x y ↔ y.toInt < x.toInt := by
  unfold lg_cmp
  by_cases h1 : x > y
  · have h2 : y.toInt < x.toInt := Int64.lt_iff_toInt_lt.mp h1
    simp only [h1, if_true]
    exact ⟨fun _ => h2, fun _ => by decide⟩
  · have h4 : ¬ y.toInt < x.toInt := fun h => h1 (Int64.lt_iff_toInt_lt.mpr h)
    by_cases h3 : x = y
    · subst h3
      simp only [h1, if_true, if_false]
      exact ⟨fun h => absurd h (by decide), fun h => by omega⟩
    · simp only [h1, h3, if_false]
      exact ⟨fun h => absurd h (by decide), fun h => absurd h h4⟩
theorem s_in (v a b : Int64) : f_X12_in v a b = some (decide (a.toInt ≤ v.toInt) && decide (v.toInt ≤ b.toInt)) := by
  unfold f_X12_in
  by_cases h1 : v.toInt < a.toInt
  · have : ¬ a.toInt ≤ v.toInt := by omega
    simp [lc_neg, h1, this]
  · have h2 : a.toInt ≤ v.toInt := by omega
    by_cases h3 : b.toInt < v.toInt
    · have : ¬ v.toInt ≤ b.toInt := by omega
      simp [lc_neg, lc_pos, h1, h2, h3, this]
    · have : v.toInt ≤ b.toInt := by omega
      simp [lc_neg, lc_pos, h1, h2, h3, this]
theorem w64 (a : Int32) : a.toInt64.toInt = a.toInt := Int32.toInt_toInt64 a
/-- in(v, 0, n - 1) of an int is the class's within -/
theorem s_in0 (a : Int32) (n : Nat) (hn : n < 2 ^ 31) {b : Int64} (hb : b.toInt = (n : Int) - 1) : f_X12_in (Int32.toInt64 a) 0 b = some (isN a n) := by
  rw [s_in, w64, hb]
  congr 1
  unfold isN
  congr 1
  · apply decide_eq_decide.mpr; rw [i_le]; rfl
  · apply decide_eq_decide.mpr; rw [i_lt, nI_toInt hn]; omega
