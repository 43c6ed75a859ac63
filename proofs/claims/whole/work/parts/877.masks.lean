/-! 32 bits -/
theorem vb_c1 : ∀ k, k < 32 → ((nI k &&& 31).toBitVec.smod 32).toNat = k := by decide +kernel
theorem vb_c2 : ∀ k, k < 32 → (((nI k).toUInt32 &&& Int32.toUInt32 31).toBitVec % 32).toNat = k := by decide +kernel
theorem vb_shl {n k : Nat} (hk : k < 32) (h : n * 2 ^ k < 2 ^ 32) : jshl (nI n) (nI k) = nI (n * 2 ^ k) := pk_shlN _ k (vb_c1 k hk) h
theorem vb_ushr {n k : Nat} (hn : n < 2 ^ 32) (hk : k < 32) : jushr (nI n) (nI k) = nI (n / 2 ^ k) := pk_ushrN hn _ k (vb_c2 k hk)
theorem vb_inj {a b : Int32} (h : a.toBitVec = b.toBitVec) : a = b := Int32.toBitVec_inj.mp h
theorem vb_tb (n : Nat) : (nI n).toBitVec = BitVec.ofNat 32 n := rfl
theorem vb_and {a b : Nat} (ha : a < 2 ^ 32) (hb : b < 2 ^ 32) : nI a &&& nI b = nI (a &&& b) := by
  apply vb_inj
  rw [Int32.toBitVec_and, vb_tb, vb_tb, vb_tb]
  apply BitVec.eq_of_toNat_eq
  rw [BitVec.toNat_and, BitVec.toNat_ofNat, BitVec.toNat_ofNat, BitVec.toNat_ofNat, Nat.mod_eq_of_lt ha, Nat.mod_eq_of_lt hb, Nat.mod_eq_of_lt (Nat.and_lt_two_pow _ hb)]
theorem vb_or {a b : Nat} (ha : a < 2 ^ 32) (hb : b < 2 ^ 32) : nI a ||| nI b = nI (a ||| b) := by
  apply vb_inj
  rw [Int32.toBitVec_or, vb_tb, vb_tb, vb_tb]
  apply BitVec.eq_of_toNat_eq
  rw [BitVec.toNat_or, BitVec.toNat_ofNat, BitVec.toNat_ofNat, BitVec.toNat_ofNat, Nat.mod_eq_of_lt ha, Nat.mod_eq_of_lt hb, Nat.mod_eq_of_lt (Nat.or_lt_two_pow ha hb)]
theorem nz_bit {x : Nat} (h : x ≠ 0) : ∃ i, x.testBit i = true := by
  apply Classical.byContradiction
  intro hn
  apply h
  apply Nat.eq_of_testBit_eq
  intro i
  rw [Nat.zero_testBit]
  by_cases q : x.testBit i = true
  · exact absurd ⟨i, q⟩ hn
  · simpa using q
/-! a row's mask -/
theorem smb {p : Nat → Prop} [DecidablePred p] : ∀ n, sm (fun c => if p c then 2 ^ c else 0) n < 2 ^ n ∧ ∀ c, (sm (fun c => if p c then 2 ^ c else 0) n).testBit c = decide (c < n ∧ p c)
  | 0 => ⟨Nat.one_pos, fun c => by simp [sm]⟩
  | n + 1 => by
    obtain ⟨h1, h2⟩ := smb (p := p) n
    have e : sm (fun c => if p c then 2 ^ c else 0) (n + 1) = sm (fun c => if p c then 2 ^ c else 0) n + (if p n then 2 ^ n else 0) := rfl
    rw [e]
    have hp : 2 ^ (n + 1) = 2 ^ n + 2 ^ n := by rw [Nat.pow_succ]; omega
    by_cases q : p n
    · rw [if_pos q]
      refine ⟨by omega, fun c => ?_⟩
      rw [Nat.add_comm]
      by_cases hc : c = n
      · subst hc
        rw [Nat.testBit_two_pow_add_eq, h2]
        simp [q]
      · by_cases hc2 : c < n
        · rw [Nat.testBit_two_pow_add_gt hc2, h2]
          have : c < n + 1 := by omega
          simp [hc2, this]
        · have : ¬ c < n + 1 := by omega
          rw [Nat.testBit_lt_two_pow (Nat.lt_of_lt_of_le (show 2 ^ n + _ < 2 ^ (n + 1) by omega) (Nat.pow_le_pow_right (by decide) (show n + 1 ≤ c by omega)))]
          simp [this]
    · rw [if_neg q]
      refine ⟨by omega, fun c => ?_⟩
      rw [Nat.add_zero, h2]
      by_cases hc : c = n
      · subst hc
        simp [q]
      · have : c < n ↔ c < n + 1 := by omega
        simp [this]
theorem mk_lt (own : Nat → Int32) (l r : Nat) : mkN own l r < 65536 := (smb (p := fun c => own (16 * r + c) = nI l) 16).1
theorem mk_bit (own : Nat → Int32) (l r c : Nat) : (mkN own l r).testBit c = decide (c < 16 ∧ own (16 * r + c) = nI l) := (smb (p := fun c => own (16 * r + c) = nI l) 16).2 c
theorem bit16 {a c : Nat} (ha : a < 65536) (h : a.testBit c = true) : c < 16 := by
  apply Classical.byContradiction
  intro hn
  rw [Nat.testBit_lt_two_pow (Nat.lt_of_lt_of_le ha (Nat.pow_le_pow_right (n := 2) (i := 16) (by decide) (by omega)))] at h
  cases h
/-- a mask told twice -/
def dbl (b : Nat) : Nat := b * 2 ^ 16 ||| b
theorem dbl_lt {b : Nat} (hb : b < 65536) : dbl b < 2 ^ 32 := Nat.or_lt_two_pow (by omega) (by omega)
theorem dbl_bit {b : Nat} (hb : b < 65536) {k : Nat} (hk : k < 32) : (dbl b).testBit k = b.testBit (k % 16) := by
  unfold dbl
  rw [Nat.testBit_or, Nat.testBit_mul_two_pow]
  by_cases h : 16 ≤ k
  · have h2 : b.testBit k = false := Nat.testBit_lt_two_pow (Nat.lt_of_lt_of_le hb (Nat.pow_le_pow_right (n := 2) (i := 16) (by decide) (by omega)))
    have h3 : k % 16 = k - 16 := by omega
    simp [h, h2, h3]
  · have h3 : k % 16 = k := by omega
    simp [h, h3]
/-- columns apart, round the ring -/
def cl16 (p q : Nat) : Nat := let c := (if p < q then q - p else p - q); if 8 < c then 16 - c else c
theorem cl_x : ∀ x, x < 8 → ∀ c, c < 16 → ∀ d, d < 16 → (cl16 c d = x ↔ d = (x + c) % 16 ∨ d = (16 - x + c) % 16) := by decide +kernel
theorem cl_8 : ∀ c, c < 16 → ∀ d, d < 16 → cl16 c d ≤ 8 := by decide +kernel
def hitx (a b x : Nat) : Nat := a &&& (dbl b / 2 ^ x ||| dbl b / 2 ^ (16 - x))
theorem hit_iff {a b x : Nat} (ha : a < 65536) (hb : b < 65536) (hx : x < 8) : hitx a b x ≠ 0 ↔ ∃ c d, c < 16 ∧ d < 16 ∧ a.testBit c = true ∧ b.testBit d = true ∧ cl16 c d = x := by
  have bits : ∀ c, c < 16 → (hitx a b x).testBit c = (a.testBit c && (b.testBit ((x + c) % 16) || b.testBit ((16 - x + c) % 16))) := by
    intro c hc
    unfold hitx
    rw [Nat.testBit_and, Nat.testBit_or, Nat.testBit_div_two_pow, Nat.testBit_div_two_pow, Nat.add_comm c x, Nat.add_comm c (16 - x), dbl_bit hb (by omega), dbl_bit hb (by omega)]
  constructor
  · intro h
    obtain ⟨c, hc⟩ := nz_bit h
    have hac : a.testBit c = true := by
      unfold hitx at hc
      rw [Nat.testBit_and, Bool.and_eq_true] at hc
      exact hc.1
    have hc16 := bit16 ha hac
    rw [bits c hc16, hac, Bool.true_and, Bool.or_eq_true] at hc
    rcases hc with h1 | h1
    · exact ⟨c, _, hc16, Nat.mod_lt _ (by decide), hac, h1, (cl_x x hx c hc16 _ (Nat.mod_lt _ (by decide))).mpr (.inl rfl)⟩
    · exact ⟨c, _, hc16, Nat.mod_lt _ (by decide), hac, h1, (cl_x x hx c hc16 _ (Nat.mod_lt _ (by decide))).mpr (.inr rfl)⟩
  · rintro ⟨c, d, hc, hd, h1, h2, h3⟩ h0
    have hb2 := bits c hc
    rw [h0, Nat.zero_testBit, h1, Bool.true_and] at hb2
    rcases (cl_x x hx c hc d hd).mp h3 with rfl | rfl
    · rw [h2] at hb2; simp at hb2
    · rw [h2] at hb2; simp at hb2
theorem fst_of (P : Nat → Prop) [DecidablePred P] : ∀ k, (∃ N, N < k ∧ P N ∧ ∀ j, j < N → ¬ P j) ∨ ∀ j, j < k → ¬ P j
  | 0 => .inr fun j hj => absurd hj (Nat.not_lt_zero j)
  | k + 1 => by
    rcases fst_of P k with ⟨N, h1, h2, h3⟩ | h
    · exact .inl ⟨N, by omega, h2, h3⟩
    · by_cases q : P k
      · exact .inl ⟨k, by omega, q, h⟩
      · refine .inr fun j hj => ?_
        by_cases hjk : j = k
        · subst hjk; exact q
        · exact h j (by omega)
theorem hit_I {a b x : Nat} (ha : a < 65536) (hb : b < 65536) (hx : x < 8) : (nI a &&& (jushr (jshl (nI b) 16 ||| nI b) (nI x) ||| jushr (jshl (nI b) 16 ||| nI b) (16 - nI x)) = 0) ↔ hitx a b x = 0 := by
  have h1 : jshl (nI b) 16 = nI (b * 2 ^ 16) := vb_shl (k := 16) (by decide) (by omega)
  have h2 : nI (b * 2 ^ 16) ||| nI b = nI (dbl b) := vb_or (by omega) (by omega)
  have hd := dbl_lt hb
  have h3 : (16 : Int32) - nI x = nI (16 - x) := pk_sub (a := 16) (by omega)
  have l1 : dbl b / 2 ^ x < 2 ^ 32 := Nat.lt_of_le_of_lt (Nat.div_le_self _ _) hd
  have l2 : dbl b / 2 ^ (16 - x) < 2 ^ 32 := Nat.lt_of_le_of_lt (Nat.div_le_self _ _) hd
  rw [h1, h2, h3, vb_ushr hd (by omega), vb_ushr hd (by omega), vb_or l1 l2, vb_and (by omega) (Nat.or_lt_two_pow l1 l2)]
  have l3 : hitx a b x < 65536 := by
    unfold hitx
    exact Nat.lt_of_le_of_lt Nat.and_le_left ha
  exact nI_eq (a := hitx a b x) (b := 0) (by omega) (by decide)
theorem c_cols {a b : Nat} (ha : a < 65536) (hb : b < 65536) (ha0 : a ≠ 0) (hb0 : b ≠ 0) : ∃ v, f_X2_columnsApart (nI a) (nI b) = some (nI v) ∧ v ≤ 8 ∧ (∃ c d, c < 16 ∧ d < 16 ∧ a.testBit c = true ∧ b.testBit d = true ∧ cl16 c d = v) ∧ ∀ c d, a.testBit c = true → b.testBit d = true → v ≤ cl16 c d := by
  rcases fst_of (fun x => hitx a b x ≠ 0) 8 with ⟨N, hN, h1, h2⟩ | h
  · refine ⟨N, ?_, by omega, (hit_iff ha hb hN).mp h1, fun c d hc hd => ?_⟩
    · have hit := it_N (b := f_X2_columnsApart_b9 (nI a) (nI b)) (r := .inr (nI N)) (fun i => nI i) N (by omega) (by
        intro i hi
        have a1 : ¬ (8 : Int32) ≤ nI i := nI_ge (b := 8) (by omega) (by decide)
        have a2 := (hit_I ha hb (show i < 8 by omega)).mpr (Decidable.of_not_not (h2 i hi))
        simp only [f_X2_columnsApart_b9, a1, if_false, a2, if_true, nI_1]) (by
        have a1 : ¬ (8 : Int32) ≤ nI N := nI_ge (b := 8) hN (by decide)
        have a2 := mt (hit_I ha hb hN).mp h1
        simp only [f_X2_columnsApart_b9, a1, if_false, a2]) (s0 := 0) rfl
      simp [f_X2_columnsApart, hit]
    · apply Classical.byContradiction
      intro hlt
      exact h2 (cl16 c d) (by omega) ((hit_iff ha hb (by omega)).mpr ⟨c, d, bit16 ha hc, bit16 hb hd, hc, hd, rfl⟩)
  · have all : ∀ c d, a.testBit c = true → b.testBit d = true → cl16 c d = 8 := by
      intro c d hc hd
      have h8 := cl_8 c (bit16 ha hc) d (bit16 hb hd)
      apply Classical.byContradiction
      intro hlt
      exact h (cl16 c d) (by omega) ((hit_iff ha hb (by omega)).mpr ⟨c, d, bit16 ha hc, bit16 hb hd, hc, hd, rfl⟩)
    obtain ⟨c, hc⟩ := nz_bit ha0
    obtain ⟨d, hd⟩ := nz_bit hb0
    refine ⟨8, ?_, by omega, ⟨c, d, bit16 ha hc, bit16 hb hd, hc, hd, all c d hc hd⟩, fun c d hc hd => by rw [all c d hc hd]; exact Nat.le_refl _⟩
    have hit := it_N (b := f_X2_columnsApart_b9 (nI a) (nI b)) (r := .inl ()) (fun i => nI i) 8 (by omega) (by
      intro i hi
      have a1 : ¬ (8 : Int32) ≤ nI i := nI_ge (b := 8) (by omega) (by decide)
      have a2 := (hit_I ha hb hi).mpr (Decidable.of_not_not (h i hi))
      simp only [f_X2_columnsApart_b9, a1, if_false, a2, if_true, nI_1]) (by
      have a1 : (8 : Int32) ≤ nI 8 := by decide
      simp only [f_X2_columnsApart_b9, a1, if_true]) (s0 := 0) rfl
    simp [f_X2_columnsApart, hit]
    rfl
