theorem wb_tb (n : Nat) : (lN n).toBitVec = BitVec.ofNat 64 n := rfl
theorem wb_inj {a b : Int64} (h : a.toBitVec = b.toBitVec) : a = b := Int64.toBitVec_inj.mp h
theorem wb_tn {n : Nat} (h : n < 2 ^ 64) : (lN n).toBitVec.toNat = n := by rw [wb_tb, BitVec.toNat_ofNat, Nat.mod_eq_of_lt h]
theorem wb_of (x : Int64) : ∃ n, n < 2 ^ 64 ∧ x = lN n := ⟨x.toBitVec.toNat, x.toBitVec.isLt, wb_inj (by rw [wb_tb]; simp)⟩
theorem wb_of32 (x : Int32) : ∃ n, n < 2 ^ 32 ∧ x = nI n := ⟨x.toBitVec.toNat, x.toBitVec.isLt, Int32.toBitVec_inj.mp (by show _ = BitVec.ofNat 32 _; simp)⟩
theorem wb_c : ∀ k, k < 64 → ((nI k).toInt64 &&& 63) = lN k := by decide +kernel
theorem wb_cu : ∀ k, k < 64 → ((nI k).toInt64.toUInt64 &&& Int64.toUInt64 63) = UInt64.ofNat k := by decide +kernel
theorem wb_sm : ∀ k, k < 64 → (BitVec.ofNat 64 k).smod 64 = BitVec.ofNat 64 k := by decide +kernel
theorem wb_pw {a b : Nat} (h : a ≤ b) : 2 ^ b = 2 ^ a * 2 ^ (b - a) := by rw [← Nat.pow_add]; congr 1; omega
theorem wb_lt2 {a b : Nat} (h : a < b) : 2 ^ a < 2 ^ b := Nat.pow_lt_pow_right (by decide) h
theorem wb_mod (n : Nat) : lN n = lN (n % 2 ^ 64) := wb_inj (by rw [wb_tb, wb_tb]; apply BitVec.eq_of_toNat_eq; rw [BitVec.toNat_ofNat, BitVec.toNat_ofNat, Nat.mod_mod])
theorem wb_shr {n k : Nat} (hn : n < 2 ^ 64) (hk : k < 64) : ((lN n).toUInt64 >>> ((nI k).toInt64.toUInt64 &&& Int64.toUInt64 63)).toInt64 = lN (n / 2 ^ k) := by
  rw [wb_cu k hk]
  apply wb_inj
  apply BitVec.eq_of_toNat_eq
  show ((lN n).toUInt64 >>> UInt64.ofNat k).toNat = (BitVec.ofNat 64 _).toNat
  have h1 : (UInt64.ofNat k).toNat = k := by
    show (BitVec.ofNat 64 k).toNat = k
    rw [BitVec.toNat_ofNat, Nat.mod_eq_of_lt (by omega)]
  have h2 : (lN n).toUInt64.toNat = n := wb_tn hn
  rw [UInt64.toNat_shiftRight, h1, h2, Nat.mod_eq_of_lt hk, Nat.shiftRight_eq_div_pow, BitVec.toNat_ofNat, Nat.mod_eq_of_lt (Nat.lt_of_le_of_lt (Nat.div_le_self _ _) hn)]
theorem wb_shl (n : Nat) {k : Nat} (hk : k < 64) : lN n <<< ((nI k).toInt64 &&& 63) = lN (n * 2 ^ k) := by
  rw [wb_c k hk]
  apply wb_inj
  rw [Int64.toBitVec_shiftLeft, wb_tb, wb_tb, wb_tb, wb_sm k hk]
  apply BitVec.eq_of_toNat_eq
  rw [BitVec.shiftLeft_eq', BitVec.toNat_shiftLeft, BitVec.toNat_ofNat, BitVec.toNat_ofNat, BitVec.toNat_ofNat, Nat.mod_eq_of_lt (show k < 2 ^ 64 by omega), Nat.shiftLeft_eq, Nat.mul_mod, Nat.mod_mod, ← Nat.mul_mod]
theorem wb_and {a b : Nat} (ha : a < 2 ^ 64) (hb : b < 2 ^ 64) : lN a &&& lN b = lN (a &&& b) := by
  apply wb_inj
  rw [Int64.toBitVec_and, wb_tb, wb_tb, wb_tb]
  apply BitVec.eq_of_toNat_eq
  rw [BitVec.toNat_and, BitVec.toNat_ofNat, BitVec.toNat_ofNat, BitVec.toNat_ofNat, Nat.mod_eq_of_lt ha, Nat.mod_eq_of_lt hb, Nat.mod_eq_of_lt (Nat.and_lt_two_pow _ hb)]
theorem wb_or {a b : Nat} (ha : a < 2 ^ 64) (hb : b < 2 ^ 64) : lN a ||| lN b = lN (a ||| b) := by
  apply wb_inj
  rw [Int64.toBitVec_or, wb_tb, wb_tb, wb_tb]
  apply BitVec.eq_of_toNat_eq
  rw [BitVec.toNat_or, BitVec.toNat_ofNat, BitVec.toNat_ofNat, BitVec.toNat_ofNat, Nat.mod_eq_of_lt ha, Nat.mod_eq_of_lt hb, Nat.mod_eq_of_lt (Nat.or_lt_two_pow ha hb)]
theorem wb_mask {n k : Nat} (hn : n < 2 ^ 64) (hk : k < 64) : lN n &&& lN (2 ^ k - 1) = lN (n % 2 ^ k) := by
  rw [wb_and hn (by have := wb_lt2 hk; omega), Nat.and_two_pow_sub_one_eq_mod]
theorem wb_a1 {n : Nat} (hn : n < 2 ^ 64) : lN n &&& 1 = lN (n % 2) := wb_mask (k := 1) hn (by decide)
/-! letters -/
def byN (n k : Nat) : Nat := n / 2 ^ (8 * k) % 256
theorem byN_lt (n k : Nat) : byN n k < 256 := Nat.mod_lt _ (by decide)
theorem m255 {x : Nat} (h : x < 2 ^ 64) : Int64.toInt32 (lN x &&& 255) = nI (x % 256) := by
  have h1 : lN x &&& 255 = lN (x % 256) := wb_mask (k := 8) h (by decide)
  rw [h1, lN_i]
theorem jl_nI {n k : Nat} (hn : n < 2 ^ 64) (hk : k < 64) : jlushr (lN n) (nI k) = lN (n / 2 ^ k) := wb_shr hn hk
theorem s_byte {n i : Nat} (hn : n < 2 ^ 64) (hi : i < 8) : f_X6_byteOf (lN n) (nI i) = some (nI (byN n i)) := by
  unfold f_X6_byteOf
  have h1 : (8 : Int32) * nI i = nI (8 * i) := pk_mul 8 i
  rw [h1, jl_nI hn (by omega), m255 (Nat.lt_of_le_of_lt (Nat.div_le_self _ _) hn)]
  rfl
/-- how many of the first k bytes aren't 0 -/
def nzN (n : Nat) : Nat → Nat := sm (fun i => if byN n i = 0 then 0 else 1)
theorem nz_le (n : Nat) : ∀ k, nzN n k ≤ k
  | 0 => Nat.le_refl _
  | k + 1 => by
    have ih := nz_le n k
    show nzN n k + (if byN n k = 0 then 0 else 1) ≤ k + 1
    split <;> omega
/-- the first k bytes are as letters must be told -/
def tldN (n : Nat) : Nat → Bool
  | 0 => true
  | k + 1 => tldN n k && decide (byN n k ≤ 126) && (decide (byN n k = 0) || decide (nzN n k = k))
theorem tld_mono (n : Nat) {k : Nat} : ∀ j, tldN n (k + j) = true → tldN n k = true
  | 0, h => h
  | j + 1, h => by
    have h2 : tldN n (k + j + 1) = true := h
    simp only [tldN, Bool.and_eq_true] at h2
    exact tld_mono n j h2.1.1
/-- behind k bytes, told as they must: the last is 0 just if not all aren't -/
theorem tld_end {n k : Nat} (h : tldN n (k + 1) = true) : (byN n k = 0) ↔ ¬ nzN n (k + 1) = k + 1 := by
  simp only [tldN, Bool.and_eq_true, Bool.or_eq_true, decide_eq_true_eq] at h
  have hl := nz_le n k
  have e : nzN n (k + 1) = nzN n k + (if byN n k = 0 then 0 else 1) := rfl
  rw [e]
  by_cases q : byN n k = 0
  · simp [q]; omega
  · rw [if_neg q]
    have := h.2.resolve_left q
    simp [q, this]
theorem c_many {n : Nat} (hn : n < 2 ^ 64) : f_X6_howManyIn (lN n) = some (nI (nzN n 8)) := by
  have hit := it_N (b := f_X6_howManyIn_b4 (lN n)) (r := nI (nzN n 8)) (fun i => (nI (nzN n i), nI i)) 8 (by decide) (by
    intro i hi
    have a1 : ¬ (8 : Int32) ≤ nI i := nI_ge (b := 8) hi (by decide)
    have hb := byN_lt n i
    have e : nzN n (i + 1) = nzN n i + (if byN n i = 0 then 0 else 1) := rfl
    have b1 : (nI (byN n i) = 0) ↔ byN n i = 0 := nI_eq (b := 0) (by omega) (by decide)
    simp only [f_X6_howManyIn_b4, a1, if_false, s_byte hn hi, Option.bind_some, b1, nI_1, e]
    by_cases q : byN n i = 0 <;> simp [q]) (by
    have a1 : (8 : Int32) ≤ nI 8 := by decide
    simp only [f_X6_howManyIn_b4, a1, if_true]) (s0 := (0, 0)) rfl
  simp [f_X6_howManyIn, hit]
theorem c_told {n : Nat} (hn : n < 2 ^ 64) : f_X6_isTold (lN n) = some (tldN n 8) := by
  have stepT : ∀ i, i < 8 → tldN n (i + 1) = true → f_X6_isTold_b4 (lN n) (decide (¬ nzN n i = i), nI i) = some (.inl (decide (¬ nzN n (i + 1) = i + 1), nI (i + 1))) := by
    intro i hi ht
    have a1 : ¬ (8 : Int32) ≤ nI i := nI_ge (b := 8) hi (by decide)
    have hb := byN_lt n i
    have he := tld_end ht
    have ht2 := ht
    simp only [tldN, Bool.and_eq_true, Bool.or_eq_true, decide_eq_true_eq] at ht2
    have b1 : (nI (byN n i) = 0) ↔ byN n i = 0 := nI_eq (b := 0) (by omega) (by decide)
    have b2 : ¬ (126 : Int32) < nI (byN n i) := nI_nlt (a := 126) ht2.1.2 (by decide)
    simp only [f_X6_isTold_b4, a1, if_false, s_byte hn hi, Option.bind_some, b1, b2, f_X6_isTold_j35_0, nI_1]
    by_cases q : byN n i = 0
    · have q2 : ¬ nzN n (i + 1) = i + 1 := he.mp q
      by_cases q3 : nzN n i = i <;> simp [q, q2, q3]
    · have q2 : nzN n (i + 1) = i + 1 := Decidable.of_not_not fun z => q (he.mpr z)
      have q3 : nzN n i = i := ht2.2.resolve_left q
      simp [q, q2, q3]
  have stepF : ∀ i, i < 8 → tldN n i = true → tldN n (i + 1) = false → f_X6_isTold_b4 (lN n) (decide (¬ nzN n i = i), nI i) = some (.inr (.inr false)) := by
    intro i hi ht hf
    have a1 : ¬ (8 : Int32) ≤ nI i := nI_ge (b := 8) hi (by decide)
    have hb := byN_lt n i
    have b1 : (nI (byN n i) = 0) ↔ byN n i = 0 := nI_eq (b := 0) (by omega) (by decide)
    have b2 : ((126 : Int32) < nI (byN n i)) ↔ 126 < byN n i := nI_ltI (a := 126) (by decide) (by omega)
    simp only [tldN, ht, Bool.true_and] at hf
    simp only [f_X6_isTold_b4, a1, if_false, s_byte hn hi, Option.bind_some, b1, b2]
    by_cases q : 126 < byN n i
    · simp [q]
    · have q4 : byN n i ≤ 126 := by omega
      simp only [q4, decide_true, Bool.true_and, Bool.or_eq_false_iff, decide_eq_false_iff_not] at hf
      simp [q, hf.1, hf.2]
  by_cases h : tldN n 8 = true
  · have hit := it_N (b := f_X6_isTold_b4 (lN n)) (r := .inl ()) (fun i => (decide (¬ nzN n i = i), nI i)) 8 (by decide) (fun i hi => stepT i hi (tld_mono n (k := i + 1) (8 - (i + 1)) (by rw [show i + 1 + (8 - (i + 1)) = 8 by omega]; exact h))) (by
      have a1 : (8 : Int32) ≤ nI 8 := by decide
      simp only [f_X6_isTold_b4, a1, if_true]) (s0 := (false, 0)) rfl
    simp [f_X6_isTold, hit, h]
  · have h : tldN n 8 = false := by simpa using h
    obtain ⟨N, hN, hNt, hNf⟩ : ∃ N, N < 8 ∧ tldN n N = true ∧ tldN n (N + 1) = false := by
      have key : ∀ k, tldN n k = false → ∃ N, N < k ∧ tldN n N = true ∧ tldN n (N + 1) = false := by
        intro k
        induction k with
        | zero => intro h; cases h
        | succ k ih =>
          intro h
          by_cases q : tldN n k = true
          · exact ⟨k, by omega, q, h⟩
          · obtain ⟨N, h1, h2⟩ := ih (by simpa using q)
            exact ⟨N, by omega, h2⟩
      exact key 8 h
    have hit := it_N (b := f_X6_isTold_b4 (lN n)) (r := .inr false) (fun i => (decide (¬ nzN n i = i), nI i)) N (by omega) (fun i hi => stepT i (by omega) (tld_mono n (k := i + 1) (N - (i + 1)) (by rw [show i + 1 + (N - (i + 1)) = N by omega]; exact hNt))) (stepF N hN hNt hNf) (s0 := (false, 0)) rfl
    simp [f_X6_isTold, hit, h]
theorem m_told {n : Nat} (hn : n < 2 ^ 64) : it f_X12_letters_b11 FU (0, true, lN n, 0) = some (nI (nzN n 8), tldN n 8) := by
  refine it_N (fun i => (nI (nzN n i), tldN n i, lN (n / 2 ^ (8 * i)), nI i)) 8 (by decide) ?_ ?_ (by
    show _ = (nI 0, true, lN (n / 2 ^ 0), nI 0)
    rw [Nat.pow_zero, Nat.div_one]
    rfl)
  · intro i hi
    have a1 : ¬ (8 : Int32) ≤ nI i := nI_ge (b := 8) hi (by decide)
    have hb := byN_lt n i
    have hl := nz_le n i
    have hd : n / 2 ^ (8 * i) < 2 ^ 64 := Nat.lt_of_le_of_lt (Nat.div_le_self _ _) hn
    have hm : Int64.toInt32 (lN (n / 2 ^ (8 * i)) &&& 255) = nI (byN n i) := m255 hd
    have e : nzN n (i + 1) = nzN n i + (if byN n i = 0 then 0 else 1) := rfl
    have b1 : (nI (byN n i) = 0) ↔ byN n i = 0 := nI_eq (b := 0) (by omega) (by decide)
    have b2 : ((126 : Int32) < nI (byN n i)) ↔ 126 < byN n i := nI_ltI (a := 126) (by decide) (by omega)
    have b3 : (nI (nzN n i) = nI i) ↔ nzN n i = i := nI_eq (by omega) (by omega)
    have b4 : (nI (byN n i) ≤ 0) ↔ byN n i ≤ 0 := nI_leI (b := 0) (by omega) (by decide)
    have hs : jlushr (lN (n / 2 ^ (8 * i))) 8 = lN (n / 2 ^ (8 * (i + 1))) := by
      have h1 : jlushr (lN (n / 2 ^ (8 * i))) (nI 8) = lN (n / 2 ^ (8 * i) / 2 ^ 8) := jl_nI hd (by decide)
      have h2 : n / 2 ^ (8 * i) / 2 ^ 8 = n / 2 ^ (8 * (i + 1)) := by rw [Nat.div_div_eq_div_mul, ← Nat.pow_add]; congr 2
      rw [← h2, ← h1]
      rfl
    simp only [f_X12_letters_b11, a1, if_false, hm, b1, b2, b3, b4, hs, nI_1, tldN, e]
    by_cases q : byN n i = 0
    · cases tldN n i <;> simp [q, bI]
      all_goals (first | rfl | exact nI_add _ 0)
    · have q2 : ¬ byN n i ≤ 0 := by omega
      by_cases q3 : 126 < byN n i
      · have q4 : ¬ byN n i ≤ 126 := by omega
        cases tldN n i <;> simp [q, q3, q4, bI, nI_1]
      · have q4 : byN n i ≤ 126 := by omega
        by_cases q5 : nzN n i = i
        · cases tldN n i <;> simp [q, q3, q4, q5, bI, nI_1]
        · cases tldN n i <;> simp [q, q3, q4, q5, bI, nI_1]
  · have a1 : (8 : Int32) ≤ nI 8 := by decide
    simp only [f_X12_letters_b11, a1, if_true]
