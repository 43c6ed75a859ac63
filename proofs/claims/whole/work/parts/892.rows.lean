/-! fits: a mask turned round the ring, and what is counted in a row -/
def trn (m e : Nat) : Nat := (m * 2 ^ e ||| m / 2 ^ (16 - e)) % 65536
theorem trn_lt (m e : Nat) : trn m e < 65536 := Nat.mod_lt _ (by decide)
theorem trn_bit {m e c : Nat} (hm : m < 65536) (he : e < 16) (hc : c < 16) : (trn m e).testBit c = m.testBit ((c + (16 - e)) % 16) := by
  unfold trn
  rw [show (65536 : Nat) = 2 ^ 16 from rfl, Nat.testBit_mod_two_pow, Nat.testBit_or, Nat.testBit_mul_two_pow, Nat.testBit_div_two_pow]
  by_cases h : e ≤ c
  · have h2 : m.testBit (c + (16 - e)) = false := Nat.testBit_lt_two_pow (Nat.lt_of_lt_of_le hm (Nat.pow_le_pow_right (n := 2) (i := 16) (by decide) (by omega)))
    have h3 : (c + (16 - e)) % 16 = c - e := by omega
    simp [h, h2, h3, hc]
  · have h3 : (c + (16 - e)) % 16 = c + (16 - e) := by omega
    simp [h, h3, hc]
theorem c_turn {m e : Nat} (hm : m < 65536) (he : e < 16) : f_X2_turned (nI m) (nI e) = some (nI (trn m e)) := by
  have l1 : m * 2 ^ e < 2 ^ 32 := by
    have h1 : 2 ^ e ≤ 2 ^ 15 := Nat.pow_le_pow_right (by decide) (by omega)
    have h2 : m * 2 ^ e ≤ 65535 * 2 ^ 15 := Nat.mul_le_mul (by omega) h1
    omega
  have l2 : m / 2 ^ (16 - e) < 2 ^ 32 := Nat.lt_of_le_of_lt (Nat.div_le_self _ _) (by omega)
  have e1 : jshl (nI m) (nI e) = nI (m * 2 ^ e) := vb_shl (by omega) l1
  have e2 : (16 : Int32) - nI e = nI (16 - e) := pk_sub (a := 16) (by omega)
  have e3 : jushr (nI m) (nI (16 - e)) = nI (m / 2 ^ (16 - e)) := vb_ushr (by omega) (by omega)
  have e4 : nI (m * 2 ^ e ||| m / 2 ^ (16 - e)) &&& 65535 = nI ((m * 2 ^ e ||| m / 2 ^ (16 - e)) % 2 ^ 16) := pk_andN (Nat.or_lt_two_pow l1 l2) 16 rfl
  simp only [f_X2_turned, e1, e2, e3, vb_or l1 l2, e4]
  rfl
def bN (b : Bool) : Nat := if b = true then 1 else 0
theorem bN_le (b : Bool) : bN b ≤ 1 := by cases b <;> decide
theorem sm_congr {f g : Nat → Nat} : ∀ n, (∀ i, i < n → f i = g i) → sm f n = sm g n
  | 0, _ => rfl
  | n + 1, h => by
    show sm f n + f n = sm g n + g n
    rw [sm_congr n fun i hi => h i (by omega), h n (by omega)]
theorem sm_plus (f g : Nat → Nat) : ∀ n, sm (fun i => f i + g i) n = sm f n + sm g n
  | 0 => rfl
  | n + 1 => by
    show sm (fun i => f i + g i) n + (f n + g n) = sm f n + f n + (sm g n + g n)
    rw [sm_plus f g n]
    omega
theorem sm_times (k : Nat) (f : Nat → Nat) : ∀ n, sm (fun i => k * f i) n = k * sm f n
  | 0 => rfl
  | n + 1 => by
    show sm (fun i => k * f i) n + k * f n = k * (sm f n + f n)
    rw [sm_times k f n, Nat.mul_add]
theorem sm_zero {f : Nat → Nat} : ∀ n, (∀ i, i < n → f i = 0) → sm f n = 0
  | 0, _ => rfl
  | n + 1, h => by
    show sm f n + f n = 0
    rw [sm_zero n fun i hi => h i (by omega), h n (by omega)]
theorem sm_more {f : Nat → Nat} (n : Nat) : ∀ k, (∀ i, n ≤ i → i < n + k → f i = 0) → sm f (n + k) = sm f n
  | 0, _ => rfl
  | k + 1, h => by
    show sm f (n + k) + f (n + k) = sm f n
    rw [sm_more n k fun i h1 h2 => h i h1 (by omega), h (n + k) (by omega) (by omega)]
    rfl
theorem sm_le {f : Nat → Nat} {K : Nat} : ∀ n, (∀ i, i < n → f i ≤ K) → sm f n ≤ n * K
  | 0, _ => by simp [sm]
  | n + 1, h => by
    have h1 := sm_le n fun i hi => h i (by omega)
    have h2 := h n (by omega)
    show sm f n + f n ≤ (n + 1) * K
    rw [Nat.succ_mul]
    omega
theorem sm_split (f : Nat → Nat) (a : Nat) : ∀ b, sm f (a + b) = sm f a + sm (fun i => f (a + i)) b
  | 0 => rfl
  | b + 1 => by
    show sm f (a + b) + f (a + b) = sm f a + (sm (fun i => f (a + i)) b + f (a + b))
    rw [sm_split f a b]
    omega
theorem sm_rows (f : Nat → Nat) : ∀ n, sm f (16 * n) = sm (fun r => sm (fun c => f (16 * r + c)) 16) n
  | 0 => rfl
  | n + 1 => by
    show sm f (16 * n + 16) = sm (fun r => sm (fun c => f (16 * r + c)) 16) n + sm (fun c => f (16 * n + c)) 16
    rw [sm_split, sm_rows f n]
theorem pc_sm {m : Nat} (hm : m < 65536) : pcN m = sm (fun c => bN (m.testBit c)) 16 := pc_cnt hm
/-- overlap, touch and gap of a row: which columns are of a, which of b -/
def ovR (H B : Nat → Bool) : Nat := sm (fun c => bN (H c && B c)) 16
def tcR (H B : Nat → Bool) : Nat := sm (fun c => bN (H c && B ((c + 15) % 16)) + bN (H c && B ((c + 1) % 16))) 16
def gvL (H B : Nat → Bool) (c : Nat) : Nat → Bool
  | 0 => true
  | l + 1 => gvL H B c l && !(H ((c + (l + 1)) % 16) || B ((c + (l + 1)) % 16))
def gvE (H B : Nat → Bool) (c l : Nat) : Bool := gvL H B c l && (H c && B ((c + (l + 1)) % 16) || B c && H ((c + (l + 1)) % 16))
def gpC (H B : Nat → Bool) (c : Nat) : Nat := bN (gvE H B c 1) + 2 * bN (gvE H B c 2) + 3 * bN (gvE H B c 3)
def gpR (H B : Nat → Bool) : Nat := sm (gpC H B) 16
/-- the columns of neither -/
def frN (h m : Nat) : Nat := ((h ||| m) ^^^ (2 ^ 32 - 1)) % 65536
theorem frN_lt (h m : Nat) : frN h m < 65536 := Nat.mod_lt _ (by decide)
theorem frN_bit {h m c : Nat} (hc : c < 16) : (frN h m).testBit c = !(h.testBit c || m.testBit c) := by
  unfold frN
  rw [show (65536 : Nat) = 2 ^ 16 from rfl, Nat.testBit_mod_two_pow, Nat.testBit_xor, Nat.testBit_or, Nat.testBit_two_pow_sub_one]
  have h1 : c < 32 := by omega
  simp [hc, h1]
theorem c_free {h m : Nat} (hh : h < 65536) (hm : m < 65536) : (((nI h ||| nI m) ^^^ (-1)) &&& 65535) = nI (frN h m) := by
  have e3 : (-1 : Int32) = nI (2 ^ 32 - 1) := by decide
  have l1 : h ||| m < 2 ^ 32 := Nat.or_lt_two_pow (by omega) (by omega)
  rw [vb_or (by omega) (by omega)]
  conv => lhs; rw [e3]
  rw [vb_xor l1 (by decide)]
  exact pk_andN (Nat.xor_lt_two_pow l1 (by decide)) 16 rfl
def bfN (h m : Nat) : Nat → Nat
  | 0 => 65535
  | l + 1 => bfN h m l &&& trn (frN h m) (16 - (l + 1))
theorem bfN_lt (h m : Nat) : ∀ l, bfN h m l < 65536
  | 0 => by show 65535 < 65536; decide
  | l + 1 => Nat.lt_of_le_of_lt Nat.and_le_left (bfN_lt h m l)
theorem bfN_bit {h m c : Nat} (hc : c < 16) : ∀ l, l < 16 → (bfN h m l).testBit c = gvL h.testBit m.testBit c l
  | 0, _ => by
    show (65535 : Nat).testBit c = true
    rw [show (65535 : Nat) = 2 ^ 16 - 1 from rfl, Nat.testBit_two_pow_sub_one]
    simp [hc]
  | l + 1, hl => by
    show (bfN h m l &&& trn (frN h m) (16 - (l + 1))).testBit c = (gvL h.testBit m.testBit c l && !(h.testBit ((c + (l + 1)) % 16) || m.testBit ((c + (l + 1)) % 16)))
    rw [Nat.testBit_and, bfN_bit hc l (by omega), trn_bit (frN_lt h m) (by omega) hc, show c + (16 - (16 - (l + 1))) = c + (l + 1) by omega, frN_bit (Nat.mod_lt _ (by decide))]
def enN (h m l : Nat) : Nat := h &&& trn m (15 - l) ||| m &&& trn h (15 - l)
theorem enN_lt {h m l : Nat} (hh : h < 65536) (hm : m < 65536) : enN h m l < 65536 := Nat.or_lt_two_pow (n := 16) (Nat.lt_of_le_of_lt Nat.and_le_left hh) (Nat.lt_of_le_of_lt Nat.and_le_left hm)
theorem gvE_bit {h m c l : Nat} (hh : h < 65536) (hm : m < 65536) (hc : c < 16) (h1 : 1 ≤ l) (h2 : l < 4) : (bfN h m l &&& enN h m l).testBit c = gvE h.testBit m.testBit c l := by
  unfold gvE enN
  rw [Nat.testBit_and, Nat.testBit_or, Nat.testBit_and, Nat.testBit_and, bfN_bit hc l (by omega), trn_bit hm (by omega) hc, trn_bit hh (by omega) hc, show c + (16 - (15 - l)) = c + (l + 1) by omega]
/-- the gaps of a length up to l -/
def gsN (h m : Nat) : Nat → Nat
  | 0 => 0
  | l + 1 => gsN h m l + (l + 1) * pcN (bfN h m (l + 1) &&& enN h m (l + 1))
theorem gsN_3 {h m : Nat} (hh : h < 65536) (hm : m < 65536) : gsN h m 3 = gpR h.testBit m.testBit := by
  have key : ∀ l, 1 ≤ l → l < 4 → pcN (bfN h m l &&& enN h m l) = sm (fun c => bN (gvE h.testBit m.testBit c l)) 16 := by
    intro l h1 h2
    rw [pc_sm (Nat.lt_of_le_of_lt Nat.and_le_left (bfN_lt h m l))]
    exact sm_congr 16 fun c hc => by rw [gvE_bit hh hm hc h1 h2]
  show 0 + (0 + 1) * pcN (bfN h m 1 &&& enN h m 1) + (1 + 1) * pcN (bfN h m 2 &&& enN h m 2) + (2 + 1) * pcN (bfN h m 3 &&& enN h m 3) = _
  rw [key 1 (by decide) (by decide), key 2 (by decide) (by decide), key 3 (by decide) (by decide)]
  unfold gpR
  have e : gpC h.testBit m.testBit = fun c => (bN (gvE h.testBit m.testBit c 1) + 2 * bN (gvE h.testBit m.testBit c 2)) + 3 * bN (gvE h.testBit m.testBit c 3) := rfl
  rw [e, sm_plus, sm_plus, sm_times, sm_times]
  omega
theorem c_row {h m : Nat} (hh : h < 65536) (hm : m < 65536) {M : Mem} {g1 g2 g3 : Nat} (e1 : M 9 1 = nI g1) (e2 : M 9 2 = nI g2) (e3 : M 9 3 = nI g3) : ∃ M1, f_X1_lookAtRow (nI h) (nI m) M = some M1 ∧ M1 9 1 = nI (g1 + ovR h.testBit m.testBit) ∧ M1 9 2 = nI (g2 + tcR h.testBit m.testBit) ∧ M1 9 3 = nI (g3 + gpR h.testBit m.testBit) ∧ ∀ p k, ¬ (p = 9 ∧ (k = 1 ∨ k = 2 ∨ k = 3)) → M1 p k = M p k := by
  have a1 : f_J6_bitCount_0f7a4 (nI h &&& nI m) = some (nI (ovR h.testBit m.testBit)) := by
    rw [vb_and (by omega) (by omega), pc_I (Nat.lt_of_le_of_lt Nat.and_le_left hh), pc_sm (Nat.lt_of_le_of_lt Nat.and_le_left hh)]
    congr 2
    exact sm_congr 16 fun c hc => by rw [Nat.testBit_and]
  have t1 : f_X2_turned (nI m) 1 = some (nI (trn m 1)) := c_turn (e := 1) hm (by decide)
  have t15 : f_X2_turned (nI m) 15 = some (nI (trn m 15)) := c_turn (e := 15) hm (by decide)
  have l1 := trn_lt m 1
  have l15 := trn_lt m 15
  have a2 : f_J6_bitCount_0f7a4 (nI h &&& nI (trn m 1)) = some (nI (sm (fun c => bN (h.testBit c && m.testBit ((c + 15) % 16))) 16)) := by
    rw [vb_and (by omega) (by omega), pc_I (Nat.lt_of_le_of_lt Nat.and_le_left hh), pc_sm (Nat.lt_of_le_of_lt Nat.and_le_left hh)]
    congr 2
    exact sm_congr 16 fun c hc => by rw [Nat.testBit_and, trn_bit hm (by decide) hc]
  have a3 : f_J6_bitCount_0f7a4 (nI h &&& nI (trn m 15)) = some (nI (sm (fun c => bN (h.testBit c && m.testBit ((c + 1) % 16))) 16)) := by
    rw [vb_and (by omega) (by omega), pc_I (Nat.lt_of_le_of_lt Nat.and_le_left hh), pc_sm (Nat.lt_of_le_of_lt Nat.and_le_left hh)]
    congr 2
    exact sm_congr 16 fun c hc => by rw [Nat.testBit_and, trn_bit hm (by decide) hc]
  have a4 : nI (sm (fun c => bN (h.testBit c && m.testBit ((c + 15) % 16))) 16) + nI (sm (fun c => bN (h.testBit c && m.testBit ((c + 1) % 16))) 16) = nI (tcR h.testBit m.testBit) := by
    rw [nI_add, ← sm_plus]
    rfl
  obtain ⟨z, hz, z1, z2⟩ := it_inv (b := f_X1_lookAtRow_b62 (nI h) (nI m)) (fun l s => s.1 = nI (bfN h m l) ∧ s.2.1 = nI (l + 1) ∧ s.2.2 9 3 = nI (g3 + gsN h m l) ∧ ∀ p k, ¬ (p = 9 ∧ k = 3) → s.2.2 p k = (up (up M 9 1 ((M 9 1) + nI (ovR h.testBit m.testBit))) 9 2 (((up M 9 1 ((M 9 1) + nI (ovR h.testBit m.testBit))) 9 2) + nI (tcR h.testBit m.testBit))) p k) 3 (Q := fun Z => Z 9 3 = nI (g3 + gsN h m 3) ∧ ∀ p k, ¬ (p = 9 ∧ k = 3) → Z p k = (up (up M 9 1 ((M 9 1) + nI (ovR h.testBit m.testBit))) 9 2 (((up M 9 1 ((M 9 1) + nI (ovR h.testBit m.testBit))) 9 2) + nI (tcR h.testBit m.testBit))) p k) (by decide) (by
    rintro l hl ⟨x, y, Mi⟩ ⟨h1, h2, h3, h4⟩
    simp only at h1 h2 h3 h4
    subst h1 h2
    have b0 : ¬ (3 : Int32) < nI (l + 1) := nI_nlt (b := l + 1) (a := 3) (by omega) (by decide)
    have s1 : (16 : Int32) - nI (l + 1) = nI (16 - (l + 1)) := pk_sub (a := 16) (by omega)
    have s2 : nI (16 - (l + 1)) - 1 = nI (15 - (l + 1)) := by
      have := pk_sub (a := 16 - (l + 1)) (b := 1) (by omega)
      rw [show 16 - (l + 1) - 1 = 15 - (l + 1) by omega] at this
      exact this
    have u1 := c_turn (m := frN h m) (e := 16 - (l + 1)) (frN_lt h m) (by omega)
    have u2 := c_turn (m := m) (e := 15 - (l + 1)) hm (by omega)
    have u3 := c_turn (m := h) (e := 15 - (l + 1)) hh (by omega)
    have k1 := trn_lt (frN h m) (16 - (l + 1))
    have k2 := trn_lt m (15 - (l + 1))
    have k3 := trn_lt h (15 - (l + 1))
    have k4 := bfN_lt h m l
    have v1 : nI (bfN h m l) &&& nI (trn (frN h m) (16 - (l + 1))) = nI (bfN h m (l + 1)) := vb_and (by omega) (by omega)
    have v2 : (nI h &&& nI (trn m (15 - (l + 1)))) ||| (nI m &&& nI (trn h (15 - (l + 1)))) = nI (enN h m (l + 1)) := by
      rw [vb_and (by omega) (by omega), vb_and (by omega) (by omega)]
      exact vb_or (Nat.lt_of_le_of_lt Nat.and_le_left (by omega)) (Nat.lt_of_le_of_lt Nat.and_le_left (by omega))
    have k5 := bfN_lt h m (l + 1)
    have k6 := enN_lt (l := l + 1) hh hm
    have v3 : f_J6_bitCount_0f7a4 (nI (bfN h m (l + 1)) &&& nI (enN h m (l + 1))) = some (nI (pcN (bfN h m (l + 1) &&& enN h m (l + 1)))) := by
      rw [vb_and (by omega) (by omega)]
      exact pc_I (Nat.lt_of_le_of_lt Nat.and_le_left k5)
    refine ⟨(nI (bfN h m (l + 1)), nI (l + 1 + 1), up Mi 9 3 (nI (g3 + gsN h m (l + 1)))), ?_, rfl, rfl, by simp [up_at], fun p k hp => ?_⟩
    · simp only [f_X1_lookAtRow_b62, b0, if_false, c_free hh hm, s1, s2, u1, u2, u3, Option.bind_some, v1, v2, v3, h3, pk_mul, nI_add, nI_1, Nat.add_assoc g3]
      rfl
    · show up Mi 9 3 _ p k = _
      rw [up_at, if_neg hp]
      exact h4 p k hp) (by
    rintro ⟨x, y, Mi⟩ ⟨h1, h2, h3, h4⟩
    simp only at h1 h2 h3 h4
    subst h1 h2
    have b0 : (3 : Int32) < nI (3 + 1) := by decide
    exact ⟨Mi, by simp only [f_X1_lookAtRow_b62, b0, if_true], h3, h4⟩) (s0 := (65535, 1, (up (up M 9 1 ((M 9 1) + nI (ovR h.testBit m.testBit))) 9 2 (((up M 9 1 ((M 9 1) + nI (ovR h.testBit m.testBit))) 9 2) + nI (tcR h.testBit m.testBit))))) ⟨rfl, rfl, by simp [up_at, e3, gsN], fun _ _ _ => rfl⟩
  refine ⟨z, ?_, ?_, ?_, ?_, fun p k hp => ?_⟩
  · simp only [f_X1_lookAtRow, a1, t1, t15, a2, a3, a4, Option.bind_some, hz]
  · rw [z2 9 1 (by decide), up_at, if_neg (by decide), up_at, if_pos ⟨rfl, rfl⟩, e1, nI_add]
  · rw [z2 9 2 (by decide), up_at, if_pos ⟨rfl, rfl⟩, up_at, if_neg (by decide), e2, nI_add]
  · rw [z1, gsN_3 hh hm]
  · rw [z2 p k (fun w => hp ⟨w.1, .inr (.inr w.2)⟩), up_at, if_neg (fun w => hp ⟨w.1, .inr (.inl w.2)⟩), up_at, if_neg (fun w => hp ⟨w.1, .inl w.2⟩)]
