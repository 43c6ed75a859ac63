/-! the least of a table, at most 99 -/
def mm (f : Nat → Nat → Nat) (m d : Nat) : Nat → Nat
  | 0 => d
  | n + 1 => mn (f n) (mm f m d n) m
def VL (F : Nat → Nat → Nat) (n m v : Nat) : Prop := v ≤ 99 ∧ (v = 99 ∨ ∃ i j, i < n ∧ j < m ∧ v = F i j) ∧ ∀ i j, i < n → j < m → v ≤ F i j
theorem mn_l (f : Nat → Nat) (d : Nat) : ∀ n, mn f d n ≤ d ∧ (mn f d n = d ∨ ∃ i, i < n ∧ mn f d n = f i) ∧ ∀ i, i < n → mn f d n ≤ f i
  | 0 => ⟨Nat.le_refl _, .inl rfl, fun i hi => absurd hi (Nat.not_lt_zero i)⟩
  | n + 1 => by
    obtain ⟨h1, h2, h3⟩ := mn_l f d n
    have e : mn f d (n + 1) = min (mn f d n) (f n) := rfl
    rw [e]
    refine ⟨by omega, ?_, fun i hi => ?_⟩
    · rcases (show min (mn f d n) (f n) = mn f d n ∨ min (mn f d n) (f n) = f n by omega) with q | q
      · rw [q]
        rcases h2 with h2 | ⟨i, hi, h2⟩
        · exact .inl h2
        · exact .inr ⟨i, by omega, h2⟩
      · exact .inr ⟨n, by omega, q⟩
    · by_cases hin : i = n
      · subst hin; omega
      · have := h3 i (by omega); omega
theorem mm_l (f : Nat → Nat → Nat) (m d : Nat) : ∀ n, mm f m d n ≤ d ∧ (mm f m d n = d ∨ ∃ i j, i < n ∧ j < m ∧ mm f m d n = f i j) ∧ ∀ i j, i < n → j < m → mm f m d n ≤ f i j
  | 0 => ⟨Nat.le_refl _, .inl rfl, fun i _ hi => absurd hi (Nat.not_lt_zero i)⟩
  | n + 1 => by
    obtain ⟨h1, h2, h3⟩ := mm_l f m d n
    obtain ⟨g1, g2, g3⟩ := mn_l (f n) (mm f m d n) m
    have e : mm f m d (n + 1) = mn (f n) (mm f m d n) m := rfl
    rw [e]
    refine ⟨by omega, ?_, fun i j hi hj => ?_⟩
    · rcases g2 with g2 | ⟨j, hj, g2⟩
      · rw [g2]
        rcases h2 with h2 | ⟨i, j, hi, hj, h2⟩
        · exact .inl h2
        · exact .inr ⟨i, j, by omega, hj, h2⟩
      · exact .inr ⟨n, j, by omega, hj, g2⟩
    · by_cases hin : i = n
      · subst hin; exact g3 j hj
      · exact Nat.le_trans g1 (h3 i j (by omega) hj)
theorem mm_V (f : Nat → Nat → Nat) (n m : Nat) : VL f n m (mm f m 99 n) := mm_l f m 99 n
theorem VL.cmp {F G : Nat → Nat → Nat} {n m n2 m2 v w : Nat} (h : VL F n m v) (g : VL G n2 m2 w) (q : ∀ i j, i < n2 → j < m2 → G i j < 99 → ∃ i2 j2, i2 < n ∧ j2 < m ∧ F i2 j2 ≤ G i j) : v ≤ w := by
  by_cases hw : w = 99
  · have := h.1; omega
  · obtain ⟨i, j, hi, hj, e⟩ := g.2.1.resolve_left hw
    have hg := g.1
    obtain ⟨i2, j2, k1, k2, k3⟩ := q i j hi hj (by omega)
    have := h.2.2 i2 j2 k1 k2
    omega
def dsF (own : Nat → Int32) (a b p q : Nat) : Nat := if own p = nI a ∧ own q = nI b then stp p q else 99
theorem ds_V (own : Nat → Int32) (a b : Nat) : VL (dsF own a b) 128 128 (dsN own a b) := by
  have e : dsN own a b = mn (fun p => mn (fun q => dsF own a b p q) 99 128) 99 128 := rfl
  rw [e]
  obtain ⟨h1, h2, h3⟩ := mn_l (fun p => mn (fun q => dsF own a b p q) 99 128) 99 128
  refine ⟨h1, ?_, fun i j hi hj => Nat.le_trans (h3 i hi) ((mn_l (fun q => dsF own a b i q) 99 128).2.2 j hj)⟩
  rcases h2 with h2 | ⟨i, hi, h2⟩
  · exact .inl h2
  · rcases (mn_l (fun q => dsF own a b i q) 99 128).2.1 with g | ⟨j, hj, g⟩
    · exact .inl (h2.trans g)
    · exact .inr ⟨i, j, hi, hj, h2.trans g⟩
theorem stp_comm (p q : Nat) : stp p q = stp q p := by
  unfold stp
  have h1 : (if p / 16 < q / 16 then q / 16 - p / 16 else p / 16 - q / 16) = (if q / 16 < p / 16 then p / 16 - q / 16 else q / 16 - p / 16) := by split <;> split <;> omega
  have h2 : (if p % 16 < q % 16 then q % 16 - p % 16 else p % 16 - q % 16) = (if q % 16 < p % 16 then p % 16 - q % 16 else q % 16 - p % 16) := by split <;> split <;> omega
  rw [h1, h2]
theorem stp_rc (r c s d : Nat) (hc : c < 16) (hd : d < 16) : stp (16 * r + c) (16 * s + d) = (if r < s then s - r else r - s) + cl16 c d := by
  have e1 : (16 * r + c) / 16 = r := by omega
  have e2 : (16 * s + d) / 16 = s := by omega
  have e3 : (16 * r + c) % 16 = c := by omega
  have e4 : (16 * s + d) % 16 = d := by omega
  unfold stp cl16
  rw [e1, e2, e3, e4]
theorem stp_lt {p q : Nat} (hp : p < 128) (hq : q < 128) : stp p q < 16 := by
  have h := stp_rc (p / 16) (p % 16) (q / 16) (q % 16) (Nat.mod_lt _ (by decide)) (Nat.mod_lt _ (by decide))
  rw [show 16 * (p / 16) + p % 16 = p by omega, show 16 * (q / 16) + q % 16 = q by omega] at h
  have h8 := cl_8 (p % 16) (Nat.mod_lt _ (by decide)) (q % 16) (Nat.mod_lt _ (by decide))
  rw [h]
  split <;> omega
theorem ds_comm (own : Nat → Int32) (a b : Nat) : dsN own a b = dsN own b a := by
  apply Nat.le_antisymm
  · refine (ds_V own a b).cmp (ds_V own b a) fun i j hi hj _ => ⟨j, i, hj, hi, ?_⟩
    unfold dsF
    rw [stp_comm j i]
    simp only [and_comm]
    exact Nat.le_refl _
  · refine (ds_V own b a).cmp (ds_V own a b) fun i j hi hj _ => ⟨j, i, hj, hi, ?_⟩
    unfold dsF
    rw [stp_comm j i]
    simp only [and_comm]
    exact Nat.le_refl _
/-! the class's measure -/
theorem IvG.mask {M : Mem} (h : IvG M) {l r : Nat} (hl : l < 6) (hr : r < 8) : f_X2_maskOf (nI l) (nI r) M = some (nI (mkN (M 2) l r)) := by
  have e1 : nI l * 8 + nI r = nI (l * 8 + r) := by
    have : nI l * 8 = nI (l * 8) := pk_mul l 8
    rw [this, nI_add]
  have p1 := inb_t (k := l * 8 + r) (n := 48) (by omega) (by decide)
  have e2 := h.2.1 l r hl hr
  rw [show 8 * l + r = l * 8 + r by omega] at e2
  simp only [f_X2_maskOf, e1, p1, if_true, nI_cl (show l * 8 + r < 2 ^ 31 by omega), e2]
theorem jabs_nI {a b : Nat} (ha : a < 2 ^ 30) (hb : b < 2 ^ 30) : jabs (nI a - nI b) = nI (if a < b then b - a else a - b) := by
  unfold jabs
  by_cases h : a < b
  · have h1 := pk_sneg hb h
    have h2 : ¬ 0 ≤ nI a - nI b := fun q => by
      rw [i_le] at q
      rw [i_lt] at h1
      omega
    rw [if_neg h2, if_pos h, ← pk_sub (show a ≤ b by omega)]
    apply Int32.toBitVec_inj.mp
    simp
  · have h1 : nI a - nI b = nI (a - b) := pk_sub (by omega)
    rw [h1, if_pos (nI_pos' (by omega)), if_neg h]
def cA (a b : Nat) : Nat := match f_X2_columnsApart (nI a) (nI b) with | some v => v.toNatClampNeg | none => 99
theorem cA_eq {a b : Nat} (ha : a < 65536) (hb : b < 65536) (ha0 : a ≠ 0) (hb0 : b ≠ 0) : f_X2_columnsApart (nI a) (nI b) = some (nI (cA a b)) ∧ cA a b ≤ 8 ∧ (∃ c d, c < 16 ∧ d < 16 ∧ a.testBit c = true ∧ b.testBit d = true ∧ cl16 c d = cA a b) ∧ ∀ c d, a.testBit c = true → b.testBit d = true → cA a b ≤ cl16 c d := by
  obtain ⟨v, h1, h2, h3, h4⟩ := c_cols ha hb ha0 hb0
  have e : cA a b = v := by unfold cA; rw [h1]; exact nI_cl (by omega)
  rw [e]
  exact ⟨h1, h2, h3, h4⟩
def msF (own : Nat → Int32) (a b r s : Nat) : Nat := if mkN own a r = 0 ∨ mkN own b s = 0 then 99 else (if r < s then s - r else r - s) + cA (mkN own a r) (mkN own b s)
theorem ms_ds (own : Nat → Int32) (a b : Nat) : mm (msF own a b) 8 99 8 = dsN own a b := by
  have hV := mm_V (msF own a b) 8 8
  apply Nat.le_antisymm
  · refine hV.cmp (ds_V own a b) fun p q hp hq hlt => ?_
    unfold dsF at hlt ⊢
    by_cases h : own p = nI a ∧ own q = nI b
    · rw [if_pos h]
      refine ⟨p / 16, q / 16, by omega, by omega, ?_⟩
      have b1 : (mkN own a (p / 16)).testBit (p % 16) = true := by
        rw [mk_bit, show 16 * (p / 16) + p % 16 = p by omega]
        simp [h.1, Nat.mod_lt]
      have b2 : (mkN own b (q / 16)).testBit (q % 16) = true := by
        rw [mk_bit, show 16 * (q / 16) + q % 16 = q by omega]
        simp [h.2, Nat.mod_lt]
      have n1 : mkN own a (p / 16) ≠ 0 := fun z => by rw [z, Nat.zero_testBit] at b1; cases b1
      have n2 : mkN own b (q / 16) ≠ 0 := fun z => by rw [z, Nat.zero_testBit] at b2; cases b2
      obtain ⟨-, -, -, h4⟩ := cA_eq (mk_lt own a (p / 16)) (mk_lt own b (q / 16)) n1 n2
      have h5 := h4 _ _ b1 b2
      have h6 := stp_rc (p / 16) (p % 16) (q / 16) (q % 16) (Nat.mod_lt _ (by decide)) (Nat.mod_lt _ (by decide))
      rw [show 16 * (p / 16) + p % 16 = p by omega, show 16 * (q / 16) + q % 16 = q by omega] at h6
      unfold msF
      rw [if_neg (by simp [n1, n2]), h6]
      omega
    · rw [if_neg h] at hlt
      omega
  · refine (ds_V own a b).cmp hV fun r s hr hs hlt => ?_
    unfold msF at hlt ⊢
    by_cases h : mkN own a r = 0 ∨ mkN own b s = 0
    · rw [if_pos h] at hlt
      omega
    · rw [if_neg h]
      have n1 : mkN own a r ≠ 0 := fun z => h (.inl z)
      have n2 : mkN own b s ≠ 0 := fun z => h (.inr z)
      obtain ⟨-, -, ⟨c, d, hc, hd, g1, g2, g3⟩, -⟩ := cA_eq (mk_lt own a r) (mk_lt own b s) n1 n2
      rw [mk_bit, decide_eq_true_eq] at g1 g2
      refine ⟨16 * r + c, 16 * s + d, by omega, by omega, ?_⟩
      unfold dsF
      rw [if_pos ⟨g1.2, g2.2⟩, stp_rc r c s d hc hd, g3]
      exact Nat.le_refl _
theorem c_measure {M : Mem} (h : IvG M) {a b : Nat} (ha : a < 6) (hb : b < 6) : f_X2_measure (nI a) (nI b) M = some (nI (dsN (M 2) a b)) := by
  have bd : ∀ n, mm (msF (M 2) a b) 8 99 n ≤ 99 := fun n => (mm_l _ 8 99 n).1
  have bd2 : ∀ n j, mn (msF (M 2) a b n) (mm (msF (M 2) a b) 8 99 n) j ≤ 99 := fun n j => Nat.le_trans (mn_l _ _ j).1 (bd n)
  have inner : ∀ r, r < 8 → it (f_X2_measure_b25 (nI b) (nI (mkN (M 2) a r)) M) FU (nI (mm (msF (M 2) a b) 8 99 r), nI r, 0) = some (nI (mm (msF (M 2) a b) 8 99 (r + 1)), nI r) := by
    intro r hr
    have l1 := mk_lt (M 2) a r
    by_cases h0 : mkN (M 2) a r = 0
    · have e0 : mm (msF (M 2) a b) 8 99 (r + 1) = mm (msF (M 2) a b) 8 99 r := by
        have e : mm (msF (M 2) a b) 8 99 (r + 1) = mn (msF (M 2) a b r) (mm (msF (M 2) a b) 8 99 r) 8 := rfl
        rw [e]
        obtain ⟨g1, g2, -⟩ := mn_l (msF (M 2) a b r) (mm (msF (M 2) a b) 8 99 r) 8
        rcases g2 with g2 | ⟨j, -, g2⟩
        · exact g2
        · have : msF (M 2) a b r j = 99 := by unfold msF; rw [if_pos (.inl h0)]
          have := bd r
          omega
      have z : nI (mkN (M 2) a r) = 0 := by rw [h0]; rfl
      refine it_N (fun _ => (nI (mm (msF (M 2) a b) 8 99 r), nI r, 0)) 0 (by decide) (fun i hi => absurd hi (Nat.not_lt_zero i)) ?_ rfl
      simp only [f_X2_measure_b25, z, if_true, e0]
    · have z : ¬ nI (mkN (M 2) a r) = 0 := nI_ne0 (by omega) (by omega)
      refine it_N (fun j => (nI (mn (msF (M 2) a b r) (mm (msF (M 2) a b) 8 99 r) j), nI r, nI j)) 8 (by decide) ?_ ?_ rfl
      · intro j hj
        have a1 : ¬ (8 : Int32) ≤ nI j := nI_ge (b := 8) hj (by decide)
        have l2 := mk_lt (M 2) b j
        have e : mn (msF (M 2) a b r) (mm (msF (M 2) a b) 8 99 r) (j + 1) = min (mn (msF (M 2) a b r) (mm (msF (M 2) a b) 8 99 r) j) (msF (M 2) a b r j) := rfl
        have hbd := bd2 r j
        by_cases hz : mkN (M 2) b j = 0
        · have z2 : nI (mkN (M 2) b j) = 0 := by rw [hz]; rfl
          have e3 : msF (M 2) a b r j = 99 := by unfold msF; rw [if_pos (.inr hz)]
          rw [e3, Nat.min_eq_left hbd] at e
          simp only [f_X2_measure_b25, z, if_false, a1, h.mask hb hj, Option.bind_some, z2, if_true, nI_1, e]
        · have z2 : ¬ nI (mkN (M 2) b j) = 0 := nI_ne0 (by omega) (by omega)
          obtain ⟨k1, k2, -, -⟩ := cA_eq l1 l2 h0 hz
          have e3 : msF (M 2) a b r j = (if r < j then j - r else r - j) + cA (mkN (M 2) a r) (mkN (M 2) b j) := by unfold msF; rw [if_neg (by simp [h0, hz])]
          have hs : (if r < j then j - r else r - j) < 8 := by split <;> omega
          rw [e3] at e
          simp only [f_X2_measure_b25, z, if_false, a1, h.mask hb hj, Option.bind_some, z2, k1, jabs_nI (show r < 2 ^ 30 by omega) (show j < 2 ^ 30 by omega), nI_add, nI_1, e]
          rw [jmin_nI (by omega) (by omega)]
      · have a1 : (8 : Int32) ≤ nI 8 := by decide
        simp only [f_X2_measure_b25, z, if_false, a1, if_true]
        rfl
  have hit := it_N (b := f_X2_measure_b6 (nI a) (nI b) M) (r := nI (mm (msF (M 2) a b) 8 99 8)) (fun r => (nI (mm (msF (M 2) a b) 8 99 r), nI r)) 8 (by decide) (by
    intro r hr
    have a1 : ¬ (8 : Int32) ≤ nI r := nI_ge (b := 8) hr (by decide)
    simp only [f_X2_measure_b6, a1, if_false, h.mask ha hr, Option.bind_some, inner r hr, nI_1]) (by
    have a1 : (8 : Int32) ≤ nI 8 := by decide
    simp only [f_X2_measure_b6, a1, if_true]) (s0 := (99, 0)) rfl
  simp [f_X2_measure, hit, ms_ds]
