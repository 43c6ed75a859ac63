theorem cnt_congr {p q : Nat → Prop} [DecidablePred p] [DecidablePred q] : ∀ n, (∀ i, i < n → (p i ↔ q i)) → cnt p n = cnt q n
  | 0, _ => rfl
  | n + 1, h => by
    rw [cnt_s, cnt_s, cnt_congr n fun i hi => h i (by omega)]
    congr 1
    by_cases x : p n
    · rw [if_pos x, if_pos ((h n (by omega)).mp x)]
    · rw [if_neg x, if_neg (fun w => x ((h n (by omega)).mpr w))]
theorem cnt_add (p : Nat → Prop) [DecidablePred p] (a : Nat) : ∀ b, cnt p (a + b) = cnt p a + cnt (fun i => p (a + i)) b
  | 0 => rfl
  | b + 1 => by
    have ih := cnt_add p a b
    rw [cnt_s, ← Nat.add_assoc a b 1, cnt_s, ih]
    omega
theorem pc_8 : ∀ l, l < 256 → pcN l = cnt (fun c => l.testBit c = true) 8 := by decide +kernel
theorem pc_cnt {m : Nat} (hm : m < 65536) : pcN m = cnt (fun c => m.testBit c = true) 16 := by
  have h1 := pc_two (m / 256) (by omega) (m % 256) (by omega)
  rw [show 256 * (m / 256) + m % 256 = m by omega, pc_8 _ (show m / 256 < 256 by omega), pc_8 _ (show m % 256 < 256 by omega)] at h1
  have h2 := cnt_add (fun c => m.testBit c = true) 8 8
  rw [show (8 + 8 : Nat) = 16 from rfl] at h2
  rw [h1, h2, Nat.add_comm]
  congr 1
  · refine cnt_congr 8 fun i hi => ?_
    have : (m % 2 ^ 8).testBit i = (decide (i < 8) && m.testBit i) := Nat.testBit_mod_two_pow m 8 i
    rw [show (256 : Nat) = 2 ^ 8 from rfl, this]
    simp [hi]
  · refine cnt_congr 8 fun i hi => ?_
    rw [show (256 : Nat) = 2 ^ 8 from rfl, Nat.testBit_div_two_pow, Nat.add_comm]
/-- the cells of a land -/
theorem mk_cnt (own : Nat → Int32) (l r : Nat) : pcN (mkN own l r) = cnt (fun c => own (16 * r + c) = nI l) 16 := by
  rw [pc_cnt (mk_lt own l r)]
  refine cnt_congr 16 fun i hi => ?_
  rw [mk_bit]
  simp [hi]
theorem c_size {M : Mem} (h : IvC M) {l : Nat} (hl : l < 6) : f_X2_sizeOf (nI l) M = some (nI (cnt (fun c => M 2 c = nI l) 128)) := by
  have mask : ∀ r, r < 8 → f_X2_maskOf (nI l) (nI r) M = some (nI (mkN (M 2) l r)) := by
    intro r hr
    have e1 : nI l * 8 + nI r = nI (l * 8 + r) := by
      have : nI l * 8 = nI (l * 8) := pk_mul l 8
      rw [this, nI_add]
    have p1 := inb_t (k := l * 8 + r) (n := 48) (by omega) (by decide)
    have e2 := h.2.1 l r hl hr
    rw [show 8 * l + r = l * 8 + r by omega] at e2
    simp only [f_X2_maskOf, e1, p1, if_true, nI_cl (show l * 8 + r < 2 ^ 31 by omega), e2]
  have hit := it_N (b := f_X2_sizeOf_b4 (nI l) M) (r := nI (cnt (fun c => M 2 c = nI l) 128)) (fun r => (nI (cnt (fun c => M 2 c = nI l) (16 * r)), nI r)) 8 (by decide) (by
    intro r hr
    have a1 : ¬ (8 : Int32) ≤ nI r := nI_ge (b := 8) hr (by decide)
    have e := cnt_add (fun c => M 2 c = nI l) (16 * r) 16
    rw [show 16 * r + 16 = 16 * (r + 1) by omega] at e
    simp only [f_X2_sizeOf_b4, a1, if_false, mask r hr, Option.bind_some, pc_I (mk_lt (M 2) l r), nI_add, nI_1, e, mk_cnt]) (by
    have a1 : (8 : Int32) ≤ nI 8 := by decide
    simp only [f_X2_sizeOf_b4, a1, if_true]) (s0 := (0, 0)) rfl
  simp [f_X2_sizeOf, hit]
theorem m_cells {M : Mem} (h : ∀ c, c < 128 → M 133 c = M 2 c) (a : Int32) : f_X12_cellsOf a M = some (nI (cnt (fun c => M 2 c = a) 128)) := by
  have hit := it_N (b := f_X12_cellsOf_b4 a M) (r := nI (cnt (fun c => M 2 c = a) 128)) (fun r => (nI (cnt (fun c => M 2 c = a) r), nI r)) 128 (by decide) (by
    intro r hr
    have a1 : ¬ (128 : Int32) ≤ nI r := nI_ge (b := 128) hr (by decide)
    have p1 := inb_t (k := r) (n := 128) hr (by decide)
    have p2 := nI_cl (show r < 2 ^ 31 by omega)
    have o := h r hr
    simp only [f_X12_cellsOf_b4, a1, if_false, p1, if_true, p2, o, nI_1, cnt_s]
    by_cases q : M 2 r = a <;> simp only [q, if_true, if_false, Option.bind_some, bN_t, bN_f, Nat.add_zero]) (by
    have a1 : (128 : Int32) ≤ nI 128 := by decide
    simp only [f_X12_cellsOf_b4, a1, if_true]) (s0 := (0, 0)) rfl
  simp [f_X12_cellsOf, hit]
/-- over all six lands -/
theorem cnt_lands {own : Nat → Int32} : ∀ n, (∀ c, c < n → own c = -1 ∨ ∃ l, l < 6 ∧ own c = nI l) → sm (fun l => cnt (fun c => own c = nI l) n) 6 + cnt (fun c => own c = -1) n = n
  | 0, _ => rfl
  | n + 1, h => by
    have ih := cnt_lands n fun c hc => h c (by omega)
    have e : ∀ k, k ≤ 6 → sm (fun l => cnt (fun c => own c = nI l) (n + 1)) k = sm (fun l => cnt (fun c => own c = nI l) n) k + cnt (fun l => own n = nI l) k := by
      intro k
      induction k with
      | zero => intro _; rfl
      | succ k ihk =>
        intro hk
        have hk2 := ihk (by omega)
        show sm _ k + cnt (fun c => own c = nI k) (n + 1) = sm _ k + cnt (fun c => own c = nI k) n + cnt (fun l => own n = nI l) (k + 1)
        rw [cnt_s, cnt_s, hk2]
        omega
    rw [e 6 (Nat.le_refl _), cnt_s (fun c => own c = -1) n]
    have one : ∀ l0, own n = nI l0 → l0 < 6 → ∀ k, k ≤ 6 → cnt (fun l => own n = nI l) k = if l0 < k then 1 else 0 := by
      intro l0 e0 h0 k
      induction k with
      | zero => intro _; rfl
      | succ k ihk =>
        intro hk
        rw [cnt_s, ihk (by omega)]
        by_cases q : l0 = k
        · subst q
          rw [if_pos e0, if_neg (Nat.lt_irrefl _), if_pos (by omega)]
        · rw [if_neg (fun w => q (nI_inj (by omega) (by omega) (e0.symm.trans w)))]
          by_cases q2 : l0 < k
          · rw [if_pos q2, if_pos (by omega)]
          · rw [if_neg q2, if_neg (by omega)]
    rcases h n (by omega) with h0 | ⟨l0, h0, e0⟩
    · rw [if_pos h0]
      have : cnt (fun l => own n = nI l) 6 = 0 := (cnt_0 _ 6).mpr fun i hi w => nI_m1 (show i < 2 ^ 31 by omega) (w.symm.trans h0)
      omega
    · have : ¬ own n = -1 := by rw [e0]; exact nI_m1 (by omega)
      rw [if_neg this, one l0 e0 h0 6 (Nat.le_refl _), if_pos h0]
      omega
theorem c_sizeAll {M : Mem} (h : IvC M) : ∃ u, u ≤ 128 ∧ cnt (fun c => M 2 c = -1) 128 = u ∧ f_X2_sizeOfAll M = some (nI (128 - u)) := by
  have e := cnt_lands 128 h.1
  have hle := cnt_le (fun c => M 2 c = -1) 128
  refine ⟨_, hle, rfl, ?_⟩
  have hit := it_N (b := f_X2_sizeOfAll_b4 M) (r := nI (sm (fun l => cnt (fun c => M 2 c = nI l) 128) 6)) (fun r => (nI (sm (fun l => cnt (fun c => M 2 c = nI l) 128) r), nI r)) 6 (by decide) (by
    intro r hr
    have a1 : ¬ (6 : Int32) ≤ nI r := nI_ge (b := 6) hr (by decide)
    simp only [f_X2_sizeOfAll_b4, a1, if_false, c_size h hr, Option.bind_some, nI_add, nI_1]
    rfl) (by
    have a1 : (6 : Int32) ≤ nI 6 := by decide
    simp only [f_X2_sizeOfAll_b4, a1, if_true]) (s0 := (0, 0)) rfl
  have e2 : sm (fun l => cnt (fun c => M 2 c = nI l) 128) 6 = 128 - cnt (fun c => M 2 c = -1) 128 := by omega
  rw [e2] at hit
  simp [f_X2_sizeOfAll, hit]
theorem st_count : ST_count Inv := by
  intro a1 M hI
  obtain ⟨hG, ⟨n1, l1, d1, e1, -⟩, ⟨n6, l6, d6, e6, -⟩, hL, ⟨n4, l4, d4, e4, -⟩, ⟨-, n5, l5, d5, e5, -⟩, hF⟩ := id hI
  obtain ⟨u, hu, eu, k0⟩ := c_sizeAll hG.C
  have g0 := m_cells (fun c hc => (hG.1 c hc).1) (-1)
  rw [eu] at g0
  have s0 : (128 : Int32) - nI u = nI (128 - u) := pk_sub (a := 128) hu
  obtain ⟨n2, l2, d2, e2, -⟩ := hL 0 (by decide)
  obtain ⟨n3, l3, d3, e3, -⟩ := hL 1 (by decide)
  have f2 : M 12 2 = nI n2 := d2
  have f3 : M 63 2 = nI n3 := d3
  have z0 : Int32.toNatClampNeg 0 = 0 := rfl
  have z1 : Int32.toNatClampNeg 1 = 1 := rfl
  by_cases q0 : a1 = 0
  · subst q0
    refine ob_mk (z := nI (128 - u)) (by simp [f_X11_count, k0]) ?_
    exact ob_mk (z := nI (128 - u)) (by simp [f_X12_count, f_X12_countOf, g0, s0]) ⟨rfl, hI⟩
  by_cases q1 : a1 = 1
  · subst q1
    refine ob_mk (z := nI n1) (by simp [f_X11_count, f_X5_size, d1]) ?_
    exact ob_mk (z := nI n1) (by simp [f_X12_count, f_X12_countOf, e1]) ⟨rfl, hI⟩
  by_cases q2 : a1 = 2
  · subst q2
    refine ob_mk (z := nI n2) (by simp [f_X11_count, f_X3_size, f2]) ?_
    exact ob_mk (z := nI n2) (by simp [f_X12_count, f_X12_countOf, z0, e2]) ⟨rfl, hI⟩
  by_cases q3 : a1 = 3
  · subst q3
    refine ob_mk (z := nI n3) (by simp [f_X11_count, f_X3_size, f3]) ?_
    exact ob_mk (z := nI n3) (by simp [f_X12_count, f_X12_countOf, z1, e3]) ⟨rfl, hI⟩
  by_cases q4 : a1 = 4
  · subst q4
    refine ob_mk (z := nI n4) (by simp [f_X11_count, f_X0_size, d4]) ?_
    exact ob_mk (z := nI n4) (by simp [f_X12_count, f_X12_countOf, e4]) ⟨rfl, hI⟩
  by_cases q5 : a1 = 5
  · subst q5
    refine ob_mk (z := nI n5) (by simp [f_X11_count, f_X9_size, d5]) ?_
    exact ob_mk (z := nI n5) (by simp [f_X12_count, f_X12_countOf, e5]) ⟨rfl, hI⟩
  by_cases q6 : a1 = 6
  · subst q6
    refine ob_mk (z := nI n6) (by simp [f_X11_count, f_X6_size, d6]) ?_
    exact ob_mk (z := nI n6) (by simp [f_X12_count, f_X12_countOf, e6]) ⟨rfl, hI⟩
  refine ob_mk (z := -102) (by simp [f_X11_count, q0, q1, q2, q3, q4, q5, q6]) ?_
  exact ob_mk (z := -102) (by simp [f_X12_count, f_X12_countOf, q0, q1, q2, q3, q4, q5, q6]) ⟨rfl, hI⟩
