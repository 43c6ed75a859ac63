theorem low_N {m k : Nat} (hk : k < 16) (hm : m < 65536) (hb : m.testBit k = true) (hl : ∀ j, j < k → m.testBit j = false) : (m ^^^ (2 ^ 32 - 1)) &&& (m - 1) = 2 ^ k - 1 := by
  have h0 : m % 2 ^ k = 0 := by
    apply Nat.eq_of_testBit_eq
    intro j
    rw [Nat.testBit_mod_two_pow, Nat.zero_testBit]
    by_cases hj : j < k
    · simp [hl j hj]
    · simp [hj]
  have hpos : 0 < 2 ^ k := Nat.two_pow_pos k
  have hq : (m / 2 ^ k).testBit 0 = true := by
    rw [Nat.testBit_div_two_pow, Nat.zero_add]
    exact hb
  have hodd : m / 2 ^ k % 2 = 1 := by
    rw [Nat.testBit_zero, decide_eq_true_eq] at hq
    exact hq
  have hm2 : m = 2 ^ k * (m / 2 ^ k) := by
    have := Nat.div_add_mod m (2 ^ k)
    omega
  generalize hqe : m / 2 ^ k = q at *
  have hm1 : m - 1 = 2 ^ k * (q - 1) + (2 ^ k - 1) := by
    have : 2 ^ k * q = 2 ^ k * (q - 1) + 2 ^ k := by
      have h1 : q = q - 1 + 1 := by omega
      conv => lhs; rw [h1, Nat.mul_add, Nat.mul_one]
    omega
  apply Nat.eq_of_testBit_eq
  intro j
  rw [Nat.testBit_and, Nat.testBit_xor, Nat.testBit_two_pow_sub_one, Nat.testBit_two_pow_sub_one, hm1, Nat.testBit_two_pow_mul_add _ (by omega), Nat.testBit_two_pow_sub_one]
  by_cases hj : j < k
  · have : j < 32 := by omega
    simp [hj, hl j hj, this]
  · simp only [hj, if_false, decide_false]
    have e : m.testBit j = q.testBit (j - k) := by
      rw [← hqe, Nat.testBit_div_two_pow, Nat.sub_add_cancel (by omega)]
    rw [e]
    rcases Nat.eq_zero_or_pos (j - k) with h1 | h1
    · rw [h1, Nat.testBit_zero, Nat.testBit_zero]
      have : ¬ (q - 1) % 2 = 1 := by omega
      simp [this]
    · obtain ⟨i, hi⟩ : ∃ i, j - k = i + 1 := ⟨j - k - 1, by omega⟩
      rw [hi, Nat.testBit_succ, Nat.testBit_succ, show (q - 1) / 2 = q / 2 by omega]
      by_cases h32 : j < 32
      · simp [h32]
      · have : (q / 2).testBit i = false := by
          rw [← Nat.testBit_succ, show Nat.succ i = j - k from hi.symm, ← e]
          exact Nat.testBit_lt_two_pow (Nat.lt_of_lt_of_le hm (Nat.pow_le_pow_right (n := 2) (i := 16) (by decide) (by omega)))
        simp [this]
theorem low_I {m k : Nat} (hk : k < 16) (hm : m < 65536) (hb : m.testBit k = true) (hl : ∀ j, j < k → m.testBit j = false) : (nI m ^^^ (-1)) &&& (nI m - 1) = nI (2 ^ k - 1) := by
  have hpos : 0 < m := Nat.pos_of_ne_zero fun z => by rw [z, Nat.zero_testBit] at hb; cases hb
  have e3 : (-1 : Int32) = nI (2 ^ 32 - 1) := by decide
  have e4 : nI m - 1 = nI (m - 1) := pk_sub (b := 1) hpos
  rw [e3, e4, vb_xor (by omega) (by decide), vb_and (Nat.xor_lt_two_pow (by omega) (by decide)) (by omega), low_N hk hm hb hl]
def ntzG (x : Int32) : Option Int32 :=
  if 0 < x then
    Option.bind (if x ≤ 65536 then some (x, (1 : Int32)) else some ((jushr x 16), (1 + 16))) fun ((x1, x2) : (Int32 × Int32)) =>
    Option.bind (if x1 ≤ 256 then some (x1, x2) else some ((jushr x1 8), (x2 + 8))) fun ((x3, x4) : (Int32 × Int32)) =>
    Option.bind (if x3 ≤ 16 then some (x3, x4) else some ((jushr x3 4), (x4 + 4))) fun ((x5, x6) : (Int32 × Int32)) =>
    Option.bind (if x5 ≤ 4 then some (x5, x6) else some ((jushr x5 2), (x6 + 2))) fun ((x7, x8) : (Int32 × Int32)) =>
    some (x8 + (jushr x7 1))
  else
    some (x &&& 32)
theorem ntz_G (a : Int32) : f_J6_numberOfTrailingZeros_0f7a4 a = ntzG ((a ^^^ (-1)) &&& (a - 1)) := rfl
theorem ntz_k : ∀ k, k < 16 → ntzG (nI (2 ^ k - 1)) = some (nI k) := by decide +kernel
theorem c_ntz {m k : Nat} (hk : k < 16) (hm : m < 65536) (hb : m.testBit k = true) (hl : ∀ j, j < k → m.testBit j = false) : f_J6_numberOfTrailingZeros_0f7a4 (nI m) = some (nI k) := by
  rw [ntz_G, low_I hk hm hb hl, ntz_k k hk]
theorem IvC.mask {M : Mem} (h : IvC M) {l r : Nat} (hl : l < 6) (hr : r < 8) : f_X2_maskOf (nI l) (nI r) M = some (nI (mkN (M 2) l r)) := by
  have e1 : nI l * 8 + nI r = nI (l * 8 + r) := by
    have : nI l * 8 = nI (l * 8) := pk_mul l 8
    rw [this, nI_add]
  have p1 := inb_t (k := l * 8 + r) (n := 48) (by omega) (by decide)
  have e2 := h.2.1 l r hl hr
  rw [show 8 * l + r = l * 8 + r by omega] at e2
  simp only [f_X2_maskOf, e1, p1, if_true, nI_cl (show l * 8 + r < 2 ^ 31 by omega), e2]
theorem mk_zero {own : Nat → Int32} {l r : Nat} (h : ∀ j, j < 16 → ¬ own (16 * r + j) = nI l) : mkN own l r = 0 := by
  apply Nat.eq_of_testBit_eq
  intro j
  rw [mk_bit, Nat.zero_testBit]
  by_cases hj : j < 16
  · simp [h j hj]
  · simp [hj]
theorem st_least {M : Mem} (h : IvG M) {l : Nat} (hl : l < 6) : ∃ v, f_X2_leastCellOf (nI l) M = some v ∧ f_X12_leastCell (nI l) M = some v := by
  have stepM : ∀ i, i < 128 → ¬ M 2 i = nI l → f_X12_leastCell_b2 (nI l) M (nI i) = some (.inl (nI (i + 1))) := by
    intro i hi hne
    have a1 : ¬ (128 : Int32) ≤ nI i := nI_ge (b := 128) hi (by decide)
    have p1 := inb_t (k := i) (n := 128) hi (by decide)
    simp only [f_X12_leastCell_b2, a1, if_false, p1, if_true, nI_cl (show i < 2 ^ 31 by omega), (h.1 i hi).1, hne, nI_1]
  have stepC : ∀ i, i < 8 → mkN (M 2) l i = 0 → f_X2_leastCellOf_b2 (nI l) M (nI i) = some (.inl (nI (i + 1))) := by
    intro i hi hz
    have a1 : ¬ (8 : Int32) ≤ nI i := nI_ge (b := 8) hi (by decide)
    have z : nI 0 = 0 := rfl
    simp only [f_X2_leastCellOf_b2, a1, if_false, h.C.mask hl hi, Option.bind_some, hz, z, if_true, nI_1]
  rcases fst_of (fun c => M 2 c = nI l) 128 with ⟨N, hN, h1, h2⟩ | hall
  · refine ⟨nI N, ?_, ?_⟩
    · have hb : (mkN (M 2) l (N / 16)).testBit (N % 16) = true := by
        rw [mk_bit, show 16 * (N / 16) + N % 16 = N by omega]
        simp [h1, Nat.mod_lt]
      have hlow : ∀ j, j < N % 16 → (mkN (M 2) l (N / 16)).testBit j = false := by
        intro j hj
        rw [mk_bit]
        have := h2 (16 * (N / 16) + j) (by omega)
        simp [this]
      have hnz : ¬ nI (mkN (M 2) l (N / 16)) = 0 := by
        refine nI_ne0 (Nat.pos_of_ne_zero fun z => ?_) (by have := mk_lt (M 2) l (N / 16); omega)
        rw [z, Nat.zero_testBit] at hb
        cases hb
      have e : nI (N / 16) * 16 + nI (N % 16) = nI N := by
        have : nI (N / 16) * 16 = nI (N / 16 * 16) := pk_mul _ 16
        rw [this, nI_add, show N / 16 * 16 + N % 16 = N by omega]
      have hit := it_N (b := f_X2_leastCellOf_b2 (nI l) M) (r := .inr (nI N)) (fun i => nI i) (N / 16) (by omega) (fun i hi => stepC i (by omega) (mk_zero fun j hj => h2 _ (by omega))) (by
        have a1 : ¬ (8 : Int32) ≤ nI (N / 16) := nI_ge (b := 8) (by omega) (by decide)
        simp only [f_X2_leastCellOf_b2, a1, if_false, h.C.mask hl (show N / 16 < 8 by omega), Option.bind_some, hnz, c_ntz (Nat.mod_lt N (by decide)) (mk_lt (M 2) l (N / 16)) hb hlow, e]) (s0 := 0) rfl
      simp [f_X2_leastCellOf, hit]
    · have hit := it_N (b := f_X12_leastCell_b2 (nI l) M) (r := .inr (nI N)) (fun i => nI i) N (by omega) (fun i hi => stepM i (by omega) (h2 i hi)) (by
        have a1 : ¬ (128 : Int32) ≤ nI N := nI_ge (b := 128) hN (by decide)
        have p1 := inb_t (k := N) (n := 128) hN (by decide)
        simp only [f_X12_leastCell_b2, a1, if_false, p1, if_true, nI_cl (show N < 2 ^ 31 by omega), (h.1 N hN).1, h1]) (s0 := 0) rfl
      simp [f_X12_leastCell, hit]
  · refine ⟨-1, ?_, ?_⟩
    · have hit := it_N (b := f_X2_leastCellOf_b2 (nI l) M) (r := .inl ()) (fun i => nI i) 8 (by omega) (fun i hi => stepC i hi (mk_zero fun j hj => hall _ (by omega))) (by
        have a1 : (8 : Int32) ≤ nI 8 := by decide
        simp only [f_X2_leastCellOf_b2, a1, if_true]) (s0 := 0) rfl
      simp [f_X2_leastCellOf, hit]
    · have hit := it_N (b := f_X12_leastCell_b2 (nI l) M) (r := .inl ()) (fun i => nI i) 128 (by omega) (fun i hi => stepM i hi (hall i hi)) (by
        have a1 : (128 : Int32) ≤ nI 128 := by decide
        simp only [f_X12_leastCell_b2, a1, if_true]) (s0 := 0) rfl
      simp [f_X12_leastCell, hit]
/-- the owner of the i-th mark's cell -/
def lo (M : Mem) (i : Nat) : Int32 := M 2 (M 7 i).toNatClampNeg
theorem st_many {M : Mem} (h : IvG M) (hM : IvM M) (a : Int32) : ∃ v, f_X5_howManyOn a M = some v ∧ f_X12_marksOf a M = some v := by
  obtain ⟨n, hn, e1, e2, hc⟩ := hM
  refine ⟨nI (cnt (fun i => lo M i = a) n), ?_, ?_⟩
  · have hit := it_N (b := f_X5_howManyOn_b4 a M) (r := nI (cnt (fun i => lo M i = a) n)) (fun i => (nI (cnt (fun i => lo M i = a) i), nI i)) n (by omega) (by
      intro i hi
      have a1 : ¬ nI n ≤ nI i := nI_ge hi (by omega)
      have p1 := inb_t (k := i) (n := 40) (by omega) (by decide)
      obtain ⟨-, -, -, -, ⟨c, k5, k6, -⟩, -⟩ := hc i hi
      have p2 := inb_t (k := c) (n := 128) k5 (by decide)
      have p3 := nI_cl (show c < 2 ^ 31 by omega)
      have o : lo M i = M 2 c := by unfold lo; rw [k6, p3]
      simp only [f_X5_howManyOn_b4, e1, a1, if_false, f_X5_landOf, f_X2_ownerOf, p1, if_true, nI_cl (show i < 2 ^ 31 by omega), k6, p2, p3, Option.bind_some, nI_1, cnt_s, o]
      by_cases q : M 2 c = a <;> simp only [q, if_true, if_false, Option.bind_some, Nat.add_zero]) (by
      have a1 : nI n ≤ nI n := Int32.le_refl _
      simp only [f_X5_howManyOn_b4, e1, a1, if_true]) (s0 := (0, 0)) rfl
    simp [f_X5_howManyOn, hit]
  · have hit := it_N (b := f_X12_marksOf_b4 a M) (r := nI (cnt (fun i => lo M i = a) n)) (fun i => (nI (cnt (fun i => lo M i = a) i), nI i)) n (by omega) (by
      intro i hi
      have a1 : ¬ nI n ≤ nI i := nI_ge hi (by omega)
      have p1 := inb_t (k := i) (n := 40) (by omega) (by decide)
      obtain ⟨-, k2, -, -, ⟨c, k5, k6, -⟩, -⟩ := hc i hi
      have p2 := inb_t (k := c) (n := 128) k5 (by decide)
      have p3 := nI_cl (show c < 2 ^ 31 by omega)
      have o : lo M i = M 2 c := by unfold lo; rw [k6, p3]
      simp only [f_X12_marksOf_b4, e2, a1, if_false, p1, if_true, nI_cl (show i < 2 ^ 31 by omega), k2, k6, p2, p3, (h.1 c k5).1, nI_1, cnt_s, o]
      by_cases q : M 2 c = a <;> simp only [q, if_true, if_false, Option.bind_some, bN_t, bN_f, Nat.add_zero]) (by
      have a1 : nI n ≤ nI n := Int32.le_refl _
      simp only [f_X12_marksOf_b4, e2, a1, if_true]) (s0 := (0, 0)) rfl
    simp [f_X12_marksOf, hit]
theorem st_land : ST_land Inv := by
  intro a1 a2 M hI
  by_cases h1 : isN a1 6 = true
  · obtain ⟨l, hl, rfl⟩ := isN_of (by decide) h1
    obtain ⟨v1, k1, g1⟩ := st_least hI.1 hl
    obtain ⟨v2, k2, g2⟩ := st_many hI.1 hI.2.1 (nI l)
    have k0 := c_size hI.1.C hl
    have g0 := m_cells (fun c hc => (hI.1.1 c hc).1) (nI l)
    by_cases q0 : a2 = 0
    · subst q0
      have z : f_X12_in 0 0 2 = some true := by rw [s_in]; rfl
      refine ob_mk (z := nI (cnt (fun c => M 2 c = nI l) 128)) (by simp [f_X11_land, f_X11_isLand, wi_6, h1, k0]) ?_
      exact ob_mk (z := nI (cnt (fun c => M 2 c = nI l) 128)) (by simp [f_X12_land, f_X12_isLand, wn_6, h1, wn_3, z, g0]) ⟨rfl, hI⟩
    by_cases q1 : a2 = 1
    · subst q1
      have z : f_X12_in 1 0 2 = some true := by rw [s_in]; rfl
      refine ob_mk (z := v1) (by simp [f_X11_land, f_X11_isLand, wi_6, h1, k1]) ?_
      exact ob_mk (z := v1) (by simp [f_X12_land, f_X12_isLand, wn_6, h1, wn_3, z, g1]) ⟨rfl, hI⟩
    by_cases q2 : a2 = 2
    · subst q2
      have z : f_X12_in 2 0 2 = some true := by rw [s_in]; rfl
      refine ob_mk (z := v2) (by simp [f_X11_land, f_X11_isLand, wi_6, h1, k2]) ?_
      exact ob_mk (z := v2) (by simp [f_X12_land, f_X12_isLand, wn_6, h1, wn_3, z, g2]) ⟨rfl, hI⟩
    have z : ¬ isN a2 3 = true := by
      intro w
      obtain ⟨j, hj, rfl⟩ := isN_of (by decide) w
      rcases (show j = 0 ∨ j = 1 ∨ j = 2 by omega) with rfl | rfl | rfl
      · exact q0 rfl
      · exact q1 rfl
      · exact q2 rfl
    refine ob_mk (z := -102) (by simp [f_X11_land, f_X11_isLand, wi_6, h1, q0, q1, q2]) ?_
    exact ob_mk (z := -102) (by simp [f_X12_land, f_X12_isLand, wn_6, h1, wn_3, z]) ⟨rfl, hI⟩
  · refine ob_mk (z := -101) (by simp [f_X11_land, f_X11_isLand, wi_6, h1]) ?_
    exact ob_mk (z := -101) (by simp [f_X12_land, f_X12_isLand, wn_6, h1]) ⟨rfl, hI⟩
