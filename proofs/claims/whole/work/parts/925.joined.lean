/-! the reference grows a tree -/
def PrM (w : Nat → Nat → Nat) (M : Mem) : Prop := ∀ a b, a < 6 → b < 6 → a ≠ b → M 151 (6 * a + b) = nI (w a b)
def LsT (w : Nat → Nat → Nat) (s j n : Nat) (p : Int32 × Int32) : Prop := ∃ m x, p = (nI m, nI x) ∧ (m < 100 ∨ m = 100000) ∧ x < 6 ∧ (∀ a b, b < 6 → 6 * a + b < n → j.testBit a = true → s.testBit b = true → j.testBit b = false → m ≤ w a b) ∧ (m = 100000 ∨ ∃ a, a < 6 ∧ j.testBit a = true ∧ s.testBit x = true ∧ j.testBit x = false ∧ w a x = m)
theorem m_least2 {w : Nat → Nat → Nat} (hw : WtC w) {M : Mem} (hp : PrM w M) {s j : Nat} (hs : s < 64) (hj : j < 64) : ∃ p, it (f_X12_joined_b23 (nI s) (nI j) M) FU (100000, 0, 0) = some p ∧ LsT w s j 36 p := by
  have inner : ∀ a, a < 6 → ∀ p, LsT w s j (6 * a) p → ∃ p2, it (f_X12_joined_b33 (nI s) (nI j) M) FU (p.1, p.2, nI a, 0) = some (p2.1, p2.2, nI a) ∧ LsT w s j (6 * (a + 1)) p2 := by
    intro a ha p0 h0
    obtain ⟨z, hz, p, rfl, z1⟩ := it_inv (b := f_X12_joined_b33 (nI s) (nI j) M) (fun b S => ∃ p : Int32 × Int32, S = (p.1, p.2, nI a, nI b) ∧ LsT w s j (6 * a + b) p) 6 (Q := fun Z => ∃ p : Int32 × Int32, Z = (p.1, p.2, nI a) ∧ LsT w s j (6 * a + 6) p) (by decide) (by
      rintro b hb S ⟨p, rfl, m, x, rfl, m1, x1, m2, m3⟩
      have a1 : ¬ (6 : Int32) ≤ nI b := nI_ge (b := 6) hb (by decide)
      have ja := (s6_bit j hj a ha).1
      have jb := (s6_bit j hj b hb).2
      have sb := (s6_bit s hs b hb).1
      have ex : 6 * nI a + nI b = nI (6 * a + b) := by
        have : 6 * nI a = nI (6 * a) := pk_mul 6 a
        rw [this, nI_add]
      have p1 := inb_t (k := 6 * a + b) (n := 36) (by omega) (by decide)
      have p2 := nI_cl (show 6 * a + b < 2 ^ 31 by omega)
      have may : (if ((jshr (nI j) (nI a)) &&& 1) = 1 then (if ((jshr (nI j) (nI b)) &&& 1) = 0 then (if ((jshr (nI s) (nI b)) &&& 1) = 1 then some true else some false) else some false) else some false) = some (decide (j.testBit a = true ∧ j.testBit b = false ∧ s.testBit b = true)) := by
        simp only [ja, jb, sb]
        by_cases y1 : j.testBit a = true <;> by_cases y2 : j.testBit b = false <;> by_cases y3 : s.testBit b = true <;> simp [y1, y2, y3]
      by_cases q : j.testBit a = true ∧ j.testBit b = false ∧ s.testBit b = true
      · have hab : a ≠ b := by
          rintro rfl
          rw [q.1] at q
          cases q.2.1
        have ew := hp a b ha hb hab
        have hv := hw.1 a b
        have st : f_X12_joined_b33 (nI s) (nI j) M (nI m, nI x, nI a, nI b) = if m ≤ w a b then some (.inl (nI m, nI x, nI a, nI (b + 1))) else some (.inl (nI (w a b), nI b, nI a, nI (b + 1))) := by
          clear m3
          simp only [f_X12_joined_b33]
          rw [if_neg a1, may, Option.bind_some, decide_eq_true q, if_pos rfl, ex, if_pos p1, p2, ew, nI_1]
          by_cases y : m ≤ w a b
          · rw [if_pos y, if_pos (nI_le y (by omega))]; rfl
          · rw [if_neg y, if_neg (nI_ge (by omega) (by omega))]; rfl
        by_cases y : m ≤ w a b
        · refine ⟨_, by rw [st, if_pos y], (nI m, nI x), rfl, m, x, rfl, m1, x1, fun a2 b2 h1 h2 h3 h4 h5 => ?_, m3⟩
          by_cases t : 6 * a2 + b2 < 6 * a + b
          · exact m2 a2 b2 h1 t h3 h4 h5
          · have e1 : a2 = a := by omega
            have e2 : b2 = b := by omega
            rw [e1, e2]; exact y
        · refine ⟨_, by rw [st, if_neg y], (nI (w a b), nI b), rfl, w a b, b, rfl, hv, hb, fun a2 b2 h1 h2 h3 h4 h5 => ?_, .inr ⟨a, ha, q.1, q.2.2, q.2.1, rfl⟩⟩
          by_cases t : 6 * a2 + b2 < 6 * a + b
          · have := m2 a2 b2 h1 t h3 h4 h5
            omega
          · have e1 : a2 = a := by omega
            have e2 : b2 = b := by omega
            rw [e1, e2]; exact Nat.le_refl _
      · refine ⟨(nI m, nI x, nI a, nI (b + 1)), ?_, (nI m, nI x), rfl, m, x, rfl, m1, x1, fun a2 b2 h1 h2 h3 h4 h5 => ?_, m3⟩
        · simp only [f_X12_joined_b33]
          rw [if_neg a1, may, Option.bind_some, decide_eq_false q, if_neg Bool.false_ne_true, nI_1]
          rfl
        · by_cases t : 6 * a2 + b2 < 6 * a + b
          · exact m2 a2 b2 h1 t h3 h4 h5
          · have e1 : a2 = a := by omega
            have e2 : b2 = b := by omega
            rw [e1] at h3
            rw [e2] at h4 h5
            exact absurd ⟨h3, h5, h4⟩ q) (by
      rintro S ⟨p, rfl, hp⟩
      have a1 : (6 : Int32) ≤ nI 6 := by decide
      exact ⟨_, by simp only [f_X12_joined_b33, a1, if_true], p, rfl, hp⟩) (s0 := (p0.1, p0.2, nI a, 0)) ⟨p0, rfl, h0⟩
    exact ⟨p, hz, z1⟩
  obtain ⟨z, hz, z1⟩ := it_inv (b := f_X12_joined_b23 (nI s) (nI j) M) (fun a S => ∃ p : Int32 × Int32, S = (p.1, p.2, nI a) ∧ LsT w s j (6 * a) p) 6 (Q := fun Z => LsT w s j 36 Z) (by decide) (by
    rintro a ha S ⟨p, rfl, hp⟩
    have a1 : ¬ (6 : Int32) ≤ nI a := nI_ge (b := 6) ha (by decide)
    obtain ⟨p2, k1, k2⟩ := inner a ha p hp
    refine ⟨(p2.1, p2.2, nI (a + 1)), ?_, p2, rfl, k2⟩
    simp only [f_X12_joined_b23]
    rw [if_neg a1, k1, Option.bind_some]
    simp only
    rw [nI_1]) (by
    rintro S ⟨p, rfl, hp⟩
    have a1 : (6 : Int32) ≤ nI 6 := by decide
    exact ⟨p, by simp only [f_X12_joined_b23, a1, if_true], hp⟩) (s0 := (100000, 0, 0)) ⟨(100000, 0), rfl, 100000, 0, rfl, .inr rfl, by decide, fun a b h1 h2 => by omega, .inl rfl⟩
  exact ⟨z, hz, z1⟩
theorem s6_lb : ∀ s, s < 64 → 0 < s → nI s &&& (-nI s) = nI (0 ||| 2 ^ lowN s) := by decide +kernel
theorem m_run2 {w : Nat → Nat → Nat} (hw : WtC w) {M : Mem} (hp : PrM w M) {s : Nat} (hs : s < 64) : ∀ (c j q : Nat) (f : Nat), c < f → j < 64 → 0 < c6 j → (∀ a, a < 6 → j.testBit a = true → s.testBit a = true) → c6 j + c = c6 s → q ≤ 99 * c6 j → q + TTT w s.testBit j.testBit = treeN w s → it (f_X12_joined_b7 (nI s) M) f (nI j, nI q) = some (.inl (trM w s)) ∨ it (f_X12_joined_b7 (nI s) M) f (nI j, nI q) = some (.inr (trM w s)) := by
  intro c
  induction c with
  | zero =>
    intro j q f hf hj hc0 hJ hc hq hT
    obtain ⟨f', rfl⟩ : ∃ f', f = f' + 1 := ⟨f - 1, by omega⟩
    have hfull := J_full hJ (by omega)
    have hz : TTT w s.testBit j.testBit = 0 := TTT_end hfull
    have ejs : j = s := s6_eq hj hs fun a ha => by
      cases h1 : j.testBit a with
      | true => rw [hJ a ha h1]
      | false =>
        cases h2 : s.testBit a with
        | false => rfl
        | true => rw [hfull a ha h2] at h1; cases h1
    have h6 := c6_le j
    have e : f_X12_joined_b7 (nI s) M (nI j, nI q) = some (.inr (.inl (nI q))) := by
      simp only [f_X12_joined_b7]
      rw [ejs, if_pos rfl]
    refine .inl ?_
    rw [it_end e]
    unfold trM
    rw [← hT, hz, Nat.add_zero, if_pos (by omega)]
  | succ c ih =>
    intro j q f hf hj hc0 hJ hc hq hT
    obtain ⟨f', rfl⟩ : ∃ f', f = f' + 1 := ⟨f - 1, by omega⟩
    have h6 := c6_le j
    have hJs := J_all hj hJ
    have hne : ¬ nI j = nI s := fun y => by
      have := nI_inj (by omega) (by omega) y
      rw [this] at hc
      omega
    obtain ⟨p, k1, m, x, rfl, m1, x1, m2, m3⟩ := m_least2 hw hp hs hj
    have hcut : ∀ a b, a < 6 → b < 6 → j.testBit a = true → s.testBit b = true → j.testBit b = false → m ≤ w a b := fun a b ha hb h1 h2 h3 => m2 a b hb (by omega) h1 h2 h3
    by_cases y : m = 100000
    · have e : f_X12_joined_b7 (nI s) M (nI j, nI q) = some (.inr (.inr 100000)) := by
        simp only [f_X12_joined_b7]
        rw [if_neg hne, k1, Option.bind_some]
        simp only
        rw [y, if_pos (show nI 100000 = 100000 from rfl)]
      refine .inr ?_
      rw [it_end e]
      obtain ⟨b, hb, sb, jb⟩ := J_more (s := s) (j := j) (by omega)
      obtain ⟨a, ha, ja⟩ : ∃ a, a < 6 ∧ j.testBit a = true := by
        apply Classical.byContradiction
        intro hn
        have : c6 j = 0 := (cnt_0 _ 6).mpr fun i hi hb => hn ⟨i, hi, hb⟩
        omega
      rw [y] at hcut
      have ew : w a b = 100000 := Nat.le_antisymm (hw.le a b) (hcut a b ha hb ja sb jb)
      have hg := TTT_grow (w := w) (S := s.testBit) (J := j.testBit) hw.le hw.2 hJs ha hb ja sb jb ew hcut
      unfold trM
      rw [if_neg (by omega)]
    · obtain ⟨a, ha, ja, sx, jx, ea⟩ := m3.resolve_left y
      obtain ⟨o1, o2⟩ := s6_or j hj x x1
      have ny : ¬ nI m = 100000 := fun t => y (nI_inj (b := 100000) (by omega) (by decide) t)
      have e : f_X12_joined_b7 (nI s) M (nI j, nI q) = some (.inl (nI (j ||| 2 ^ x), nI (q + m))) := by
        simp only [f_X12_joined_b7]
        rw [if_neg hne, k1, Option.bind_some]
        simp only
        rw [if_neg ny, o1, nI_add]
      have hg := TTT_grow (w := w) (S := s.testBit) (J := j.testBit) hw.le hw.2 hJs ha x1 ja sx jx ea hcut
      have ec := s6_c1 j hj x x1 jx
      rw [← bit_orF] at hg
      rw [it_go e]
      clear m3
      exact ih (j ||| 2 ^ x) (q + m) f' (by omega) o2 (by omega) (fun b hb h => by
        rw [bit_or] at h
        unfold insT at h
        rw [Bool.or_eq_true, decide_eq_true_eq] at h
        rcases h with h | rfl
        · exact hJ b hb h
        · exact sx) (by omega) (by omega) (by omega)
theorem m_tree {w : Nat → Nat → Nat} (hw : WtC w) {M : Mem} (hp : PrM w M) {s : Nat} (hs : s < 64) (h0 : 0 < s) : f_X12_joined (nI s) M = some (trM w s) := by
  obtain ⟨l1, l2⟩ := s6_low s hs h0
  have hc := c6_pos s hs h0
  have h6 := c6_le s
  have e1 := s6_1 _ l1
  have o2 := (s6_or 0 (by decide) _ l1).2
  have g1 := m_run2 hw hp hs (c6 s - 1) (0 ||| 2 ^ lowN s) 0 FU (by unfold FU; omega) o2 (by omega) (fun a ha hb => by
    rw [bit_or] at hb
    unfold insT at hb
    rw [Nat.zero_testBit, Bool.false_or, decide_eq_true_eq] at hb
    rw [hb]; exact l2) (by omega) (by omega) (by rw [Nat.zero_add, bit_orF]; rfl)
  unfold f_X12_joined
  rw [s6_lb s hs h0]
  rcases g1 with g1 | g1
  · rw [show (0 : Int32) = nI 0 from rfl, g1]
    rfl
  · rw [show (0 : Int32) = nI 0 from rfl, g1]
    rfl
