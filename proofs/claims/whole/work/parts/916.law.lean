theorem RelC_lt {s : AVt} {i Q : Nat} {M : Mem} (h : RelC s i Q M) (hs : s.1 < 10) (hi : i < 50) : ∃ f, f < 12 ∧ M Q 2 = nI f := by
  obtain ⟨st, ⟨way, num⟩, m, neg, ⟨hO, hA⟩, ⟨l, g, v⟩, O, A⟩ := s
  have hs' : st < 10 := hs
  obtain ⟨s0, s1, s1', s2, s5, s6, s7, s8, s9, s10, sm⟩ := h
  refine ⟨m + fCn st, ?_, s2⟩
  by_cases h5 : st < 5
  · have := (s9 h5).1
    rcases (show st = 0 ∨ st = 1 ∨ st = 2 ∨ st = 3 ∨ st = 4 by omega) with rfl | rfl | rfl | rfl | rfl <;> · show m + 0 < 12; omega
  · have := s10 (by omega)
    rcases (show st = 5 ∨ st = 6 ∨ st = 7 ∨ st = 8 ∨ st = 9 by omega) with rfl | rfl | rfl | rfl | rfl
    · show m + 0 < 12; omega
    · show m + 0 < 12; omega
    · show m + 0 < 12; omega
    · show m + 1 < 12; omega
    · show m + 1 < 12; omega
theorem c_read {M : Mem} {pg : Nat → Nat} {n Q : Nat} (h : PgC pg n M) (hQ : 15 ≤ Q) (hl : ∀ i, i < n → ¬ stsN pg (i + 1) = 10) : ∃ M1, f_X4_read Q M = some M1 ∧ RelC (asN pg n) n Q M1 ∧ KcL Q M M1 := by
  obtain ⟨hn, e1, hc⟩ := h
  have hlt := sts_lt fun i hi => (hc i hi).1
  have s10 : ∀ i, i ≤ n → (asN pg i).1 < 10 := by
    intro i hi
    rw [as_st]
    have := hlt i (by omega)
    have := sts_pre hl hi
    omega
  obtain ⟨M1, hz, z1, z2⟩ := it_inv (b := f_X4_read_b14 Q) (fun i S => ∃ Mi, S = (nI (stsN pg i), nI i, Mi) ∧ RelC (asN pg i) i Q Mi ∧ KcL Q M Mi) n (Q := fun Z => RelC (asN pg n) n Q Z ∧ KcL Q M Z) (by omega) (by
    rintro i hi S ⟨Mi, rfl, r1, r2⟩
    have d1 : Mi 10 1 = nI n := (r2 10 1 (by omega)).trans e1
    have d2 : Mi 11 i = nI (pg i) := (r2 11 i (by omega)).trans (hc i hi).2
    have a1 : ¬ nI n ≤ nI i := nI_ge hi (by omega)
    have i1 := inb_t (k := i) (n := 50) (by omega) (by decide)
    have i2 := nI_cl (show i < 2 ^ 31 by omega)
    have g1 := c_nx6 _ (hlt i (by omega)) _ (hc i hi).1
    have g2 : stI (stsN pg i) = nI (stsN pg i) := by unfold stI; rw [if_neg (sts_pre hl (by omega))]
    have g3 : nxN (stsN pg i) (pg i) = stsN pg (i + 1) := rfl
    have g4 : stI (stsN pg (i + 1)) = nI (stsN pg (i + 1)) := by unfold stI; rw [if_neg (hl i hi)]
    rw [g2, g3, g4] at g1
    have hne : nxN (asN pg i).1 (pg i) ≠ 10 := by
      rw [as_st]
      exact hl i hi
    obtain ⟨f, hf, ef⟩ := RelC_lt r1 (s10 i (by omega)) (by omega)
    have a2 : ¬ (12 : Int32) ≤ nI f := nI_ge (b := 12) hf (by decide)
    obtain ⟨M', t1, t2, t3⟩ := c_go r1 (s10 i (by omega)) (hc i hi).1 (by omega) hne
    rw [as_st, g3] at t1
    have el : f_X6_letterAt (nI i) Mi = some (nI (pg i)) := by
      unfold f_X6_letterAt
      rw [if_pos i1, i2, d2]
    have es : f_X6_size Mi = some (nI n) := by
      unfold f_X6_size
      rw [d1]
    refine ⟨(nI (stsN pg (i + 1)), nI (i + 1), M'), ?_, M', rfl, t2, r2.tr t3⟩
    simp only [f_X4_read_b14]
    rw [es, Option.bind_some, if_neg a1, el, Option.bind_some, g1, Option.bind_some, ef, if_neg a2, Option.bind_some, t1, nI_1]
    rfl) (by
    rintro S ⟨Mi, rfl, r1, r2⟩
    have d1 : Mi 10 1 = nI n := (r2 10 1 (by omega)).trans e1
    have es : f_X6_size Mi = some (nI n) := by
      unfold f_X6_size
      rw [d1]
    have a1 : nI n ≤ nI n := Int32.le_refl _
    refine ⟨Mi, ?_, r1, r2⟩
    simp only [f_X4_read_b14]
    rw [es, Option.bind_some, if_pos a1]) (s0 := (0, 0, up (up M Q 1 0) Q 2 0)) ⟨up (up M Q 1 0) Q 2 0, rfl, ⟨fun y => absurd y (by decide), by simp [up_at]; rfl, fun _ => rfl, by simp [up_at]; rfl, fun y => absurd y (by decide), fun y => absurd y (by decide), fun y => absurd y (by decide), fun y => absurd y (by decide), fun _ => ⟨rfl, rfl, rfl, rfl, Nat.le_refl 0⟩, fun y => absurd y (by decide), ⟨fun _ => rfl, fun _ => rfl, fun _ => ⟨rfl, rfl⟩, fun j hj => absurd hj (Nat.not_lt_zero j), fun d e k => ⟨fun y => Bool.noConfusion y, fun _ y => absurd y (by decide)⟩⟩⟩, KcL.rf.u0.u0⟩
  refine ⟨M1, ?_, z1, z2⟩
  unfold f_X4_read
  rw [hz, Option.bind_some]
/-- what a read law asks -/
def cdA : AVt → CdT
  | (st, _, _, neg, _, (l, g, v), (O, A)) => if 8 ≤ st then (fun d e k => O d e k || (A d e k && facF neg l g v d e k)) else ttC
theorem RelC_cls {s : AVt} {n Q : Nat} {M : Mem} (h : RelC s n Q M) (hs : s.1 = 3 ∨ s.1 = 4 ∨ s.1 = 8 ∨ s.1 = 9) (hn : n ≤ 50) : ClsL M Q (cdA s) := by
  obtain ⟨st, ⟨way, num⟩, m, neg, ⟨hO, hA⟩, ⟨l, g, v⟩, O, A⟩ := s
  have hs' : st = 3 ∨ st = 4 ∨ st = 8 ∨ st = 9 := hs
  obtain ⟨s0, s1, s1', s2, s5, s6, s7, s8, s9, s10, sm⟩ := h
  by_cases h5 : st < 5
  · obtain ⟨z1, -⟩ := s9 h5
    have f0 : fCn st = 0 := by
      rcases (show st = 3 ∨ st = 4 by omega) with rfl | rfl <;> rfl
    rw [f0, z1] at s2
    refine ⟨0, by decide, s2, fun j hj => absurd hj (Nat.not_lt_zero j), fun d e k => ?_⟩
    show true = (if 8 ≤ st then (fun d e k => O d e k || (A d e k && facF neg l g v d e k)) else ttC) d e k
    rw [if_neg (by omega)]
    rfl
  · have f1 : fCn st = 1 := by
      rcases (show st = 8 ∨ st = 9 by omega) with rfl | rfl <;> rfl
    rw [f1] at s2
    have hm := s10 (by omega)
    obtain ⟨x1, x2, x3, x4⟩ := s6 (by omega)
    obtain ⟨x5, x6⟩ := s7 (by omega)
    have ev := sem_next sm x1 x5 x2 x6 (s8 (by omega)) x3 x4
    refine ⟨m + 1, by omega, s2, fun j hj => ?_, fun d e k => ?_⟩
    · by_cases y : j = m
      · rw [y]; exact ⟨_, x3⟩
      · exact sm.2.2.2.1 j (by omega)
    show (evC (opC M Q) (fcC M Q d e k) (m + 1)).2 = (if 8 ≤ st then (fun d e k => O d e k || (A d e k && facF neg l g v d e k)) else ttC) d e k
    rw [ev d e k, if_pos (show 8 ≤ st by omega)]
    show _ = (O d e k || (A d e k && facF neg l g v d e k))
    generalize (A d e k && facF neg l g v d e k) = x
    generalize O d e k = o
    cases o <;> cases x <;> rfl
theorem m_fin {s : AVt} {n Q : Nat} {M Mc : Mem} (h : RelM s n M) (h' : RelC s n Q Mc) (hs : s.1 = 3 ∨ s.1 = 4 ∨ s.1 = 8 ∨ s.1 = 9) (hn : n ≤ 50) : ∃ M47 M49 rm, (if M 132 14 = 8 then (f_X12_endNumber M).bind fun (M48 : Mem) => some M48 else some M) = some M47 ∧ f_X12_layDown 11 M47 = some M49 ∧ rm ≤ 50 ∧ M49 132 22 = nI rm ∧ s.2.1.1 < 4 ∧ M49 132 15 = nI s.2.1.1 ∧ s.2.1.2 < 100 ∧ M49 132 16 = nI s.2.1.2 ∧ (∀ d e k, ∃ st, rpn (M49 145) (M49 146) d e k rm = some st ∧ cdA s d e k = st.getLast?.getD true) ∧ KmL M M49 := by
  obtain ⟨st, ⟨way, num⟩, m, neg, ⟨hO, hA⟩, ⟨l, g, v⟩, O, A⟩ := s
  have hs' : st = 3 ∨ st = 4 ∨ st = 8 ∨ st = 9 := hs
  obtain ⟨-, -, -, -, -, -, -, -, s9, -, -⟩ := h'
  obtain ⟨⟨t0, t1, t3, -, t6, t7, t8, -⟩, a0, o0, rm, sk, hb⟩ := h
  have w1 := t1 (by omega)
  have w3 := t3 (by omega)
  by_cases h5 : st < 5
  · obtain ⟨-, z2, z3, z4, -⟩ := s9 h5
    have e8 : ¬ M 132 14 = 8 := by
      rw [t0]
      intro y
      have := nI_inj (b := 8) (by omega) (by decide) y
      omega
    rw [stF_n (by omega)] at sk
    subst z2 z3 z4
    have sk' : SKr M rm [] (fun _ _ _ => []) := sk
    have p0 : pnd st = 0 := by
      rcases (show st = 3 ∨ st = 4 by omega) with rfl | rfl <;> rfl
    refine ⟨M, M, rm, by rw [if_neg e8], ?_, by omega, sk'.1, w1.1, w1.2, w3.1, w3.2, fun d e k => ⟨[], sk'.2.2.2 d e k, ?_⟩, KmL.rf⟩
    · unfold f_X12_layDown
      rw [show FU = 1999 + 1 from rfl, it_end (m_stop0 sk' 11)]
      rfl
    · show (if 8 ≤ st then (fun d e k => O d e k || (A d e k && facF 0 l g v d e k)) else ttC) d e k = true
      rw [if_neg (by omega)]
      rfl
  · have fin : ∀ (M47 : Mem) (rm7 : Nat), SKr M47 rm7 (List.replicate neg 9 ++ tlL hO hA) (fun d e k => rawF l g v d e k :: tlF hO hA O A d e k) → rm7 + neg + (tlL hO hA).length ≤ 50 → M47 132 15 = nI way → M47 132 16 = nI num → KmL M M47 → (if M 132 14 = 8 then (f_X12_endNumber M).bind fun (M48 : Mem) => some M48 else some M) = some M47 → ∃ M47 M49 rm, (if M 132 14 = 8 then (f_X12_endNumber M).bind fun (M48 : Mem) => some M48 else some M) = some M47 ∧ f_X12_layDown 11 M47 = some M49 ∧ rm ≤ 50 ∧ M49 132 22 = nI rm ∧ way < 4 ∧ M49 132 15 = nI way ∧ num < 100 ∧ M49 132 16 = nI num ∧ (∀ d e k, ∃ st1, rpn (M49 145) (M49 146) d e k rm = some st1 ∧ cdA (st, (way, num), m, neg, (hO, hA), (l, g, v), (O, A)) d e k = st1.getLast?.getD true) ∧ KmL M M49 := by
      intro M47 rm7 sk7 hb7 e15 e16 hk e47
      obtain ⟨M49, rm9, k1, k2, k3, k4⟩ := m_down11 sk7 hb7 a0 o0
      refine ⟨M47, M49, rm9, e47, k1, by omega, k2.1, w1.1, (k4 132 15 (by decide) (by decide) (by omega)).trans e15, w3.1, (k4 132 16 (by decide) (by decide) (by omega)).trans e16, fun d e k => ⟨_, k2.2.2.2 d e k, ?_⟩, hk.tr k4.km⟩
      show (if 8 ≤ st then (fun d e k => O d e k || (A d e k && facF neg l g v d e k)) else ttC) d e k = _
      rw [if_pos (by omega)]
      rfl
    rcases (show st = 8 ∨ st = 9 by omega) with rfl | rfl
    · have hb' : rm + neg + (tlL hO hA).length + 1 ≤ n := hb
      rw [stF_n (by decide)] at sk
      obtain ⟨M1, k1, k2, k3, k4, k5⟩ := m_endN (l := l) (g := g) (v := v) sk (by omega) (t6 (by decide)).1 (t7 (by decide)).1 (t6 (by decide)).2 (t7 (by decide)).2 (t8 (by decide)).2
      exact fin M1 (rm + 1) k2 (by omega) ((k4 15 (by decide) (by decide)).trans w1.2) ((k4 16 (by decide) (by decide)).trans w3.2) k5 (by rw [t0, if_pos (show nI 8 = 8 from rfl), k1, Option.bind_some])
    · have hb' : rm + neg + (tlL hO hA).length + 0 ≤ n := hb
      rw [stF_9] at sk
      exact fin M rm sk (by omega) w1.2 w3.2 KmL.rf (by rw [t0, if_neg (show ¬ nI 9 = 8 by decide)])
theorem m_copy {M49 Ms : Mem} {g k0 x rm : Nat} (hg : g < 2) (hk : k0 < 8) (hx : x = 8 * g + k0) (e9 : M49 139 g = nI k0) (hr : rm ≤ 50) (e22 : Ms 132 22 = nI rm) (s5 : Ms 145 = M49 145) (s6 : Ms 146 = M49 146) : ∃ M1, it (f_X12_law_b126 (nI g) M49) FU (0, Ms) = some M1 ∧ (∀ j, j < rm → M1 143 (50 * x + j) = M49 145 j ∧ M1 144 (50 * x + j) = M49 146 j) ∧ ∀ p k, ¬ ((p = 143 ∨ p = 144) ∧ 50 * x ≤ k ∧ k < 50 * x + 50) → M1 p k = Ms p k := by
  have g2 := nI_cl (show g < 2 ^ 31 by omega)
  have ex : 50 * (8 * nI g + nI k0) = nI (50 * x) := by
    have h1 : 8 * nI g = nI (8 * g) := pk_mul 8 g
    rw [h1, nI_add, ← hx]
    exact pk_mul 50 x
  obtain ⟨z, hz, z1⟩ := it_inv (b := f_X12_law_b126 (nI g) M49) (fun i S => ∃ Mi, S = (nI i, Mi) ∧ (∀ j, j < i → Mi 143 (50 * x + j) = M49 145 j ∧ Mi 144 (50 * x + j) = M49 146 j) ∧ ∀ p k, ¬ ((p = 143 ∨ p = 144) ∧ 50 * x ≤ k ∧ k < 50 * x + 50) → Mi p k = Ms p k) rm (Q := fun Z => (∀ j, j < rm → Z 143 (50 * x + j) = M49 145 j ∧ Z 144 (50 * x + j) = M49 146 j) ∧ ∀ p k, ¬ ((p = 143 ∨ p = 144) ∧ 50 * x ≤ k ∧ k < 50 * x + 50) → Z p k = Ms p k) (by omega) (by
    rintro i hi S ⟨Mi, rfl, h2, h3⟩
    have d0 : Mi 132 22 = nI rm := (h3 132 22 (by omega)).trans e22
    have d5 : Mi 145 i = M49 145 i := (h3 145 i (by omega)).trans (by rw [s5])
    have d6 : Mi 146 i = M49 146 i := (h3 146 i (by omega)).trans (by rw [s6])
    have a1 : ¬ nI rm ≤ nI i := nI_ge hi (by omega)
    have i1 := inb_t (k := i) (n := 50) (by omega) (by decide)
    have i2 := nI_cl (show i < 2 ^ 31 by omega)
    have p1 := inb_t (k := 50 * x + i) (n := 800) (by omega) (by decide)
    have p2 := nI_cl (show 50 * x + i < 2 ^ 31 by omega)
    have r6 : up Mi 143 (50 * x + i) (M49 145 i) 146 i = M49 146 i := by rw [up_at, if_neg (fun y => absurd y.1 (by decide)), d6]
    refine ⟨(nI (i + 1), up (up Mi 143 (50 * x + i) (M49 145 i)) 144 (50 * x + i) (M49 146 i)), ?_, _, rfl, fun j hj => ?_, fun p k hp => ?_⟩
    · simp only [f_X12_law_b126]
      rw [d0, if_neg a1, if_pos i1, g2, e9, ex, nI_add, if_pos p1, p2, i2, d5, r6, nI_1]
    · by_cases y : j = i
      · subst y
        constructor <;> simp [up_at]
      · have := h2 j (by omega)
        constructor
        · rw [up_at, if_neg (fun w => absurd w.1 (by decide)), up_at, if_neg (fun w => by omega)]
          exact this.1
        · rw [up_at, if_neg (fun w => by omega), up_at, if_neg (fun w => absurd w.1 (by decide))]
          exact this.2
    · rw [up_at, if_neg (fun w => hp ⟨.inr w.1, by omega, by omega⟩), up_at, if_neg (fun w => hp ⟨.inl w.1, by omega, by omega⟩)]
      exact h3 p k hp) (by
    rintro S ⟨Mi, rfl, h2, h3⟩
    have d0 : Mi 132 22 = nI rm := (h3 132 22 (by omega)).trans e22
    have a1 : nI rm ≤ nI rm := Int32.le_refl _
    exact ⟨Mi, by simp only [f_X12_law_b126, d0, a1, if_true], h2, h3⟩) (s0 := (0, Ms)) ⟨Ms, rfl, fun j hj => absurd hj (Nat.not_lt_zero j), fun _ _ _ => rfl⟩
  exact ⟨z, hz, z1⟩
