theorem m_least {Mi : Mem} {sp d v : Nat} {f : Nat → Nat} (hd : d < 9) (hv : v < 16) (hs : sp < 8) (e7 : Mi 132 33 = nI sp) (hf : ∀ w, w < 16 → Mi 157 (16 * d + 16 + w) = nI (f w)) (hb : ∀ w, w < 16 → f w ≤ 20000) : it (f_X12_layOnward_b33 (nI d) (nI v) Mi) FU (100000, 0) = some (nI (mnsN sp v f 16)) := by
  refine it_N (b := f_X12_layOnward_b33 (nI d) (nI v) Mi) (fun w => (nI (mnsN sp v f w), nI w)) 16 (by decide) ?_ ?_ rfl
  · intro w hw
    have a1 : ¬ (16 : Int32) ≤ nI w := nI_ge (b := 16) hw (by decide)
    have a2 : ¬ (9 : Int32) ≤ nI d := nI_ge (b := 9) hd (by decide)
    have e1 : 16 * nI d + 16 + nI w = nI (16 * d + 16 + w) := by
      have g1 : 16 * nI d = nI (16 * d) := pk_mul 16 d
      have g2 : nI (16 * d) + 16 = nI (16 * d + 16) := nI_add _ 16
      rw [g1, g2, nI_add]
    have p1 := inb_t (k := 16 * d + 16 + w) (n := 160) (by omega) (by decide)
    have p2 := nI_cl (show 16 * d + 16 + w < 2 ^ 31 by omega)
    have g3 := m_gone v hv w hw
    have g4 := cl_8 v hv w hw
    have b1 := hb w hw
    have b2 := (mns_I sp v f w).1
    have e : mnsN sp v f (w + 1) = if cl16 v w ≤ sp ∧ f w + cl16 v w < mnsN sp v f w then f w + cl16 v w else mnsN sp v f w := rfl
    show f_X12_layOnward_b33 (nI d) (nI v) Mi (nI (mnsN sp v f w), nI w) = some (.inl (nI (mnsN sp v f (w + 1)), nI (w + 1)))
    simp only [f_X12_layOnward_b33]
    rw [if_neg a1, if_neg a2, e1, if_pos p1, g3, Option.bind_some, Option.bind_some, e7, p2, hf w hw, nI_add, nI_1, e]
    generalize mnsN sp v f w = m at *
    by_cases q : cl16 v w ≤ sp
    · rw [if_neg (nI_nlt q (by omega))]
      by_cases q2 : f w + cl16 v w < m
      · rw [if_neg (nI_ge q2 (by omega)), if_pos ⟨q, q2⟩]
        rfl
      · rw [if_pos (nI_le (by omega) (by omega)), if_neg (fun r => q2 r.2)]
        rfl
    · rw [if_pos (nI_lt (by omega) (by omega)), if_neg (fun r => q r.1)]
      rfl
  · have a1 : (16 : Int32) ≤ nI 16 := by decide
    simp only [f_X12_layOnward_b33, a1, if_true]
theorem m_ages {M0 M : Mem} (hI : Inv M0) {cl : Nat → Nat × Nat × Nat × Bool × Nat} {n l sp i : Nat} (hC : ClM cl n M0) (hl : l < 6) (hs : sp < 8) (hi : i < 10) (e7 : M0 132 33 = nI sp) (hK : KmS M0 M) {B : Nat → Nat → Nat} (eB : BRn (M0 2) cl l n = B) (hB : ∀ a v, B a v ≤ 1200) (h7 : ∀ d, d < i → ∀ v, v < 16 → M 157 (16 * (9 - d) + v) = nI (onwN B sp d v)) : ∃ M1, it (f_X12_layOnward_b9 (nI l)) FU (nI (9 - i), 0, M) = some (nI (9 - i), M1) ∧ (∀ d, d < i + 1 → ∀ v, v < 16 → M1 157 (16 * (9 - d) + v) = nI (onwN B sp d v)) ∧ KmS M0 M1 := by
  obtain ⟨z, hz, Z, rfl, z2, z3, z5⟩ := it_inv (b := f_X12_layOnward_b9 (nI l)) (fun v S => (∃ Mi, S = (nI (9 - i), nI v, Mi) ∧ (∀ d, d < i → ∀ w, w < 16 → Mi 157 (16 * (9 - d) + w) = nI (onwN B sp d w)) ∧ (∀ w, w < v → Mi 157 (16 * (9 - i) + w) = nI (onwN B sp i w)) ∧ KmS M0 Mi)) 16 (Q := fun Z => ∃ Mi, Z = (nI (9 - i), Mi) ∧ (∀ d, d < i → ∀ w, w < 16 → Mi 157 (16 * (9 - d) + w) = nI (onwN B sp d w)) ∧ (∀ w, w < 16 → Mi 157 (16 * (9 - i) + w) = nI (onwN B sp i w)) ∧ KmS M0 Mi) (by decide) (by
    rintro v hv S ⟨Mi, rfl, h2, h3, h5⟩
    have a1 : ¬ (16 : Int32) ≤ nI v := nI_ge (b := 16) hv (by decide)
    have g7 : Mi 132 33 = nI sp := (h5 132 33 (by decide) (by decide)).trans e7
    have e1 : 16 * nI (9 - i) + nI v = nI (16 * (9 - i) + v) := by
      have : 16 * nI (9 - i) = nI (16 * (9 - i)) := pk_mul 16 _
      rw [this, nI_add]
    have p1 := inb_t (k := 16 * (9 - i) + v) (n := 160) (by omega) (by decide)
    have p2 := nI_cl (show 16 * (9 - i) + v < 2 ^ 31 by omega)
    obtain ⟨M1, w1, w2⟩ := m_broken (age := 9 - i) hI hC h5 hl (by omega) hv
    rw [eB] at w1
    have key : ∃ y x, (if nI (9 - i) = 9 then some (0 : Int32) else some 100000) = some y ∧ it (f_X12_layOnward_b33 (nI (9 - i)) (nI v) Mi) FU (y, 0) = some x ∧ x + nI (B (9 - i) v) = nI (onwN B sp i v) := by
      cases i with
      | zero =>
        refine ⟨0, 0, by rw [if_pos (show nI (9 - 0) = 9 from rfl)], ?_, ?_⟩
        · refine it_N (fun _ => (0, 0)) 0 (by decide) (fun i hi => absurd hi (Nat.not_lt_zero i)) ?_ rfl
          have c1 : ¬ (16 : Int32) ≤ 0 := by decide
          have c2 : (9 : Int32) ≤ nI (9 - 0) := by decide
          simp only [f_X12_layOnward_b33, c1, if_false, c2, if_true]
        · rw [Int32.zero_add]
          rfl
      | succ d =>
        have q : ¬ nI (9 - (d + 1)) = 9 := fun w => by
          have := nI_inj (b := 9) (by omega) (by decide) w
          omega
        have hf : ∀ w, w < 16 → Mi 157 (16 * (9 - (d + 1)) + 16 + w) = nI (onwN B sp d w) := by
          intro w hw
          rw [show 16 * (9 - (d + 1)) + 16 + w = 16 * (9 - d) + w by omega]
          exact h2 d (by omega) w hw
        have hbd : ∀ w, w < 16 → onwN B sp d w ≤ 20000 := fun w hw => onw_20 hB (by omega) hw
        have hb := m_least (d := 9 - (d + 1)) (by omega) hv hs g7 hf hbd
        rw [mns_bnx hv hbd hs] at hb
        refine ⟨100000, nI (bnx sp v (onwN B sp d) 16).2, by rw [if_neg q], hb, ?_⟩
        rw [nI_add]
        show _ = nI ((bnx sp v (onwN B sp d) 16).2 + B (8 - d) v)
        rw [show 9 - (d + 1) = 8 - d by omega]
    obtain ⟨y, x, k0, k1, k2⟩ := key
    refine ⟨(nI (9 - i), nI (v + 1), up M1 157 (16 * (9 - i) + v) (nI (onwN B sp i v))), ?_, up M1 157 (16 * (9 - i) + v) (nI (onwN B sp i v)), rfl, fun d hd w hw => ?_, fun w hw => ?_, fun p k p1 p2 => ?_⟩
    · simp only [f_X12_layOnward_b9]
      rw [if_neg a1, k0, Option.bind_some, k1, Option.bind_some, w1, Option.bind_some]
      simp only
      rw [e1, if_pos p1, p2, k2, nI_1]
    · rw [up_at, if_neg (fun w => by omega), w2 157 _ (by decide)]
      exact h2 d hd w hw
    · rw [up_at]
      by_cases y : w = v
      · subst y
        rw [if_pos ⟨rfl, rfl⟩]
      · rw [if_neg (fun w => by omega), w2 157 _ (by decide)]
        exact h3 w (by omega)
    · rw [up_at, if_neg (fun w => p2 w.1)]
      exact (w2 p k p1).trans (h5 p k p1 p2)) (by
    rintro S ⟨Mi, rfl, h2, h3, h5⟩
    have a1 : (16 : Int32) ≤ nI 16 := by decide
    exact ⟨_, by simp only [f_X12_layOnward_b9, a1, if_true], Mi, rfl, h2, h3, h5⟩) (s0 := (nI (9 - i), 0, M)) ⟨M, rfl, h7, fun w hw => absurd hw (Nat.not_lt_zero w), hK⟩
  refine ⟨Z, hz, fun d hd v hv => ?_, z5⟩
  by_cases y : d = i
  · subst y; exact z3 v hv
  · exact z2 d (by omega) v hv
theorem m_onward {M : Mem} (hI : Inv M) {cl : Nat → Nat × Nat × Nat × Bool × Nat} {n l sp : Nat} (hC : ClM cl n M) (hs : sp < 8) (e7 : M 132 33 = nI sp) (hl : l < 6) : ∃ M1, f_X12_layOnward (nI l) M = some M1 ∧ (∀ d, d < 10 → ∀ v, v < 16 → M1 157 (16 * (9 - d) + v) = nI (onwN (BRn (M 2) cl l n) sp d v)) ∧ KmS M M1 := by
  have hB : ∀ a v, BRn (M 2) cl l n a v ≤ 1200 := fun a v => BR_le hC.1 fun i hi => (hC.2.2 i hi).2.2.2.1
  obtain ⟨B, eB⟩ : ∃ B, BRn (M 2) cl l n = B := ⟨_, rfl⟩
  rw [eB] at hB ⊢
  obtain ⟨Mb, hz, z1, z2⟩ := it_inv (b := f_X12_layOnward_b3 (nI l)) (fun i S => S.1 = nI (10 - i) - 1 ∧ (∀ d, d < i → ∀ v, v < 16 → S.2 157 (16 * (9 - d) + v) = nI (onwN B sp d v)) ∧ KmS M S.2) 10 (Q := fun Z => (∀ d, d < 10 → ∀ v, v < 16 → Z 157 (16 * (9 - d) + v) = nI (onwN B sp d v)) ∧ KmS M Z) (by decide) (by
    rintro i hi ⟨x, Mi⟩ ⟨h1, h2, h4⟩
    simp only at h1 h2 h4
    rw [nI_d10 hi] at h1
    subst h1
    obtain ⟨M1, g1, g2, g4⟩ := m_ages hI hC hl hs hi e7 h4 eB hB h2
    refine ⟨(nI (10 - (i + 1)) - 1, M1), ?_, rfl, g2, g4⟩
    simp only [f_X12_layOnward_b3]
    rw [if_neg (nI_n0 (by omega)), g1, Option.bind_some]
    simp only
    rw [nI_m10, show 10 - (i + 1) = 9 - i by omega]) (by
    rintro ⟨x, Mi⟩ ⟨h1, h2, h4⟩
    simp only at h1 h2 h4
    subst h1
    have a1 : nI (10 - 10) - 1 < (0 : Int32) := by decide
    exact ⟨Mi, by simp only [f_X12_layOnward_b3, a1, if_true], h2, h4⟩) (s0 := (9, M)) ⟨by show (9 : Int32) = nI 10 - 1; decide, fun d hd => absurd hd (Nat.not_lt_zero d), fun _ _ _ _ => rfl⟩
  refine ⟨Mb, ?_, z1, z2⟩
  unfold f_X12_layOnward
  rw [hz, Option.bind_some]
theorem m_storyAt {M0 M : Mem} (hI : Inv M0) {cl : Nat → Nat × Nat × Nat × Bool × Nat} {n l sp : Nat} (hC : ClM cl n M0) (hs : sp < 8) (e7 : M0 132 33 = nI sp) (hl : l < 6) (hK : KmS M0 M) {B : Nat → Nat → Nat} (eB : BRn (M0 2) cl l n = B) (hB : ∀ a v, B a v ≤ 1200) (h7 : ∀ d, d < 10 → ∀ v, v < 16 → M 157 (16 * (9 - d) + v) = nI (onwN B sp d v)) {age : Nat} (ha : age < 10) : ∃ M1, f_X12_storyAt (nI l) (nI age) M = some (nI (plcN B sp age), M1) ∧ KmS M0 M1 := by
  obtain ⟨z, hz, Z, rfl, z2, z3⟩ := it_inv (b := f_X12_storyAt_b5 (nI l) (nI age)) (fun a S => (∃ Mi, S = (nI (plcN B sp a), nI a, Mi) ∧ (∀ p k, p ≠ 137 → Mi p k = M p k) ∧ KmS M0 Mi)) age (Q := fun Z => ∃ Mi, Z = (nI (plcN B sp age), Mi) ∧ (∀ p k, p ≠ 137 → Mi p k = M p k) ∧ KmS M0 Mi) (by omega) (by
    rintro a ha2 S ⟨Mi, rfl, h2, h3⟩
    have a1 : ¬ nI age ≤ nI a := nI_ge ha2 (by omega)
    have hv := plc_lt B sp a
    have ep : plcN B sp (a + 1) = (bnx sp (plcN B sp a) (onwN B sp (8 - a)) 16).1 := rfl
    rw [ep]
    revert hv
    generalize plcN B sp a = v
    intro hv
    have e1 : 16 * nI a + nI v = nI (16 * a + v) := by
      have : 16 * nI a = nI (16 * a) := pk_mul 16 _
      rw [this, nI_add]
    have p1 := inb_t (k := 16 * a + v) (n := 160) (by omega) (by decide)
    have p2 := nI_cl (show 16 * a + v < 2 ^ 31 by omega)
    obtain ⟨M1, w1, w2⟩ := m_broken (age := a) hI hC h3 hl (by omega) hv
    rw [eB] at w1
    have g7 : M1 132 33 = nI sp := (w2 132 33 (by decide)).trans ((h3 132 33 (by decide) (by decide)).trans e7)
    have o : Mi 157 (16 * a + v) = nI ((bnx sp v (onwN B sp (8 - a)) 16).2 + B a v) := by
      have := h7 (8 - a + 1) (by omega) v hv
      rw [show 9 - (8 - a + 1) = a by omega] at this
      rw [h2 157 _ (by decide), this]
      show nI ((bnx sp v (onwN B sp (8 - a)) 16).2 + B (8 - (8 - a)) v) = _
      rw [show 8 - (8 - a) = a by omega]
    have hbd : ∀ w, w < 16 → onwN B sp (8 - a) w ≤ 20000 := fun w hw => onw_20 hB (by omega) hw
    have hf : ∀ w, w < 16 → M1 157 (16 * a + 16 + w) = nI (onwN B sp (8 - a) w) := by
      intro w hw
      have := h7 (8 - a) (by omega) w hw
      rw [show 16 * (9 - (8 - a)) + w = 16 * a + 16 + w by omega] at this
      rw [w2 157 _ (by decide), h2 157 _ (by decide), this]
    obtain ⟨b1, b2, b3, b4⟩ := bnx_I sp hv (onwN B sp (8 - a)) 16 (Nat.le_refl _)
    have bl := hbd _ b1
    have bB := hB a v
    have left : Mi 157 (16 * a + v) - nI (B a v) = nI (bnx sp v (onwN B sp (8 - a)) 16).2 := by
      rw [o, pk_sub (by omega), Nat.add_sub_cancel]
    have stp1 : ∀ w, w < 16 → f_X12_storyAt_b37 (nI (B a v)) (nI v) (nI a) Mi M1 (nI w) = if cl16 v w ≤ sp ∧ onwN B sp (8 - a) w + cl16 v w = (bnx sp v (onwN B sp (8 - a)) 16).2 then some (.inr (nI w)) else some (.inl (nI (w + 1))) := by
      intro w hw
      have g3 := m_gone v hv w hw
      have g4 := cl_8 v hv w hw
      have gb := hbd w hw
      have f1 : 16 * nI a + 16 + nI w = nI (16 * a + 16 + w) := by
        have g1 : 16 * nI a = nI (16 * a) := pk_mul 16 a
        have g2 : nI (16 * a) + 16 = nI (16 * a + 16) := nI_add _ 16
        rw [g1, g2, nI_add]
      have q1 := inb_t (k := 16 * a + 16 + w) (n := 160) (by omega) (by decide)
      have q2 := nI_cl (show 16 * a + 16 + w < 2 ^ 31 by omega)
      have g5 := cl_8 v hv _ b1
      unfold f_X12_storyAt_b37
      rw [g3, Option.bind_some, Option.bind_some, g7, f1, if_pos q1, q2, hf w hw, e1, p2, left, nI_add, nI_1]
      by_cases y : cl16 v w ≤ sp
      · rw [if_neg (nI_nlt y (by omega))]
        by_cases y2 : onwN B sp (8 - a) w + cl16 v w = (bnx sp v (onwN B sp (8 - a)) 16).2
        · rw [if_pos (by rw [y2]), if_pos ⟨y, y2⟩]
        · rw [if_neg (fun r => y2 (nI_inj (by omega) (by omega) r)), if_neg (fun r => y2 r.2)]
      · rw [if_pos (nI_lt (by omega) (by omega)), if_neg (fun r => y r.1)]
    have hit := it_N (b := f_X12_storyAt_b37 (nI (B a v)) (nI v) (nI a) Mi M1) (r := nI (bnx sp v (onwN B sp (8 - a)) 16).1) (fun w => nI w) (bnx sp v (onwN B sp (8 - a)) 16).1 (by omega) (fun w hw => by
      rw [stp1 w (by omega), if_neg]
      rintro ⟨y1, y2⟩
      have := (b4 w (by omega) y1).2 (by omega)
      omega) (by
      rw [stp1 _ b1, if_pos ⟨b2, by omega⟩]) (s0 := 0) rfl
    refine ⟨_, ?_, M1, rfl, fun p k hp => (w2 p k hp).trans (h2 p k hp), fun p k q1 q2 => (w2 p k q1).trans (h3 p k q1 q2)⟩
    simp only [f_X12_storyAt_b5]
    rw [if_neg a1, e1, if_pos p1, w1, Option.bind_some]
    simp only
    rw [hit, Option.bind_some, nI_1]) (by
    rintro S ⟨Mi, rfl, h2, h3⟩
    have a1 : nI age ≤ nI age := Int32.le_refl _
    exact ⟨_, by simp only [f_X12_storyAt_b5, a1, if_true], Mi, rfl, h2, h3⟩) (s0 := (0, 0, M)) ⟨M, rfl, fun _ _ _ => rfl, hK⟩
  refine ⟨Z, ?_, z3⟩
  unfold f_X12_storyAt
  rw [hz, Option.bind_some]
