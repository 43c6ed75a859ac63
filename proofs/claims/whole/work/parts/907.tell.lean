theorem nI_d10 {i : Nat} (hi : i < 10) : nI (10 - i) - 1 = nI (9 - i) := by
  have := nI_pd (n := 10 - i) (by omega)
  rw [show 10 - i - 1 = 9 - i by omega] at this
  exact this
theorem nI_m10 (k : Nat) : nI k + (-1) = nI k - 1 := (Int32.sub_eq_add_neg (nI k) 1).symm
theorem c_ages {M0 M : Mem} {B : Nat → Nat → Nat} {sp i : Nat} (hB : ∀ a v, B a v ≤ 1200) (hs : sp < 8) (hi : i < 10) (e7 : M0 120 7 = nI sp) (hK : KpS M0 M) (h6 : ∀ j, j < 160 → M 126 j = nI (B (j / 16) (j % 16))) (h7 : ∀ d, d < i → ∀ v, v < 16 → M 127 ((9 - d) * 16 + v) = nI (onwN B sp d v)) : ∃ M1, it f_X9_tell_b14 FU (nI (9 - i), 0, M) = some (nI (9 - i), M1) ∧ (∀ d, d < i + 1 → ∀ v, v < 16 → M1 127 ((9 - d) * 16 + v) = nI (onwN B sp d v)) ∧ (∀ j, j < 160 → M1 126 j = nI (B (j / 16) (j % 16))) ∧ KpS M0 M1 := by
  obtain ⟨z, hz, Z, rfl, z2, z3, z4, z5⟩ := it_inv (b := f_X9_tell_b14) (fun v S => (∃ Mi, S = (nI (9 - i), nI v, Mi) ∧ (∀ d, d < i → ∀ w, w < 16 → Mi 127 ((9 - d) * 16 + w) = nI (onwN B sp d w)) ∧ (∀ w, w < v → Mi 127 ((9 - i) * 16 + w) = nI (onwN B sp i w)) ∧ (∀ j, j < 160 → Mi 126 j = nI (B (j / 16) (j % 16))) ∧ KpS M0 Mi)) 16 (Q := fun Z => ∃ Mi, Z = (nI (9 - i), Mi) ∧ (∀ d, d < i → ∀ w, w < 16 → Mi 127 ((9 - d) * 16 + w) = nI (onwN B sp d w)) ∧ (∀ w, w < 16 → Mi 127 ((9 - i) * 16 + w) = nI (onwN B sp i w)) ∧ (∀ j, j < 160 → Mi 126 j = nI (B (j / 16) (j % 16))) ∧ KpS M0 Mi) (by decide) (by
    rintro v hv S ⟨Mi, rfl, h2, h3, h4, h5⟩
    have a1 : ¬ (16 : Int32) ≤ nI v := nI_ge (b := 16) hv (by decide)
    have g7 : Mi 120 7 = nI sp := (h5 120 7 (by decide) (by decide) (by decide) (by decide)).trans e7
    have e1 : nI (9 - i) * 16 + nI v = nI ((9 - i) * 16 + v) := by
      have : nI (9 - i) * 16 = nI ((9 - i) * 16) := pk_mul _ 16
      rw [this, nI_add]
    have p1 := inb_t (k := (9 - i) * 16 + v) (n := 160) (by omega) (by decide)
    have p2 := nI_cl (show (9 - i) * 16 + v < 2 ^ 31 by omega)
    have o := h4 ((9 - i) * 16 + v) (by omega)
    rw [show ((9 - i) * 16 + v) / 16 = 9 - i by omega, show ((9 - i) * 16 + v) % 16 = v by omega] at o
    have key : ∃ x, (if nI (9 - i) = 9 then some 0 else (f_X9_bestNext (nI (9 - i)) (nI v) Mi).bind fun r74 => (f_X9_priceVia (nI (9 - i)) (nI v) r74 Mi).bind fun r75 => some r75) = some x ∧ nI (B (9 - i) v) + x = nI (onwN B sp i v) := by
      cases i with
      | zero =>
        refine ⟨0, by rw [if_pos (show nI (9 - 0) = 9 from rfl)], ?_⟩
        exact nI_add (B 9 v) 0
      | succ d =>
        have q : ¬ nI (9 - (d + 1)) = 9 := fun w => by
          have := nI_inj (b := 9) (by omega) (by decide) w
          omega
        have hf : ∀ w, w < 16 → Mi 127 ((9 - (d + 1) + 1) * 16 + w) = nI (onwN B sp d w) := by
          intro w hw
          rw [show 9 - (d + 1) + 1 = 9 - d by omega]
          exact h2 d (by omega) w hw
        have hbd : ∀ w, w < 16 → onwN B sp d w ≤ 20000 := fun w hw => onw_20 hB (by omega) hw
        have hb := c_best (age := 9 - (d + 1)) (by omega) hv hs g7 hf hbd
        obtain ⟨b1, b2, b3, -⟩ := bnx_I sp hv (onwN B sp d) 16 (Nat.le_refl _)
        have hp := c_via (age := 9 - (d + 1)) (f := onwN B sp d) (by omega) hv b1 (hf _ b1)
        rw [← b3] at hp
        refine ⟨nI (bnx sp v (onwN B sp d) 16).2, by rw [if_neg q, hb, Option.bind_some, hp, Option.bind_some], ?_⟩
        rw [nI_add]
        show _ = nI ((bnx sp v (onwN B sp d) 16).2 + B (8 - d) v)
        rw [show 9 - (d + 1) = 8 - d by omega, Nat.add_comm]
    obtain ⟨x, k1, k2⟩ := key
    refine ⟨(nI (9 - i), nI (v + 1), up Mi 127 ((9 - i) * 16 + v) (nI (onwN B sp i v))), ?_, up Mi 127 ((9 - i) * 16 + v) (nI (onwN B sp i v)), rfl, fun d hd w hw => ?_, fun w hw => ?_, fun j hj => ?_, fun p k p1 p2 p3 p4 => ?_⟩
    · simp only [f_X9_tell_b14]
      rw [if_neg a1, k1, Option.bind_some, e1, if_pos p1, p2, o, k2, nI_1]
    · rw [up_at, if_neg (fun w => by omega)]
      exact h2 d hd w hw
    · rw [up_at]
      by_cases y : w = v
      · subst y
        rw [if_pos ⟨rfl, rfl⟩]
      · rw [if_neg (fun w => by omega)]
        exact h3 w (by omega)
    · rw [up_at, if_neg (fun w => absurd w.1 (by decide))]
      exact h4 j hj
    · rw [up_at, if_neg (fun w => p3 w.1)]
      exact h5 p k p1 p2 p3 p4) (by
    rintro S ⟨Mi, rfl, h2, h3, h4, h5⟩
    have a1 : (16 : Int32) ≤ nI 16 := by decide
    exact ⟨_, by simp only [f_X9_tell_b14, a1, if_true], Mi, rfl, h2, h3, h4, h5⟩) (s0 := (nI (9 - i), 0, M)) ⟨M, rfl, h7, fun w hw => absurd hw (Nat.not_lt_zero w), h6, hK⟩
  refine ⟨Z, hz, fun d hd v hv => ?_, z4, z5⟩
  by_cases y : d = i
  · subst y; exact z3 v hv
  · exact z2 d (by omega) v hv
theorem c_tell {M : Mem} (hI : Inv M) {cl : Nat → Nat × Nat × Nat × Bool × Nat} {n l sp : Nat} (hC : ClC cl n M) (hs : sp < 8) (e7 : M 120 7 = nI sp) (hl : l < 6) : ∃ M1, f_X9_tell (nI l) M = some M1 ∧ M1 127 0 = nI (onwN (BRn (M 2) cl l n) sp 9 0) ∧ (∀ a, a < 10 → M1 128 a = nI (plcN (BRn (M 2) cl l n) sp a)) ∧ KpS M M1 := by
  obtain ⟨Ma, k1, k2, k3⟩ := c_oweAll hI hC hl
  have hB : ∀ a v, BRn (M 2) cl l n a v ≤ 1200 := fun a v => BR_le hC.1 fun i hi => (hC.2.2 i hi).2.2.2.1
  revert k2 hB
  generalize BRn (M 2) cl l n = B
  intro k2 hB
  obtain ⟨Mb, hz, z1, z2⟩ := it_inv (b := f_X9_tell_b8) (fun i S => S.1 = nI (10 - i) - 1 ∧ (∀ d, d < i → ∀ v, v < 16 → S.2 127 ((9 - d) * 16 + v) = nI (onwN B sp d v)) ∧ (∀ j, j < 160 → S.2 126 j = nI (B (j / 16) (j % 16))) ∧ KpS M S.2) 10 (Q := fun Z => (∀ d, d < 10 → ∀ v, v < 16 → Z 127 ((9 - d) * 16 + v) = nI (onwN B sp d v)) ∧ KpS M Z) (by decide) (by
    rintro i hi ⟨x, Mi⟩ ⟨h1, h2, h3, h4⟩
    simp only at h1 h2 h3 h4
    rw [nI_d10 hi] at h1
    subst h1
    obtain ⟨M1, g1, g2, g3, g4⟩ := c_ages hB hs hi e7 h4 h3 h2
    refine ⟨(nI (10 - (i + 1)) - 1, M1), ?_, rfl, g2, g3, g4⟩
    simp only [f_X9_tell_b8]
    rw [if_neg (nI_n0 (by omega)), g1, Option.bind_some]
    simp only
    rw [nI_m10, show 10 - (i + 1) = 9 - i by omega]) (by
    rintro ⟨x, Mi⟩ ⟨h1, h2, h3, h4⟩
    simp only at h1 h2 h3 h4
    subst h1
    have a1 : nI (10 - 10) - 1 < (0 : Int32) := by decide
    exact ⟨Mi, by simp only [f_X9_tell_b8, a1, if_true], h2, h4⟩) (s0 := (9, Ma)) ⟨by show (9 : Int32) = nI 10 - 1; decide, fun d hd => absurd hd (Nat.not_lt_zero d), k2, k3⟩
  have r7 : ∀ a, a < 9 → ∀ w, w < 16 → Mb 127 ((a + 1) * 16 + w) = nI (onwN B sp (8 - a) w) := by
    intro a ha w hw
    have := z1 (8 - a) (by omega) w hw
    rw [show 9 - (8 - a) = a + 1 by omega] at this
    exact this
  obtain ⟨Mc, hy, y1, y2⟩ := it_inv (b := f_X9_tell_b90) (fun i S => S.1 = nI (i + 1) ∧ (∀ a, a < i + 1 → S.2 128 a = nI (plcN B sp a)) ∧ ∀ p k, p ≠ 128 → S.2 p k = Mb p k) 9 (Q := fun Z => (∀ a, a < 10 → Z 128 a = nI (plcN B sp a)) ∧ ∀ p k, p ≠ 128 → Z p k = Mb p k) (by decide) (by
    rintro i hi ⟨x, Mi⟩ ⟨h1, h2, h3⟩
    simp only at h1 h2 h3
    subst h1
    have a1 : ¬ (10 : Int32) ≤ nI (i + 1) := nI_ge (b := 10) (by omega) (by decide)
    have i1 := inb_t (k := i) (n := 10) (by omega) (by decide)
    have i2 := nI_cl (show i < 2 ^ 31 by omega)
    have i3 := inb_t (k := i + 1) (n := 10) (by omega) (by decide)
    have i4 := nI_cl (show i + 1 < 2 ^ 31 by omega)
    have g7 : Mi 120 7 = nI sp := (h3 120 7 (by decide)).trans ((z2 120 7 (by decide) (by decide) (by decide) (by decide)).trans e7)
    have hb := c_best (M := Mi) (age := i) (v := plcN B sp i) (f := onwN B sp (8 - i)) hi (plc_lt B sp i) hs g7 (fun w hw => by rw [h3 127 _ (by decide)]; exact r7 i hi w hw) (fun w hw => onw_20 hB (by omega) hw)
    refine ⟨(nI (i + 1 + 1), up Mi 128 (i + 1) (nI (plcN B sp (i + 1)))), ?_, rfl, fun a ha => ?_, fun p k hp => ?_⟩
    · simp only [f_X9_tell_b90]
      rw [if_neg a1, nI_pred, if_pos i1, i2, h2 i (by omega), hb, Option.bind_some, if_pos i3, i4, nI_1]
      rfl
    · show up Mi 128 (i + 1) _ 128 a = _
      rw [up_at]
      by_cases y : a = i + 1
      · rw [if_pos ⟨rfl, y⟩, y]
      · rw [if_neg (fun w => y w.2)]
        exact h2 a (by omega)
    · show up Mi 128 (i + 1) _ p k = _
      rw [up_at, if_neg (fun w => hp w.1)]
      exact h3 p k hp) (by
    rintro ⟨x, Mi⟩ ⟨h1, h2, h3⟩
    simp only at h1 h2 h3
    subst h1
    have a1 : (10 : Int32) ≤ nI (9 + 1) := by decide
    exact ⟨Mi, by simp only [f_X9_tell_b90, a1, if_true], h2, h3⟩) (s0 := (1, up Mb 128 0 0)) ⟨rfl, fun a ha => by
      have : a = 0 := by omega
      subst this
      show up Mb 128 0 0 128 0 = _
      rw [up_at, if_pos ⟨rfl, rfl⟩]
      rfl, fun p k hp => by
      show up Mb 128 0 0 p k = _
      rw [up_at, if_neg (fun w => hp w.1)]⟩
  refine ⟨Mc, ?_, ?_, y1, fun p k p1 p2 p3 p4 => (y2 p k p4).trans (z2 p k p1 p2 p3 p4)⟩
  · unfold f_X9_tell
    rw [k1, Option.bind_some, hz, Option.bind_some, show Int32.toNatClampNeg 0 = 0 from rfl, hy, Option.bind_some]
  · rw [y2 127 0 (by decide)]
    exact z1 9 (by decide) 0 (by decide)
