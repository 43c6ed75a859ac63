/-! judge -/
theorem jlshr_nI {n k : Nat} (hn : n < 2 ^ 63) (hk : k < 64) : jlshr (lN n) (nI k) = lN (n / 2 ^ k) := by
  unfold jlshr
  rw [wb_c k hk]
  apply Int64.toInt_inj.mp
  have hs : ((lN k).toBitVec.smod 64).toNat = k := by
    rw [wb_tb, wb_sm k hk, BitVec.toNat_ofNat, Nat.mod_eq_of_lt (by omega)]
  have h2 : n / 2 ^ k ≤ n := Nat.div_le_self _ _
  show ((lN n).toBitVec.sshiftRight ((lN k).toBitVec.smod 64).toNat).toInt = _
  rw [hs, BitVec.toInt_sshiftRight]
  show (lN n).toInt >>> k = _
  rw [pk_lT hn, pk_lT (by omega), Int.shiftRight_eq_div_pow]
  rfl
theorem m15 {x : Nat} (h : x < 2 ^ 64) : Int64.toInt32 (lN x &&& 15) = nI (x % 16) := by
  have h1 : lN x &&& 15 = lN (x % 16) := wb_mask (k := 4) h (by decide)
  rw [h1, lN_i]
def fgN (T a : Nat) : Nat := T / 2 ^ (4 * a) % 16
theorem fg_lt (T a : Nat) : fgN T a < 16 := Nat.mod_lt _ (by decide)
theorem fg_I {T a : Nat} (hT : T < 2 ^ 63) (ha : a < 10) : Int64.toInt32 ((jlshr (lN T) (4 * nI a)) &&& 15) = nI (fgN T a) := by
  have e1 : 4 * nI a = nI (4 * a) := pk_mul 4 a
  have h2 : T / 2 ^ (4 * a) ≤ T := Nat.div_le_self _ _
  rw [e1, jlshr_nI hT (by omega), m15 (by omega)]
  rfl
def waN (T : Nat) : Nat → Nat
  | 0 => 0
  | k + 1 => fgN T k
theorem wa_lt (T : Nat) : ∀ k, waN T k < 16
  | 0 => by show 0 < 16; decide
  | k + 1 => fg_lt T k
def jsN (B : Nat → Nat → Nat) (T : Nat) : Nat → Nat
  | 0 => 0
  | k + 1 => jsN B T k + (cl16 (waN T k) (fgN T k) + B k (fgN T k))
def jmB (sp T : Nat) : Nat → Bool
  | 0 => true
  | k + 1 => jmB sp T k && (if k = 0 then decide (fgN T k = 0) else decide (cl16 (waN T k) (fgN T k) ≤ sp))
theorem jm_iff (sp T : Nat) : ∀ k, jmB sp T (k + 1) = true ↔ (fgN T 0 = 0 ∧ ∀ j, j < k → cl16 (fgN T j) (fgN T (j + 1)) ≤ sp)
  | 0 => by
    show (true && (if 0 = 0 then decide (fgN T 0 = 0) else _)) = true ↔ _
    rw [Bool.true_and, if_pos rfl, decide_eq_true_eq]
    exact ⟨fun h => ⟨h, fun j hj => absurd hj (Nat.not_lt_zero j)⟩, fun h => h.1⟩
  | k + 1 => by
    have ih := jm_iff sp T k
    show (jmB sp T (k + 1) && (if k + 1 = 0 then _ else decide (cl16 (fgN T k) (fgN T (k + 1)) ≤ sp))) = true ↔ _
    rw [if_neg (by omega), Bool.and_eq_true, ih, decide_eq_true_eq]
    constructor
    · rintro ⟨⟨h1, h2⟩, h3⟩
      refine ⟨h1, fun j hj => ?_⟩
      by_cases q : j = k
      · subst q; exact h3
      · exact h2 j (by omega)
    · rintro ⟨h1, h2⟩
      exact ⟨⟨h1, fun j hj => h2 j (by omega)⟩, h2 k (by omega)⟩
theorem cl_00 : cl16 0 0 = 0 := by decide
theorem c_judge {M : Mem} (hI : Inv M) {cl : Nat → Nat × Nat × Nat × Bool × Nat} {n l sp T : Nat} (hC : ClC cl n M) (hs : sp < 8) (e7 : M 120 7 = nI sp) (hl : l < 6) (hT : T < 2 ^ 63) : ∃ M1, f_X9_priceOf (nI l) (lN T) M = some (if jmB sp T 10 = true then nI (jsN (BRn (M 2) cl l n) T 10) else -1, M1) ∧ KpS M M1 := by
  have f0 : f_X9_figureOf (lN T) 0 = some (nI (fgN T 0)) := by
    unfold f_X9_figureOf
    rw [show (0 : Int32) = nI 0 from rfl, fg_I hT (by decide)]
  have l0 := fg_lt T 0
  by_cases q0 : fgN T 0 = 0
  · have z0 : nI (fgN T 0) = 0 := by rw [q0]; rfl
    obtain ⟨M1, k1, k2, k3⟩ := c_oweAll hI hC hl
    have g7 : M1 120 7 = nI sp := (k3 120 7 (by decide) (by decide) (by decide) (by decide)).trans e7
    obtain ⟨B, hB⟩ : ∃ B, B = BRn (M 2) cl l n := ⟨_, rfl⟩
    rw [← hB] at k2 ⊢
    have s0 : M1 126 0 = nI (jsN B T 1) := by
      rw [k2 0 (by decide)]
      show nI (B 0 0) = nI (0 + (cl16 0 (fgN T 0) + B 0 (fgN T 0)))
      rw [q0, cl_00, Nat.zero_add, Nat.zero_add]
    have stp0 : ∀ i, i < 9 → f_X9_priceOf_b26 (lN T) M1 (nI (jsN B T (i + 1)), nI (i + 1)) = if cl16 (fgN T i) (fgN T (i + 1)) ≤ sp then some (.inl (nI (jsN B T (i + 2)), nI (i + 2))) else some (.inr (.inr (-1, M1))) := by
      intro i hi
      have a1 : ¬ (10 : Int32) ≤ nI (i + 1) := nI_ge (b := 10) (by omega) (by decide)
      have f1 : f_X9_figureOf (lN T) (nI (i + 1)) = some (nI (fgN T (i + 1))) := by
        unfold f_X9_figureOf
        rw [fg_I hT (by omega)]
      have f2 : f_X9_figureOf (lN T) (nI i) = some (nI (fgN T i)) := by
        unfold f_X9_figureOf
        rw [fg_I hT (by omega)]
      have g1 := fg_lt T (i + 1)
      have g2 := fg_lt T i
      have g3 := c_ring _ g2 _ g1
      have g4 := cl_8 _ g2 _ g1
      have e1 : nI (i + 1) * 16 + nI (fgN T (i + 1)) = nI ((i + 1) * 16 + fgN T (i + 1)) := by
        have : nI (i + 1) * 16 = nI ((i + 1) * 16) := pk_mul _ 16
        rw [this, nI_add]
      have p1 := inb_t (k := (i + 1) * 16 + fgN T (i + 1)) (n := 160) (by omega) (by decide)
      have p2 := nI_cl (show (i + 1) * 16 + fgN T (i + 1) < 2 ^ 31 by omega)
      have k4 := k2 ((i + 1) * 16 + fgN T (i + 1)) (by omega)
      rw [show ((i + 1) * 16 + fgN T (i + 1)) / 16 = i + 1 by omega, show ((i + 1) * 16 + fgN T (i + 1)) % 16 = fgN T (i + 1) by omega] at k4
      have es : jsN B T (i + 2) = jsN B T (i + 1) + (cl16 (fgN T i) (fgN T (i + 1)) + B (i + 1) (fgN T (i + 1))) := rfl
      simp only [f_X9_priceOf_b26]
      rw [if_neg a1, f1, Option.bind_some, nI_pred, f2, Option.bind_some, g3, Option.bind_some, g7, e1, if_pos p1, p2, k4, nI_add, nI_add, nI_1, es]
      by_cases w : cl16 (fgN T i) (fgN T (i + 1)) ≤ sp
      · rw [if_pos w, if_pos (nI_le w (by omega))]
      · rw [if_neg w, if_neg (nI_ge (by omega) (by omega))]
    refine ⟨M1, ?_, k3⟩
    unfold f_X9_priceOf
    rw [f0, Option.bind_some, if_pos z0, k1, Option.bind_some, show Int32.toNatClampNeg 0 = 0 from rfl, s0]
    rcases fst_of (fun j => ¬ cl16 (fgN T j) (fgN T (j + 1)) ≤ sp) 9 with ⟨N, hN, h1, h2⟩ | hall
    · have hj : jmB sp T 10 = false := by
        cases hq : jmB sp T 10 with
        | false => rfl
        | true => exact absurd (((jm_iff sp T 9).mp hq).2 N hN) h1
      have hit := it_N (b := f_X9_priceOf_b26 (lN T) M1) (r := .inr (-1, M1)) (fun i => (nI (jsN B T (i + 1)), nI (i + 1))) N (by omega) (fun i hi => by
        rw [stp0 i (by omega), if_pos (Decidable.of_not_not (h2 i hi))]) (by
        rw [stp0 N hN, if_neg h1]) (s0 := (nI (jsN B T 1), 1)) rfl
      rw [hit, hj]
      rfl
    · have hj : jmB sp T 10 = true := (jm_iff sp T 9).mpr ⟨q0, fun j hj => Decidable.of_not_not (hall j hj)⟩
      have hit := it_N (b := f_X9_priceOf_b26 (lN T) M1) (r := .inl (nI (jsN B T 10))) (fun i => (nI (jsN B T (i + 1)), nI (i + 1))) 9 (by omega) (fun i hi => by
        rw [stp0 i hi, if_pos (Decidable.of_not_not (hall i hi))]) (by
        have a1 : (10 : Int32) ≤ nI (9 + 1) := by decide
        simp only [f_X9_priceOf_b26, a1, if_true]) (s0 := (nI (jsN B T 1), 1)) rfl
      rw [hit, hj]
      rfl
  · have z0 : ¬ nI (fgN T 0) = 0 := nI_ne0 (by omega) (by omega)
    have hj : jmB sp T 10 = false := by
      cases hq : jmB sp T 10 with
      | false => rfl
      | true => exact absurd ((jm_iff sp T 9).mp hq).1 q0
    refine ⟨M, ?_, fun _ _ _ _ _ _ => rfl⟩
    unfold f_X9_priceOf
    rw [f0, Option.bind_some, if_neg z0, hj]
    rfl
theorem m_judge {M : Mem} (hI : Inv M) {cl : Nat → Nat × Nat × Nat × Bool × Nat} {n l sp T : Nat} (hC : ClM cl n M) (hs : sp < 8) (e7 : M 132 33 = nI sp) (hl : l < 6) (hT : T < 2 ^ 63) : ∃ M1, it (f_X12_judge_b36 (nI l) (lN T)) FU (0, 0, true, 0, M) = some (nI (jsN (BRn (M 2) cl l n) T 10), jmB sp T 10, M1) ∧ KmS M M1 := by
  obtain ⟨B, hB⟩ : ∃ B, B = BRn (M 2) cl l n := ⟨_, rfl⟩
  rw [← hB]
  obtain ⟨z, hz, z1, z2⟩ := it_inv (b := f_X12_judge_b36 (nI l) (lN T)) (fun k S => (∃ Mi, S = (nI (jsN B T k), nI (waN T k), jmB sp T k, nI k, Mi) ∧ KmS M Mi)) 10 (Q := fun Z => ∃ Mi, Z = (nI (jsN B T 10), jmB sp T 10, Mi) ∧ KmS M Mi) (by decide) (by
    rintro k hk S ⟨Mi, rfl, h3⟩
    have a1 : ¬ (10 : Int32) ≤ nI k := nI_ge (b := 10) hk (by decide)
    have g1 := fg_lt T k
    have g2 := wa_lt T k
    have g3 := m_gone _ g2 _ g1
    have g4 := cl_8 _ g2 _ g1
    obtain ⟨M1, k1, k2⟩ := m_broken hI hC h3 hl hk g1
    rw [← hB] at k1
    have g7 : Mi 132 33 = nI sp := (h3 132 33 (by decide) (by decide)).trans e7
    have es : jsN B T (k + 1) = jsN B T k + (cl16 (waN T k) (fgN T k) + B k (fgN T k)) := rfl
    have em : jmB sp T (k + 1) = (jmB sp T k && (if k = 0 then decide (fgN T k = 0) else decide (cl16 (waN T k) (fgN T k) ≤ sp))) := rfl
    have hx : (if jmB sp T k = true then (if nI k = 0 then (if nI (fgN T k) = 0 then some true else some false) else if nI sp < nI (cl16 (waN T k) (fgN T k)) then some false else some true) else some false) = some (jmB sp T (k + 1)) := by
      rw [em]
      generalize jmB sp T k = J
      cases J
      · rfl
      · rw [if_pos rfl, Bool.true_and]
        by_cases w : k = 0
        · have w2 : nI k = 0 := by rw [w]; rfl
          rw [if_pos w2, if_pos w]
          by_cases y : fgN T k = 0
          · have y2 : nI (fgN T k) = 0 := by rw [y]; rfl
            rw [if_pos y2, decide_eq_true y]
          · have y2 : ¬ nI (fgN T k) = 0 := nI_ne0 (by omega) (by omega)
            rw [if_neg y2, decide_eq_false y]
        · have w2 : ¬ nI k = 0 := nI_ne0 (by omega) (by omega)
          rw [if_neg w2, if_neg w]
          by_cases y : cl16 (waN T k) (fgN T k) ≤ sp
          · rw [if_neg (nI_nlt y (by omega)), decide_eq_true y]
          · rw [if_pos (nI_lt (by omega) (by omega)), decide_eq_false y]
    refine ⟨(nI (jsN B T (k + 1)), nI (waN T (k + 1)), jmB sp T (k + 1), nI (k + 1), M1), ?_, M1, rfl, fun p j p1 p2 => (k2 p j p1).trans (h3 p j p1 p2)⟩
    simp only [f_X12_judge_b36]
    rw [if_neg a1, fg_I hT hk, g3, Option.bind_some, g7, hx, Option.bind_some, Option.bind_some, k1, Option.bind_some, nI_1, es]
    simp only [nI_add]
    rfl) (by
    rintro S ⟨Mi, rfl, h3⟩
    have a1 : (10 : Int32) ≤ nI 10 := by decide
    exact ⟨_, by simp only [f_X12_judge_b36, a1, if_true], Mi, rfl, h3⟩) (s0 := (0, 0, true, 0, M)) ⟨M, rfl, fun _ _ _ _ => rfl⟩
  obtain ⟨rfl, z2⟩ := z2
  exact ⟨z1, hz, z2⟩
theorem lc_zero (x y : Int64) : lg_cmp x y = 0 ↔ x = y := by
  unfold lg_cmp
  by_cases h1 : x > y
  · rw [if_pos h1]
    refine ⟨fun h => absurd h (by decide), fun h => ?_⟩
    subst h
    have : x.toInt < x.toInt := Int64.lt_iff_toInt_lt.mp h1
    omega
  · rw [if_neg h1]
    by_cases h2 : x = y
    · rw [if_pos h2]
      exact ⟨fun _ => h2, fun _ => rfl⟩
    · rw [if_neg h2]
      exact ⟨fun h => absurd h (by decide), fun h => absurd h h2⟩
theorem st_judge : ST_judge Inv := by
  intro a1 a2 M hI
  by_cases h : isN a1 6 = true
  · obtain ⟨l, hl, rfl⟩ := isN_of (by decide) h
    have e0 : (0 : Int64).toInt = 0 := by decide
    by_cases q : a2.toInt < 0
    · have q1 : lg_cmp a2 0 < 0 := (lc_neg a2 0).mpr (by omega)
      have q2 : f_X12_in a2 0 1099511627775 = some false := by
        rw [s_in, decide_eq_false (show ¬ (0 : Int64).toInt ≤ a2.toInt by omega)]
        rfl
      refine ob_mk (z := (-102, M)) (by simp [f_X11_judge, f_X11_isLand, wi_6, h, q1]) ?_
      exact ob_mk (z := (-102, M)) (by simp [f_X12_judge, f_X12_isLand, wn_6, h, q2]) ⟨rfl, hI⟩
    · have q1 : ¬ lg_cmp a2 0 < 0 := fun w => q (by have := (lc_neg a2 0).mp w; omega)
      have qq : ¬ a2 < 0 := fun w => q (by rw [Int64.lt_iff_toInt_lt] at w; omega)
      obtain ⟨T, hT, rfl⟩ := pk_lOf qq
      have e1 : jlshr (lN T) 40 = lN (T / 2 ^ 40) := jlshr_nI (k := 40) hT (by decide)
      have hz : (lg_cmp (jlshr (lN T) 40) 0 = 0) ↔ T < 2 ^ 40 := by
        rw [lc_zero, e1]
        have : (lN (T / 2 ^ 40) = lN 0) ↔ T / 2 ^ 40 = 0 := pk_lEQ (by omega) (by decide)
        rw [show (0 : Int64) = lN 0 from rfl, this]
        omega
      have hin : f_X12_in (lN T) 0 1099511627775 = some (decide (T < 2 ^ 40)) := by
        rw [s_in, pk_lT hT, e0]
        have : (1099511627775 : Int64).toInt = 1099511627775 := by decide
        rw [this, decide_eq_true (show (0 : Int) ≤ (T : Int) by omega), Bool.true_and]
        congr 1
        exact decide_eq_decide.mpr (by omega)
      by_cases q3 : T < 2 ^ 40
      · obtain ⟨sp, n, hs, f1, f2, cC, cM⟩ := hI.2.2.2.2.2.1.cl
        obtain ⟨M1, k1, k2⟩ := c_judge hI cC hs f1 hl hT
        have hI1 := hI.nS k2
        have r2 : M1 2 = M 2 := funext fun k => k2 2 k (by decide) (by decide) (by decide) (by decide)
        obtain ⟨M2, g1, g2⟩ := m_judge hI1 (cM.kp k2) hs ((k2 132 33 (by decide) (by decide) (by decide) (by decide)).trans f2) hl hT
        rw [r2] at g1
        have c0 : f_X11_judge (nI l) (lN T) M = some (if jmB sp T 10 = true then nI (jsN (BRn (M 2) (clT M) l n) T 10) else -1, M1) := by
          unfold f_X11_judge f_X11_isLand
          rw [wi_6, h, Option.bind_some]
          rw [Option.bind_some, if_pos rfl, if_neg q1, if_pos (hz.mpr q3), k1]
          rfl
        have m0 : f_X12_judge (nI l) (lN T) M1 = some (if jmB sp T 10 = true then nI (jsN (BRn (M 2) (clT M) l n) T 10) else -1, M2) := by
          unfold f_X12_judge f_X12_isLand
          rw [wn_6, h, Option.bind_some]
          rw [Option.bind_some, if_pos rfl, hin, decide_eq_true q3, Option.bind_some, if_pos rfl, g1, Option.bind_some]
          simp only
          rw [ite_ss, Option.bind_some]
        exact ob_mk c0 (ob_mk m0 ⟨rfl, hI1.mS g2⟩)
      · have q4 : ¬ lg_cmp (jlshr (lN T) 40) 0 = 0 := fun w => q3 (hz.mp w)
        refine ob_mk (z := (-102, M)) (by simp [f_X11_judge, f_X11_isLand, wi_6, h, q1, q4]) ?_
        refine ob_mk (z := (-102, M)) ?_ ⟨rfl, hI⟩
        unfold f_X12_judge f_X12_isLand
        rw [wn_6, h, Option.bind_some]
        rw [Option.bind_some, if_pos rfl, hin, decide_eq_false q3]
        rfl
  · refine ob_mk (z := (-101, M)) (by simp [f_X11_judge, f_X11_isLand, wi_6, h]) ?_
    exact ob_mk (z := (-101, M)) (by simp [f_X12_judge, f_X12_isLand, wn_6, h]) ⟨rfl, hI⟩
