theorem m_isHolder (a : Int32) : f_X12_isHolder a = some (isN a 2) := by simp only [f_X12_isHolder, wn_2]; rfl
theorem st_strike : ST_strike Inv := by
  intro a1 M hI
  obtain ⟨hG, hM, hPg, hL, hB, hS, hF⟩ := id hI
  by_cases h : isN a1 2 = true
  · obtain ⟨g, hg, rfl⟩ := isN_of (by decide) h
    obtain ⟨n, hn, e1, e2, hc⟩ := hL g hg
    have q1 := inb_t (k := g) (n := 2) hg (by decide)
    have q2 := nI_cl (show g < 2 ^ 31 by omega)
    by_cases hz : n = 0
    · subst hz
      have z1 : M (hP g) 2 = 0 := e1
      have z2 : M 139 g = 0 := e2
      refine ob_mk (z := (-103, M)) (by simp [f_X11_strike, wi_2, h, hq_nI g hg, f_X3_size, z1]) ?_
      exact ob_mk (z := (-103, M)) (by simp [f_X12_strike, m_isHolder, h, q1, q2, z2]) ⟨rfl, hI⟩
    · obtain ⟨k, rfl⟩ : ∃ k, n = k + 1 := ⟨n - 1, by omega⟩
      have z1 : ¬ nI (k + 1) = 0 := nI_ne0 (by omega) (by omega)
      have p1 : nI (k + 1) - 1 = nI k := nI_pred k
      have h139 : ¬ 139 = hP g := by rcases (show g = 0 ∨ g = 1 by omega) with rfl | rfl <;> decide
      have hh : ∀ r : Nat → Nat → Bool, r (hP g) 2 = false → r 139 g = false → Sm r M (up (up M (hP g) 2 (nI k)) 139 g (nI k)) := fun r a b => (Sm.rfl'.up' a).up' b
      refine ob_mk (z := (nI k, up M (hP g) 2 (nI k))) (by simp [f_X11_strike, wi_2, h, hq_nI g hg, f_X3_size, e1, z1, f_X3_removeLast, p1, up_at]) ?_
      refine ob_mk (z := (nI k, up (up M (hP g) 2 (nI k)) 139 g (nI k))) (by simp [f_X12_strike, m_isHolder, h, q1, q2, up_at, h139, e2, z1, p1]) ⟨rfl, ?_⟩
      have w : ∀ r : Nat → Nat → Bool, r 12 2 = false → r 63 2 = false → r 139 g = false → Sm r M (up (up M (hP g) 2 (nI k)) 139 g (nI k)) := fun r a b c => hh r (by rcases (show g = 0 ∨ g = 1 by omega) with rfl | rfl; exact a; exact b) c
      refine ⟨hG.sm (w _ rfl rfl rfl), hM.sm (w _ rfl rfl rfl), hPg.sm (w _ rfl rfl rfl), ?_, hB.sm (w _ rfl rfl rfl), hS.sm (w _ rfl rfl rfl), hF.sm (w _ rfl rfl rfl)⟩
      refine hL.cut (M1 := up (up M (hP g) 2 (nI k)) 139 g (nI k)) hg e1 (by omega) (by rw [up_at, if_neg (fun q => h139 q.1.symm), up_at, if_pos ⟨rfl, rfl⟩]) (by rw [up_at, if_pos ⟨rfl, rfl⟩]) (fun p j _ n1 n2 => ?_)
      rw [up_at, if_neg n2, up_at, if_neg n1]
  · refine ob_mk (z := (-101, M)) (by simp [f_X11_strike, wi_2, h]) ?_
    exact ob_mk (z := (-101, M)) (by simp [f_X12_strike, m_isHolder, h]) ⟨rfl, hI⟩
/-! pairs of lands -/
def isP (a b : Int32) : Bool := isN a 6 && isN b 6 && decide (¬ a = b)
theorem c_pair (a b : Int32) : f_X11_areTwoLands a b = some (isP a b) := by
  unfold f_X11_areTwoLands f_X11_isLand isP
  simp only [wi_6, Option.bind_some]
  cases isN a 6
  · simp
  · cases isN b 6
    · simp
    · by_cases h : a = b <;> simp [h]
theorem m_pair (a b : Int32) : f_X12_isPair a b = some (isP a b) := by
  unfold f_X12_isPair f_X12_isLand isP
  simp only [wn_6, Option.bind_some]
  cases isN a 6
  · simp
  · cases isN b 6
    · simp
    · by_cases h : a = b <;> simp [h]
theorem isP_of {a b : Int32} (h : isP a b = true) : ∃ x y, x < 6 ∧ y < 6 ∧ x ≠ y ∧ a = nI x ∧ b = nI y := by
  simp only [isP, Bool.and_eq_true, decide_eq_true_eq] at h
  obtain ⟨⟨h1, h2⟩, h3⟩ := h
  obtain ⟨x, hx, rfl⟩ := isN_of (by decide) h1
  obtain ⟨y, hy, rfl⟩ := isN_of (by decide) h2
  exact ⟨x, y, hx, hy, fun q => h3 (by rw [q]), rfl, rfl⟩
theorem c_9add {M : Mem} {n : Nat} (hn : n < 12) (e : M 120 6 = nI n) (a b c : Int32) (z : Bool) (d : Int32) : f_X9_add a b c z d M = some (nI n, up (up (up (up (up (up M 121 n a) 122 n b) 123 n c) 124 n (bI z)) 125 n d) 120 6 (nI (n + 1))) := by
  have h1 := inb_t (k := n) (n := 12) hn (by decide)
  have h2 : nI (n + 1) - 1 = nI n := nI_pred n
  simp [f_X9_add, up_at, e, h1, nI_cl (show n < 2 ^ 31 by omega), nI_1, h2]
theorem st_claim : ST_claim Inv := by
  intro a1 a2 a3 a4 a5 M hI
  obtain ⟨hG, hM, hPg, hL, hB, ⟨⟨v0, hv0, s1, s2⟩, n, hn, e1, e2, hc⟩, hF⟩ := id hI
  by_cases h : isP a1 a2 = true
  · by_cases h2 : isN a3 10 = true
    · have hr : f_X12_in (Int32.toInt64 a5) 1 99 = some (decide (1 ≤ a5) && decide (a5 ≤ 99)) := r_lh a5 1 99
      by_cases q1 : a5 < 1
      · have q2 : ¬ (1 : Int32) ≤ a5 := by rw [nle_lt]; exact q1
        refine ob_mk (z := (-102, M)) (by simp [f_X11_claim, c_pair, h, wi_10, h2, q1]) ?_
        exact ob_mk (z := (-102, M)) (by simp [f_X12_claim, m_pair, h, wn_10, h2, hr, q2]) ⟨rfl, hI⟩
      have q2 : (1 : Int32) ≤ a5 := nlt_le.mp q1
      by_cases q4 : a5 ≤ 99
      · by_cases hf : n = 12
        · subst hf
          have z1 : M 120 6 = 12 := e1
          have z2 : M 132 34 = 12 := e2
          refine ob_mk (z := (-104, M)) (by simp [f_X11_claim, c_pair, h, wi_10, h2, q1, q4, f_X9_isFull, z1]) ?_
          exact ob_mk (z := (-104, M)) (by simp [f_X12_claim, m_pair, h, wn_10, h2, hr, q2, q4, z2]) ⟨rfl, hI⟩
        · have hn8 : n < 12 := by omega
          have z1 : M 120 6 < 12 := by rw [e1]; exact nI_lt (b := 12) hn8 (by decide)
          have z2 : ¬ nI n = 12 := fun q => hf (nI_inj (b := 12) (by omega) (by decide) q)
          have p1 := inb_t (k := n) (n := 12) hn8 (by decide)
          have p2 : nI (n + 1) - 1 = nI n := nI_pred n
          refine ob_mk (z := (nI n, up (up (up (up (up (up M 121 n a1) 122 n a2) 123 n a3) 124 n (bI a4)) 125 n a5) 120 6 (nI (n + 1)))) (by simp [f_X11_claim, c_pair, h, wi_10, h2, q1, q4, f_X9_isFull, z1, c_9add hn8 e1]) ?_
          refine ob_mk (z := (nI n, up (up (up (up (up (up (up (up (up (up (up (up M 121 n a1) 122 n a2) 123 n a3) 124 n (bI a4)) 125 n a5) 120 6 (nI (n + 1))) 152 n a1) 153 n a2) 154 n a3) 155 n (bI a4)) 156 n a5) 132 34 (nI (n + 1)))) (by simp [f_X12_claim, m_pair, h, wn_10, h2, hr, q2, q4, z2, up_at, e2, p1, nI_cl (show n < 2 ^ 31 by omega), nI_1, p2]) ⟨rfl, ?_⟩
          obtain ⟨x, y, hx, hy, hxy, rfl, rfl⟩ := isP_of h
          obtain ⟨g, hg, rfl⟩ := isN_of (by decide) h2
          obtain ⟨w, hw, rfl⟩ : ∃ s, s < 2 ^ 31 ∧ a5 = nI s := nI_of (by rw [i_lt]; rw [i_le] at q2; have : (1 : Int32).toInt = 1 := rfl; have : (0 : Int32).toInt = 0 := rfl; omega)
          have w1 : 1 ≤ w := (nI_leI (a := 1) (by decide) hw).mp q2
          have w2 : w ≤ 99 := (nI_leI hw (b := 99) (by decide)).mp q4
          have sm12 : ∀ r : Nat → Nat → Bool, r 121 n = false → r 122 n = false → r 123 n = false → r 124 n = false → r 125 n = false → r 120 6 = false → r 152 n = false → r 153 n = false → r 154 n = false → r 155 n = false → r 156 n = false → r 132 34 = false → Sm r M (up (up (up (up (up (up (up (up (up (up (up (up M 121 n (nI x)) 122 n (nI y)) 123 n (nI g)) 124 n (bI a4)) 125 n (nI w)) 120 6 (nI (n + 1))) 152 n (nI x)) 153 n (nI y)) 154 n (nI g)) 155 n (bI a4)) 156 n (nI w)) 132 34 (nI (n + 1))) := fun r b1 b2 b3 b4 b5 b6 b7 b8 b9 b10 b11 b12 => (((((((((((Sm.rfl'.up' b1).up' b2).up' b3).up' b4).up' b5).up' b6).up' b7).up' b8).up' b9).up' b10).up' b11).up' b12
          refine ⟨hG.sm (sm12 _ rfl rfl rfl rfl rfl rfl rfl rfl rfl rfl rfl rfl), hM.sm (sm12 _ rfl rfl rfl rfl rfl rfl rfl rfl rfl rfl rfl rfl), hPg.sm (sm12 _ rfl rfl rfl rfl rfl rfl rfl rfl rfl rfl rfl rfl), hL.sm (sm12 _ rfl rfl rfl rfl rfl rfl rfl rfl rfl rfl rfl rfl), hB.sm (sm12 _ rfl rfl rfl rfl rfl rfl rfl rfl rfl rfl rfl rfl), ⟨⟨v0, hv0, by simpa [up_at] using s1, by simpa [up_at] using s2⟩, n + 1, by omega, by simp [up_at], by simp [up_at], fun i hi => ?_⟩, hF.sm (sm12 _ rfl rfl rfl rfl rfl rfl rfl rfl rfl rfl rfl rfl)⟩
          by_cases hin : i = n
          · subst hin
            exact ⟨by simp [up_at], by simp [up_at], by simp [up_at], by simp [up_at], by simp [up_at], ⟨x, y, hx, hy, hxy, by simp [up_at], by simp [up_at]⟩, ⟨g, hg, by simp [up_at]⟩, ⟨a4, by simp [up_at]⟩, w, by omega, by omega, by simp [up_at]⟩
          · simpa [up_at, hin] using hc i (by omega)
      · refine ob_mk (z := (-102, M)) (by simp [f_X11_claim, c_pair, h, wi_10, h2, q1, q4]) ?_
        exact ob_mk (z := (-102, M)) (by simp [f_X12_claim, m_pair, h, wn_10, h2, hr, q4]) ⟨rfl, hI⟩
    · refine ob_mk (z := (-102, M)) (by simp [f_X11_claim, c_pair, h, wi_10, h2]) ?_
      exact ob_mk (z := (-102, M)) (by simp [f_X12_claim, m_pair, h, wn_10, h2]) ⟨rfl, hI⟩
  · refine ob_mk (z := (-101, M)) (by simp [f_X11_claim, c_pair, h]) ?_
    exact ob_mk (z := (-101, M)) (by simp [f_X12_claim, m_pair, h]) ⟨rfl, hI⟩
/-! mirror, ridge -/
/-- how many of the first n hold in a row -/
def ld (p : Nat → Bool) : Nat → Nat
  | 0 => 0
  | n + 1 => if ld p n < n then ld p n else if p n then n + 1 else n
theorem ld_le (p : Nat → Bool) : ∀ n, ld p n ≤ n
  | 0 => Nat.le_refl _
  | n + 1 => by
    have ih := ld_le p n
    unfold ld
    split
    · omega
    · split <;> omega
theorem ld_t (p : Nat → Bool) : ∀ n i, i < ld p n → p i = true
  | 0, i, h => by simp [ld] at h
  | n + 1, i, h => by
    have ih := ld_t p n
    have hl := ld_le p n
    unfold ld at h
    split at h
    · exact ih i h
    · rename_i h1
      have h2 : ld p n = n := by omega
      split at h
      · rename_i h3
        by_cases hi : i = n
        · rw [hi]; exact h3
        · exact ih i (by omega)
      · exact ih i (by omega)
theorem ld_f (p : Nat → Bool) : ∀ n, ld p n < n → p (ld p n) = false
  | 0, h => by omega
  | n + 1, h => by
    have ih := ld_f p n
    have hl := ld_le p n
    unfold ld at h ⊢
    split at h
    · rename_i h1
      rw [if_pos h1]
      exact ih h1
    · rename_i h1
      rw [if_neg h1]
      split at h
      · omega
      · rename_i h3
        rw [if_neg h3]
        simpa using h3
def eqb (v a : Int32) (i : Nat) : Bool := decide (((jshr v ((a - 1) - nI i)) &&& 1) = ((jshr v (a + nI i)) &&& 1))
def mir (v : Int32) (a : Nat) : Nat := ld (eqb v (nI a)) (min a (24 - a))
theorem mir_le {v : Int32} {a : Nat} (ha : a < 24) : mir v a ≤ 12 := by
  have := ld_le (eqb v (nI a)) (min a (24 - a))
  unfold mir
  omega
theorem jmin_nI {a b : Nat} (ha : a < 2 ^ 31) (hb : b < 2 ^ 31) : jmin (nI a) (nI b) = nI (min a b) := by
  unfold jmin
  by_cases h : b < a
  · rw [if_pos (nI_lt h ha), Nat.min_eq_right (by omega)]
  · rw [if_neg (nI_nlt (by omega) hb), Nat.min_eq_left (by omega)]
theorem sub24 {a : Nat} (ha : a ≤ 24) : (24 : Int32) - nI a = nI (24 - a) := pk_sub (a := 24) ha
theorem c_mir {M : Mem} {a : Nat} (h1 : 1 ≤ a) (ha : a < 24) : f_X10_sameAbout (nI a) M = some (nI (mir (M 131 0) a)) := by
  have hb : jmin (nI a) (24 - nI a) = nI (min a (24 - a)) := by rw [sub24 (by omega)]; exact jmin_nI (by omega) (by omega)
  have hle := ld_le (eqb (M 131 0) (nI a)) (min a (24 - a))
  have hm : mir (M 131 0) a = ld (eqb (M 131 0) (nI a)) (min a (24 - a)) := rfl
  have step : ∀ i, i < mir (M 131 0) a → f_X10_sameAbout_b11 (nI a) M (nI i) = some (.inl (nI (i + 1))) := by
    intro i hi
    have h2 := ld_t (eqb (M 131 0) (nI a)) _ i hi
    simp only [eqb, decide_eq_true_eq] at h2
    have h3 : ¬ nI (min a (24 - a)) ≤ nI i := nI_ge (by omega) (by omega)
    simp [f_X10_sameAbout_b11, hb, h3, h2, nI_1]
  by_cases hq : mir (M 131 0) a < min a (24 - a)
  · have h2 := ld_f (eqb (M 131 0) (nI a)) _ hq
    simp only [eqb, decide_eq_false_iff_not] at h2
    have h3 : ¬ nI (min a (24 - a)) ≤ nI (mir (M 131 0) a) := nI_ge hq (by omega)
    have hit := it_N (b := f_X10_sameAbout_b11 (nI a) M) (r := .inr (nI (mir (M 131 0) a))) (fun i => nI i) (mir (M 131 0) a) (by omega) step (by
      show f_X10_sameAbout_b11 (nI a) M (nI (mir (M 131 0) a)) = _
      simp only [f_X10_sameAbout_b11, hb, h3, if_false]
      exact if_neg h2) (s0 := 0) rfl
    simp [f_X10_sameAbout, hit]
  · have heq : mir (M 131 0) a = min a (24 - a) := by omega
    have h3 : nI (min a (24 - a)) ≤ nI (mir (M 131 0) a) := by rw [heq]; exact Int32.le_refl _
    have hit := it_N (b := f_X10_sameAbout_b11 (nI a) M) (r := .inl ()) (fun i => nI i) (mir (M 131 0) a) (by omega) step (by
      show f_X10_sameAbout_b11 (nI a) M (nI (mir (M 131 0) a)) = _
      simp only [f_X10_sameAbout_b11, hb, h3, if_true]) (s0 := 0) rfl
    simp [f_X10_sameAbout, hit, hb, heq]
theorem m_mir {M : Mem} {a : Nat} (h1 : 1 ≤ a) (ha : a < 24) : f_X12_mirrorOf (nI a) M = some (nI (mir (M 132 41) a)) := by
  have hle := ld_le (eqb (M 132 41) (nI a)) (min a (24 - a))
  have hm : mir (M 132 41) a = ld (eqb (M 132 41) (nI a)) (min a (24 - a)) := rfl
  have hs : ∀ i, i ≤ a - 1 → (nI a - 1) - nI i = nI (a - 1 - i) := by
    intro i hi
    rw [nI_pd h1]
    exact pk_sub hi
  have lo : ∀ i, i ≤ a → i ≤ 24 → (((nI a - 1) - nI i < 0) ↔ a ≤ i) := by
    intro i hi hi2
    by_cases q : i ≤ a - 1
    · rw [hs i q]
      constructor
      · intro h; exact absurd h (nI_n0 (by omega))
      · intro h; omega
    · rw [nI_pd h1]
      constructor
      · intro _; omega
      · intro _; exact pk_sneg (by omega) (by omega)
  have step : ∀ i, i < mir (M 132 41) a → f_X12_mirrorOf_b2 (nI a) M (nI i) = some (.inl (nI (i + 1))) := by
    intro i hi
    have h2 := ld_t (eqb (M 132 41) (nI a)) _ i hi
    simp only [eqb, decide_eq_true_eq] at h2
    have h3 : ¬ ((nI a - 1) - nI i < 0) := by rw [lo i (by omega) (by omega)]; omega
    have h4 : ¬ (24 : Int32) ≤ nI a + nI i := by rw [nI_add]; exact nI_ge (b := 24) (by omega) (by decide)
    simp only [f_X12_mirrorOf_b2, h3, h4, if_false]
    rw [if_pos h2, nI_1]
  have fin : f_X12_mirrorOf_b2 (nI a) M (nI (mir (M 132 41) a)) = some (.inr (nI (mir (M 132 41) a))) := by
    by_cases hq : mir (M 132 41) a < min a (24 - a)
    · have h2 := ld_f (eqb (M 132 41) (nI a)) _ hq
      simp only [eqb, decide_eq_false_iff_not] at h2
      have h3 : ¬ ((nI a - 1) - nI (mir (M 132 41) a) < 0) := by rw [lo _ (by omega) (by omega)]; omega
      have h4 : ¬ (24 : Int32) ≤ nI a + nI (mir (M 132 41) a) := by rw [nI_add]; exact nI_ge (b := 24) (by omega) (by decide)
      simp only [f_X12_mirrorOf_b2, h3, h4, if_false]
      exact if_neg h2
    · by_cases q2 : a ≤ mir (M 132 41) a
      · have h3 : ((nI a - 1) - nI (mir (M 132 41) a) < 0) := by rw [lo _ (by omega) (by omega)]; exact q2
        simp only [f_X12_mirrorOf_b2, h3, if_true]
      · have h3 : ¬ ((nI a - 1) - nI (mir (M 132 41) a) < 0) := by rw [lo _ (by omega) (by omega)]; exact q2
        have h4 : (24 : Int32) ≤ nI a + nI (mir (M 132 41) a) := by rw [nI_add]; exact nI_le (a := 24) (by omega) (by omega)
        simp only [f_X12_mirrorOf_b2, h3, h4, if_true, if_false]
  have hit := it_N (b := f_X12_mirrorOf_b2 (nI a) M) (r := nI (mir (M 132 41) a)) (fun i => nI i) (mir (M 132 41) a) (by omega) step fin (s0 := 0) rfl
  simp [f_X12_mirrorOf, hit]
theorem st_mirror : ST_mirror Inv := by
  intro a1 M hI
  obtain ⟨-, -, -, -, -, -, ⟨v, hv, e1, e2⟩⟩ := id hI
  have hr : f_X12_in (Int32.toInt64 a1) 1 23 = some (decide (1 ≤ a1) && decide (a1 ≤ 23)) := r_lh a1 1 23
  by_cases q1 : a1 < 1
  · have q2 : ¬ (1 : Int32) ≤ a1 := by rw [nle_lt]; exact q1
    refine ob_mk (z := -102) (by simp [f_X11_mirror, q1]) ?_
    exact ob_mk (z := -102) (by simp [f_X12_mirror, hr, q2]) ⟨rfl, hI⟩
  have q2 : (1 : Int32) ≤ a1 := nlt_le.mp q1
  obtain ⟨w, hw, rfl⟩ : ∃ s, s < 2 ^ 31 ∧ a1 = nI s := nI_of (by rw [i_lt]; rw [i_le] at q2; have : (1 : Int32).toInt = 1 := rfl; have : (0 : Int32).toInt = 0 := rfl; omega)
  have w1 : 1 ≤ w := (nI_leI (a := 1) (by decide) hw).mp q2
  by_cases q3 : w < 24
  · have q4 : nI w < 24 := nI_lt (b := 24) q3 (by decide)
    have q5 : nI w ≤ 23 := nI_le (b := 23) (by omega) (by decide)
    refine ob_mk (z := nI (mir (M 131 0) w)) (by simp [f_X11_mirror, q1, q4, c_mir w1 q3]) ?_
    exact ob_mk (z := nI (mir (M 131 0) w)) (by simp [f_X12_mirror, hr, q2, q5, m_mir w1 q3, e1, e2]) ⟨rfl, hI⟩
  · have q4 : ¬ nI w < 24 := nI_nlt (b := 24) (by omega) (by omega)
    have q5 : ¬ nI w ≤ 23 := nI_ge (a := 23) (by omega) (by omega)
    refine ob_mk (z := -102) (by simp [f_X11_mirror, q1, q4]) ?_
    exact ob_mk (z := -102) (by simp [f_X12_mirror, hr, q5]) ⟨rfl, hI⟩
def ad12 (a : Nat) : Nat := if a < 12 then 12 - a else a - 12
theorem ja12 : ∀ a, a < 24 → jabs (nI a - 12) = nI (ad12 a) := by decide +kernel
theorem mo12 : ∀ a, a < 24 → f_X12_off (nI a) 12 = some (nI (ad12 a)) := by decide +kernel
/-- the best place among 1 .. i + 1 -/
def rdg (v : Int32) : Nat → Nat
  | 0 => 1
  | i + 1 => if mir v (rdg v i) < mir v (i + 2) ∨ (mir v (i + 2) = mir v (rdg v i) ∧ ad12 (i + 2) < ad12 (rdg v i)) then i + 2 else rdg v i
theorem rdg_in (v : Int32) : ∀ i, i ≤ 22 → 1 ≤ rdg v i ∧ rdg v i ≤ i + 1
  | 0, _ => ⟨Nat.le_refl _, Nat.le_refl _⟩
  | i + 1, h => by
    have ih := rdg_in v i (by omega)
    unfold rdg
    split <;> omega
theorem ad12_lt {a : Nat} (h : a < 24) : ad12 a < 24 := by unfold ad12; split <;> omega
theorem c_ridge (M : Mem) : f_X10_bestPlace M = some (nI (rdg (M 131 0) 22)) := by
  have h1 : f_X10_sameAbout 1 M = some (nI (mir (M 131 0) 1)) := c_mir (a := 1) (by decide) (by decide)
  have hit := it_N (b := f_X10_bestPlace_b10 M) (r := nI (rdg (M 131 0) 22)) (fun i => (nI (rdg (M 131 0) i), nI (mir (M 131 0) (rdg (M 131 0) i)), nI (i + 2))) 22 (by decide) (by
    intro i hi
    have hd := rdg_in (M 131 0) i (by omega)
    have a1 : ¬ (24 : Int32) ≤ nI (i + 2) := nI_ge (b := 24) (by omega) (by decide)
    have a2 := c_mir (M := M) (a := i + 2) (by omega) (by omega)
    have a3 := ja12 (i + 2) (by omega)
    have a4 := ja12 (rdg (M 131 0) i) (by omega)
    have m1 := mir_le (v := M 131 0) (a := i + 2) (by omega)
    have m2 := mir_le (v := M 131 0) (a := rdg (M 131 0) i) (by omega)
    have d1 := ad12_lt (a := i + 2) (by omega)
    have d2 := ad12_lt (a := rdg (M 131 0) i) (by omega)
    have b1 : (nI (ad12 (rdg (M 131 0) i)) ≤ nI (ad12 (i + 2))) ↔ ad12 (rdg (M 131 0) i) ≤ ad12 (i + 2) := nI_leI (by omega) (by omega)
    have b2 : (nI (mir (M 131 0) (rdg (M 131 0) i)) < nI (mir (M 131 0) (i + 2))) ↔ mir (M 131 0) (rdg (M 131 0) i) < mir (M 131 0) (i + 2) := nI_ltI (by omega) (by omega)
    have b3 : (nI (mir (M 131 0) (i + 2)) = nI (mir (M 131 0) (rdg (M 131 0) i))) ↔ mir (M 131 0) (i + 2) = mir (M 131 0) (rdg (M 131 0) i) := nI_eq (by omega) (by omega)
    simp only [f_X10_bestPlace_b10, a1, if_false, a2, Option.bind_some, a3, a4, b1, b2, b3, nI_1]
    by_cases c1 : mir (M 131 0) (rdg (M 131 0) i) < mir (M 131 0) (i + 2)
    · have e : rdg (M 131 0) (i + 1) = i + 2 := by unfold rdg; rw [if_pos (Or.inl c1)]
      rw [e]
      by_cases c2 : ad12 (rdg (M 131 0) i) ≤ ad12 (i + 2) <;> simp [c1, c2]
    · by_cases c3 : mir (M 131 0) (i + 2) = mir (M 131 0) (rdg (M 131 0) i)
      · by_cases c2 : ad12 (rdg (M 131 0) i) ≤ ad12 (i + 2)
        · have e : rdg (M 131 0) (i + 1) = rdg (M 131 0) i := by
            show (if _ then _ else _) = _
            rw [if_neg (by rintro (q | ⟨-, q⟩) <;> omega)]
          rw [e]
          simp [c1, c2]
        · have e : rdg (M 131 0) (i + 1) = i + 2 := by
            show (if _ then _ else _) = _
            rw [if_pos (Or.inr ⟨c3, by omega⟩)]
          rw [e]
          simp [c1, c2, c3]
      · have e : rdg (M 131 0) (i + 1) = rdg (M 131 0) i := by
          show (if _ then _ else _) = _
          rw [if_neg (by rintro (q | ⟨q, -⟩); exact c1 q; exact c3 q)]
        rw [e]
        by_cases c2 : ad12 (rdg (M 131 0) i) ≤ ad12 (i + 2) <;> simp [c1, c2, c3]) (by
    have a1 : (24 : Int32) ≤ nI (22 + 2) := by decide
    simp only [f_X10_bestPlace_b10, a1, if_true]) (s0 := (1, nI (mir (M 131 0) 1), 2)) rfl
  simp [f_X10_bestPlace, h1, hit]
theorem m_ridge (M : Mem) : f_X12_ridgeOf M = some (nI (rdg (M 132 41) 22)) := by
  have hit := it_N (b := f_X12_ridgeOf_b4 M) (r := nI (rdg (M 132 41) 22)) (fun i => (nI (rdg (M 132 41) i), nI (i + 2))) 22 (by decide) (by
    intro i hi
    have hd := rdg_in (M 132 41) i (by omega)
    have a1 : ¬ (24 : Int32) ≤ nI (i + 2) := nI_ge (b := 24) (by omega) (by decide)
    have a2 := m_mir (M := M) (a := i + 2) (by omega) (by omega)
    have a5 := m_mir (M := M) (a := rdg (M 132 41) i) (by omega) (by omega)
    have a3 := mo12 (i + 2) (by omega)
    have a4 := mo12 (rdg (M 132 41) i) (by omega)
    have m1 := mir_le (v := M 132 41) (a := i + 2) (by omega)
    have m2 := mir_le (v := M 132 41) (a := rdg (M 132 41) i) (by omega)
    have d1 := ad12_lt (a := i + 2) (by omega)
    have d2 := ad12_lt (a := rdg (M 132 41) i) (by omega)
    have b1 : (nI (ad12 (rdg (M 132 41) i)) ≤ nI (ad12 (i + 2))) ↔ ad12 (rdg (M 132 41) i) ≤ ad12 (i + 2) := nI_leI (by omega) (by omega)
    have z : (nI (mir (M 132 41) (i + 2)) - nI (mir (M 132 41) (rdg (M 132 41) i))).toInt = (mir (M 132 41) (i + 2) : Int) - mir (M 132 41) (rdg (M 132 41) i) := pk_sub_toInt (by omega) (by omega)
    have b2 : ((0 : Int32) < nI (mir (M 132 41) (i + 2)) - nI (mir (M 132 41) (rdg (M 132 41) i))) ↔ mir (M 132 41) (rdg (M 132 41) i) < mir (M 132 41) (i + 2) := by
      rw [i_lt, z]
      show (0 : Int) < _ ↔ _
      omega
    have b3 : (nI (mir (M 132 41) (i + 2)) - nI (mir (M 132 41) (rdg (M 132 41) i)) = 0) ↔ mir (M 132 41) (i + 2) = mir (M 132 41) (rdg (M 132 41) i) := by
      rw [i_eq, z]
      show _ = (0 : Int) ↔ _
      omega
    simp only [f_X12_ridgeOf_b4, a1, if_false, a2, a5, Option.bind_some, a3, a4, b1, b2, b3, nI_1]
    by_cases c1 : mir (M 132 41) (rdg (M 132 41) i) < mir (M 132 41) (i + 2)
    · have e : rdg (M 132 41) (i + 1) = i + 2 := by unfold rdg; rw [if_pos (Or.inl c1)]
      rw [e]
      simp [c1]
    · by_cases c3 : mir (M 132 41) (i + 2) = mir (M 132 41) (rdg (M 132 41) i)
      · by_cases c2 : ad12 (rdg (M 132 41) i) ≤ ad12 (i + 2)
        · have e : rdg (M 132 41) (i + 1) = rdg (M 132 41) i := by
            show (if _ then _ else _) = _
            rw [if_neg (by rintro (q | ⟨-, q⟩) <;> omega)]
          rw [e]
          simp [c1, c2, c3]
        · have e : rdg (M 132 41) (i + 1) = i + 2 := by
            show (if _ then _ else _) = _
            rw [if_pos (Or.inr ⟨c3, by omega⟩)]
          rw [e]
          simp [c1, c2, c3]
      · have e : rdg (M 132 41) (i + 1) = rdg (M 132 41) i := by
          show (if _ then _ else _) = _
          rw [if_neg (by rintro (q | ⟨q, -⟩); exact c1 q; exact c3 q)]
        rw [e]
        simp [c1, c3]) (by
    have a1 : (24 : Int32) ≤ nI (22 + 2) := by decide
    simp only [f_X12_ridgeOf_b4, a1, if_true]) (s0 := (1, 2)) rfl
  simp [f_X12_ridgeOf, hit]
theorem st_ridge : ST_ridge Inv := by
  intro M hI
  obtain ⟨-, -, -, -, -, -, ⟨v, hv, e1, e2⟩⟩ := id hI
  refine ob_mk (z := nI (rdg (M 131 0) 22)) (by simp [f_X11_ridge, c_ridge]) ?_
  exact ob_mk (z := nI (rdg (M 131 0) 22)) (by simp [f_X12_ridge, m_ridge, e1, e2]) ⟨rfl, hI⟩
