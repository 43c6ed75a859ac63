theorem jrem_nI {a d : Nat} (ha : a < 2 ^ 31) (h0 : 0 < d) (hd : d < 2 ^ 31) : jrem (nI a) (nI d) = nI (a % d) := pk_rem ha h0 hd
theorem m_off {a b : Nat} (ha : a < 2 ^ 31) (hb : b < 2 ^ 31) : f_X12_off (nI a) (nI b) = some (nI (if a < b then b - a else a - b)) := by
  have h1 : (nI b ≤ nI a) ↔ b ≤ a := nI_leI hb ha
  simp only [f_X12_off, h1]
  by_cases q : b ≤ a
  · have q2 : ¬ a < b := by omega
    simp [q, q2, pk_sub q]
  · have q2 : a < b := by omega
    simp [q, q2, pk_sub (show a ≤ b by omega)]
theorem m_apart {p q : Nat} (hp : p < 128) (hq : q < 128) : f_X12_apart (nI p) (nI q) = some (nI (stp p q)) := by
  have e1 : jrem (nI p) 16 = nI (p % 16) := jrem_nI (d := 16) (by omega) (by decide) (by decide)
  have e2 : jrem (nI q) 16 = nI (q % 16) := jrem_nI (d := 16) (by omega) (by decide) (by decide)
  have e3 : nI p / 16 = nI (p / 16) := pk_div (d := 16) (by omega) (by decide) (by decide)
  have e4 : nI q / 16 = nI (q / 16) := pk_div (d := 16) (by omega) (by decide) (by decide)
  simp only [f_X12_apart, e1, e2, e3, e4, m_off (show p % 16 < 2 ^ 31 by omega) (show q % 16 < 2 ^ 31 by omega), m_off (show p / 16 < 2 ^ 31 by omega) (show q / 16 < 2 ^ 31 by omega), Option.bind_some]
  unfold stp
  have hx : (if p % 16 < q % 16 then q % 16 - p % 16 else p % 16 - q % 16) < 16 := by split <;> omega
  revert hx
  generalize (if p % 16 < q % 16 then q % 16 - p % 16 else p % 16 - q % 16) = x
  intro hx
  have h8 : (nI x ≤ 8) ↔ x ≤ 8 := nI_leI (b := 8) (by omega) (by decide)
  by_cases g : x ≤ 8
  · have g2 : ¬ 8 < x := by omega
    simp [h8, g, g2, nI_add]
  · have g2 : 8 < x := by omega
    have g3 : (16 : Int32) - nI x = nI (16 - x) := pk_sub (a := 16) (by omega)
    simp [h8, g, g2, g3, nI_add]
theorem m_dist {M : Mem} (h : IvG M) {a b : Nat} : f_X12_distanceOf (nI a) (nI b) M = some (nI (dsN (M 2) a b)) := by
  have e : mm (dsF (M 2) a b) 128 99 128 = dsN (M 2) a b := Nat.le_antisymm ((mm_V (dsF (M 2) a b) 128 128).cmp (ds_V (M 2) a b) fun i j hi hj _ => ⟨i, j, hi, hj, Nat.le_refl _⟩) ((ds_V (M 2) a b).cmp (mm_V (dsF (M 2) a b) 128 128) fun i j hi hj _ => ⟨i, j, hi, hj, Nat.le_refl _⟩)
  have bd : ∀ n, mm (dsF (M 2) a b) 128 99 n ≤ 99 := fun n => (mm_l _ 128 99 n).1
  have bd2 : ∀ n j, mn (dsF (M 2) a b n) (mm (dsF (M 2) a b) 128 99 n) j ≤ 99 := fun n j => Nat.le_trans (mn_l _ _ j).1 (bd n)
  have inner : ∀ r, r < 128 → it (f_X12_distanceOf_b17 (nI a) (nI b) M) FU (nI (mm (dsF (M 2) a b) 128 99 r), nI r, 0) = some (nI (mm (dsF (M 2) a b) 128 99 (r + 1)), nI r) := by
    intro r hr
    have q1 := inb_t (k := r) (n := 128) hr (by decide)
    have q2 := nI_cl (show r < 2 ^ 31 by omega)
    have o1 := (h.1 r hr).1
    have c0 : ¬ (128 : Int32) ≤ 0 := by decide
    by_cases h0 : M 2 r = nI a
    · refine it_N (fun j => (nI (mn (dsF (M 2) a b r) (mm (dsF (M 2) a b) 128 99 r) j), nI r, nI j)) 128 (by decide) ?_ ?_ rfl
      · intro j hj
        have a1 : ¬ (128 : Int32) ≤ nI j := nI_ge (b := 128) hj (by decide)
        have p1 := inb_t (k := j) (n := 128) hj (by decide)
        have p2 := nI_cl (show j < 2 ^ 31 by omega)
        have o2 := (h.1 j hj).1
        have e : mn (dsF (M 2) a b r) (mm (dsF (M 2) a b) 128 99 r) (j + 1) = min (mn (dsF (M 2) a b r) (mm (dsF (M 2) a b) 128 99 r) j) (dsF (M 2) a b r j) := rfl
        have hbd := bd2 r j
        by_cases hz : M 2 j = nI b
        · have e3 : dsF (M 2) a b r j = stp r j := by unfold dsF; rw [if_pos ⟨h0, hz⟩]
          have hs := stp_lt hr hj
          rw [e3] at e
          have h8 : (nI (mn (dsF (M 2) a b r) (mm (dsF (M 2) a b) 128 99 r) j) ≤ nI (stp r j)) ↔ mn (dsF (M 2) a b r) (mm (dsF (M 2) a b) 128 99 r) j ≤ stp r j := nI_leI (by omega) (by omega)
          simp only [f_X12_distanceOf_b17, a1, if_false, q1, q2, o1, h0, if_true, p1, p2, o2, hz, m_apart hr hj, Option.bind_some, h8, nI_1, e]
          by_cases g : mn (dsF (M 2) a b r) (mm (dsF (M 2) a b) 128 99 r) j ≤ stp r j
          · simp [g, Nat.min_eq_left]
          · simp [g, Nat.min_eq_right (show stp r j ≤ mn (dsF (M 2) a b r) (mm (dsF (M 2) a b) 128 99 r) j by omega)]
        · have e3 : dsF (M 2) a b r j = 99 := by unfold dsF; rw [if_neg (fun w => hz w.2)]
          rw [e3, Nat.min_eq_left hbd] at e
          simp only [f_X12_distanceOf_b17, a1, if_false, q1, q2, o1, h0, if_true, p1, p2, o2, hz, Option.bind_some, nI_1, e]
      · have a1 : (128 : Int32) ≤ nI 128 := by decide
        simp only [f_X12_distanceOf_b17, a1, if_true]
        rfl
    · have e0 : mm (dsF (M 2) a b) 128 99 (r + 1) = mm (dsF (M 2) a b) 128 99 r := by
        have e : mm (dsF (M 2) a b) 128 99 (r + 1) = mn (dsF (M 2) a b r) (mm (dsF (M 2) a b) 128 99 r) 128 := rfl
        rw [e]
        obtain ⟨g1, g2, -⟩ := mn_l (dsF (M 2) a b r) (mm (dsF (M 2) a b) 128 99 r) 128
        rcases g2 with g2 | ⟨j, -, g2⟩
        · exact g2
        · have : dsF (M 2) a b r j = 99 := by unfold dsF; rw [if_neg (fun w => h0 w.1)]
          have := bd r
          omega
      refine it_N (fun _ => (nI (mm (dsF (M 2) a b) 128 99 r), nI r, 0)) 0 (by decide) (fun i hi => absurd hi (Nat.not_lt_zero i)) ?_ rfl
      simp only [f_X12_distanceOf_b17, c0, if_false, q1, q2, if_true, o1, h0, e0]
  have hit := it_N (b := f_X12_distanceOf_b6 (nI a) (nI b) M) (r := nI (mm (dsF (M 2) a b) 128 99 128)) (fun r => (nI (mm (dsF (M 2) a b) 128 99 r), nI r)) 128 (by decide) (by
    intro r hr
    have a1 : ¬ (128 : Int32) ≤ nI r := nI_ge (b := 128) hr (by decide)
    simp only [f_X12_distanceOf_b6, a1, if_false, Option.bind_some, inner r hr, nI_1]) (by
    have a1 : (128 : Int32) ≤ nI 128 := by decide
    simp only [f_X12_distanceOf_b6, a1, if_true]) (s0 := (99, 0)) rfl
  simp [f_X12_distanceOf, hit, e]
/-- all but the class's own distances -/
def rX4 (p _k : Nat) : Bool := p != 4
theorem c_apart {M : Mem} (h : IvG M) {a b : Nat} (ha : a < 6) (hb : b < 6) (hab : a ≠ b) : ∃ M1, f_X2_apart (nI a) (nI b) M = some (nI (dsN (M 2) a b), M1) ∧ IvG M1 ∧ Sm rX4 M M1 := by
  have key : ∀ x y, x < y → y < 6 → dsN (M 2) a b = dsN (M 2) x y → jmin (nI a) (nI b) = nI x → jmax (nI a) (nI b) = nI y → ∃ M1, f_X2_apart (nI a) (nI b) M = some (nI (dsN (M 2) a b), M1) ∧ IvG M1 ∧ Sm rX4 M M1 := by
    intro x y hxy hy e e1 e2
    have e3 : nI x * 6 + nI y = nI (x * 6 + y) := by
      have : nI x * 6 = nI (x * 6) := pk_mul x 6
      rw [this, nI_add]
    have p1 := inb_t (k := x * 6 + y) (n := 36) (by omega) (by decide)
    have p2 := nI_cl (show x * 6 + y < 2 ^ 31 by omega)
    have hm := c_measure h ha hb
    have hd : M 4 (x * 6 + y) = 0 ∨ M 4 (x * 6 + y) = nI (dsN (M 2) x y) := by
      have := h.2.2 x y hxy hy
      rwa [show 6 * x + y = x * 6 + y by omega] at this
    by_cases h0 : M 4 (x * 6 + y) = 0
    · refine ⟨up M 4 (x * 6 + y) (nI (dsN (M 2) a b)), by simp [f_X2_apart, e1, e2, e3, p1, p2, h0, hm, up_at], ?_, Sm.rfl'.up' rfl⟩
      have e2 : up M 4 (x * 6 + y) (nI (dsN (M 2) a b)) 2 = M 2 := by funext k; simp [up_at]
      refine ⟨fun c hc => ?_, fun l r hl hr => ?_, fun u v huv hv => ?_⟩
      · have := h.1 c hc
        simpa [up_at] using this
      · have := h.2.1 l r hl hr
        rw [e2]
        simpa [up_at] using this
      · rw [e2, up_at]
        by_cases q : 6 * u + v = x * 6 + y
        · have q1 : u = x := by omega
          have q2 : v = y := by omega
          subst q1 q2
          rw [if_pos ⟨rfl, by omega⟩, e]
          exact .inr rfl
        · rw [if_neg (fun w => q w.2)]
          exact h.2.2 u v huv hv
    · exact ⟨M, by simp [f_X2_apart, e1, e2, e3, p1, p2, h0]; rw [e]; exact hd.resolve_left h0, h, Sm.rfl'⟩
  by_cases q : a < b
  · refine key a b q hb rfl ?_ ?_
    · unfold jmin; rw [if_neg (nI_nlt (by omega) (by omega))]
    · unfold jmax; rw [if_pos (nI_lt q (by omega))]
  · refine key b a (by omega) ha (ds_comm _ _ _) ?_ ?_
    · unfold jmin; rw [if_pos (nI_lt (by omega) (by omega))]
    · unfold jmax; rw [if_neg (nI_nlt (by omega) (by omega))]
theorem Inv.four {M M1 : Mem} (h : Inv M) (hG : IvG M1) (s : Sm rX4 M M1) : Inv M1 := by
  have w : ∀ r : Nat → Nat → Bool, (∀ k, r 4 k = false) → Sm r M M1 := by
    intro r hr p k hp
    refine s p k ?_
    by_cases q : p = 4
    · subst q; rw [hr k] at hp; cases hp
    · simp [rX4, q]
  obtain ⟨_, h2, h3, h4, h5, h6, h7⟩ := h
  exact ⟨hG, h2.sm (w _ fun _ => rfl), h3.sm (w _ fun _ => rfl), h4.sm (w _ fun _ => rfl), h5.sm (w _ fun _ => rfl), h6.sm (w _ fun _ => rfl), h7.sm (w _ fun _ => rfl)⟩
theorem st_distance : ST_distance Inv := by
  intro a1 a2 M hI
  by_cases h : isP a1 a2 = true
  · obtain ⟨a, b, ha, hb, hab, rfl, rfl⟩ := isP_of h
    obtain ⟨M1, h1, h2, h3⟩ := c_apart hI.1 ha hb hab
    have hI2 := hI.four h2 h3
    refine ob_mk (z := (nI (dsN (M 2) a b), M1)) (by simp [f_X11_distance, c_pair, h, h1]) ?_
    have e : M1 2 = M 2 := funext fun k => h3 2 k rfl
    exact ob_mk (z := nI (dsN (M 2) a b)) (by simp [f_X12_distance, m_pair, h, m_dist h2, e]) ⟨rfl, hI2⟩
  · refine ob_mk (z := (-101, M)) (by simp [f_X11_distance, c_pair, h]) ?_
    exact ob_mk (z := -101) (by simp [f_X12_distance, m_pair, h]) ⟨rfl, hI⟩
