def cnt (p : Nat → Prop) [DecidablePred p] (n : Nat) : Nat := sm (fun i => if p i then 1 else 0) n
theorem cnt_s (p : Nat → Prop) [DecidablePred p] (n : Nat) : cnt p (n + 1) = cnt p n + (if p n then 1 else 0) := rfl
theorem cnt_le (p : Nat → Prop) [DecidablePred p] : ∀ n, cnt p n ≤ n
  | 0 => Nat.le_refl _
  | n + 1 => by
    have := cnt_le p n
    rw [cnt_s]
    split <;> omega
theorem cnt_0 (p : Nat → Prop) [DecidablePred p] : ∀ n, cnt p n = 0 ↔ ∀ i, i < n → ¬ p i
  | 0 => ⟨fun _ i hi => absurd hi (Nat.not_lt_zero i), fun _ => rfl⟩
  | n + 1 => by
    have ih := cnt_0 p n
    rw [cnt_s]
    constructor
    · intro h i hi
      by_cases q : p n
      · rw [if_pos q] at h; omega
      · by_cases hin : i = n
        · subst hin; exact q
        · exact ih.mp (by omega) i (by omega)
    · intro h
      rw [if_neg (h n (by omega)), Nat.add_zero]
      exact ih.mpr fun i hi => h i (by omega)
theorem bN_t (n : Nat) : nI n + bI true = nI (n + 1) := nI_add n 1
theorem bN_f (n : Nat) : nI n + bI false = nI n := nI_add n 0
theorem c_any {M : Mem} (h : IvM M) (a : Int32) : ∃ n, n ≤ 40 ∧ M 5 4 = nI n ∧ M 132 1 = nI n ∧ f_X5_anyOn a M = some (decide (cnt (fun i => M 7 i = a) n ≠ 0)) ∧ f_X12_marksOn a M = some (nI (cnt (fun i => M 7 i = a) n)) := by
  obtain ⟨n, hn, e1, e2, hc⟩ := h
  refine ⟨n, hn, e1, e2, ?_, ?_⟩
  · have stepN : ∀ i, i < n → ¬ M 7 i = a → f_X5_anyOn_b2 a M (nI i) = some (.inl (nI (i + 1))) := by
      intro i hi hne
      have a1 : ¬ nI n ≤ nI i := nI_ge hi (by omega)
      have p1 := inb_t (k := i) (n := 40) (by omega) (by decide)
      simp only [f_X5_anyOn_b2, e1, a1, if_false, p1, if_true, nI_cl (show i < 2 ^ 31 by omega), hne, nI_1]
    rcases fst_of (fun i => M 7 i = a) n with ⟨N, hN, h1, h2⟩ | hall
    · have hit := it_N (b := f_X5_anyOn_b2 a M) (r := .inr true) (fun i => nI i) N (by omega) (fun i hi => stepN i (by omega) (h2 i hi)) (by
        have a1 : ¬ nI n ≤ nI N := nI_ge hN (by omega)
        have p1 := inb_t (k := N) (n := 40) (by omega) (by decide)
        simp only [f_X5_anyOn_b2, e1, a1, if_false, p1, if_true, nI_cl (show N < 2 ^ 31 by omega), h1]) (s0 := 0) rfl
      have hz : cnt (fun i => M 7 i = a) n ≠ 0 := fun z => (cnt_0 _ n).mp z N hN h1
      simp [f_X5_anyOn, hit, hz]
    · have hit := it_N (b := f_X5_anyOn_b2 a M) (r := .inl ()) (fun i => nI i) n (by omega) (fun i hi => stepN i hi (hall i hi)) (by
        have a1 : nI n ≤ nI n := Int32.le_refl _
        simp only [f_X5_anyOn_b2, e1, a1, if_true]) (s0 := 0) rfl
      have hz : cnt (fun i => M 7 i = a) n = 0 := (cnt_0 _ n).mpr hall
      simp [f_X5_anyOn, hit, hz]
  · have hit := it_N (b := f_X12_marksOn_b4 a M) (r := nI (cnt (fun i => M 7 i = a) n)) (fun i => (nI (cnt (fun i => M 7 i = a) i), nI i)) n (by omega) (by
      intro i hi
      have a1 : ¬ nI n ≤ nI i := nI_ge hi (by omega)
      have p1 := inb_t (k := i) (n := 40) (by omega) (by decide)
      have o := (hc i hi).2.1
      simp only [f_X12_marksOn_b4, e2, a1, if_false, p1, if_true, nI_cl (show i < 2 ^ 31 by omega), o, nI_1, cnt_s]
      by_cases q : M 7 i = a <;> simp only [q, if_true, if_false, Option.bind_some, bN_t, bN_f, Nat.add_zero]) (by
      have a1 : nI n ≤ nI n := Int32.le_refl _
      simp only [f_X12_marksOn_b4, e2, a1, if_true]) (s0 := (0, 0)) rfl
    simp [f_X12_marksOn, hit]
/-- marks stay where owners change, as long as none loses its owner -/
theorem IvM.own {M M1 : Mem} (h : IvM M) (s : Sm rX234 M M1) (s2 : ∀ p k, p ≠ 133 → p ≠ 2 → p ≠ 3 → p ≠ 4 → M1 p k = M p k) (ho : ∀ n i c, n ≤ 40 → M 5 4 = nI n → i < n → c < 128 → M 7 i = nI c → ¬ M 2 c = -1 → ¬ M1 2 c = -1) : IvM M1 := by
  obtain ⟨n, hn, e1, e2, hc⟩ := h
  have w : ∀ p k, p ≠ 133 → p ≠ 2 → p ≠ 3 → p ≠ 4 → M1 p k = M p k := s2
  refine ⟨n, hn, by rw [w 5 4 (by decide) (by decide) (by decide) (by decide), e1], by rw [w 132 1 (by decide) (by decide) (by decide) (by decide), e2], fun i hi => ?_⟩
  obtain ⟨k1, k2, k3, k4, ⟨c, k5, k6, k7⟩, k8⟩ := hc i hi
  rw [w 134 i (by decide) (by decide) (by decide) (by decide), w 135 i (by decide) (by decide) (by decide) (by decide), w 136 i (by decide) (by decide) (by decide) (by decide), w 6 i (by decide) (by decide) (by decide) (by decide), w 7 i (by decide) (by decide) (by decide) (by decide), w 8 i (by decide) (by decide) (by decide) (by decide)]
  exact ⟨k1, k2, k3, k4, ⟨c, k5, k6, ho n i c hn e1 hi k5 k6 k7⟩, k8⟩
theorem Inv.own {M M1 : Mem} (h : Inv M) (hG : IvG M1) (s : ∀ p k, p ≠ 133 → p ≠ 2 → p ≠ 3 → p ≠ 4 → M1 p k = M p k) (ho : ∀ n i c, n ≤ 40 → M 5 4 = nI n → i < n → c < 128 → M 7 i = nI c → ¬ M 2 c = -1 → ¬ M1 2 c = -1) : Inv M1 := by
  have w : ∀ r : Nat → Nat → Bool, (∀ k, r 133 k = false ∧ r 2 k = false ∧ r 3 k = false ∧ r 4 k = false) → Sm r M M1 := by
    intro r hr p k hp
    refine s p k ?_ ?_ ?_ ?_
    · rintro rfl; rw [(hr k).1] at hp; cases hp
    · rintro rfl; rw [(hr k).2.1] at hp; cases hp
    · rintro rfl; rw [(hr k).2.2.1] at hp; cases hp
    · rintro rfl; rw [(hr k).2.2.2] at hp; cases hp
  obtain ⟨_, h2, h3, h4, h5, h6, h7⟩ := h
  refine ⟨hG, ?_, h3.sm (w _ fun _ => ⟨rfl, rfl, rfl, rfl⟩), h4.sm (w _ fun _ => ⟨rfl, rfl, rfl, rfl⟩), h5.sm (w _ fun _ => ⟨rfl, rfl, rfl, rfl⟩), h6.sm (w _ fun _ => ⟨rfl, rfl, rfl, rfl⟩), h7.sm (w _ fun _ => ⟨rfl, rfl, rfl, rfl⟩)⟩
  obtain ⟨n, hn, e1, e2, hc⟩ := h2
  refine ⟨n, hn, by rw [s 5 4 (by decide) (by decide) (by decide) (by decide), e1], by rw [s 132 1 (by decide) (by decide) (by decide) (by decide), e2], fun i hi => ?_⟩
  obtain ⟨k1, k2, k3, k4, ⟨c, k5, k6, k7⟩, k8⟩ := hc i hi
  rw [s 134 i (by decide) (by decide) (by decide) (by decide), s 135 i (by decide) (by decide) (by decide) (by decide), s 136 i (by decide) (by decide) (by decide) (by decide), s 6 i (by decide) (by decide) (by decide) (by decide), s 7 i (by decide) (by decide) (by decide) (by decide), s 8 i (by decide) (by decide) (by decide) (by decide)]
  exact ⟨k1, k2, k3, k4, ⟨c, k5, k6, ho n i c hn e1 hi k5 k6 k7⟩, k8⟩
theorem st_cell : ST_cell Inv := by
  intro a1 a2 M hI
  have key : (a1 = -1 ∨ ∃ l, l < 6 ∧ a1 = nI l) → OB (f_X11_cell_j12_0 a1 a2 M) (fun z => OB (f_X12_cell_j12_0 a1 a2 z.2) (fun w => w.1 = z.1 ∧ Inv w.2)) := by
    intro hv
    by_cases h : isN a2 128 = true
    · obtain ⟨c, hc, rfl⟩ := isN_of (by decide) h
      have ic : f_X12_isCell (nI c) = some true := by simp only [f_X12_isCell, wn_128, h]; rfl
      have q1 := inb_t (k := c) (n := 128) hc (by decide)
      have q2 := nI_cl (show c < 2 ^ 31 by omega)
      obtain ⟨n, hn, e1, e2, g1, g2⟩ := c_any hI.2.1 (nI c)
      have hl := cnt_le (fun i => M 7 i = nI c) n
      by_cases hz : cnt (fun i => M 7 i = nI c) n = 0
      · obtain ⟨M1, k1, k2, k3, k4⟩ := c_give hI.1.C hc hv
        have o1 : M1 133 c = M 2 c := by rw [k4 133 c rfl]; exact (hI.1.1 c hc).1
        have sm2 : ∀ p k, p ≠ 133 → p ≠ 2 → p ≠ 3 → p ≠ 4 → M1 p k = M p k := fun p k _ n2 n3 n4 => k4 p k (by simp [rX234, n2, n3, n4])
        have hM1 : f_X12_marksOn (nI c) M1 = some (nI 0) := by
          have hM : IvM M1 := by
            refine hI.2.1.own k4 sm2 ?_
            intro n2 i c2 l1 l2 l3 l4 l5 l6
            have : n2 = n := nI_inj (by omega) (by omega) (l2.symm.trans e1)
            subst this
            have hne : c2 ≠ c := by
              rintro rfl
              exact (cnt_0 _ n2).mp hz i l3 l5
            rw [k3, pk_un hne]
            exact l6
          obtain ⟨n3, hn3, f1, -, -, f4⟩ := c_any hM (nI c)
          have : n3 = n := nI_inj (by omega) (by omega) (f1.symm.trans ((sm2 5 4 (by decide) (by decide) (by decide) (by decide)).trans e1))
          subst this
          have e7 : M1 7 = M 7 := funext fun k => sm2 7 k (by decide) (by decide) (by decide) (by decide)
          rw [e7, hz] at f4
          exact f4
        have z0 : nI 0 ≤ 0 := by decide
        refine ob_mk (z := (M 2 c, M1)) (by simp [f_X11_cell_j12_0, wi_128, h, g1, hz, f_X2_ownerOf, q1, q2, k1]) ?_
        refine ob_mk (z := (M 2 c, up M1 133 c a1)) (by simp [f_X12_cell_j12_0, ic, hM1, z0, q1, q2, o1]) ⟨rfl, ?_⟩
        have e3 : up M1 133 c a1 2 = M1 2 := by funext k; simp [up_at]
        refine hI.own (IvC.G (M := up M1 133 c a1) ?_ ?_) ?_ ?_
        · refine ⟨fun d hd => ?_, fun l r hl hr => ?_, fun a b hab hb => ?_⟩
          · rw [e3]; exact k2.1 d hd
          · rw [e3]; simpa [up_at] using k2.2.1 l r hl hr
          · rw [e3]; simpa [up_at] using k2.2.2 a b hab hb
        · intro d hd
          rw [e3, k3, up_at]
          by_cases q : d = c
          · subst q; rw [if_pos ⟨rfl, rfl⟩, pk_us]
          · rw [if_neg (fun w => q w.2), pk_un q, k4 133 d rfl]; exact (hI.1.1 d hd).1
        · intro p k n1 n2 n3 n4
          show up M1 133 c a1 p k = M p k
          rw [up_at, if_neg (fun w => n1 w.1)]
          exact sm2 p k n1 n2 n3 n4
        · intro n2 i c2 l1 l2 l3 l4 l5 l6
          have : n2 = n := nI_inj (by omega) (by omega) (l2.symm.trans e1)
          subst this
          have hne : c2 ≠ c := by
            rintro rfl
            exact (cnt_0 _ n2).mp hz i l3 l5
          show ¬ up M1 133 c a1 2 c2 = -1
          rw [e3, k3, pk_un hne]
          exact l6
      · have z1 : ¬ nI (cnt (fun i => M 7 i = nI c) n) ≤ 0 := nI_nle (by omega) (by omega)
        refine ob_mk (z := (-103, M)) (by simp [f_X11_cell_j12_0, wi_128, h, g1, hz]) ?_
        exact ob_mk (z := (-103, M)) (by simp [f_X12_cell_j12_0, ic, g2, z1]) ⟨rfl, hI⟩
    · refine ob_mk (z := (-101, M)) (by simp [f_X11_cell_j12_0, wi_128, h]) ?_
      exact ob_mk (z := (-101, M)) (by simp [f_X12_cell_j12_0, f_X12_isCell, wn_128, h]) ⟨rfl, hI⟩
  by_cases h1 : a1 = -1
  · have := key (.inl h1)
    simpa [f_X11_cell, f_X12_cell, h1] using this
  · by_cases h2 : isN a1 6 = true
    · have := key (.inr (isN_of (by decide) h2))
      simpa [f_X11_cell, f_X12_cell, h1, f_X11_isLand, f_X12_isLand, wi_6, wn_6, h2] using this
    · refine ob_mk (z := (-101, M)) (by simp [f_X11_cell, h1, f_X11_isLand, wi_6, h2]) ?_
      exact ob_mk (z := (-101, M)) (by simp [f_X12_cell, h1, f_X12_isLand, wn_6, h2]) ⟨rfl, hI⟩
