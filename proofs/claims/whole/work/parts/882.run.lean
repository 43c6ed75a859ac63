theorem it_inv {S R : Type} {b : S → Option (S ⊕ R)} (P : Nat → S → Prop) (N : Nat) {Q : R → Prop} (hN : N < 2000) (hs : ∀ i, i < N → ∀ s, P i s → ∃ s2, b s = some (.inl s2) ∧ P (i + 1) s2) (he : ∀ s, P N s → ∃ r, b s = some (.inr r) ∧ Q r) {s0 : S} (h0 : P 0 s0) : ∃ r, it b FU s0 = some r ∧ Q r := by
  have key : ∃ g : Nat → S, g 0 = s0 ∧ (∀ i, i ≤ N → P i (g i)) ∧ ∀ i, i < N → b (g i) = some (.inl (g (i + 1))) := by
    let g : Nat → S := fun n => Nat.rec s0 (fun _ s => match b s with | some (.inl s2) => s2 | _ => s) n
    have gs : ∀ i s2, b (g i) = some (.inl s2) → g (i + 1) = s2 := by
      intro i s2 h
      show (match b (g i) with | some (.inl s2) => s2 | _ => g i) = s2
      rw [h]
    have gP : ∀ i, i ≤ N → P i (g i) := by
      intro i
      induction i with
      | zero => intro _; exact h0
      | succ i ih =>
        intro hi
        obtain ⟨s2, h1, h2⟩ := hs i (by omega) (g i) (ih (by omega))
        rw [gs i s2 h1]
        exact h2
    refine ⟨g, rfl, gP, fun i hi => ?_⟩
    obtain ⟨s2, h1, h2⟩ := hs i hi (g i) (gP i (by omega))
    rw [gs i s2 h1]
    exact h1
  obtain ⟨g, g0, gP, gs⟩ := key
  obtain ⟨r, hr, hq⟩ := he (g N) (gP N (Nat.le_refl _))
  exact ⟨r, it_N g N hN gs hr g0.symm, hq⟩
def cR (r u i : Nat) : Nat := r * 16 + (u + i) % 16
def owR (l r u : Nat) (own : Nat → Int32) : Nat → Nat → Int32
  | 0 => own
  | i + 1 => if owR l r u own i (cR r u i) = -1 then upd (owR l r u own i) (cR r u i) (nI l) else owR l r u own i
def cnR (l r u : Nat) (own : Nat → Int32) : Nat → Nat
  | 0 => 0
  | i + 1 => cnR l r u own i + (if owR l r u own i (cR r u i) = -1 then 1 else 0)
theorem owR_keep {l r u : Nat} (hl : l < 6) {own : Nat → Int32} {c : Nat} (h : ¬ own c = -1) : ∀ i, ¬ owR l r u own i c = -1
  | 0 => h
  | i + 1 => by
    have ih := owR_keep (r := r) (u := u) hl h i
    show ¬ (if owR l r u own i (cR r u i) = -1 then upd (owR l r u own i) (cR r u i) (nI l) else owR l r u own i) c = -1
    by_cases q : owR l r u own i (cR r u i) = -1
    · rw [if_pos q]
      by_cases q2 : c = cR r u i
      · rw [q2, pk_us]; exact nI_m1 (by omega)
      · rw [pk_un q2]; exact ih
    · rw [if_neg q]; exact ih
theorem c_giveRun {M : Mem} (h : IvC M) {l r u n : Nat} (hl : l < 6) (hr : r < 8) (hu : u < 16) (hn : n ≤ 16) : ∃ M1, f_X2_giveRun (nI l) (nI r) (nI u) (nI n) M = some (nI (cnR l r u (M 2) n), M1) ∧ IvC M1 ∧ M1 2 = owR l r u (M 2) n ∧ Sm rX234 M M1 := by
  obtain ⟨z, hz, z1, z2, z3, z4⟩ := it_inv (b := f_X2_giveRun_b6 (nI l) (nI r) (nI u) (nI n)) (fun i s => s.1 = nI (cnR l r u (M 2) i) ∧ s.2.1 = nI i ∧ IvC s.2.2 ∧ s.2.2 2 = owR l r u (M 2) i ∧ Sm rX234 M s.2.2) n (Q := fun z => z.1 = nI (cnR l r u (M 2) n) ∧ IvC z.2 ∧ z.2 2 = owR l r u (M 2) n ∧ Sm rX234 M z.2) (by omega) (by
    rintro i hi ⟨x, y, Mi⟩ ⟨h1, h2, h3, h4, h5⟩
    simp only at h1 h2 h3 h4 h5
    subst h1 h2
    have a1 : ¬ nI n ≤ nI i := nI_ge hi (by omega)
    have e1 : (nI u + nI i) &&& 15 = nI ((u + i) % 16) := by
      rw [nI_add]
      exact pk_andN (by omega) 4 rfl
    have e2 : nI r * 16 + nI ((u + i) % 16) = nI (cR r u i) := by
      have : nI r * 16 = nI (r * 16) := pk_mul r 16
      rw [this, nI_add]
      rfl
    have hc : cR r u i < 128 := by unfold cR; omega
    have p1 := inb_t (k := cR r u i) (n := 128) hc (by decide)
    have p2 := nI_cl (show cR r u i < 2 ^ 31 by omega)
    have ec : cnR l r u (M 2) (i + 1) = cnR l r u (M 2) i + (if owR l r u (M 2) i (cR r u i) = -1 then 1 else 0) := rfl
    have eo : owR l r u (M 2) (i + 1) = if owR l r u (M 2) i (cR r u i) = -1 then upd (owR l r u (M 2) i) (cR r u i) (nI l) else owR l r u (M 2) i := rfl
    by_cases q : owR l r u (M 2) i (cR r u i) = -1
    · obtain ⟨M1, k1, k2, k3, k4⟩ := c_give h3 hc (v := nI l) (.inr ⟨l, hl, rfl⟩)
      rw [h4] at k3
      refine ⟨(nI (cnR l r u (M 2) i + 1), nI (i + 1), M1), ?_, ?_, rfl, k2, ?_, h5.trans' k4⟩
      · simp only [f_X2_giveRun_b6, a1, if_false, f_X11_eastOf, Option.bind_some, e1, e2, p1, if_true, p2, h4, q, k1, nI_1]
      · show nI _ = nI _
        rw [ec, if_pos q]
      · show M1 2 = _
        rw [eo, if_pos q, k3]
    · refine ⟨(nI (cnR l r u (M 2) i), nI (i + 1), Mi), ?_, ?_, rfl, h3, ?_, h5⟩
      · simp only [f_X2_giveRun_b6, a1, if_false, f_X11_eastOf, Option.bind_some, e1, e2, p1, if_true, p2, h4, q, nI_1]
      · show nI _ = nI _
        rw [ec, if_neg q, Nat.add_zero]
      · show Mi 2 = _
        rw [eo, if_neg q, h4]) (by
    rintro ⟨x, y, Mi⟩ ⟨h1, h2, h3, h4, h5⟩
    simp only at h1 h2 h3 h4 h5
    subst h1 h2
    have a1 : nI n ≤ nI n := Int32.le_refl _
    exact ⟨(nI (cnR l r u (M 2) n), Mi), by simp only [f_X2_giveRun_b6, a1, if_true], rfl, h3, h4, h5⟩) (s0 := (0, 0, M)) ⟨rfl, rfl, h, rfl, Sm.rfl'⟩
  refine ⟨z.2, ?_, z2, z3, z4⟩
  simp [f_X2_giveRun, hz, z1]
theorem m_run {M : Mem} {own : Nat → Int32} (h : ∀ c, c < 128 → M 133 c = own c) {l r u n : Nat} (hr : r < 8) (hu : u < 16) (hn : n ≤ 16) : ∃ M1, it (f_X12_run_b56 (nI l) (nI r) (nI u) (nI n)) FU (0, 0, M) = some (nI (cnR l r u own n), M1) ∧ (∀ c, c < 128 → M1 133 c = owR l r u own n c) ∧ ∀ p k, p ≠ 133 → M1 p k = M p k := by
  obtain ⟨z, hz, z1, z2, z3⟩ := it_inv (b := f_X12_run_b56 (nI l) (nI r) (nI u) (nI n)) (fun i s => s.1 = nI (cnR l r u own i) ∧ s.2.1 = nI i ∧ (∀ c, c < 128 → s.2.2 133 c = owR l r u own i c) ∧ ∀ p k, p ≠ 133 → s.2.2 p k = M p k) n (Q := fun z => z.1 = nI (cnR l r u own n) ∧ (∀ c, c < 128 → z.2 133 c = owR l r u own n c) ∧ ∀ p k, p ≠ 133 → z.2 p k = M p k) (by omega) (by
    rintro i hi ⟨x, y, Mi⟩ ⟨h1, h2, h4, h5⟩
    simp only at h1 h2 h4 h5
    subst h1 h2
    have a1 : ¬ nI n ≤ nI i := nI_ge hi (by omega)
    have e1 : jrem (nI u + nI i) 16 = nI ((u + i) % 16) := by
      rw [nI_add]
      exact jrem_nI (d := 16) (by omega) (by decide) (by decide)
    have e2 : 16 * nI r + nI ((u + i) % 16) = nI (cR r u i) := by
      have : 16 * nI r = nI (16 * r) := pk_mul 16 r
      rw [this, nI_add, Nat.mul_comm]
      rfl
    have hc : cR r u i < 128 := by unfold cR; omega
    have p1 := inb_t (k := cR r u i) (n := 128) hc (by decide)
    have p2 := nI_cl (show cR r u i < 2 ^ 31 by omega)
    have ec : cnR l r u own (i + 1) = cnR l r u own i + (if owR l r u own i (cR r u i) = -1 then 1 else 0) := rfl
    have eo : owR l r u own (i + 1) = if owR l r u own i (cR r u i) = -1 then upd (owR l r u own i) (cR r u i) (nI l) else owR l r u own i := rfl
    have o := h4 _ hc
    by_cases q : owR l r u own i (cR r u i) = -1
    · refine ⟨(nI (cnR l r u own i + 1), nI (i + 1), up Mi 133 (cR r u i) (nI l)), ?_, ?_, rfl, fun c hc2 => ?_, fun p k hp => ?_⟩
      · simp only [f_X12_run_b56, a1, if_false, Option.bind_some, e1, e2, p1, if_true, p2, o, q, nI_1, bN_t]
      · show nI _ = nI _
        rw [ec, if_pos q]
      · show up Mi 133 (cR r u i) (nI l) 133 c = _
        rw [eo, if_pos q, up_at]
        by_cases q2 : c = cR r u i
        · subst q2; rw [if_pos ⟨rfl, rfl⟩, pk_us]
        · rw [if_neg (fun w => q2 w.2), pk_un q2]; exact h4 c hc2
      · show up Mi 133 (cR r u i) (nI l) p k = _
        rw [up_at, if_neg (fun w => hp w.1)]; exact h5 p k hp
    · refine ⟨(nI (cnR l r u own i), nI (i + 1), up Mi 133 (cR r u i) (owR l r u own i (cR r u i))), ?_, ?_, rfl, fun c hc2 => ?_, fun p k hp => ?_⟩
      · simp only [f_X12_run_b56, a1, if_false, Option.bind_some, e1, e2, p1, if_true, p2, o, q, nI_1, bN_f]
      · show nI _ = nI _
        rw [ec, if_neg q, Nat.add_zero]
      · show up Mi 133 (cR r u i) (owR l r u own i (cR r u i)) 133 c = _
        rw [eo, if_neg q, up_at]
        by_cases q2 : c = cR r u i
        · subst q2; rw [if_pos ⟨rfl, rfl⟩]
        · rw [if_neg (fun w => q2 w.2)]; exact h4 c hc2
      · show up Mi 133 (cR r u i) (owR l r u own i (cR r u i)) p k = _
        rw [up_at, if_neg (fun w => hp w.1)]; exact h5 p k hp) (by
    rintro ⟨x, y, Mi⟩ ⟨h1, h2, h4, h5⟩
    simp only at h1 h2 h4 h5
    subst h1 h2
    have a1 : nI n ≤ nI n := Int32.le_refl _
    exact ⟨(nI (cnR l r u own n), Mi), by simp only [f_X12_run_b56, a1, if_true], rfl, h4, h5⟩) (s0 := (0, 0, M)) ⟨rfl, rfl, h, fun _ _ _ => rfl⟩
  refine ⟨z.2, ?_, z2, z3⟩
  rw [hz, ← z1]
theorem st_run : ST_run Inv := by
  intro a1 a2 a3 a4 M hI
  have hr4 : f_X12_in (Int32.toInt64 a4) 1 16 = some (decide (¬ a4 < 1) && decide (a4 ≤ 16)) := by
    have e : (decide (¬ a4 < 1)) = decide ((1 : Int32) ≤ a4) := decide_eq_decide.mpr nlt_le
    rw [e]
    exact r_lh a4 1 16
  by_cases h1 : isN a1 6 = true
  · by_cases h2 : isN a2 8 = true
    · by_cases h3 : isN a3 16 = true
      · by_cases h4 : a4 < 1
        · refine ob_mk (z := (-102, M)) (by simp [f_X11_run, f_X11_isLand, wi_6, h1, wi_8, h2, wi_16, h3, h4]) ?_
          exact ob_mk (z := (-102, M)) (by simp [f_X12_run, f_X12_isLand, wn_6, h1, wn_8, h2, wn_16, h3, hr4, h4]) ⟨rfl, hI⟩
        · by_cases h5 : a4 ≤ 16
          · obtain ⟨l, hl, rfl⟩ := isN_of (by decide) h1
            obtain ⟨r, hr, rfl⟩ := isN_of (by decide) h2
            obtain ⟨u, hu, rfl⟩ := isN_of (by decide) h3
            have h40 : ¬ a4 < 0 := fun w => h4 (Int32.lt_trans w (by decide))
            obtain ⟨n, hn, rfl⟩ := nI_of2 (M := 16) (n := 16) rfl h40 h5
            obtain ⟨M1, k1, k2, k3, k4⟩ := c_giveRun hI.1.C hl hr hu hn
            have o1 : ∀ c, c < 128 → M1 133 c = M 2 c := fun c hc => by rw [k4 133 c rfl]; exact (hI.1.1 c hc).1
            obtain ⟨M2, g1, g2, g3⟩ := m_run (l := l) o1 hr hu hn
            refine ob_mk (z := (nI (cnR l r u (M 2) n), M1)) (by simp [f_X11_run, f_X11_isLand, wi_6, h1, wi_8, h2, wi_16, h3, h4, h5, k1]) ?_
            refine ob_mk (z := (nI (cnR l r u (M 2) n), M2)) (by simp [f_X12_run, f_X12_isLand, wn_6, h1, wn_8, h2, wn_16, h3, hr4, h4, h5, g1]) ⟨rfl, ?_⟩
            have e3 : M2 2 = M1 2 := funext fun k => g3 2 k (by decide)
            refine hI.own (IvC.G (M := M2) ⟨fun d hd => ?_, fun l r hl hr => ?_, fun a b hab hb => ?_⟩ ?_) ?_ ?_
            · rw [e3]; exact k2.1 d hd
            · rw [e3, g3 3 _ (by decide)]; exact k2.2.1 l r hl hr
            · rw [e3, g3 4 _ (by decide)]; exact k2.2.2 a b hab hb
            · intro c hc
              rw [e3, k3]; exact g2 c hc
            · intro p k n1 n2 n3 n4
              show M2 p k = _
              rw [g3 p k n1]
              exact k4 p k (by simp [rX234, n2, n3, n4])
            · intro n2 i c2 l1 l2 l3 l4 l5 l6
              show ¬ M2 2 c2 = -1
              rw [e3, k3]
              exact owR_keep hl l6 n
          · refine ob_mk (z := (-102, M)) (by simp [f_X11_run, f_X11_isLand, wi_6, h1, wi_8, h2, wi_16, h3, h4, h5]) ?_
            exact ob_mk (z := (-102, M)) (by simp [f_X12_run, f_X12_isLand, wn_6, h1, wn_8, h2, wn_16, h3, hr4, h4, h5]) ⟨rfl, hI⟩
      · refine ob_mk (z := (-101, M)) (by simp [f_X11_run, f_X11_isLand, wi_6, h1, wi_8, h2, wi_16, h3]) ?_
        exact ob_mk (z := (-101, M)) (by simp [f_X12_run, f_X12_isLand, wn_6, h1, wn_8, h2, wn_16, h3]) ⟨rfl, hI⟩
    · refine ob_mk (z := (-101, M)) (by simp [f_X11_run, f_X11_isLand, wi_6, h1, wi_8, h2]) ?_
      exact ob_mk (z := (-101, M)) (by simp [f_X12_run, f_X12_isLand, wn_6, h1, wn_8, h2]) ⟨rfl, hI⟩
  · refine ob_mk (z := (-101, M)) (by simp [f_X11_run, f_X11_isLand, wi_6, h1]) ?_
    exact ob_mk (z := (-101, M)) (by simp [f_X12_run, f_X12_isLand, wn_6, h1]) ⟨rfl, hI⟩
