def KmS (M M1 : Mem) : Prop := ∀ p k, p ≠ 137 → p ≠ 157 → M1 p k = M p k
theorem Inv.mS {M M1 : Mem} (h : Inv M) (s : KmS M M1) : Inv M1 := h.sm fun p k hp => s p k (by rintro rfl; cases hp) (by rintro rfl; cases hp)
theorem ClM.km {cl : Nat → Nat × Nat × Nat × Bool × Nat} {n : Nat} {M M1 : Mem} (h : ClM cl n M) (s : KmS M M1) : ClM cl n M1 := by
  obtain ⟨h1, h2, h3⟩ := h
  refine ⟨h1, by rw [s 132 34 (by decide) (by decide)]; exact h2, fun i hi => ?_⟩
  rw [s 152 i (by decide) (by decide), s 153 i (by decide) (by decide), s 154 i (by decide) (by decide), s 155 i (by decide) (by decide), s 156 i (by decide) (by decide)]
  exact h3 i hi
theorem ClM.kp {cl : Nat → Nat × Nat × Nat × Bool × Nat} {n : Nat} {M M1 : Mem} (h : ClM cl n M) (s : KpS M M1) : ClM cl n M1 := by
  obtain ⟨h1, h2, h3⟩ := h
  refine ⟨h1, by rw [s 132 34 (by decide) (by decide) (by decide) (by decide)]; exact h2, fun i hi => ?_⟩
  rw [s 152 i (by decide) (by decide) (by decide) (by decide), s 153 i (by decide) (by decide) (by decide) (by decide), s 154 i (by decide) (by decide) (by decide) (by decide), s 155 i (by decide) (by decide) (by decide) (by decide), s 156 i (by decide) (by decide) (by decide) (by decide)]
  exact h3 i hi
theorem m_holds {own : Nat → Int32} {t : Nat × Nat × Nat × Bool × Nat} {v : Nat} {Z : Int32} (e3 : Z = bI t.2.2.2.1) : (if nI (OVn own t.2.1 t.1 7 v) = 0 then (if Z = 0 then (some (nI (TCn own t.2.1 t.1 7 v))).bind fun r156 => if r156 = 0 then some true else some false else (some (nI (TCn own t.2.1 t.1 7 v))).bind fun r157 => if r157 ≤ 0 then some false else some true) else some false) = some (hB own t v) := by
  have h1 := OV_le own t.2.1 t.1 7 v
  have h2 := TC_le own t.2.1 t.1 7 v
  rw [e3, Option.bind_some, Option.bind_some]
  unfold hB
  revert h1 h2
  generalize OVn own t.2.1 t.1 7 v = o
  generalize TCn own t.2.1 t.1 7 v = c
  generalize t.2.2.2.1 = z
  intro h1 h2
  by_cases q : o = 0
  · have q2 : nI o = 0 := by rw [q]; rfl
    rw [if_pos q2, decide_eq_true q, Bool.true_and]
    by_cases w : 0 < c
    · have w2 : ¬ nI c = 0 := nI_ne0 w (by omega)
      have w3 : ¬ nI c ≤ 0 := nI_nle w (by omega)
      rw [if_neg w2, if_neg w3, decide_eq_true w]
      cases z <;> decide
    · have w1 : c = 0 := by omega
      have w2 : nI c = 0 := by rw [w1]; rfl
      have w3 : nI c ≤ 0 := by rw [w2]; exact Int32.le_refl _
      rw [if_pos w2, if_pos w3, decide_eq_false w]
      cases z <;> decide
  · have q2 : ¬ nI o = 0 := nI_ne0 (by omega) (by omega)
    rw [if_neg q2, decide_eq_false q]
    rfl
theorem m_broken {M0 M : Mem} (hI : Inv M0) {cl : Nat → Nat × Nat × Nat × Bool × Nat} {n l age v : Nat} (hC : ClM cl n M0) (hK : KmS M0 M) (hl : l < 6) (ha : age < 10) (hv : v < 16) : ∃ M1, f_X12_broken (nI l) (nI age) (nI v) M = some (nI (BRn (M0 2) cl l n age v), M1) ∧ ∀ p k, p ≠ 137 → M1 p k = M p k := by
  obtain ⟨hn, e1, hc⟩ := id hC
  obtain ⟨z, hz, z1, z2⟩ := it_inv (b := f_X12_broken_b6 (nI l) (nI age) (nI v)) (fun i S => (∃ Mi, S = (nI (BRn (M0 2) cl l i age v), nI i, Mi) ∧ ∀ p k, p ≠ 137 → Mi p k = M p k)) n (Q := fun Z => ∃ Mi, Z = (nI (BRn (M0 2) cl l n age v), Mi) ∧ ∀ p k, p ≠ 137 → Mi p k = M p k) (by omega) (by
    rintro i hi S ⟨Mi, rfl, h3⟩
    have hKi : KmS M0 Mi := fun p k p1 p2 => (h3 p k p1).trans (hK p k p1 p2)
    have hIi := hI.mS hKi
    have r2 : Mi 2 = M0 2 := funext fun k => hKi 2 k (by decide) (by decide)
    have a1 : ¬ nI n ≤ nI i := nI_ge hi (by omega)
    have i1 := inb_t (k := i) (n := 12) (by omega) (by decide)
    have i2 := nI_cl (show i < 2 ^ 31 by omega)
    obtain ⟨b1, b2, b3, b4, c1, c2, c3, c4, c5⟩ := (hC.km hKi).2.2 i hi
    have f0 : Mi 132 34 = nI n := (hC.km hKi).2.1
    have eb : BRn (M0 2) cl l (i + 1) age v = BRn (M0 2) cl l i age v + brF (M0 2) cl l age v i := rfl
    rw [eb]
    generalize BRn (M0 2) cl l i age v = B
    unfold brF
    by_cases q : (cl i).1 = l
    · have q2 : nI (cl i).1 = nI l := by rw [q]
      by_cases w : (cl i).2.2.1 = age
      · have w2 : nI (cl i).2.2.1 = nI age := by rw [w]
        obtain ⟨M1, k1, k2, k3⟩ := m_lay (M := Mi) (own := M0 2) (a := (cl i).2.1) (b := l) (s := 7) (v := v) (fun c hc => by rw [← r2]; exact (hIi.1.1 c hc).1) (by decide) hv
        have e0 : (nI 7 - 7 : Int32) = 0 := by decide
        rw [e0] at k1
        have g4 : M1 155 i = bI (cl i).2.2.2.1 := (k3 155 i (by decide)).trans c4
        have g5 : M1 156 i = nI (cl i).2.2.2.2 := (k3 156 i (by decide)).trans c5
        have hh := m_holds (own := M0 2) (t := cl i) (v := v) g4
        rw [q] at hh
        have k4 : ∀ p k, p ≠ 137 → M1 p k = M p k := fun p k hp => (k3 p k hp).trans (h3 p k hp)
        have st : f_X12_broken_b6 (nI l) (nI age) (nI v) (nI B, nI i, Mi) = some (.inl (if hB (M0 2) (cl i) v = true then nI B else nI (B + (cl i).2.2.2.2), nI (i + 1), M1)) := by
          simp only [f_X12_broken_b6]
          rw [f0, if_neg a1, if_pos i1, i2, c1, if_pos q2, c3, if_pos w2, c2, k1, Option.bind_some]
          simp only
          rw [m_ov k2, m_tc k2, Option.bind_some, hh, Option.bind_some, g5, nI_1]
          generalize hB (M0 2) (cl i) v = X
          cases X
          · rw [if_neg Bool.false_ne_true, Option.bind_some, nI_add]
            rfl
          · rw [if_pos rfl, Option.bind_some, show nI B + 0 = nI B from nI_add B 0]
            rfl
        refine ⟨_, st, M1, ?_, k4⟩
        cases hx : hB (M0 2) (cl i) v with
        | true =>
          rw [if_pos rfl, if_neg (fun y => by cases y.2.2)]
          rfl
        | false => rw [if_neg Bool.false_ne_true, if_pos ⟨q, w, rfl⟩]
      · have w2 : ¬ nI (cl i).2.2.1 = nI age := fun y => w (nI_inj (by omega) (by omega) y)
        refine ⟨(nI B, nI (i + 1), Mi), ?_, Mi, ?_, h3⟩
        · simp only [f_X12_broken_b6]
          rw [f0, if_neg a1, if_pos i1, i2, c1, if_pos q2, c3, if_neg w2, nI_1]
          rfl
        · rw [if_neg (fun y => w y.2.1)]
          rfl
    · have q2 : ¬ nI (cl i).1 = nI l := fun y => q (nI_inj (by omega) (by omega) y)
      refine ⟨(nI B, nI (i + 1), Mi), ?_, Mi, ?_, h3⟩
      · simp only [f_X12_broken_b6]
        rw [f0, if_neg a1, if_pos i1, i2, c1, if_neg q2, nI_1]
        rfl
      · rw [if_neg (fun y => q y.1)]
        rfl) (by
    rintro S ⟨Mi, rfl, h3⟩
    have hKi : KmS M0 Mi := fun p k p1 p2 => (h3 p k p1).trans (hK p k p1 p2)
    have f0 : Mi 132 34 = nI n := (hC.km hKi).2.1
    have a1 : nI n ≤ nI n := Int32.le_refl _
    exact ⟨_, by simp only [f_X12_broken_b6, f0, a1, if_true], Mi, rfl, h3⟩) (s0 := (0, 0, M)) ⟨M, rfl, fun _ _ _ => rfl⟩
  obtain ⟨rfl, z2⟩ := z2
  refine ⟨z1, ?_, z2⟩
  unfold f_X12_broken
  rw [hz, Option.bind_some]
theorem BR_le {own : Nat → Int32} {cl : Nat → Nat × Nat × Nat × Bool × Nat} {l n age v : Nat} (hn : n ≤ 12) (h : ∀ i, i < n → (cl i).2.2.2.2 < 100) : BRn own cl l n age v ≤ 1200 := by
  have h1 : ∀ i, i < n → brF own cl l age v i ≤ 100 := by
    intro i hi
    have := h i hi
    unfold brF
    split <;> omega
  have h2 := sm_le n h1
  unfold BRn
  omega
theorem m_gone : ∀ a, a < 16 → ∀ b, b < 16 → f_X12_gone (nI a) (nI b) = some (nI (cl16 a b)) := by decide +kernel
