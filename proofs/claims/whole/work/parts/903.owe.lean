/-! claims -/
def clT (M : Mem) (i : Nat) : Nat × Nat × Nat × Bool × Nat := ((M 121 i).toNatClampNeg, (M 122 i).toNatClampNeg, (M 123 i).toNatClampNeg, decide (¬ M 124 i = 0), (M 125 i).toNatClampNeg)
def ClC (cl : Nat → Nat × Nat × Nat × Bool × Nat) (n : Nat) (M : Mem) : Prop := n ≤ 12 ∧ M 120 6 = nI n ∧ ∀ i, i < n → (cl i).1 < 6 ∧ (cl i).2.1 < 6 ∧ (cl i).2.2.1 < 10 ∧ (cl i).2.2.2.2 < 100 ∧ M 121 i = nI (cl i).1 ∧ M 122 i = nI (cl i).2.1 ∧ M 123 i = nI (cl i).2.2.1 ∧ M 124 i = bI (cl i).2.2.2.1 ∧ M 125 i = nI (cl i).2.2.2.2
def ClM (cl : Nat → Nat × Nat × Nat × Bool × Nat) (n : Nat) (M : Mem) : Prop := n ≤ 12 ∧ M 132 34 = nI n ∧ ∀ i, i < n → (cl i).1 < 6 ∧ (cl i).2.1 < 6 ∧ (cl i).2.2.1 < 10 ∧ (cl i).2.2.2.2 < 100 ∧ M 152 i = nI (cl i).1 ∧ M 153 i = nI (cl i).2.1 ∧ M 154 i = nI (cl i).2.2.1 ∧ M 155 i = bI (cl i).2.2.2.1 ∧ M 156 i = nI (cl i).2.2.2.2
theorem bI_dec (z : Bool) : decide (¬ bI z = 0) = z := by cases z <;> decide
theorem IvS.cl {M : Mem} (h : IvS M) : ∃ sp n, sp < 8 ∧ M 120 7 = nI sp ∧ M 132 33 = nI sp ∧ ClC (clT M) n M ∧ ClM (clT M) n M := by
  obtain ⟨⟨sp, h1, h2, h3⟩, n, hn, e1, e2, hc⟩ := h
  refine ⟨sp, n, h1, h2, h3, ⟨hn, e1, fun i hi => ?_⟩, ⟨hn, e2, fun i hi => ?_⟩⟩
  · obtain ⟨-, -, -, -, -, ⟨a, b, ha, hb, -, g1, g2⟩, ⟨g, hg, g3⟩, ⟨z, g4⟩, w, -, hw, g5⟩ := hc i hi
    have f1 : clT M i = (a, b, g, z, w) := by
      unfold clT
      rw [g1, g2, g3, g4, g5, nI_cl (by omega), nI_cl (by omega), nI_cl (by omega), nI_cl (by omega), bI_dec]
    rw [f1]
    exact ⟨ha, hb, hg, hw, g1, g2, g3, g4, g5⟩
  · obtain ⟨k1, k2, k3, k4, k5, ⟨a, b, ha, hb, -, g1, g2⟩, ⟨g, hg, g3⟩, ⟨z, g4⟩, w, -, hw, g5⟩ := hc i hi
    have f1 : clT M i = (a, b, g, z, w) := by
      unfold clT
      rw [g1, g2, g3, g4, g5, nI_cl (by omega), nI_cl (by omega), nI_cl (by omega), nI_cl (by omega), bI_dec]
    rw [f1]
    exact ⟨ha, hb, hg, hw, k1.trans g1, k2.trans g2, k3.trans g3, k4.trans g4, k5.trans g5⟩
/-- whether a claim holds where its land is put by v -/
def hB (own : Nat → Int32) (t : Nat × Nat × Nat × Bool × Nat) (v : Nat) : Bool := decide (OVn own t.2.1 t.1 7 v = 0) && (decide (0 < TCn own t.2.1 t.1 7 v) == t.2.2.2.1)
def brF (own : Nat → Int32) (cl : Nat → Nat × Nat × Nat × Bool × Nat) (l age v i : Nat) : Nat := if (cl i).1 = l ∧ (cl i).2.2.1 = age ∧ hB own (cl i) v = false then (cl i).2.2.2.2 else 0
def BRn (own : Nat → Int32) (cl : Nat → Nat × Nat × Nat × Bool × Nat) (l n age v : Nat) : Nat := sm (brF own cl l age v) n
def KpS (M M1 : Mem) : Prop := ∀ p k, p ≠ 9 → p ≠ 126 → p ≠ 127 → p ≠ 128 → M1 p k = M p k
theorem Inv.nS {M M1 : Mem} (h : Inv M) (s : KpS M M1) : Inv M1 := h.sm fun p k hp => s p k (by rintro rfl; cases hp) (by rintro rfl; cases hp) (by rintro rfl; cases hp) (by rintro rfl; cases hp)
theorem ClC.kp {cl : Nat → Nat × Nat × Nat × Bool × Nat} {n : Nat} {M M1 : Mem} (h : ClC cl n M) (s : KpS M M1) : ClC cl n M1 := by
  obtain ⟨h1, h2, h3⟩ := h
  refine ⟨h1, by rw [s 120 6 (by decide) (by decide) (by decide) (by decide)]; exact h2, fun i hi => ?_⟩
  rw [s 121 i (by decide) (by decide) (by decide) (by decide), s 122 i (by decide) (by decide) (by decide) (by decide), s 123 i (by decide) (by decide) (by decide) (by decide), s 124 i (by decide) (by decide) (by decide) (by decide), s 125 i (by decide) (by decide) (by decide) (by decide)]
  exact h3 i hi
theorem c_holds {M : Mem} {own : Nat → Int32} {t : Nat × Nat × Nat × Bool × Nat} {v : Nat} {Z : Int32} (e1 : M 9 1 = nI (OVn own t.2.1 t.1 7 v)) (e2 : M 9 2 = nI (TCn own t.2.1 t.1 7 v)) (e3 : Z = bI t.2.2.2.1) : (if M 9 1 = 0 then Option.bind (if M 9 2 < 1 then some false else some true) fun (x33 : Bool) => if bI x33 = Z then some true else some false else some false) = some (hB own t v) := by
  have h1 := OV_le own t.2.1 t.1 7 v
  have h2 := TC_le own t.2.1 t.1 7 v
  rw [e1, e2, e3]
  unfold hB
  revert h1 h2
  generalize OVn own t.2.1 t.1 7 v = o
  generalize TCn own t.2.1 t.1 7 v = c
  generalize t.2.2.2.1 = z
  intro h1 h2
  by_cases q : o = 0
  · have q2 : nI o = 0 := by rw [q]; rfl
    rw [if_pos q2, decide_eq_true q, Bool.true_and]
    by_cases w : 0 < c
    · have w2 : ¬ nI c < 1 := nI_nlt (b := 1) (by omega) (by omega)
      rw [if_neg w2, decide_eq_true w]
      cases z <;> decide
    · have w2 : nI c < 1 := nI_lt (b := 1) (by omega) (by decide)
      rw [if_pos w2, decide_eq_false w]
      cases z <;> decide
  · have q2 : ¬ nI o = 0 := nI_ne0 (by omega) (by omega)
    rw [if_neg q2, decide_eq_false q]
    rfl
theorem c_owe {M0 M : Mem} (hI : Inv M0) {cl : Nat → Nat × Nat × Nat × Bool × Nat} {n i : Nat} (hC : ClC cl n M0) (hK : KpS M0 M) (hi : i < n) : ∃ M1, f_X9_owe (nI i) M = some M1 ∧ (∀ j, j < 160 → M1 126 j = if j / 16 = (cl i).2.2.1 ∧ hB (M0 2) (cl i) (j % 16) = false then M 126 j + nI (cl i).2.2.2.2 else M 126 j) ∧ KpS M0 M1 := by
  obtain ⟨hn, -, hc⟩ := hC
  obtain ⟨b1, b2, b3, b4, c1, c2, c3, c4, c5⟩ := hc i hi
  have i1 := inb_t (k := i) (n := 12) (by omega) (by decide)
  have i2 := nI_cl (show i < 2 ^ 31 by omega)
  obtain ⟨z, hz, z1, z2⟩ := it_inv (b := f_X9_owe_b2 (nI i)) (fun v S => S.1 = nI v ∧ (∀ j, j < 160 → S.2 126 j = if j / 16 = (cl i).2.2.1 ∧ j % 16 < v ∧ hB (M0 2) (cl i) (j % 16) = false then M 126 j + nI (cl i).2.2.2.2 else M 126 j) ∧ KpS M0 S.2) 16 (Q := fun Z => (∀ j, j < 160 → Z 126 j = if j / 16 = (cl i).2.2.1 ∧ j % 16 < 16 ∧ hB (M0 2) (cl i) (j % 16) = false then M 126 j + nI (cl i).2.2.2.2 else M 126 j) ∧ KpS M0 Z) (by decide) (by
    rintro v hv ⟨x, Mi⟩ ⟨h1, h2, h3⟩
    simp only at h1 h2 h3
    subst h1
    have a1 : ¬ (16 : Int32) ≤ nI v := nI_ge (b := 16) hv (by decide)
    have hIi := hI.nS h3
    have r2 : Mi 2 = M0 2 := funext fun k => h3 2 k (by decide) (by decide) (by decide) (by decide)
    have f1 : Mi 121 i = nI (cl i).1 := (h3 121 i (by decide) (by decide) (by decide) (by decide)).trans c1
    have f2 : Mi 122 i = nI (cl i).2.1 := (h3 122 i (by decide) (by decide) (by decide) (by decide)).trans c2
    obtain ⟨M1, l1, l2, l3, -, l5⟩ := c_look (s := 7) (v := v) hIi.1.C b2 b1 (by decide) hv
    have e0 : (nI 7 - 7 : Int32) = 0 := by decide
    rw [e0] at l1
    rw [r2] at l2 l3
    have k3 : KpS M0 M1 := fun p k p1 p2 p3 p4 => (l5 p k (fun w => p1 w.1)).trans (h3 p k p1 p2 p3 p4)
    have g3 : M1 123 i = nI (cl i).2.2.1 := (k3 123 i (by decide) (by decide) (by decide) (by decide)).trans c3
    have g4 : M1 124 i = bI (cl i).2.2.2.1 := (k3 124 i (by decide) (by decide) (by decide) (by decide)).trans c4
    have g5 : M1 125 i = nI (cl i).2.2.2.2 := (k3 125 i (by decide) (by decide) (by decide) (by decide)).trans c5
    have hh := c_holds (Z := M1 124 i) (t := cl i) l2 l3 g4
    have g6 : ∀ j, M1 126 j = Mi 126 j := fun j => l5 126 j (by omega)
    obtain ⟨q, hq⟩ : ∃ q, q = (cl i).2.2.1 * 16 + v := ⟨_, rfl⟩
    have hq2 : q < 160 := by omega
    have e4 : nI (cl i).2.2.1 * 16 + nI v = nI q := by
      have : nI (cl i).2.2.1 * 16 = nI ((cl i).2.2.1 * 16) := pk_mul _ 16
      rw [this, nI_add, hq]
    have p1 := inb_t (k := q) (n := 160) hq2 (by decide)
    have p2 := nI_cl (show q < 2 ^ 31 by omega)
    have st : f_X9_owe_b2 (nI i) (nI v, Mi) = if hB (M0 2) (cl i) v = true then some (.inl (nI (v + 1), M1)) else some (.inl (nI (v + 1), up M1 126 q (M1 126 q + nI (cl i).2.2.2.2))) := by
      simp only [f_X9_owe_b2]
      rw [if_neg a1, if_pos i1, i2, f1, f2, l1, Option.bind_some, hh, Option.bind_some, nI_1, g3, e4, if_pos p1, p2, g5]
      generalize hB (M0 2) (cl i) v = X
      cases X <;> rfl
    cases hx : hB (M0 2) (cl i) v with
    | true =>
      refine ⟨(nI (v + 1), M1), by rw [st, hx]; rfl, rfl, fun j hj => ?_, k3⟩
      show M1 126 j = _
      rw [g6 j, h2 j hj]
      by_cases w : j / 16 = (cl i).2.2.1 ∧ j % 16 < v ∧ hB (M0 2) (cl i) (j % 16) = false
      · rw [if_pos w, if_pos ⟨w.1, by omega, w.2.2⟩]
      · rw [if_neg w, if_neg]
        rintro ⟨w1, w2, w3⟩
        refine w ⟨w1, ?_, w3⟩
        rcases Nat.lt_or_ge (j % 16) v with y | y
        · exact y
        · have : j % 16 = v := by omega
          rw [this, hx] at w3
          cases w3
    | false =>
      refine ⟨(nI (v + 1), up M1 126 q (M1 126 q + nI (cl i).2.2.2.2)), by rw [st, hx]; rfl, rfl, fun j hj => ?_, fun p k p1 p2 p3 p4 => ?_⟩
      · show up M1 126 q _ 126 j = _
        rw [up_at]
        by_cases y : j = q
        · subst y
          have d1 : j / 16 = (cl i).2.2.1 := by omega
          have d2 : j % 16 = v := by omega
          rw [if_pos ⟨rfl, rfl⟩, g6 j, h2 j hj, if_neg (fun w => by omega), if_pos ⟨d1, by omega, by rw [d2]; exact hx⟩]
        · rw [if_neg (fun w => y w.2), g6 j, h2 j hj]
          have : (j / 16 = (cl i).2.2.1 ∧ j % 16 < v ∧ hB (M0 2) (cl i) (j % 16) = false) ↔ (j / 16 = (cl i).2.2.1 ∧ j % 16 < v + 1 ∧ hB (M0 2) (cl i) (j % 16) = false) := ⟨fun w => ⟨w.1, by omega, w.2.2⟩, fun w => ⟨w.1, by omega, w.2.2⟩⟩
          simp only [this]
      · show up M1 126 q _ p k = _
        rw [up_at, if_neg (fun w => p2 w.1)]
        exact k3 p k p1 p2 p3 p4) (by
    rintro ⟨x, Mi⟩ ⟨h1, h2, h3⟩
    simp only at h1 h2 h3
    subst h1
    have a1 : (16 : Int32) ≤ nI 16 := by decide
    exact ⟨Mi, by simp only [f_X9_owe_b2, a1, if_true], h2, h3⟩) (s0 := (0, M)) ⟨rfl, fun j hj => by rw [if_neg (fun w => Nat.not_lt_zero _ w.2.1)], hK⟩
  refine ⟨z, ?_, fun j hj => ?_, z2⟩
  · unfold f_X9_owe
    rw [hz, Option.bind_some]
  · rw [z1 j hj]
    have : (j / 16 = (cl i).2.2.1 ∧ j % 16 < 16 ∧ hB (M0 2) (cl i) (j % 16) = false) ↔ (j / 16 = (cl i).2.2.1 ∧ hB (M0 2) (cl i) (j % 16) = false) := ⟨fun w => ⟨w.1, w.2.2⟩, fun w => ⟨w.1, Nat.mod_lt _ (by decide), w.2⟩⟩
    simp only [this]
theorem c_oweAll {M : Mem} (hI : Inv M) {cl : Nat → Nat × Nat × Nat × Bool × Nat} {n l : Nat} (hC : ClC cl n M) (hl : l < 6) : ∃ M1, f_X9_oweAll (nI l) M = some M1 ∧ (∀ j, j < 160 → M1 126 j = nI (BRn (M 2) cl l n (j / 16) (j % 16))) ∧ KpS M M1 := by
  obtain ⟨hn, e1, hc⟩ := id hC
  obtain ⟨z, hz, z1, z2⟩ := it_inv (b := f_X9_oweAll_b10 (nI l)) (fun i S => S.1 = nI i ∧ (∀ j, j < 160 → S.2 126 j = nI (BRn (M 2) cl l i (j / 16) (j % 16))) ∧ KpS M S.2) n (Q := fun Z => (∀ j, j < 160 → Z 126 j = nI (BRn (M 2) cl l n (j / 16) (j % 16))) ∧ KpS M Z) (by omega) (by
    rintro i hi ⟨x, Mi⟩ ⟨h1, h2, h3⟩
    simp only at h1 h2 h3
    subst h1
    have a1 : ¬ nI n ≤ nI i := nI_ge hi (by omega)
    have i1 := inb_t (k := i) (n := 12) (by omega) (by decide)
    have i2 := nI_cl (show i < 2 ^ 31 by omega)
    obtain ⟨b1, b2, b3, b4, c1, -⟩ := hc i hi
    have f0 : Mi 120 6 = nI n := (h3 120 6 (by decide) (by decide) (by decide) (by decide)).trans e1
    have f1 : Mi 121 i = nI (cl i).1 := (h3 121 i (by decide) (by decide) (by decide) (by decide)).trans c1
    have eb : ∀ age v, BRn (M 2) cl l (i + 1) age v = BRn (M 2) cl l i age v + brF (M 2) cl l age v i := fun _ _ => rfl
    by_cases q : (cl i).1 = l
    · obtain ⟨M1, k1, k2, k3⟩ := c_owe hI hC h3 hi
      have q2 : nI (cl i).1 = nI l := by rw [q]
      refine ⟨(nI (i + 1), M1), ?_, rfl, fun j hj => ?_, k3⟩
      · simp only [f_X9_oweAll_b10]
        rw [f0, if_neg a1, if_pos i1, i2, f1, if_pos q2, k1, nI_1]
        rfl
      · show M1 126 j = _
        rw [k2 j hj, h2 j hj, eb]
        unfold brF
        by_cases w : j / 16 = (cl i).2.2.1 ∧ hB (M 2) (cl i) (j % 16) = false
        · rw [if_pos w, if_pos ⟨q, w.1.symm, w.2⟩, nI_add]
        · rw [if_neg w, if_neg (fun y => w ⟨y.2.1.symm, y.2.2⟩), Nat.add_zero]
    · have q2 : ¬ nI (cl i).1 = nI l := fun w => q (nI_inj (by omega) (by omega) w)
      refine ⟨(nI (i + 1), Mi), ?_, rfl, fun j hj => ?_, h3⟩
      · simp only [f_X9_oweAll_b10]
        rw [f0, if_neg a1, if_pos i1, i2, f1, if_neg q2, nI_1]
        rfl
      · show Mi 126 j = _
        rw [h2 j hj, eb]
        unfold brF
        rw [if_neg (fun y => q y.1), Nat.add_zero]) (by
    rintro ⟨x, Mi⟩ ⟨h1, h2, h3⟩
    simp only at h1 h2 h3
    subst h1
    have f0 : Mi 120 6 = nI n := (h3 120 6 (by decide) (by decide) (by decide) (by decide)).trans e1
    have a1 : nI n ≤ nI n := Int32.le_refl _
    exact ⟨Mi, by simp only [f_X9_oweAll_b10, f0, a1, if_true], h2, h3⟩) (s0 := (0, fil M 126 160 0)) ⟨rfl, fun j hj => by show fil M 126 160 0 126 j = _; rw [fil_at, if_pos ⟨rfl, hj⟩]; rfl, fun p k p1 p2 p3 p4 => by show fil M 126 160 0 p k = _; rw [fil_at, if_neg (fun w => p2 w.1)]⟩
  refine ⟨z, ?_, z1, z2⟩
  unfold f_X9_oweAll
  rw [hz, Option.bind_some]
