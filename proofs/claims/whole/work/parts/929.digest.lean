/-! digest -/
def tlH (h v : Int64) : Int64 := 31 * h + v
def flH (F : Nat → Int64 → Int64) (h : Int64) : Nat → Int64
  | 0 => h
  | i + 1 => F i (flH F h i)
theorem fl_s (F : Nat → Int64 → Int64) (h : Int64) (i : Nat) : flH F h (i + 1) = F i (flH F h i) := rfl
theorem fl_0 (F : Nat → Int64 → Int64) (h : Int64) : flH F h 0 = h := rfl
theorem th_ (a b : Int64) : f_X11_then a b = some (tlH a b) := rfl
theorem te_ (v h : Int64) : f_X12_tell v h = some (tlH h v) := rfl
def AgM (M M1 : Mem) : Prop := Inv M1 ∧ ∀ p k, rA p k = true → p ≠ 4 → M1 p k = M p k
theorem AgM.rf {M : Mem} (h : Inv M) : AgM M M := ⟨h, fun _ _ _ _ => rfl⟩
theorem AgM.row {M M1 : Mem} (h : AgM M M1) (p : Nat) (hp : ∀ k, rA p k = true) (h4 : p ≠ 4) : M1 p = M p := funext fun k => h.2 p k (hp k) h4
theorem AgM.four {M M1 M2 : Mem} (h : AgM M M1) (hG : IvG M2) (s : Sm rX4 M1 M2) : AgM M M2 := ⟨h.1.four hG s, fun p k hp h4 => (s p k (by simp [rX4, h4])).trans (h.2 p k hp h4)⟩
theorem AgM.a {M M1 M2 : Mem} (h : AgM M M1) (s : Sm rA M1 M2) : AgM M M2 := ⟨h.1.sm s, fun p k hp h4 => (s p k hp).trans (h.2 p k hp h4)⟩
theorem AgM.b {M M1 M2 : Mem} {g : Nat} (hg : g < 2) (h : AgM M M1) (hG : IvG M2) (s : KsB g M1 M2) : AgM M M2 := by
  refine ⟨h.1.kb hg hG s, fun p k hp h4 => ?_⟩
  have := s.sm hg (r := fun p k => rA p k && !decide (p = 4)) (fun k => ⟨by simp, rfl, rfl, rfl, rfl, rfl, rfl, rfl, rfl, rfl⟩) p k (by simp [hp, h4])
  exact this.trans (h.2 p k hp h4)
theorem AgM.x {M M1 : Mem} (h : AgM M M1) : SmX M M1 := ⟨fun p k hp => h.2 p k (rL_A hp) (by rintro rfl; cases hp), fun p k hp => h.2 p k (rB_A hp) (by rintro rfl; cases hp), h.row 2 (fun _ => rfl) (by decide)⟩
theorem c_dCells (h : Int64) (M : Mem) : f_X2_toldCells h M = some (flH (fun i h => tlH h (M 2 i).toInt64) h 128) := by
  have hit := it_N (b := f_X2_toldCells_b2 M) (r := flH (fun i h => tlH h (M 2 i).toInt64) h 128) (fun i => (flH (fun i h => tlH h (M 2 i).toInt64) h i, nI i)) 128 (by decide) (by
    intro i hi
    have a1 : ¬ (128 : Int32) ≤ nI i := nI_ge (b := 128) hi (by decide)
    have i1 := inb_t (k := i) (n := 128) hi (by decide)
    have i2 := nI_cl (show i < 2 ^ 31 by omega)
    simp only [f_X2_toldCells_b2]
    rw [if_neg a1, if_pos i1, i2, th_, Option.bind_some, nI_1, fl_s]) (by
    have a1 : (128 : Int32) ≤ nI 128 := by decide
    simp only [f_X2_toldCells_b2, a1, if_true]) (s0 := (h, 0)) rfl
  unfold f_X2_toldCells
  rw [hit, Option.bind_some]
theorem m_dCells (h : Int64) {M : Mem} (hG : IvG M) : it (f_X12_digest_b9 M) FU (0, h) = some (flH (fun i h => tlH h (M 2 i).toInt64) h 128) := by
  refine it_N (b := f_X12_digest_b9 M) (fun i => (nI i, flH (fun i h => tlH h (M 2 i).toInt64) h i)) 128 (by decide) ?_ ?_ rfl
  · intro i hi
    have a1 : ¬ (128 : Int32) ≤ nI i := nI_ge (b := 128) hi (by decide)
    have i1 := inb_t (k := i) (n := 128) hi (by decide)
    have i2 := nI_cl (show i < 2 ^ 31 by omega)
    simp only [f_X12_digest_b9]
    rw [if_neg a1, if_pos i1, i2, (hG.1 i hi).1, te_, Option.bind_some, nI_1, fl_s]
  · have a1 : (128 : Int32) ≤ nI 128 := by decide
    simp only [f_X12_digest_b9, a1, if_true]
def mkF (M : Mem) (i : Nat) (h : Int64) : Int64 := tlH (tlH (tlH (tlH h (M 6 i).toInt64) (M 7 i).toInt64) (M 8 i).toInt64) (WT (M 6 i).toNatClampNeg).toInt64
theorem c_dMarks (h : Int64) {M : Mem} {n : Nat} (hn : n ≤ 40) (e1 : M 5 4 = nI n) (hA : MkA M n) : f_X5_told h M = some (flH (mkF M) h n) := by
  have hit := it_N (b := f_X5_told_b2 M) (r := flH (mkF M) h n) (fun i => (flH (mkF M) h i, nI i)) n (by omega) (by
    intro i hi
    have a1 : ¬ nI n ≤ nI i := nI_ge hi (by omega)
    have i1 := inb_t (k := i) (n := 40) (by omega) (by decide)
    have i2 := nI_cl (show i < 2 ^ 31 by omega)
    obtain ⟨-, ⟨k, hk, ek⟩, -⟩ := hA i hi
    have hw := c_wt (M := M) (show i < 40 by omega) hk ek
    have hw2 : WT (M 6 i).toNatClampNeg = WT k := by rw [ek, nI_cl (by omega)]
    simp only [f_X5_told_b2]
    rw [e1, if_neg a1, if_pos i1, i2, th_, Option.bind_some, th_, Option.bind_some, th_, Option.bind_some, hw, Option.bind_some, th_, Option.bind_some, nI_1, fl_s]
    unfold mkF
    rw [hw2]) (by
    have a1 : nI n ≤ nI n := Int32.le_refl _
    simp only [f_X5_told_b2, e1, a1, if_true]) (s0 := (h, 0)) rfl
  unfold f_X5_told
  rw [hit, Option.bind_some]
theorem m_dMarks (h : Int64) {M : Mem} {n : Nat} (hn : n ≤ 40) (e2 : M 132 1 = nI n) (hA : MkA M n) : it (f_X12_digest_b35 M) FU (0, h) = some (flH (mkF M) h n) := by
  refine it_N (b := f_X12_digest_b35 M) (fun i => (nI i, flH (mkF M) h i)) n (by omega) ?_ ?_ rfl
  · intro i hi
    have a1 : ¬ nI n ≤ nI i := nI_ge hi (by omega)
    have i1 := inb_t (k := i) (n := 40) (by omega) (by decide)
    have i2 := nI_cl (show i < 2 ^ 31 by omega)
    obtain ⟨⟨f1, f2, f3⟩, ⟨k, hk, ek⟩, -⟩ := hA i hi
    have hw := m_wt (M := M) (show i < 40 by omega) hk (f1.trans ek)
    have hw2 : WT (M 6 i).toNatClampNeg = WT k := by rw [ek, nI_cl (by omega)]
    simp only [f_X12_digest_b35]
    rw [e2, if_neg a1, if_pos i1, i2, f1, f2, f3, te_, Option.bind_some, te_, Option.bind_some, te_, Option.bind_some, hw, Option.bind_some, te_, Option.bind_some, nI_1, fl_s]
    unfold mkF
    rw [hw2]
  · have a1 : nI n ≤ nI n := Int32.le_refl _
    simp only [f_X12_digest_b35, e2, a1, if_true]
def dsF1 (own : Nat → Int32) (a i : Nat) (h : Int64) : Int64 := tlH h (nI (dsN own a (a + 1 + i))).toInt64
def dsF2 (own : Nat → Int32) (a : Nat) (h : Int64) : Int64 := flH (dsF1 own a) h (6 - (a + 1))
theorem c_dDist (h : Int64) {M : Mem} (hI : Inv M) : ∃ M1, f_X2_toldDistances h M = some (flH (dsF2 (M 2)) h 6, M1) ∧ AgM M M1 := by
  obtain ⟨z, hz, M1, rfl, z1⟩ := it_inv (b := f_X2_toldDistances_b2) (fun a S => ∃ Mi, S = (flH (dsF2 (M 2)) h a, nI a, Mi) ∧ AgM M Mi) 6 (Q := fun Z => ∃ Mi, Z = (flH (dsF2 (M 2)) h 6, Mi) ∧ AgM M Mi) (by decide) (by
    rintro a ha S ⟨Mi, rfl, r1⟩
    have a1 : ¬ (6 : Int32) ≤ nI a := nI_ge (b := 6) ha (by decide)
    obtain ⟨y, hy, M2, rfl, y1⟩ := it_inv (b := f_X2_toldDistances_b13) (fun i S => ∃ Mj, S = (flH (dsF1 (M 2) a) (flH (dsF2 (M 2)) h a) i, nI a, nI (a + 1 + i), Mj) ∧ AgM M Mj) (6 - (a + 1)) (Q := fun Z => ∃ Mj, Z = (flH (dsF1 (M 2) a) (flH (dsF2 (M 2)) h a) (6 - (a + 1)), nI a, Mj) ∧ AgM M Mj) (by omega) (by
      rintro i hi S ⟨Mj, rfl, q1⟩
      have b1 : ¬ (6 : Int32) ≤ nI (a + 1 + i) := nI_ge (b := 6) (by omega) (by decide)
      obtain ⟨M3, k1, k2, k3⟩ := c_apart q1.1.1 ha (show a + 1 + i < 6 by omega) (by omega)
      rw [q1.row 2 (fun _ => rfl) (by decide)] at k1
      refine ⟨_, ?_, M3, rfl, q1.four k2 k3⟩
      simp only [f_X2_toldDistances_b13]
      rw [if_neg b1, k1, Option.bind_some]
      simp only
      rw [th_, Option.bind_some, nI_1, fl_s]
      rfl) (by
      rintro S ⟨Mj, rfl, q1⟩
      rw [show a + 1 + (6 - (a + 1)) = 6 by omega]
      have b1 : (6 : Int32) ≤ nI 6 := by decide
      exact ⟨_, by simp only [f_X2_toldDistances_b13, b1, if_true], Mj, rfl, q1⟩) (s0 := (flH (dsF2 (M 2)) h a, nI a, nI a + 1, Mi)) ⟨Mi, by rw [nI_1, fl_0, Nat.add_zero], r1⟩
    refine ⟨_, ?_, M2, rfl, y1⟩
    simp only [f_X2_toldDistances_b2]
    rw [if_neg a1, hy, Option.bind_some]
    simp only
    rw [nI_1, fl_s]
    rfl) (by
    rintro S ⟨Mi, rfl, r1⟩
    have a1 : (6 : Int32) ≤ nI 6 := by decide
    exact ⟨_, by simp only [f_X2_toldDistances_b2, a1, if_true], Mi, rfl, r1⟩) (s0 := (h, 0, M)) ⟨M, rfl, AgM.rf hI⟩
  refine ⟨M1, ?_, z1⟩
  unfold f_X2_toldDistances
  rw [hz, Option.bind_some]
theorem m_dDist (h : Int64) {M : Mem} (hG : IvG M) : it (f_X12_digest_b94 M) FU (0, h) = some (flH (dsF2 (M 2)) h 6) := by
  have inner : ∀ a, a < 6 → ∀ g, it (f_X12_digest_b104 M) FU (nI a, nI a + 1, g) = some (nI a, dsF2 (M 2) a g) := by
    intro a ha g
    refine it_N (b := f_X12_digest_b104 M) (fun i => (nI a, nI (a + 1 + i), flH (dsF1 (M 2) a) g i)) (6 - (a + 1)) (by omega) ?_ ?_ (by rw [nI_1]; rfl)
    · intro i hi
      have b1 : ¬ (6 : Int32) ≤ nI (a + 1 + i) := nI_ge (b := 6) (by omega) (by decide)
      simp only [f_X12_digest_b104]
      rw [if_neg b1, m_dist hG, Option.bind_some, te_, Option.bind_some, nI_1, fl_s]
      rfl
    · show f_X12_digest_b104 M (nI a, nI (a + 1 + (6 - (a + 1))), _) = _
      rw [show a + 1 + (6 - (a + 1)) = 6 by omega]
      have b1 : (6 : Int32) ≤ nI 6 := by decide
      simp only [f_X12_digest_b104, b1, if_true]
      rfl
  refine it_N (b := f_X12_digest_b94 M) (fun a => (nI a, flH (dsF2 (M 2)) h a)) 6 (by decide) ?_ ?_ rfl
  · intro a ha
    have a1 : ¬ (6 : Int32) ≤ nI a := nI_ge (b := 6) ha (by decide)
    simp only [f_X12_digest_b94]
    rw [if_neg a1, inner a ha, Option.bind_some]
    simp only
    rw [nI_1, fl_s]
  · have a1 : (6 : Int32) ≤ nI 6 := by decide
    simp only [f_X12_digest_b94, a1, if_true]
def bsF (r5 r6 : Nat → Int32) (T : Nat → Nat → Nat × Nat) (i : Nat) (h : Int64) : Int64 := tlH (tlH (tlH (tlH h (r5 i).toInt64) (r6 i).toInt64) (wI (T 0 i).1).toInt64) (wI (T 1 i).1).toInt64
theorem c_dBeasts (h : Int64) {M Ms : Mem} {nb : Nat} {T : Nat → Nat → Nat × Nat} (hnb : nb ≤ 8) (e1 : M 114 2 = nI nb) (hT : SpA M nb T) (hs : AgM M Ms) : ∃ M1, f_X8_told h 12 63 Ms = some (flH (bsF (M 115) (M 116) T) h nb, M1) ∧ AgM M M1 := by
  obtain ⟨z, hz, M1, rfl, z1⟩ := it_inv (b := f_X8_told_b3 12 63) (fun i S => ∃ Mi, S = (flH (bsF (M 115) (M 116) T) h i, nI i, Mi) ∧ AgM M Mi) nb (Q := fun Z => ∃ Mi, Z = (flH (bsF (M 115) (M 116) T) h nb, Mi) ∧ AgM M Mi) (by omega) (by
    rintro i hi S ⟨Mi, rfl, r1⟩
    have a1 : ¬ nI nb ≤ nI i := nI_ge hi (by omega)
    have i1 := inb_t (k := i) (n := 8) (by omega) (by decide)
    have i2 := nI_cl (show i < 2 ^ 31 by omega)
    have sz : f_X0_size Mi = some (nI nb) := by unfold f_X0_size; rw [r1.2 114 2 rfl (by decide), e1]
    have ll : f_X0_landsOf (nI i) Mi = some (M 115 i) := by unfold f_X0_landsOf; rw [if_pos i1, i2, r1.2 115 i rfl (by decide)]
    have la : f_X0_ageOf (nI i) Mi = some (M 116 i) := by unfold f_X0_ageOf; rw [if_pos i1, i2, r1.2 116 i rfl (by decide)]
    obtain ⟨Ma, k1, -, -, k4, k5⟩ := (hT.2 0 (by decide) i hi).1 Mi r1.x r1.1.1
    have r2 := r1.b (by decide) k4 k5
    obtain ⟨Mb, l1, -, -, l4, l5⟩ := (hT.2 1 (by decide) i hi).1 Ma r2.x r2.1.1
    refine ⟨_, ?_, Mb, rfl, r2.b (by decide) l4 l5⟩
    simp only [f_X8_told_b3]
    rw [sz, Option.bind_some, if_neg a1, ll, Option.bind_some, th_, Option.bind_some, la, Option.bind_some, th_, Option.bind_some, show (12 : Nat) = hP 0 from rfl, k1, Option.bind_some]
    simp only
    rw [th_, Option.bind_some, show (63 : Nat) = hP 1 from rfl, l1, Option.bind_some]
    simp only
    rw [th_, Option.bind_some, nI_1, fl_s]
    rfl) (by
    rintro S ⟨Mi, rfl, r1⟩
    have sz : f_X0_size Mi = some (nI nb) := by unfold f_X0_size; rw [r1.2 114 2 rfl (by decide), e1]
    have a1 : nI nb ≤ nI nb := Int32.le_refl _
    refine ⟨_, ?_, Mi, rfl, r1⟩
    simp only [f_X8_told_b3]
    rw [sz, Option.bind_some, if_pos a1]) (s0 := (h, 0, Ms)) ⟨Ms, rfl, hs⟩
  refine ⟨M1, ?_, z1⟩
  unfold f_X8_told
  rw [hz, Option.bind_some]
theorem m_dBeasts (h : Int64) {M Ms : Mem} {nb : Nat} {T : Nat → Nat → Nat × Nat} (hI : Inv M) (hnb : nb ≤ 8) (e2 : M 132 26 = nI nb) (hT : SpA M nb T) (hs : AgM M Ms) : ∃ M1, it f_X12_digest_b135 FU (0, Ms, h) = some (M1, flH (bsF (M 115) (M 116) T) h nb) ∧ AgM M M1 := by
  obtain ⟨nb2, -, q2, -, hc⟩ := hI.2.2.2.2.1
  obtain ⟨z, hz, M1, rfl, z1⟩ := it_inv (b := f_X12_digest_b135) (fun i S => ∃ Mi, S = (nI i, Mi, flH (bsF (M 115) (M 116) T) h i) ∧ AgM M Mi) nb (Q := fun Z => ∃ Mi, Z = (Mi, flH (bsF (M 115) (M 116) T) h nb) ∧ AgM M Mi) (by omega) (by
    rintro i hi S ⟨Mi, rfl, r1⟩
    have a1 : ¬ nI nb ≤ nI i := nI_ge hi (by omega)
    have i1 := inb_t (k := i) (n := 8) (by omega) (by decide)
    have i2 := nI_cl (show i < 2 ^ 31 by omega)
    have sz : Mi 132 26 = nI nb := (r1.2 132 26 rfl (by decide)).trans e2
    obtain ⟨n3, hn3, w1, w2, w3⟩ := r1.1.2.2.2.2.1
    have en : n3 = nb := nI_inj (by omega) (by omega) (w2.symm.trans sz)
    subst en
    obtain ⟨f1, f2, -⟩ := w3 i hi
    have d1 : Mi 149 i = M 115 i := f1.trans (r1.2 115 i rfl (by decide))
    have d2 : Mi 150 i = M 116 i := f2.trans (r1.2 116 i rfl (by decide))
    obtain ⟨Ma, k1, k2, -, k4⟩ := (hT.2 0 (by decide) i hi).2 Mi r1.x r1.1
    have r2 := r1.a k4.A
    obtain ⟨Mb, l1, l2, -, l4⟩ := (hT.2 1 (by decide) i hi).2 Ma r2.x r2.1
    have s0 : f_X12_spreadOf 0 (nI i) Mi = some (wI (T 0 i).1, Ma) := by
      unfold f_X12_spreadOf
      rw [show (0 : Int32) = nI 0 from rfl, k1, Option.bind_some, k2]
    have s1 : f_X12_spreadOf 1 (nI i) Ma = some (wI (T 1 i).1, Mb) := by
      unfold f_X12_spreadOf
      rw [show (1 : Int32) = nI 1 from rfl, l1, Option.bind_some, l2]
    refine ⟨_, ?_, Mb, rfl, r2.a l4.A⟩
    simp only [f_X12_digest_b135]
    rw [sz, if_neg a1, if_pos i1, i2, d1, d2, te_, Option.bind_some, te_, Option.bind_some, s0, Option.bind_some]
    simp only
    rw [te_, Option.bind_some, s1, Option.bind_some]
    simp only
    rw [te_, Option.bind_some, nI_1, fl_s]
    rfl) (by
    rintro S ⟨Mi, rfl, r1⟩
    have sz : Mi 132 26 = nI nb := (r1.2 132 26 rfl (by decide)).trans e2
    have a1 : nI nb ≤ nI nb := Int32.le_refl _
    refine ⟨_, ?_, Mi, rfl, r1⟩
    simp only [f_X12_digest_b135]
    rw [sz, if_pos a1]) (s0 := (0, Ms, h)) ⟨Ms, rfl, hs⟩
  exact ⟨M1, hz, z1⟩
def clF (M : Mem) (i : Nat) (h : Int64) : Int64 := tlH (tlH (tlH (tlH (tlH h (M 121 i).toInt64) (M 122 i).toInt64) (M 123 i).toInt64) (if M 124 i = 0 then 0 else 1)) (M 125 i).toInt64
theorem c_dClaims (h : Int64) {M : Mem} {n : Nat} (hn : n ≤ 12) (e1 : M 120 6 = nI n) : f_X9_told h M = some (flH (clF M) (tlH h (M 120 7).toInt64) n) := by
  have hit := it_N (b := f_X9_told_b12 M) (r := flH (clF M) (tlH h (M 120 7).toInt64) n) (fun i => (flH (clF M) (tlH h (M 120 7).toInt64) i, nI i)) n (by omega) (by
    intro i hi
    have a1 : ¬ nI n ≤ nI i := nI_ge hi (by omega)
    have i1 := inb_t (k := i) (n := 12) (by omega) (by decide)
    have i2 := nI_cl (show i < 2 ^ 31 by omega)
    simp only [f_X9_told_b12]
    rw [e1, if_neg a1, if_pos i1, i2, th_, Option.bind_some, th_, Option.bind_some, th_, Option.bind_some, ite_ss, Option.bind_some, th_, Option.bind_some, th_, Option.bind_some, nI_1, fl_s]
    rfl) (by
    have a1 : nI n ≤ nI n := Int32.le_refl _
    simp only [f_X9_told_b12, e1, a1, if_true]) (s0 := (tlH h (M 120 7).toInt64, 0)) rfl
  unfold f_X9_told
  rw [th_, Option.bind_some, hit, Option.bind_some]
theorem m_dClaims (h : Int64) {M : Mem} {n : Nat} (hn : n ≤ 12) (e2 : M 132 34 = nI n) (hc : ∀ i, i < n → M 152 i = M 121 i ∧ M 153 i = M 122 i ∧ M 154 i = M 123 i ∧ M 155 i = M 124 i ∧ M 156 i = M 125 i) : it (f_X12_digest_b204 M) FU (0, h) = some (flH (clF M) h n) := by
  refine it_N (b := f_X12_digest_b204 M) (fun i => (nI i, flH (clF M) h i)) n (by omega) ?_ ?_ rfl
  · intro i hi
    have a1 : ¬ nI n ≤ nI i := nI_ge hi (by omega)
    have i1 := inb_t (k := i) (n := 12) (by omega) (by decide)
    have i2 := nI_cl (show i < 2 ^ 31 by omega)
    obtain ⟨f1, f2, f3, f4, f5⟩ := hc i hi
    simp only [f_X12_digest_b204]
    rw [e2, if_neg a1, if_pos i1, i2, f1, f2, f3, f4, f5, te_, Option.bind_some, te_, Option.bind_some, te_, Option.bind_some, ite_ss, Option.bind_some, te_, Option.bind_some, te_, Option.bind_some, nI_1, fl_s]
    rfl
  · have a1 : nI n ≤ nI n := Int32.le_refl _
    simp only [f_X12_digest_b204, e2, a1, if_true]
theorem c_dPage (h : Int64) {M : Mem} {n : Nat} (hn : n ≤ 50) (e1 : M 10 1 = nI n) : f_X6_told h M = some (flH (fun i h => tlH h (M 11 i).toInt64) h n) := by
  have hit := it_N (b := f_X6_told_b2 M) (r := flH (fun i h => tlH h (M 11 i).toInt64) h n) (fun i => (flH (fun i h => tlH h (M 11 i).toInt64) h i, nI i)) n (by omega) (by
    intro i hi
    have a1 : ¬ nI n ≤ nI i := nI_ge hi (by omega)
    have i1 := inb_t (k := i) (n := 50) (by omega) (by decide)
    have i2 := nI_cl (show i < 2 ^ 31 by omega)
    simp only [f_X6_told_b2]
    rw [e1, if_neg a1, if_pos i1, i2, th_, Option.bind_some, nI_1, fl_s]) (by
    have a1 : nI n ≤ nI n := Int32.le_refl _
    simp only [f_X6_told_b2, e1, a1, if_true]) (s0 := (h, 0)) rfl
  unfold f_X6_told
  rw [hit, Option.bind_some]
theorem m_dPage (h : Int64) {M : Mem} {n : Nat} (hn : n ≤ 50) (e2 : M 132 7 = nI n) (hc : ∀ i, i < n → M 138 i = M 11 i) : it (f_X12_digest_b300 M) FU (0, h) = some (flH (fun i h => tlH h (M 11 i).toInt64) h n) := by
  refine it_N (b := f_X12_digest_b300 M) (fun i => (nI i, flH (fun i h => tlH h (M 11 i).toInt64) h i)) n (by omega) ?_ ?_ rfl
  · intro i hi
    have a1 : ¬ nI n ≤ nI i := nI_ge hi (by omega)
    have i1 := inb_t (k := i) (n := 50) (by omega) (by decide)
    have i2 := nI_cl (show i < 2 ^ 31 by omega)
    simp only [f_X12_digest_b300]
    rw [e2, if_neg a1, if_pos i1, i2, hc i hi, te_, Option.bind_some, nI_1, fl_s]
  · have a1 : nI n ≤ nI n := Int32.le_refl _
    simp only [f_X12_digest_b300, e2, a1, if_true]
