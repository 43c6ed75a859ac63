theorem ClsL.kp {M M1 : Mem} {Q : Nat} {cd : CdT} (h : ClsL M Q cd) (e : ∀ j, j < 6 → M1 (Q + j) = M (Q + j)) : ClsL M1 Q cd := by
  have q0 := e 0 (by decide)
  rw [Nat.add_zero] at q0
  unfold ClsL
  have hf : fcC M1 Q = fcC M Q := by
    funext d e' k i
    unfold fcC
    rw [e 1 (by decide), e 2 (by decide), e 3 (by decide), e 4 (by decide)]
  rw [q0, e 4 (by decide), e 5 (by decide), hf]
  exact h
theorem MdlL.kp {M M1 : Mem} {x : Nat} {cd : CdT} (h : MdlL M x cd) (e3 : M1 142 x = M 142 x) (e4 : ∀ i, i < 50 → M1 143 (50 * x + i) = M 143 (50 * x + i) ∧ M1 144 (50 * x + i) = M 144 (50 * x + i)) : MdlL M1 x cd := by
  obtain ⟨nm, h1, h2, h3⟩ := h
  refine ⟨nm, h1, by rw [e3]; exact h2, fun d e k => ?_⟩
  obtain ⟨st, g1, g2⟩ := h3 d e k
  refine ⟨st, ?_, g2⟩
  rw [rpn_congr (mk := fun i => M 143 (50 * x + i)) (nu := fun i => M 144 (50 * x + i)) d e k nm (fun i hi => e4 i (by omega))]
  exact g1
theorem LawR.kp {M M1 : Mem} {Q x : Nat} (h : LawR M Q x) (e : ∀ j, j < 6 → M1 (Q + j) = M (Q + j)) (e1 : M1 140 x = M 140 x) (e2 : M1 141 x = M 141 x) (e3 : M1 142 x = M 142 x) (e4 : ∀ i, i < 50 → M1 143 (50 * x + i) = M 143 (50 * x + i) ∧ M1 144 (50 * x + i) = M 144 (50 * x + i)) : LawR M1 Q x := by
  obtain ⟨⟨w, w1, w2, w3⟩, ⟨c, c1, c2, c3⟩, cd, k1, k2⟩ := h
  have q0 := e 0 (by decide)
  rw [Nat.add_zero] at q0
  exact ⟨⟨w, w1, by rw [q0]; exact w2, e1.trans w3⟩, ⟨c, c1, by rw [q0]; exact c2, e2.trans c3⟩, cd, k1.kp e, k2.kp e3 e4⟩
theorem RelM_st {s : AVt} {i : Nat} {M : Mem} (h : RelM s i M) : M 132 14 = nI s.1 := by
  obtain ⟨st, ⟨way, num⟩, m, neg, ⟨hO, hA⟩, ⟨l, g, v⟩, O, A⟩ := s
  exact h.1.1
theorem RelC_w {s : AVt} {i Q : Nat} {M : Mem} (h : RelC s i Q M) (hs : 1 ≤ s.1) : M Q 0 = nI s.2.1.1 ∧ M Q 1 = nI s.2.1.2 := by
  obtain ⟨st, ⟨way, num⟩, m, neg, ⟨hO, hA⟩, ⟨l, g, v⟩, O, A⟩ := s
  exact ⟨h.1 hs, h.2.1⟩
theorem hP_of {g : Nat} (hg : g < 2) : (g = 0 ∧ hP g = 12) ∨ (g = 1 ∧ hP g = 63) := by
  rcases (show g = 0 ∨ g = 1 by omega) with rfl | rfl
  · exact .inl ⟨rfl, rfl⟩
  · exact .inr ⟨rfl, rfl⟩
theorem sts_all {pg : Nat → Nat} {n : Nat} (h : ¬ stsN pg n = 10) : ∀ i, i < n → ¬ stsN pg (i + 1) = 10 := by
  intro i hi w
  have := sts_10 w (n - (i + 1))
  rw [show i + 1 + (n - (i + 1)) = n by omega] at this
  exact h this
/-- what law() leaves as it was -/
def frL (g k0 p k : Nat) : Prop := (p < hP g + 3 + 6 * k0 ∨ hP g + 3 + 6 * k0 + 5 < p) ∧ ¬ (p = hP g ∧ k = 2) ∧ ¬ (p = 10 ∧ k = 1) ∧ p ≠ 145 ∧ p ≠ 146 ∧ p ≠ 147 ∧ ¬ (p = 132 ∧ 14 ≤ k ∧ k ≤ 24) ∧ ¬ (p = 132 ∧ k = 7) ∧ ¬ (p = 139 ∧ k = g) ∧ ¬ ((p = 140 ∨ p = 141 ∨ p = 142) ∧ k = 8 * g + k0) ∧ ¬ ((p = 143 ∨ p = 144) ∧ 50 * (8 * g + k0) ≤ k ∧ k < 50 * (8 * g + k0) + 50)
theorem Inv.law {M M1 : Mem} (h : Inv M) {g k0 : Nat} (hg : g < 2) (hk : k0 < 8) (e1 : M (hP g) 2 = nI k0) (fr : ∀ p k, frL g k0 p k → M1 p k = M p k) (n1 : M1 (hP g) 2 = nI (k0 + 1)) (n2 : M1 139 g = nI (k0 + 1)) (n3 : M1 10 1 = nI 0) (n4 : M1 132 7 = nI 0) (nl : LawR M1 (hP g + 3 + 6 * k0) (8 * g + k0)) : Inv M1 := by
  obtain ⟨hG, hM, hPg, hL, hB, hS, hF⟩ := h
  have hp := hP_of hg
  have sm : ∀ r : Nat → Nat → Bool, (∀ p k, r p k = true → frL g k0 p k) → Sm r M M1 := fun r hr p k hpk => fr p k (hr p k hpk)
  refine ⟨hG.sm (sm _ fun p k q => ?_), hM.sm (sm _ fun p k q => ?_), ⟨0, by decide, n3, n4, fun i hi => absurd hi (Nat.not_lt_zero i)⟩, ?_, hB.sm (sm _ fun p k q => ?_), hS.sm (sm _ fun p k q => ?_), hF.sm (sm _ fun p k q => ?_)⟩
  · simp [rG] at q
    unfold frL
    omega
  · simp [rM] at q
    unfold frL
    omega
  · intro g2 hg2
    obtain ⟨k2, q1, q2, q3, q4⟩ := hL g2 hg2
    have hp2 := hP_of hg2
    have keep : ∀ i, i < 8 → ¬ (g2 = g ∧ i = k0) → LawR M (hP g2 + 3 + 6 * i) (8 * g2 + i) → LawR M1 (hP g2 + 3 + 6 * i) (8 * g2 + i) := by
      intro i hi hne hR
      refine hR.kp (fun j hj => funext fun k => fr _ _ ?_) (fr _ _ ?_) (fr _ _ ?_) (fr _ _ ?_) (fun j hj => ⟨fr _ _ ?_, fr _ _ ?_⟩) <;> unfold frL <;> omega
    by_cases e : g2 = g
    · subst e
      have : k2 = k0 := nI_inj (by omega) (by omega) (q2.symm.trans e1)
      subst this
      refine ⟨k2 + 1, by omega, n1, n2, fun i hi => ?_⟩
      by_cases y : i = k2
      · rw [y]; exact nl
      · exact keep i (by omega) (fun w => y w.2) (q4 i (by omega))
    · refine ⟨k2, q1, (fr _ _ ?_).trans q2, (fr _ _ ?_).trans q3, fun i hi => keep i (by omega) (fun w => e w.1) (q4 i hi)⟩ <;> unfold frL <;> omega
  · simp [rB] at q
    unfold frL
    omega
  · simp [rS] at q
    unfold frL
    omega
  · simp [rF] at q
    unfold frL
    omega
theorem m_law {Mf Mc M3 : Mem} {s : AVt} {n g k0 Q : Nat} (hg : g < 2) (hk : k0 < 8) (r1 : RelM s n Mf) (r2 : RelC s n Q M3) (hs : s.1 = 3 ∨ s.1 = 4 ∨ s.1 = 8 ∨ s.1 = 9) (hn : n ≤ 50) (e9 : Mf 139 g = nI k0) (hkm : KmL Mc Mf) : ∃ Mm, f_X12_law_j49_1 (nI g) Mf = some (nI (k0 + 1), Mm) ∧ Mm 139 g = nI (k0 + 1) ∧ Mm 132 7 = nI 0 ∧ s.2.1.1 < 4 ∧ Mm 140 (8 * g + k0) = nI s.2.1.1 ∧ s.2.1.2 < 100 ∧ Mm 141 (8 * g + k0) = nI s.2.1.2 ∧ MdlL Mm (8 * g + k0) (cdA s) ∧ ∀ p k, p ≠ 145 → p ≠ 146 → p ≠ 147 → ¬ (p = 132 ∧ 14 ≤ k ∧ k ≤ 24) → ¬ (p = 132 ∧ k = 7) → ¬ (p = 139 ∧ k = g) → ¬ ((p = 140 ∨ p = 141 ∨ p = 142) ∧ k = 8 * g + k0) → ¬ ((p = 143 ∨ p = 144) ∧ 50 * (8 * g + k0) ≤ k ∧ k < 50 * (8 * g + k0) + 50) → Mm p k = Mc p k := by
  obtain ⟨M47, M49, rm, f1, f2, f3, f4, f5, f6, f7, f8, f9, f10⟩ := m_fin r1 r2 hs hn
  obtain ⟨x, hx⟩ : ∃ x, x = 8 * g + k0 := ⟨_, rfl⟩
  rw [← hx]
  have i1 := inb_t (k := g) (n := 2) hg (by decide)
  have i2 := nI_cl (show g < 2 ^ 31 by omega)
  have n8 : ¬ nI k0 = 8 := fun y => by
    have := nI_inj (b := 8) (by omega) (by decide) y
    omega
  have e99 : M49 139 g = nI k0 := (f10 139 g (by decide) (by decide) (by decide) (by omega)).trans e9
  have ex : 8 * nI g + nI k0 = nI x := by
    have h1 : 8 * nI g = nI (8 * g) := pk_mul 8 g
    rw [h1, nI_add, ← hx]
  have p1 := inb_t (k := x) (n := 16) (by omega) (by decide)
  have p2 := nI_cl (show x < 2 ^ 31 by omega)
  obtain ⟨Ms, hMs⟩ : ∃ Ms, Ms = up (up (up M49 140 x (M49 132 15)) 141 x ((up M49 140 x (M49 132 15)) 132 16)) 142 x ((up (up M49 140 x (M49 132 15)) 141 x ((up M49 140 x (M49 132 15)) 132 16)) 132 22) := ⟨_, rfl⟩
  have rs : ∀ p k, ¬ ((p = 140 ∨ p = 141 ∨ p = 142) ∧ k = x) → Ms p k = M49 p k := fun p k hn => by
    rw [hMs, up_at, if_neg (fun y => hn ⟨.inr (.inr y.1), y.2⟩), up_at, if_neg (fun y => hn ⟨.inr (.inl y.1), y.2⟩), up_at, if_neg (fun y => hn ⟨.inl y.1, y.2⟩)]
  have s140 : Ms 140 x = nI s.2.1.1 := by rw [hMs]; simp [up_at, f6]
  have s141 : Ms 141 x = nI s.2.1.2 := by rw [hMs]; simp [up_at, f8]
  have s142 : Ms 142 x = nI rm := by rw [hMs]; simp [up_at, f4]
  obtain ⟨M61, c1, c2, c3⟩ := m_copy (Ms := Ms) hg hk hx e99 f3 ((rs 132 22 (by omega)).trans f4) (funext fun k => rs 145 k (by omega)) (funext fun k => rs 146 k (by omega))
  have e61 : M61 139 g = nI k0 := (c3 139 g (by omega)).trans ((rs 139 g (by omega)).trans e99)
  have rd : ∀ p k, ¬ (p = 139 ∧ k = g) → ¬ (p = 132 ∧ k = 7) → up (up M61 139 g (nI (k0 + 1))) 132 7 0 p k = M61 p k := fun p k h1 h2 => by
    rw [up_at, if_neg h2, up_at, if_neg h1]
  refine ⟨up (up M61 139 g (nI (k0 + 1))) 132 7 0, ?_, by simp [up_at], by simp [up_at]; rfl, f5, (rd 140 x (by omega) (by omega)).trans ((c3 140 x (by omega)).trans s140), f7, (rd 141 x (by omega) (by omega)).trans ((c3 141 x (by omega)).trans s141), ⟨rm, f3, (rd 142 x (by omega) (by omega)).trans ((c3 142 x (by omega)).trans s142), fun d e k => ?_⟩, fun p k h1 h2 h3 h4 h5 h6 h7 h8 => ?_⟩
  · unfold f_X12_law_j49_1
    rw [if_pos i1, i2, e9, if_neg n8, f1, Option.bind_some, f2, Option.bind_some, e99, ex, if_pos p1, p2, ← hMs, c1, Option.bind_some, e61, nI_1]
    have : up (up M61 139 g (nI (k0 + 1))) 132 7 0 139 g = nI (k0 + 1) := by simp [up_at]
    rw [this]
  · obtain ⟨st, g1, g2⟩ := f9 d e k
    refine ⟨st, ?_, g2⟩
    rw [rpn_congr (mk := M49 145) (nu := M49 146) d e k rm (fun i hi => ?_)]
    · exact g1
    · exact ⟨(rd _ _ (by omega) (by omega)).trans (c2 i hi).1, (rd _ _ (by omega) (by omega)).trans (c2 i hi).2⟩
  · rw [rd p k h6 h5, c3 p k h8, rs p k h7, f10 p k h1 h2 h3 h4, hkm p k h1 h2 h3 h4]
