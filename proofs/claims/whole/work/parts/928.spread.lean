theorem rc_99 {w : Nat → Nat → Nat} {S : Nat → Bool} (hw : WtC w) {t i j : Nat} (h : RcT w S t i j) (ht : t < 100000) : RcT w S 99 i j := fun X hX hi => h X (fun a b h1 h2 h3 h4 h5 h6 => hX a b h1 h2 h3 h4 h5 (by
  rcases hw.1 a b with q | q <;> omega)) hi
theorem bt_v {w : Nat → Nat → Nat} {S : Nat → Bool} (hw : WtC w) (i j : Nat) : btT w S i j ≤ 99 ∨ btT w S i j = 100000 := by
  rcases (bt_sp w S i j).1 with h | h
  · rcases Nat.lt_or_ge (btT w S i j) 100000 with q | q
    · exact .inl (bt_le (rc_99 hw h q))
    · have := bt_nv w S i j
      exact .inr (by omega)
  · exact .inr h
theorem tj_v {w : Nat → Nat → Nat} {S J : Nat → Bool} (hw : WtC w) (c : Nat) : tjT w S J c ≤ 99 ∨ tjT w S J c = 100000 := by
  unfold tjT
  split
  · rcases (DT_sp w S (JLT S J c) c).2.1 with q | ⟨a, -, -, q⟩
    · exact .inr q
    · rw [q]; exact bt_v hw a c
  · exact .inl (by omega)
theorem sm_99 {f : Nat → Nat} (h : ∀ i, f i ≤ 99 ∨ f i = 100000) : ∀ n, sm f n ≤ 99 * n ∨ 100000 ≤ sm f n
  | 0 => .inl (Nat.le_refl _)
  | n + 1 => by
    have e : sm f (n + 1) = sm f n + f n := rfl
    rw [e]
    rcases sm_99 h n with q | q <;> rcases h n with t | t <;> omega
theorem tree_b {w : Nat → Nat → Nat} (hw : WtC w) (s : Nat) (h : treeN w s < 100000) : treeN w s ≤ 594 := by
  have := sm_99 (fun c => tj_v (S := s.testBit) (J := insT (Nat.testBit 0) (lowN s)) hw c) 6
  unfold treeN TTT at h ⊢
  omega
theorem spS_v {w : Nat → Nat → Nat} (hw : WtC w) (s : Nat) : ∀ x, (spS w s x).1 ≤ 594 ∨ (spS w s x).1 = 100000
  | 0 => .inr rfl
  | x + 1 => by
    have ih := spS_v hw s x
    rw [spS_s]
    by_cases q : x &&& s = 0
    · rw [if_pos q]
      unfold spT
      by_cases y : treeN w (s ||| x) < (spS w s x).1 ∨ (treeN w (s ||| x) = (spS w s x).1 ∧ treeN w (s ||| x) < 100000 ∧ c6 x < c6 (spS w s x).2)
      · rw [if_pos y]
        exact .inl (tree_b hw _ (by omega))
      · rw [if_neg y]; exact ih
    · rw [if_neg q]; exact ih
def SmX (M M1 : Mem) : Prop := Sm rL M M1 ∧ Sm rB M M1 ∧ M1 2 = M 2
theorem SmX.rf {M : Mem} : SmX M M := ⟨Sm.rfl', Sm.rfl', rfl⟩
theorem SmX.b {M M1 M2 : Mem} {g : Nat} (hg : g < 2) (h : SmX M M1) (k : KsB g M1 M2) : SmX M M2 := by
  refine ⟨h.1.trans' (k.L hg), h.2.1.trans' (k.sm hg fun _ => ⟨rfl, rfl, rfl, rfl, rfl, rfl, rfl, rfl, rfl, rfl⟩), ?_⟩
  rw [← h.2.2]
  funext j
  have hp := hP_of hg
  exact k 2 j (by decide) (by decide) (by decide) (by decide) (by omega) (by omega)
theorem SmX.a {M M1 M2 : Mem} (h : SmX M M1) (k : Sm rA M1 M2) : SmX M M2 := by
  refine ⟨h.1.trans' k.L, h.2.1.trans' fun p j hp => k p j (rB_A hp), ?_⟩
  rw [← h.2.2]
  funext j
  exact k 2 j rfl
/-- both sides' answers on all beasts and holders -/
def SpA (M : Mem) (nb : Nat) (T : Nat → Nat → Nat × Nat) : Prop := (∀ g b, (T g b).1 ≤ 594 ∨ (T g b).1 = 100000) ∧ ∀ g, g < 2 → ∀ b, b < nb → (∀ Mx, SmX M Mx → IvG Mx → ∃ M1, f_X8_solve (hP g) (nI b) Mx = some (wI (T g b).1, M1) ∧ M1 117 4 = wI (T g b).1 ∧ M1 117 5 = p5 (T g b) ∧ IvG M1 ∧ KsB g Mx M1) ∧ (∀ Mx, SmX M Mx → Inv Mx → ∃ M1, f_X12_findSpread (nI g) (nI b) Mx = some M1 ∧ M1 132 31 = wI (T g b).1 ∧ M1 132 32 = p5 (T g b) ∧ KsN Mx M1)
theorem sp_all {M : Mem} (hI : Inv M) : ∃ nb T, nb ≤ 8 ∧ M 114 2 = nI nb ∧ M 132 26 = nI nb ∧ SpA M nb T := by
  obtain ⟨nb, hnb, e1, e2, hbs⟩ := hI.2.2.2.2.1.bs
  obtain ⟨n0, wy0, pr0, cd0, lC0, lM0⟩ := hI.2.2.2.1.lw (g := 0) (by decide)
  obtain ⟨n1, wy1, pr1, cd1, lC1, lM1⟩ := hI.2.2.2.1.lw (g := 1) (by decide)
  obtain ⟨W0, hW0⟩ : ∃ W : Nat → Nat → Nat → Nat, W = fun b => wtN (M 2) n0 wy0 pr0 cd0 (M 116 b) (nI (pcN (M 115 b).toNatClampNeg)) := ⟨_, rfl⟩
  obtain ⟨W1, hW1⟩ : ∃ W : Nat → Nat → Nat → Nat, W = fun b => wtN (M 2) n1 wy1 pr1 cd1 (M 116 b) (nI (pcN (M 115 b).toNatClampNeg)) := ⟨_, rfl⟩
  have key : ∀ g, g < 2 → ∀ n wy pr cd, LwC (hP g) n wy pr cd M → LwM g n wy pr cd M → ∀ b, b < nb → (∀ Mx, SmX M Mx → IvG Mx → ∃ M1, f_X8_solve (hP g) (nI b) Mx = some (wI (spS (wtN (M 2) n wy pr cd (M 116 b) (nI (pcN (M 115 b).toNatClampNeg))) (M 115 b).toNatClampNeg 64).1, M1) ∧ M1 117 4 = wI (spS (wtN (M 2) n wy pr cd (M 116 b) (nI (pcN (M 115 b).toNatClampNeg))) (M 115 b).toNatClampNeg 64).1 ∧ M1 117 5 = p5 (spS (wtN (M 2) n wy pr cd (M 116 b) (nI (pcN (M 115 b).toNatClampNeg))) (M 115 b).toNatClampNeg 64) ∧ IvG M1 ∧ KsB g Mx M1) ∧ (∀ Mx, SmX M Mx → Inv Mx → ∃ M1, f_X12_findSpread (nI g) (nI b) Mx = some M1 ∧ M1 132 31 = wI (spS (wtN (M 2) n wy pr cd (M 116 b) (nI (pcN (M 115 b).toNatClampNeg))) (M 115 b).toNatClampNeg 64).1 ∧ M1 132 32 = p5 (spS (wtN (M 2) n wy pr cd (M 116 b) (nI (pcN (M 115 b).toNatClampNeg))) (M 115 b).toNatClampNeg 64) ∧ KsN Mx M1) := by
    intro g hg n wy pr cd lC lM b hb
    obtain ⟨s, s0, bC, bM, -⟩ := hbs b hb
    have es : (M 115 b).toNatClampNeg = s := by
      rw [bC.2.2.1, nI_cl (by have := bC.2.1; omega)]
    rw [es]
    refine ⟨fun Mx hx hG => ?_, fun Mx hx hIx => ?_⟩
    · have := c_solve hG hg (lC.kp hg hx.1) (e := M 116 b) ⟨bC.1, bC.2.1, (hx.2.1 115 b rfl).trans bC.2.2.1, hx.2.1 116 b rfl⟩ s0
      rw [hx.2.2] at this
      exact this
    · have := m_find hIx hg (lM.kp hx.1) (e := M 116 b) ⟨bM.1, bM.2.1, (hx.2.1 149 b rfl).trans bM.2.2.1, (hx.2.1 150 b rfl).trans bM.2.2.2⟩ s0
      rw [hx.2.2] at this
      exact this
  refine ⟨nb, fun g b => if g = 0 then spS (W0 b) (M 115 b).toNatClampNeg 64 else spS (W1 b) (M 115 b).toNatClampNeg 64, hnb, e1, e2, fun g b => ?_, fun g hg b hb => ?_⟩
  · by_cases q : g = 0
    · simp only [if_pos q]
      rw [hW0]
      exact spS_v (wt_C fun i hi => (lC0.2.2 i hi).2.2.1) _ 64
    · simp only [if_neg q]
      rw [hW1]
      exact spS_v (wt_C fun i hi => (lC1.2.2 i hi).2.2.1) _ 64
  · rcases (show g = 0 ∨ g = 1 by omega) with rfl | rfl
    · simp only [if_pos]
      rw [hW0]
      exact key 0 (by decide) _ _ _ _ lC0 lM0 b hb
    · simp only [Nat.one_ne_zero, if_false]
      rw [hW1]
      exact key 1 (by decide) _ _ _ _ lC1 lM1 b hb
theorem st_spread : ST_spread Inv := by
  intro a1 a2 a3 M hI
  obtain ⟨nb, T, hnb, eb1, eb2, -, hT⟩ := sp_all hI
  have sz : f_X0_size M = some (nI nb) := by unfold f_X0_size; rw [eb1]
  by_cases h1 : isN a1 2 = true
  · by_cases h2 : isN a2 nb = true
    · by_cases h4 : isN a3 2 = true
      · obtain ⟨g, hg, rfl⟩ := isN_of (by decide) h1
        obtain ⟨b, hb, rfl⟩ := isN_of (by omega) h2
        obtain ⟨t1, t2⟩ := hT g hg b hb
        obtain ⟨M1, k1, k2, k3, k4, k5⟩ := t1 M SmX.rf hI.1
        have hI1 := hI.kb hg k4 k5
        obtain ⟨M2, m1, m2, m3, m4⟩ := t2 M1 (SmX.rf.b hg k5) hI1
        have hp := hP_of hg
        have e26 : M1 132 26 = nI nb := (k5 132 26 (by decide) (by decide) (by decide) (by decide) (by omega) (by omega)).trans eb2
        have cl : f_X11_spread (nI g) (nI b) a3 M = some (if a3 = 0 then wI (T g b).1 else p5 (T g b), M1) := by
          unfold f_X11_spread
          rw [wi_2, h1, Option.bind_some, if_pos rfl, sz, Option.bind_some, wi_nI, h2, Option.bind_some, if_pos rfl, wi_2, h4, Option.bind_some, if_pos rfl, hq_nI g hg, k1, Option.bind_some]
          simp only
          rw [k2, k3, ite_ss, Option.bind_some]
        have ml : f_X12_spread (nI g) (nI b) a3 M1 = some (if a3 = 0 then wI (T g b).1 else p5 (T g b), M2) := by
          unfold f_X12_spread
          rw [m_isHolder, h1, Option.bind_some, if_pos rfl, m_isBeast hnb e26, h2, Option.bind_some, if_pos rfl, wn_2, h4, Option.bind_some, if_pos rfl, m1, Option.bind_some, m2, m3, ite_ss, Option.bind_some]
        exact ob_mk cl (ob_mk ml ⟨rfl, hI1.sm m4.A⟩)
      · refine ob_mk (z := (-102, M)) (by simp [f_X11_spread, wi_2, h1, sz, wi_nI, h2, h4]) ?_
        exact ob_mk (z := (-102, M)) (by simp [f_X12_spread, m_isHolder, h1, m_isBeast hnb eb2, h2, wn_2, h4]) ⟨rfl, hI⟩
    · refine ob_mk (z := (-101, M)) (by simp [f_X11_spread, wi_2, h1, sz, wi_nI, h2]) ?_
      exact ob_mk (z := (-101, M)) (by simp [f_X12_spread, m_isHolder, h1, m_isBeast hnb eb2, h2]) ⟨rfl, hI⟩
  · refine ob_mk (z := (-101, M)) (by simp [f_X11_spread, wi_2, h1]) ?_
    exact ob_mk (z := (-101, M)) (by simp [f_X12_spread, m_isHolder, h1]) ⟨rfl, hI⟩
/-! unlike -/
def vU (c : Nat) : Nat := if c = 100000 then 999 else c
def dfU (c d : Nat) : Nat := if vU c < vU d then vU d - vU c else vU c - vU d
theorem vU_I {c : Nat} (h : c ≤ 594 ∨ c = 100000) : (if wI c = -1 then some (999 : Int32) else some (wI c)) = some (nI (vU c)) ∧ vU c ≤ 999 := by
  have h' : c < 100 ∨ c = 100000 ∨ c ≤ 594 := by omega
  unfold wI vU
  by_cases q : c = 100000
  · rw [if_pos q, if_pos q]; exact ⟨rfl, Nat.le_refl _⟩
  · rw [if_neg q, if_neg q, if_neg (nI_m1 (by omega))]
    exact ⟨rfl, by omega⟩
theorem dfU_0 {c d : Nat} (h : c ≤ 594 ∨ c = 100000) (h2 : d ≤ 594 ∨ d = 100000) : (wI c = wI d) ↔ dfU c d = 0 := by
  have e1 : wI c = wI d ↔ c = d := by
    constructor
    · intro y
      unfold wI at y
      by_cases q : c = 100000
      · rw [if_pos q] at y
        by_cases q2 : d = 100000
        · omega
        · rw [if_neg q2] at y
          exact absurd y.symm (nI_m1 (by omega))
      · rw [if_neg q] at y
        by_cases q2 : d = 100000
        · rw [if_pos q2] at y
          exact absurd y (nI_m1 (by omega))
        · rw [if_neg q2] at y
          exact nI_inj (by omega) (by omega) y
    · intro y; rw [y]
  rw [e1]
  have ev : ∀ x : Nat, (x ≤ 594 ∨ x = 100000) → (x = 100000 ∧ vU x = 999) ∨ (x ≤ 594 ∧ vU x = x) := fun x hx => by
    unfold vU
    by_cases q : x = 100000
    · rw [if_pos q]; exact .inl ⟨q, rfl⟩
    · rw [if_neg q]; exact .inr ⟨by omega, rfl⟩
  have h3 := ev c h
  have h4 := ev d h2
  unfold dfU
  split <;> omega
/-- (how many, the one most unlike, by how much) -/
def ulN (df : Nat → Nat) : Nat → Nat × Int32 × Nat
  | 0 => (0, -1, 0)
  | k + 1 => ((ulN df k).1 + (if df k = 0 then 0 else 1), if df k ≤ (ulN df k).2.2 then (ulN df k).2.1 else nI k, if df k ≤ (ulN df k).2.2 then (ulN df k).2.2 else df k)
theorem ul_le {df : Nat → Nat} (h : ∀ k, df k ≤ 999) : ∀ k, (ulN df k).2.2 ≤ 999
  | 0 => Nat.zero_le _
  | k + 1 => by
    have ih := ul_le h k
    have hk := h k
    show (if df k ≤ (ulN df k).2.2 then (ulN df k).2.2 else df k) ≤ 999
    split <;> omega
theorem st_unlike : ST_unlike Inv := by
  intro a1 M hI
  by_cases h1 : isN a1 2 = true
  · obtain ⟨nb, T, hnb, eb1, eb2, hv, hT⟩ := sp_all hI
    obtain ⟨df, hdf⟩ : ∃ df : Nat → Nat, df = fun k => dfU (T 0 k).1 (T 1 k).1 := ⟨_, rfl⟩
    have dfl : ∀ k, df k ≤ 999 := fun k => by
      rw [hdf]
      have b1 := (vU_I (hv 0 k)).2
      have b2 := (vU_I (hv 1 k)).2
      show dfU (T 0 k).1 (T 1 k).1 ≤ 999
      unfold dfU
      split <;> omega
    have ull := ul_le dfl
    have dI : ∀ k, jabs (nI (vU (T 0 k).1) - nI (vU (T 1 k).1)) = nI (df k) := fun k => by
      have b1 := (vU_I (hv 0 k)).2
      have b2 := (vU_I (hv 1 k)).2
      rw [jabs_nI (by omega) (by omega), hdf]
      rfl
    have es : ∀ k, ulN df (k + 1) = ((ulN df k).1 + (if df k = 0 then 0 else 1), if df k ≤ (ulN df k).2.2 then (ulN df k).2.1 else nI k, if df k ≤ (ulN df k).2.2 then (ulN df k).2.2 else df k) := fun _ => rfl
    obtain ⟨z, hz, M1, rfl, z1, z2⟩ := it_inv (b := f_X11_unlike_b21) (fun k S => ∃ Mi, S = (nI (ulN df k).1, (ulN df k).2.1, nI (ulN df k).2.2, nI k, Mi) ∧ SmX M Mi ∧ Inv Mi) nb (Q := fun Z => ∃ Mi, Z = (nI (ulN df nb).1, (ulN df nb).2.1, Mi) ∧ SmX M Mi ∧ Inv Mi) (by omega) (by
      rintro k hk S ⟨Mi, rfl, r1, r2⟩
      have a1' : ¬ nI nb ≤ nI k := nI_ge hk (by omega)
      have sz : f_X0_size Mi = some (nI nb) := by unfold f_X0_size; rw [r1.2.1 114 2 rfl, eb1]
      obtain ⟨Ma, k1, -, -, k4, k5⟩ := (hT 0 (by decide) k hk).1 Mi r1 r2.1
      have x1 := r1.b (by decide) k5
      have i1 := r2.kb (by decide) k4 k5
      obtain ⟨Mb, l1, -, -, l4, l5⟩ := (hT 1 (by decide) k hk).1 Ma x1 i1.1
      have x2 := x1.b (by decide) l5
      have i2 := i1.kb (by decide) l4 l5
      have hd : f_X8_differenceOf 12 63 (nI k) Mi = some (nI (df k), Mb) := by
        unfold f_X8_differenceOf
        rw [show (12 : Nat) = hP 0 from rfl, k1, Option.bind_some]
        simp only
        rw [show (63 : Nat) = hP 1 from rfl, l1, Option.bind_some]
        simp only
        rw [(vU_I (hv 0 k)).1, Option.bind_some, (vU_I (hv 1 k)).1, Option.bind_some, dI]
      have dk := dfl k
      have uk := ull k
      rw [es]
      refine ⟨_, ?_, Mb, rfl, x2, i2⟩
      simp only [f_X11_unlike_b21]
      rw [sz, Option.bind_some, if_neg a1', hd, Option.bind_some]
      simp only
      have p1 : (if nI (df k) ≤ 0 then some (nI (ulN df k).1) else some (nI (ulN df k).1 + 1)) = some (nI ((ulN df k).1 + (if df k = 0 then 0 else 1))) := by
        by_cases y : df k = 0
        · rw [if_pos (show nI (df k) ≤ 0 by rw [y]; decide), if_pos y]; rfl
        · rw [if_neg (nI_nle (by omega) (by omega)), if_neg y, nI_1]
      have p2 : (if nI (df k) ≤ nI (ulN df k).2.2 then some ((ulN df k).2.1, nI (ulN df k).2.2) else some (nI k, nI (df k))) = some (if df k ≤ (ulN df k).2.2 then (ulN df k).2.1 else nI k, nI (if df k ≤ (ulN df k).2.2 then (ulN df k).2.2 else df k)) := by
        by_cases y : df k ≤ (ulN df k).2.2
        · rw [if_pos (nI_le y (by omega)), if_pos y, if_pos y]
        · rw [if_neg (nI_ge (by omega) (by omega)), if_neg y, if_neg y]
      rw [p1, Option.bind_some, p2, Option.bind_some, nI_1]) (by
      rintro S ⟨Mi, rfl, r1, r2⟩
      have sz : f_X0_size Mi = some (nI nb) := by unfold f_X0_size; rw [r1.2.1 114 2 rfl, eb1]
      have a1' : nI nb ≤ nI nb := Int32.le_refl _
      refine ⟨_, ?_, Mi, rfl, r1, r2⟩
      simp only [f_X11_unlike_b21]
      rw [sz, Option.bind_some, if_pos a1']) (s0 := (0, -1, 0, 0, M)) ⟨M, rfl, SmX.rf, hI⟩
    obtain ⟨y, hy, M2, rfl, y1, y2⟩ := it_inv (b := f_X12_unlike_b23) (fun k S => ∃ Mi, S = (nI (ulN df k).1, (ulN df k).2.1, (if (ulN df k).2.2 = 0 then -1 else nI (ulN df k).2.2), nI k, Mi) ∧ SmX M Mi ∧ Inv Mi) nb (Q := fun Z => ∃ Mi, Z = (nI (ulN df nb).1, (ulN df nb).2.1, Mi) ∧ SmX M Mi ∧ Inv Mi) (by omega) (by
      rintro k hk S ⟨Mi, rfl, r1, r2⟩
      have a1' : ¬ nI nb ≤ nI k := nI_ge hk (by omega)
      have sz : Mi 132 26 = nI nb := (r1.2.1 132 26 rfl).trans eb2
      obtain ⟨Ma, k1, k2, -, k4⟩ := (hT 0 (by decide) k hk).2 Mi r1 r2
      have x1 := r1.a k4.A
      have i1 := r2.sm k4.A
      obtain ⟨Mb, l1, l2, -, l4⟩ := (hT 1 (by decide) k hk).2 Ma x1 i1
      have s0 : f_X12_spreadOf 0 (nI k) Mi = some (wI (T 0 k).1, Ma) := by
        unfold f_X12_spreadOf
        rw [show (0 : Int32) = nI 0 from rfl, k1, Option.bind_some, k2]
      have s1 : f_X12_spreadOf 1 (nI k) Ma = some (wI (T 1 k).1, Mb) := by
        unfold f_X12_spreadOf
        rw [show (1 : Int32) = nI 1 from rfl, l1, Option.bind_some, l2]
      have d0 := dfU_0 (hv 0 k) (hv 1 k)
      have edf : dfU (T 0 k).1 (T 1 k).1 = df k := by rw [hdf]
      rw [edf] at d0
      have dk := dfl k
      have uk := ull k
      have b1 := (vU_I (hv 0 k)).2
      have b2 := (vU_I (hv 1 k)).2
      have ho : f_X12_off (nI (vU (T 0 k).1)) (nI (vU (T 1 k).1)) = some (nI (df k)) := by
        rw [m_off (by omega) (by omega), ← edf]
        rfl
      have hlt : ((nI (df k) ≤ (if (ulN df k).2.2 = 0 then -1 else nI (ulN df k).2.2)) ↔ df k ≤ (ulN df k).2.2) ∨ df k = 0 := by
        by_cases q : df k = 0
        · exact .inr q
        · refine .inl ?_
          by_cases q2 : (ulN df k).2.2 = 0
          · rw [if_pos q2, q2]
            constructor
            · intro w
              rw [i_le, nI_toInt (by omega)] at w
              have : (-1 : Int32).toInt = -1 := rfl
              omega
            · intro w; omega
          · rw [if_neg q2]
            exact nI_leI (by omega) (by omega)
      rw [es]
      refine ⟨_, ?_, Mb, rfl, x1.a l4.A, i1.sm l4.A⟩
      simp only [f_X12_unlike_b23]
      rw [sz, if_neg a1', s0, Option.bind_some]
      simp only
      rw [s1, Option.bind_some]
      simp only
      by_cases q : df k = 0
      · rw [if_pos (d0.mpr q), Option.bind_some, nI_1, q, if_pos rfl, if_pos (Nat.zero_le _), if_pos (Nat.zero_le _)]
        rfl
      · have hlt2 := hlt.resolve_right q
        rw [if_neg (fun w => q (d0.mp w)), (vU_I (hv 0 k)).1, Option.bind_some, (vU_I (hv 1 k)).1, Option.bind_some, ho, Option.bind_some, if_neg q, nI_1, nI_1]
        by_cases t : df k ≤ (ulN df k).2.2
        · rw [if_pos (hlt2.mpr t), if_pos (hlt2.mpr t), if_pos t, if_pos t]
          rfl
        · rw [if_neg (fun w => t (hlt2.mp w)), if_neg (fun w => t (hlt2.mp w)), if_neg t, if_neg t, if_neg q]
          rfl) (by
      rintro S ⟨Mi, rfl, r1, r2⟩
      have sz : Mi 132 26 = nI nb := (r1.2.1 132 26 rfl).trans eb2
      have a1' : nI nb ≤ nI nb := Int32.le_refl _
      refine ⟨_, ?_, Mi, rfl, r1, r2⟩
      simp only [f_X12_unlike_b23]
      rw [sz, if_pos a1']) (s0 := (0, -1, -1, 0, M1)) ⟨M1, rfl, z1, z2⟩
    have cl : f_X11_unlike a1 M = some (if a1 = 0 then nI (ulN df nb).1 else (ulN df nb).2.1, M1) := by
      unfold f_X11_unlike
      rw [wi_2, h1, Option.bind_some, if_pos rfl, hz, Option.bind_some]
      simp only
      rw [ite_ss, Option.bind_some]
    have ml : f_X12_unlike a1 M1 = some (if a1 = 0 then nI (ulN df nb).1 else (ulN df nb).2.1, M2) := by
      unfold f_X12_unlike
      rw [wn_2, h1, Option.bind_some, if_pos rfl, hy, Option.bind_some]
      simp only
      rw [ite_ss, Option.bind_some]
    exact ob_mk cl (ob_mk ml ⟨rfl, y2⟩)
  · refine ob_mk (z := (-102, M)) (by simp [f_X11_unlike, wi_2, h1]) ?_
    exact ob_mk (z := (-102, M)) (by simp [f_X12_unlike, wn_2, h1]) ⟨rfl, hI⟩
