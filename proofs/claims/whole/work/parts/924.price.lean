/-- the cheapest tree over just the lands of s -/
noncomputable def treeN (w : Nat → Nat → Nat) (s : Nat) : Nat := TTT w s.testBit (insT (Nat.testBit 0) (lowN s))
noncomputable def trC (w : Nat → Nat → Nat) (s : Nat) : Int32 := if treeN w s < 100000 then nI (treeN w s) else -1
noncomputable def trM (w : Nat → Nat → Nat) (s : Nat) : Int32 := if treeN w s < 100000 then nI (treeN w s) else 100000
theorem rest_I {s j : Nat} (hs : s < 64) (hj : j < 64) : nI s &&& (nI j ^^^ (-1)) = nI (s &&& (j ^^^ (2 ^ 32 - 1))) := by
  have e3 : (-1 : Int32) = nI (2 ^ 32 - 1) := by decide
  rw [e3, vb_xor (by omega) (by decide), vb_and (by omega) (Nat.xor_lt_two_pow (by omega) (by decide))]
theorem rest_b {s j i : Nat} (hi : i < 6) : (s &&& (j ^^^ (2 ^ 32 - 1))).testBit i = (s.testBit i && !j.testBit i) := by
  have : i < 32 := by omega
  rw [Nat.testBit_and, Nat.testBit_xor, Nat.testBit_two_pow_sub_one]
  simp [this]
theorem J_all {s j : Nat} (hj : j < 64) (h : ∀ a, a < 6 → j.testBit a = true → s.testBit a = true) : ∀ a, j.testBit a = true → s.testBit a = true := by
  intro a ha
  by_cases q : a < 6
  · exact h a q ha
  · rw [s6_hi hj (by omega)] at ha; cases ha
theorem J_more {s j : Nat} (hlt : c6 j < c6 s) : ∃ b, b < 6 ∧ s.testBit b = true ∧ j.testBit b = false := by
  apply Classical.byContradiction
  intro hn
  have : ∀ i, i < 6 → s.testBit i = true → j.testBit i = true := by
    intro i hi hb
    cases h : j.testBit i with
    | true => rfl
    | false => exact absurd ⟨i, hi, hb, h⟩ hn
  have := (cnt_sub (p := fun c => s.testBit c = true) (q := fun c => j.testBit c = true) 6 this).1
  unfold c6 at hlt
  omega
theorem J_full {s j : Nat} (h : ∀ a, a < 6 → j.testBit a = true → s.testBit a = true) (he : c6 j = c6 s) : ∀ a, a < 6 → s.testBit a = true → j.testBit a = true := (cnt_sub (p := fun c => j.testBit c = true) (q := fun c => s.testBit c = true) 6 h).2 he
theorem c6_le (s : Nat) : c6 s ≤ 6 := cnt_le _ 6
theorem c_run {w : Nat → Nat → Nat} (hw : WtC w) {s : Nat} (hs : s < 64) : ∀ (c j l q : Nat) (M : Mem) (f : Nat), c < f → j < 64 → l < 6 → j.testBit l = false → (∀ a, a < 6 → (j ||| 2 ^ l).testBit a = true → s.testBit a = true) → (∀ i, i < 6 → j.testBit i = false → M 119 i = wI (rmN w j.testBit i)) → PrC w M → c6 (j ||| 2 ^ l) + c = c6 s → q ≤ 99 * c6 (j ||| 2 ^ l) → q + TTT w s.testBit (insT j.testBit l) = treeN w s → ∃ M1, (it (f_X8_priceOfTree_b24 (nI s)) f (nI j, nI q, nI l, nI (c + 1), M) = some (.inl (trC w s, M1)) ∨ it (f_X8_priceOfTree_b24 (nI s)) f (nI j, nI q, nI l, nI (c + 1), M) = some (.inr (trC w s, M1))) ∧ ∀ p k, p ≠ 119 → M1 p k = M p k := by
  intro c
  induction c with
  | zero =>
    intro j l q M f hf hj hl jl hJ hr hp hc hq hT
    obtain ⟨f', rfl⟩ : ∃ f', f = f' + 1 := ⟨f - 1, by omega⟩
    have hz : TTT w s.testBit (insT j.testBit l) = 0 := TTT_end fun a ha sa => by
      rw [← bit_or]
      exact J_full hJ (by omega) a ha sa
    have h6 := c6_le (j ||| 2 ^ l)
    refine ⟨M, .inl ?_, fun _ _ _ => rfl⟩
    have e : f_X8_priceOfTree_b24 (nI s) (nI j, nI q, nI l, nI (0 + 1), M) = some (.inr (.inl (nI q, M))) := by
      simp only [f_X8_priceOfTree_b24]
      rw [if_pos (show nI (0 + 1) ≤ 1 by decide)]
    rw [it_end e]
    unfold trC
    rw [← hT, hz, Nat.add_zero, if_pos (by omega)]
  | succ c ih =>
    intro j l q M f hf hj hl jl hJ hr hp hc hq hT
    obtain ⟨f', rfl⟩ : ∃ f', f = f' + 1 := ⟨f - 1, by omega⟩
    have h6 := c6_le (j ||| 2 ^ l)
    have h6s := c6_le s
    obtain ⟨o1, o2⟩ := s6_or j hj l hl
    obtain ⟨j2, hj2⟩ : ∃ j2, j2 = j ||| 2 ^ l := ⟨_, rfl⟩
    have eJ : insT j.testBit l = j2.testBit := by rw [hj2, bit_orF]
    rw [← hj2] at o1 o2 hJ hc hq h6
    rw [eJ] at hT
    have hJs := J_all o2 hJ
    obtain ⟨M34, k1, k2, k3⟩ := c_reach hw hp hl hr
    rw [eJ] at k2
    have hp34 : PrC w M34 := fun a b h1 h2 h3 => (k3 118 _ (by decide)).trans (hp a b h1 h2 h3)
    obtain ⟨r, hr0⟩ : ∃ r, r = s &&& (j2 ^^^ (2 ^ 32 - 1)) := ⟨_, rfl⟩
    have r64 : r < 64 := by rw [hr0]; exact Nat.lt_of_le_of_lt Nat.and_le_left hs
    have rb : ∀ i, i < 6 → r.testBit i = (s.testBit i && !j2.testBit i) := fun i hi => by rw [hr0]; exact rest_b hi
    obtain ⟨v, n1, n2⟩ := c_near hw (X := j2.testBit) r64 (M := M34) (fun i hi hb => k2 i hi (by
      rw [rb i hi, Bool.and_eq_true, Bool.not_eq_true'] at hb
      exact hb.2))
    have a1 : ¬ nI (c + 1 + 1) ≤ 1 := nI_ge (a := 1) (by omega) (by omega)
    have ln : j2.testBit l = true := by rw [← eJ]; simp [insT]
    have cutm : ∀ m, (∀ i, i < 6 → r.testBit i = true → m ≤ rmN w j2.testBit i) → ∀ a b, a < 6 → b < 6 → j2.testBit a = true → s.testBit b = true → j2.testBit b = false → m ≤ w a b := by
      intro m h a b ha hb ja sb jb
      have := h b hb (by rw [rb b hb, sb, jb]; rfl)
      exact Nat.le_trans this ((rm_sp w j2.testBit b).2.2 a ha ja)
    rcases n2 with ⟨rfl, n2⟩ | ⟨b, b1, rfl, b2, b3, b4⟩
    · have e : f_X8_priceOfTree_b24 (nI s) (nI j, nI q, nI l, nI (c + 1 + 1), M) = some (.inr (.inr (-1, M34))) := by
        simp only [f_X8_priceOfTree_b24]
        rw [if_neg a1, k1, Option.bind_some, o1, rest_I hs o2, ← hr0, n1, Option.bind_some, if_pos rfl]
      refine ⟨M34, .inr ?_, k3⟩
      rw [it_end e]
      obtain ⟨b, hb, sb, jb⟩ := J_more (s := s) (j := j2) (by omega)
      have hcut := cutm 100000 (fun i hi hb => by rw [n2 i hi hb]; exact Nat.le_refl _)
      have ew : w l b = 100000 := Nat.le_antisymm (hw.le l b) (hcut l b hl hb ln sb jb)
      have hg := TTT_grow (w := w) (S := s.testBit) (J := j2.testBit) hw.le hw.2 hJs hl hb ln sb jb ew hcut
      unfold trC
      rw [if_neg (by omega)]
    · have b2' := b2
      rw [rb b b1, Bool.and_eq_true, Bool.not_eq_true'] at b2'
      have i1 := inb_t (k := b) (n := 6) b1 (by decide)
      have i2 := nI_cl (show b < 2 ^ 31 by omega)
      have eb : M34 119 b = nI (rmN w j2.testBit b) := by
        rw [k2 b b1 b2'.2]
        unfold wI
        rw [if_neg (by omega)]
      have e : f_X8_priceOfTree_b24 (nI s) (nI j, nI q, nI l, nI (c + 1 + 1), M) = some (.inl (nI j2, nI (q + rmN w j2.testBit b), nI b, nI (c + 1), M34)) := by
        simp only [f_X8_priceOfTree_b24]
        rw [if_neg a1, k1, Option.bind_some, o1, rest_I hs o2, ← hr0, n1, Option.bind_some, if_neg (nI_m1 (by omega)), if_pos i1, i2, eb, nI_add, nI_m10, nI_pred]
      rw [it_go e]
      have hcut := cutm (rmN w j2.testBit b) b4
      obtain ⟨a, ha, ja, ea⟩ := (rm_sp w j2.testBit b).2.1.resolve_left (by omega)
      have hg := TTT_grow (w := w) (S := s.testBit) (J := j2.testBit) hw.le hw.2 hJs ha b1 ja b2'.1 b2'.2 ea.symm hcut
      have ec := s6_c1 j2 o2 b b1 b2'.2
      obtain ⟨M1, g1, g2⟩ := ih j2 b (q + rmN w j2.testBit b) M34 f' (by omega) o2 b1 b2'.2 (fun x hx hb => by
        rw [bit_or] at hb
        unfold insT at hb
        rw [Bool.or_eq_true, decide_eq_true_eq] at hb
        rcases hb with hb | rfl
        · exact hJ x hx hb
        · exact b2'.1) k2 hp34 (by omega) (by omega) (by omega)
      exact ⟨M1, g1, fun p k hpk => (g2 p k hpk).trans (k3 p k hpk)⟩
theorem c6_pos : ∀ s, s < 64 → 0 < s → 0 < c6 s := by decide +kernel
theorem c_tree {w : Nat → Nat → Nat} (hw : WtC w) {M : Mem} (hp : PrC w M) {s : Nat} (hs : s < 64) (h0 : 0 < s) : ∃ M1, f_X8_priceOfTree (nI s) M = some (trC w s, M1) ∧ ∀ p k, p ≠ 119 → M1 p k = M p k := by
  obtain ⟨l1, l2⟩ := s6_low s hs h0
  have hc := c6_pos s hs h0
  have h6 := c6_le s
  have hz : ∀ i, (0 : Nat).testBit i = false := fun i => Nat.zero_testBit i
  obtain ⟨M1, g1, g2⟩ := c_run hw hs (c6 s - 1) 0 (lowN s) 0 (fil M 119 6 (-1)) FU (by unfold FU; omega) (by decide) l1 (hz _) (fun a ha hb => by
    rw [bit_or] at hb
    unfold insT at hb
    rw [hz, Bool.false_or, decide_eq_true_eq] at hb
    rw [hb]; exact l2) (fun i hi _ => by
    rw [fil_at, if_pos ⟨rfl, hi⟩]
    have : rmN w (Nat.testBit 0) i = 100000 := by
      rcases (rm_sp w (Nat.testBit 0) i).2.1 with t | ⟨a, -, t, -⟩
      · exact t
      · rw [hz] at t; cases t
    rw [this]
    rfl) (fun a b h1 h2 h3 => by rw [fil_at, if_neg (fun y => absurd y.1 (by decide))]; exact hp a b h1 h2 h3) (by rw [s6_1 _ l1]; omega) (by omega) (by rw [Nat.zero_add]; rfl)
  rw [show c6 s - 1 + 1 = c6 s by omega, ← s6_pc s hs] at g1
  refine ⟨M1, ?_, fun p k hpk => by rw [g2 p k hpk, fil_at, if_neg (fun y => hpk y.1)]⟩
  unfold f_X8_priceOfTree
  rw [s6_ntz s hs h0, Option.bind_some, pc_I (by omega), Option.bind_some]
  rcases g1 with g1 | g1
  · rw [show (0 : Int32) = nI 0 from rfl, g1]
    rfl
  · rw [show (0 : Int32) = nI 0 from rfl, g1]
    rfl
