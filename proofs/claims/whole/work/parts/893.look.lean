/-- b's columns in a row, once it is put (s: u and 7) -/
def mvN (own : Nat → Int32) (b s v r : Nat) : Nat := if s ≤ r + 7 ∧ r + 7 - s < 8 then trn (mkN own b (r + 7 - s)) v else 0
theorem mv_lt (own : Nat → Int32) (b s v r : Nat) : mvN own b s v r < 65536 := by
  unfold mvN
  split
  · exact trn_lt _ _
  · decide
theorem mv_bit {own : Nat → Int32} {b s v r y : Nat} (hv : v < 16) (hy : y < 16) : (mvN own b s v r).testBit y = decide ((s ≤ r + 7 ∧ r + 7 - s < 8) ∧ own (16 * (r + 7 - s) + (y + (16 - v)) % 16) = nI b) := by
  unfold mvN
  by_cases h : s ≤ r + 7 ∧ r + 7 - s < 8
  · rw [if_pos h, trn_bit (mk_lt _ _ _) hv hy, mk_bit]
    exact decide_eq_decide.mpr ⟨fun w => ⟨h, w.2⟩, fun w => ⟨Nat.mod_lt _ (by decide), w.2⟩⟩
  · rw [if_neg h, Nat.zero_testBit]
    exact (decide_eq_false (fun w => h w.1)).symm
theorem lk_sub : ∀ s, s < 15 → ∀ r, r < 8 → s ≤ r + 7 → r + 7 - s < 8 → nI r - (nI s - 7) = nI (r + 7 - s) := by decide +kernel
theorem lk_lo : ∀ s, s < 15 → jmax 0 (nI s - 7) = nI (s - 7) := by decide +kernel
theorem lk_hi : ∀ s, s < 15 → jmin 8 (8 + (nI s - 7)) = nI (min 8 (s + 1)) := by decide +kernel
theorem gvE_f {H B : Nat → Bool} (h : (∀ c, c < 16 → H c = false) ∨ (∀ c, c < 16 → B c = false)) {c : Nat} (hc : c < 16) (l : Nat) : gvE H B c l = false := by
  have m : (c + (l + 1)) % 16 < 16 := Nat.mod_lt _ (by decide)
  unfold gvE
  rcases h with h | h
  · rw [h c hc, h _ m]; simp
  · rw [h c hc, h _ m]; simp
theorem row_0 {H B : Nat → Bool} (h : (∀ c, c < 16 → H c = false) ∨ (∀ c, c < 16 → B c = false)) : ovR H B = 0 ∧ tcR H B = 0 ∧ gpR H B = 0 := by
  have m : ∀ x, x % 16 < 16 := fun x => Nat.mod_lt _ (by decide)
  refine ⟨sm_zero 16 fun c hc => ?_, sm_zero 16 fun c hc => ?_, sm_zero 16 fun c hc => ?_⟩
  · rcases h with h | h
    · rw [h c hc]; rfl
    · rw [h c hc, Bool.and_false]; rfl
  · rcases h with h | h
    · rw [h c hc]; rfl
    · rw [h _ (m (c + 15)), h _ (m (c + 1)), Bool.and_false]; rfl
  · unfold gpC
    rw [gvE_f h hc, gvE_f h hc, gvE_f h hc]
    rfl
def ovF (own : Nat → Int32) (a b s v r : Nat) : Nat := ovR (mkN own a r).testBit (mvN own b s v r).testBit
def tcF (own : Nat → Int32) (a b s v r : Nat) : Nat := tcR (mkN own a r).testBit (mvN own b s v r).testBit
def gpF (own : Nat → Int32) (a b s v r : Nat) : Nat := gpR (mkN own a r).testBit (mvN own b s v r).testBit
def OVn (own : Nat → Int32) (a b s v : Nat) : Nat := sm (ovF own a b s v) 8
def TCn (own : Nat → Int32) (a b s v : Nat) : Nat := sm (tcF own a b s v) 8
def GPn (own : Nat → Int32) (a b s v : Nat) : Nat := sm (gpF own a b s v) 8
theorem F_0 {own : Nat → Int32} {a b s v r : Nat} (h : mkN own a r = 0 ∨ mvN own b s v r = 0) : ovF own a b s v r = 0 ∧ tcF own a b s v r = 0 ∧ gpF own a b s v r = 0 := by
  refine row_0 ?_
  rcases h with h | h
  · exact .inl fun c _ => by rw [h, Nat.zero_testBit]
  · exact .inr fun c _ => by rw [h, Nat.zero_testBit]
theorem F_x {own : Nat → Int32} {a b s v r : Nat} (h : ¬ (s ≤ r + 7 ∧ r + 7 - s < 8)) : ovF own a b s v r = 0 ∧ tcF own a b s v r = 0 ∧ gpF own a b s v r = 0 := F_0 (.inr (by unfold mvN; rw [if_neg h]))
theorem c_mask3 {M M1 : Mem} (e : M1 3 = M 3) (x y : Int32) : f_X2_maskOf x y M1 = f_X2_maskOf x y M := by
  unfold f_X2_maskOf
  rw [e]
theorem lk_step {A B U V X Y Z W H : Int32} {Mi : Mem} (hH : jmin 8 (8 + U) = H) (h0 : ¬ H ≤ X) (e1 : f_X2_maskOf A X Mi = some Y) (e2 : f_X2_maskOf B (X - U) Mi = some Z) (e3 : f_X2_turned Z V = some W) : f_X1_look_b22 A B U V (X, Mi) = if Y = 0 then some (.inl (X + 1, Mi)) else if W = 0 then some (.inl (X + 1, Mi)) else (f_X1_lookAtRow Y W Mi).bind fun M19 => some (.inl (X + 1, M19)) := by
  simp only [f_X1_look_b22]
  rw [hH, if_neg h0, e1, Option.bind_some, e2, Option.bind_some, e3, Option.bind_some]
  generalize f_X1_lookAtRow Y W Mi = o
  by_cases q1 : Y = 0
  · rw [if_pos q1, if_pos q1, Option.bind_some]
  · rw [if_neg q1, if_neg q1]
    by_cases q2 : W = 0
    · rw [if_pos q2, if_pos q2, Option.bind_some]
    · rw [if_neg q2, if_neg q2]
      cases o <;> rfl
theorem c_look {M : Mem} (hC : IvC M) {a b s v : Nat} (ha : a < 6) (hb : b < 6) (hs : s < 15) (hv : v < 16) : ∃ M1, f_X1_look (nI a) (nI b) (nI s - 7) (nI v) M = some M1 ∧ M1 9 1 = nI (OVn (M 2) a b s v) ∧ M1 9 2 = nI (TCn (M 2) a b s v) ∧ M1 9 3 = nI (GPn (M 2) a b s v) ∧ ∀ p k, ¬ (p = 9 ∧ (k = 1 ∨ k = 2 ∨ k = 3)) → M1 p k = M p k := by
  have hN : s - 7 + (min 8 (s + 1) - (s - 7)) = min 8 (s + 1) := by omega
  have z0 : ∀ i, i < s - 7 → ovF (M 2) a b s v i = 0 ∧ tcF (M 2) a b s v i = 0 ∧ gpF (M 2) a b s v i = 0 := fun i hi => F_x (by omega)
  have z8 : ∀ i, min 8 (s + 1) ≤ i → i < 8 → ovF (M 2) a b s v i = 0 ∧ tcF (M 2) a b s v i = 0 ∧ gpF (M 2) a b s v i = 0 := fun i h1 h2 => F_x (by omega)
  have h8 : min 8 (s + 1) + (8 - min 8 (s + 1)) = 8 := by omega
  obtain ⟨z, hz, z1, z2, z3, z4⟩ := it_inv (b := f_X1_look_b22 (nI a) (nI b) (nI s - 7) (nI v)) (fun i S => S.1 = nI (s - 7 + i) ∧ S.2 9 1 = nI (sm (ovF (M 2) a b s v) (s - 7 + i)) ∧ S.2 9 2 = nI (sm (tcF (M 2) a b s v) (s - 7 + i)) ∧ S.2 9 3 = nI (sm (gpF (M 2) a b s v) (s - 7 + i)) ∧ ∀ p k, ¬ (p = 9 ∧ (k = 1 ∨ k = 2 ∨ k = 3)) → S.2 p k = M p k) (min 8 (s + 1) - (s - 7)) (Q := fun Z => Z 9 1 = nI (sm (ovF (M 2) a b s v) (min 8 (s + 1))) ∧ Z 9 2 = nI (sm (tcF (M 2) a b s v) (min 8 (s + 1))) ∧ Z 9 3 = nI (sm (gpF (M 2) a b s v) (min 8 (s + 1))) ∧ ∀ p k, ¬ (p = 9 ∧ (k = 1 ∨ k = 2 ∨ k = 3)) → Z p k = M p k) (by omega) (by
    rintro i hi ⟨x, Mi⟩ ⟨h1, h2, h3, h4, h5⟩
    simp only at h1 h2 h3 h4 h5
    subst h1
    obtain ⟨r, hr⟩ : ∃ r, r = s - 7 + i := ⟨_, rfl⟩
    rw [← hr] at h2 h3 h4 ⊢
    have r8 : r < 8 := by omega
    have hval : s ≤ r + 7 ∧ r + 7 - s < 8 := by omega
    have a1 : ¬ nI (min 8 (s + 1)) ≤ nI r := nI_ge (by omega) (by omega)
    have e3 : Mi 3 = M 3 := funext fun k => h5 3 k (by omega)
    have m1 := hC.mask ha r8
    have m2 := hC.mask hb hval.2
    rw [← c_mask3 e3] at m1 m2
    rw [← lk_sub s hs r r8 hval.1 hval.2] at m2
    have m3 := c_turn (m := mkN (M 2) b (r + 7 - s)) (e := v) (mk_lt _ _ _) hv
    have em : trn (mkN (M 2) b (r + 7 - s)) v = mvN (M 2) b s v r := by unfold mvN; rw [if_pos hval]
    rw [em] at m3
    have l1 := mk_lt (M 2) a r
    have l2 := mv_lt (M 2) b s v r
    have eo : sm (ovF (M 2) a b s v) (r + 1) = sm (ovF (M 2) a b s v) r + ovF (M 2) a b s v r := rfl
    have et : sm (tcF (M 2) a b s v) (r + 1) = sm (tcF (M 2) a b s v) r + tcF (M 2) a b s v r := rfl
    have eg : sm (gpF (M 2) a b s v) (r + 1) = sm (gpF (M 2) a b s v) r + gpF (M 2) a b s v r := rfl
    rw [show s - 7 + (i + 1) = r + 1 by omega]
    have skip : (mkN (M 2) a r = 0 ∨ mvN (M 2) b s v r = 0) → (Mi 9 1 = nI (sm (ovF (M 2) a b s v) (r + 1)) ∧ Mi 9 2 = nI (sm (tcF (M 2) a b s v) (r + 1)) ∧ Mi 9 3 = nI (sm (gpF (M 2) a b s v) (r + 1))) := by
      intro w
      obtain ⟨f1, f2, f3⟩ := F_0 w
      rw [eo, et, eg, f1, f2, f3]
      exact ⟨h2, h3, h4⟩
    have st := lk_step (lk_hi s hs) a1 m1 m2 m3
    rw [nI_1] at st
    by_cases q1 : mkN (M 2) a r = 0
    · obtain ⟨f1, f2, f3⟩ := skip (.inl q1)
      have z1 : nI (mkN (M 2) a r) = 0 := by rw [q1]; rfl
      refine ⟨(nI (r + 1), Mi), ?_, rfl, f1, f2, f3, h5⟩
      rw [st, if_pos z1]
    · have q1' : ¬ nI (mkN (M 2) a r) = 0 := nI_ne0 (by omega) (by omega)
      by_cases q2 : mvN (M 2) b s v r = 0
      · obtain ⟨f1, f2, f3⟩ := skip (.inr q2)
        have z2 : nI (mvN (M 2) b s v r) = 0 := by rw [q2]; rfl
        refine ⟨(nI (r + 1), Mi), ?_, rfl, f1, f2, f3, h5⟩
        rw [st, if_neg q1', if_pos z2]
      · have q2' : ¬ nI (mvN (M 2) b s v r) = 0 := nI_ne0 (by omega) (by omega)
        obtain ⟨M1, k1, k2, k3, k4, k5⟩ := c_row (h := mkN (M 2) a r) (m := mvN (M 2) b s v r) l1 l2 h2 h3 h4
        have uo : ovR (mkN (M 2) a r).testBit (mvN (M 2) b s v r).testBit = ovF (M 2) a b s v r := by unfold ovF; rfl
        have ut : tcR (mkN (M 2) a r).testBit (mvN (M 2) b s v r).testBit = tcF (M 2) a b s v r := by unfold tcF; rfl
        have ug : gpR (mkN (M 2) a r).testBit (mvN (M 2) b s v r).testBit = gpF (M 2) a b s v r := by unfold gpF; rfl
        rw [uo, ← eo] at k2
        rw [ut, ← et] at k3
        rw [ug, ← eg] at k4
        refine ⟨(nI (r + 1), M1), ?_, rfl, k2, k3, k4, fun p k hp => (k5 p k hp).trans (h5 p k hp)⟩
        rw [st, if_neg q1', if_neg q2', k1, Option.bind_some]) (by
    rintro ⟨x, Mi⟩ ⟨h1, h2, h3, h4, h5⟩
    simp only at h1 h2 h3 h4 h5
    subst h1
    rw [hN] at h2 h3 h4 ⊢
    have a1 : nI (min 8 (s + 1)) ≤ nI (min 8 (s + 1)) := Int32.le_refl _
    exact ⟨Mi, by simp only [f_X1_look_b22, lk_hi s hs, a1, if_true], h2, h3, h4, h5⟩) (s0 := (nI (s - 7), up (up (up M 9 1 0) 9 2 0) 9 3 0)) ⟨rfl, by
      rw [Nat.add_zero, sm_zero (s - 7) fun i hi => (z0 i hi).1]
      rfl, by
      rw [Nat.add_zero, sm_zero (s - 7) fun i hi => (z0 i hi).2.1]
      rfl, by
      rw [Nat.add_zero, sm_zero (s - 7) fun i hi => (z0 i hi).2.2]
      rfl, fun p k hp => by
      show up (up (up M 9 1 0) 9 2 0) 9 3 0 p k = _
      rw [up_at, if_neg (fun w => hp ⟨w.1, .inr (.inr w.2)⟩), up_at, if_neg (fun w => hp ⟨w.1, .inr (.inl w.2)⟩), up_at, if_neg (fun w => hp ⟨w.1, .inl w.2⟩)]⟩
  have w1 := sm_more (f := ovF (M 2) a b s v) (min 8 (s + 1)) (8 - min 8 (s + 1)) (fun i h1 h2 => (z8 i h1 (by omega)).1)
  have w2 := sm_more (f := tcF (M 2) a b s v) (min 8 (s + 1)) (8 - min 8 (s + 1)) (fun i h1 h2 => (z8 i h1 (by omega)).2.1)
  have w3 := sm_more (f := gpF (M 2) a b s v) (min 8 (s + 1)) (8 - min 8 (s + 1)) (fun i h1 h2 => (z8 i h1 (by omega)).2.2)
  rw [h8] at w1 w2 w3
  refine ⟨z, ?_, by rw [z1, ← w1, OVn], by rw [z2, ← w2, TCn], by rw [z3, ← w3, GPn], z4⟩
  simp only [f_X1_look, lk_lo s hs, hz, Option.bind_some]
