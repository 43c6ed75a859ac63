theorem vb_xor {a b : Nat} (ha : a < 2 ^ 32) (hb : b < 2 ^ 32) : nI a ^^^ nI b = nI (a ^^^ b) := by
  apply vb_inj
  rw [Int32.toBitVec_xor, vb_tb, vb_tb, vb_tb]
  apply BitVec.eq_of_toNat_eq
  rw [BitVec.toNat_xor, BitVec.toNat_ofNat, BitVec.toNat_ofNat, BitVec.toNat_ofNat, Nat.mod_eq_of_lt ha, Nat.mod_eq_of_lt hb, Nat.mod_eq_of_lt (Nat.xor_lt_two_pow ha hb)]
/-- the class's own keeping of the globe -/
def IvC (M : Mem) : Prop := (∀ c, c < 128 → M 2 c = -1 ∨ ∃ l, l < 6 ∧ M 2 c = nI l) ∧ (∀ l r, l < 6 → r < 8 → M 3 (8 * l + r) = nI (mkN (M 2) l r)) ∧ ∀ a b, a < b → b < 6 → M 4 (6 * a + b) = 0 ∨ M 4 (6 * a + b) = nI (dsN (M 2) a b)
theorem IvG.C {M : Mem} (h : IvG M) : IvC M := ⟨fun c hc => (h.1 c hc).2, h.2.1, h.2.2⟩
theorem IvC.G {M : Mem} (h : IvC M) (e : ∀ c, c < 128 → M 133 c = M 2 c) : IvG M := ⟨fun c hc => ⟨e c hc, h.1 c hc⟩, h.2.1, h.2.2⟩
theorem mk_clear {own : Nat → Int32} {c o r : Nat} (ho : o < 6) (hc : c < 128) (e : own c = nI o) : nI (mkN own o (c / 16)) &&& (jshl 1 (jrem (nI c) 16) ^^^ (-1)) = nI (mkN (upd own c (-1)) o (c / 16)) := by
  have e1 : jrem (nI c) 16 = nI (c % 16) := jrem_nI (d := 16) (by omega) (by decide) (by decide)
  have l1 : 2 ^ (c % 16) < 2 ^ 16 := wb_lt2 (Nat.mod_lt _ (by decide))
  have e2 : jshl 1 (nI (c % 16)) = nI (2 ^ (c % 16)) := by
    have := vb_shl (n := 1) (k := c % 16) (by omega) (by omega)
    rw [Nat.one_mul] at this
    exact this
  have e3 : (-1 : Int32) = nI (2 ^ 32 - 1) := by decide
  have l2 := mk_lt own o (c / 16)
  rw [e1, e2]
  conv => lhs; rw [e3]
  rw [vb_xor (by omega) (by decide), vb_and (by omega) (Nat.xor_lt_two_pow (by omega) (by decide))]
  congr 1
  apply Nat.eq_of_testBit_eq
  intro j
  rw [Nat.testBit_and, Nat.testBit_xor, Nat.testBit_two_pow, Nat.testBit_two_pow_sub_one, mk_bit, mk_bit]
  by_cases hj : j < 16
  · have hj2 : j < 32 := by omega
    by_cases q : c % 16 = j
    · have q2 : 16 * (c / 16) + j = c := by omega
      rw [q2, pk_us]
      have : ¬ (-1 : Int32) = nI o := fun w => nI_m1 (show o < 2 ^ 31 by omega) w.symm
      simp [q, hj2, this]
    · have q2 : 16 * (c / 16) + j ≠ c := by omega
      rw [pk_un q2]
      simp [q, hj2]
  · simp [hj]
theorem mk_set {own : Nat → Int32} {c l : Nat} (hl : l < 6) (hc : c < 128) : nI (mkN own l (c / 16)) ||| jshl 1 (jrem (nI c) 16) = nI (mkN (upd own c (nI l)) l (c / 16)) := by
  have e1 : jrem (nI c) 16 = nI (c % 16) := jrem_nI (d := 16) (by omega) (by decide) (by decide)
  have l1 : 2 ^ (c % 16) < 2 ^ 16 := wb_lt2 (Nat.mod_lt _ (by decide))
  have e2 : jshl 1 (nI (c % 16)) = nI (2 ^ (c % 16)) := by
    have := vb_shl (n := 1) (k := c % 16) (by omega) (by omega)
    rw [Nat.one_mul] at this
    exact this
  have l2 := mk_lt own l (c / 16)
  rw [e1, e2, vb_or (by omega) (by omega)]
  congr 1
  apply Nat.eq_of_testBit_eq
  intro j
  rw [Nat.testBit_or, Nat.testBit_two_pow, mk_bit, mk_bit]
  by_cases q : c % 16 = j
  · have hj : j < 16 := by omega
    have q2 : 16 * (c / 16) + j = c := by omega
    rw [q2, pk_us]
    simp [q, hj]
  · by_cases hj : j < 16
    · have q2 : 16 * (c / 16) + j ≠ c := by omega
      rw [pk_un q2]
      simp [q]
    · simp [q, hj]
/-- where the owner isn't changed to or from l, or in another row, the mask stays -/
theorem mk_keep {own : Nat → Int32} {c l r : Nat} {v : Int32} (h : r ≠ c / 16 ∨ (own c ≠ nI l ∧ v ≠ nI l)) : mkN (upd own c v) l r = mkN own l r := by
  apply Nat.eq_of_testBit_eq
  intro j
  rw [mk_bit, mk_bit]
  by_cases hj : j < 16
  · by_cases q : 16 * r + j = c
    · have hr : r = c / 16 := by omega
      rcases h with h | ⟨h1, h2⟩
      · exact absurd hr h
      · rw [q, pk_us]
        simp [h1, h2]
    · rw [pk_un q]
  · simp [hj]
theorem upd_upd (own : Nat → Int32) (c : Nat) (v w : Int32) : upd (upd own c v) c w = upd own c w := by
  funext j
  by_cases h : j = c
  · subst h; rw [pk_us, pk_us]
  · rw [pk_un h, pk_un h, pk_un h]
theorem upd_self {own : Nat → Int32} {c : Nat} {v : Int32} (h : own c = v) : upd own c v = own := by
  funext j
  by_cases hj : j = c
  · subst hj; rw [pk_us, h]
  · rw [pk_un hj]
def MK (own r3 : Nat → Int32) : Prop := ∀ l r, l < 6 → r < 8 → r3 (8 * l + r) = nI (mkN own l r)
def rX234 (p _k : Nat) : Bool := p != 2 && p != 3 && p != 4
theorem ix48 {l c : Nat} (hc : c < 128) : nI l * 8 + nI c / 16 = nI (l * 8 + c / 16) := by
  have h1 : nI l * 8 = nI (l * 8) := pk_mul l 8
  have h2 : nI c / 16 = nI (c / 16) := pk_div (d := 16) (by omega) (by decide) (by decide)
  rw [h1, h2, nI_add]
theorem c_give {M : Mem} (h : IvC M) {c : Nat} {v : Int32} (hc : c < 128) (hv : v = -1 ∨ ∃ l, l < 6 ∧ v = nI l) : ∃ M1, f_X2_give (nI c) v M = some M1 ∧ IvC M1 ∧ M1 2 = upd (M 2) c v ∧ Sm rX234 M M1 := by
  have q1 := inb_t (k := c) (n := 128) hc (by decide)
  have q2 := nI_cl (show c < 2 ^ 31 by omega)
  have s1 : ∃ M4, (if M 2 c = -1 then some M else if inb (M 2 c * 8 + nI c / 16) 48 = true then some (up M 3 (Int32.toNatClampNeg (M 2 c * 8 + nI c / 16)) (M 3 (Int32.toNatClampNeg (M 2 c * 8 + nI c / 16)) &&& (jshl 1 (jrem (nI c) 16) ^^^ (-1)))) else none) = some M4 ∧ MK (upd (M 2) c (-1)) (M4 3) ∧ M4 2 = M 2 ∧ Sm rX234 M M4 := by
    rcases h.1 c hc with h0 | ⟨o, ho, h0⟩
    · refine ⟨M, by rw [if_pos h0], ?_, rfl, Sm.rfl'⟩
      rw [upd_self h0]
      exact h.2.1
    · have p1 := inb_t (k := o * 8 + c / 16) (n := 48) (by omega) (by decide)
      have p2 := nI_cl (show o * 8 + c / 16 < 2 ^ 31 by omega)
      have h1 : ¬ M 2 c = -1 := by rw [h0]; exact nI_m1 (by omega)
      have h2 := h.2.1 o (c / 16) ho (by omega)
      rw [show 8 * o + c / 16 = o * 8 + c / 16 by omega] at h2
      refine ⟨up M 3 (o * 8 + c / 16) (nI (mkN (upd (M 2) c (-1)) o (c / 16))), ?_, ?_, ?_, Sm.rfl'.up' rfl⟩
      · rw [if_neg h1, h0, ix48 hc, if_pos p1, p2, h2, mk_clear (r := 0) ho hc h0]
      · intro l r hl hr
        rw [up_at]
        by_cases q : 8 * l + r = o * 8 + c / 16
        · have q3 : l = o := by omega
          have q4 : r = c / 16 := by omega
          subst q3 q4
          rw [if_pos ⟨rfl, q⟩]
        · rw [if_neg (fun w => q w.2), h.2.1 l r hl hr, mk_keep]
          by_cases q3 : r = c / 16
          · refine .inr ⟨fun w => q ?_, fun w => nI_m1 (show l < 2 ^ 31 by omega) w.symm⟩
            have := nI_inj (by omega) (by omega) (h0.symm.trans w)
            omega
          · exact .inl q3
      · funext k
        rw [up_at, if_neg (fun w => absurd w.1 (by decide))]
  obtain ⟨M4, e4, k4, o4, s4⟩ := s1
  have s2 : ∃ M8, (if v = -1 then some M4 else if inb (v * 8 + nI c / 16) 48 = true then some (up M4 3 (Int32.toNatClampNeg (v * 8 + nI c / 16)) (M4 3 (Int32.toNatClampNeg (v * 8 + nI c / 16)) ||| jshl 1 (jrem (nI c) 16))) else none) = some M8 ∧ MK (upd (M 2) c v) (M8 3) ∧ M8 2 = M 2 ∧ Sm rX234 M M8 := by
    rcases hv with rfl | ⟨l, hl, rfl⟩
    · exact ⟨M4, by rw [if_pos rfl], k4, o4, s4⟩
    · have p1 := inb_t (k := l * 8 + c / 16) (n := 48) (by omega) (by decide)
      have p2 := nI_cl (show l * 8 + c / 16 < 2 ^ 31 by omega)
      have h2 := k4 l (c / 16) hl (by omega)
      rw [show 8 * l + c / 16 = l * 8 + c / 16 by omega] at h2
      refine ⟨up M4 3 (l * 8 + c / 16) (nI (mkN (upd (M 2) c (nI l)) l (c / 16))), ?_, ?_, ?_, s4.up' rfl⟩
      · rw [if_neg (nI_m1 (by omega)), ix48 hc, if_pos p1, p2, h2, mk_set hl hc, upd_upd]
      · intro l2 r hl2 hr
        rw [up_at]
        by_cases q : 8 * l2 + r = l * 8 + c / 16
        · have q3 : l2 = l := by omega
          have q4 : r = c / 16 := by omega
          subst q3 q4
          rw [if_pos ⟨rfl, q⟩]
        · rw [if_neg (fun w => q w.2), k4 l2 r hl2 hr, ← upd_upd (M 2) c (-1) (nI l), mk_keep (own := upd (M 2) c (-1))]
          by_cases q3 : r = c / 16
          · refine .inr ⟨?_, fun w => q ?_⟩
            · rw [pk_us]
              exact fun w => nI_m1 (show l2 < 2 ^ 31 by omega) w.symm
            · have := nI_inj (by omega) (by omega) w
              omega
          · exact .inl q3
      · funext k
        rw [up_at, if_neg (fun w => absurd w.1 (by decide)), o4]
  obtain ⟨M8, e8, k8, o8, s8⟩ := s2
  have e2 : fil (up M8 2 c v) 4 36 0 2 = upd (M 2) c v := by
    funext k
    rw [fil_at, if_neg (fun w => absurd w.1 (by decide)), up_at, o8]
    by_cases q : k = c
    · subst q; rw [if_pos ⟨rfl, rfl⟩, pk_us]
    · rw [if_neg (fun w => q w.2), pk_un q]
  refine ⟨fil (up M8 2 c v) 4 36 0, ?_, ⟨fun d hd => ?_, fun l r hl hr => ?_, fun a b hab hb => ?_⟩, e2, fun p k hp => ?_⟩
  · simp only [f_X2_give, q1, if_true, q2]
    rw [e4, Option.bind_some, e8, Option.bind_some]
  · rw [e2]
    by_cases q : d = c
    · subst q; rw [pk_us]; exact hv
    · rw [pk_un q]; exact h.1 d hd
  · rw [e2, fil_at, if_neg (fun w => absurd w.1 (by decide)), up_at, if_neg (fun w => absurd w.1 (by decide))]
    exact k8 l r hl hr
  · refine .inl ?_
    rw [fil_at, if_pos ⟨rfl, by omega⟩]
  · rw [← s8 p k hp, fil_at, up_at]
    simp only [rX234, Bool.and_eq_true, bne_iff_ne, ne_eq] at hp
    rw [if_neg (fun w => hp.2 w.1), if_neg (fun w => hp.1.1 w.1)]
