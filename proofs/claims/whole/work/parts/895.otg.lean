theorem sm_128 (f : Nat → Nat) : sm f 128 = sm (fun r => sm (fun c => f (16 * r + c)) 16) 8 := sm_rows f 8
theorem lie3 : ∀ x y : Bool, (if nI (bN x + 2 * bN y) = 3 then some true else some false) = some (x && y) := by decide
theorem lie1 : ∀ x y : Bool, (nI (bN x + 2 * bN y) &&& 1 = 1) ↔ x = true := by decide
theorem lies : ∀ x y : Bool, jshr (nI (bN x + 2 * bN y)) 1 = nI (bN y) := by decide
theorem lie0 : ∀ x y : Bool, (nI (bN x + 2 * bN y) = 0) ↔ (x || y) = false := by decide
def hbt (own : Nat → Int32) (a c : Nat) : Bool := (mkN own a (c / 16)).testBit (c % 16)
def mbt (own : Nat → Int32) (b s v c : Nat) : Bool := (mvN own b s v (c / 16)).testBit (c % 16)
theorem m_ov {M : Mem} {own : Nat → Int32} {a b s v : Nat} (h : LPn M own a b s v) : f_X12_overlap M = some (nI (OVn own a b s v)) := by
  have hit := it_N (b := f_X12_overlap_b4 M) (r := nI (sm (fun c => bN (hbt own a c && mbt own b s v c)) 128)) (fun k => (nI (sm (fun c => bN (hbt own a c && mbt own b s v c)) k), nI k)) 128 (by decide) (by
    intro k hk
    have a1 : ¬ (128 : Int32) ≤ nI k := nI_ge (b := 128) hk (by decide)
    have q1 := inb_t (k := k) (n := 128) hk (by decide)
    have q2 := nI_cl (show k < 2 ^ 31 by omega)
    simp only [f_X12_overlap_b4, a1, if_false, q1, if_true, q2, h k hk, lie3, Option.bind_some, bI_N, nI_add, nI_1]
    rfl) (by
    have a1 : (128 : Int32) ≤ nI 128 := by decide
    simp only [f_X12_overlap_b4, a1, if_true]) (s0 := (0, 0)) rfl
  have e : sm (fun c => bN (hbt own a c && mbt own b s v c)) 128 = OVn own a b s v := by
    rw [sm_128]
    refine sm_congr 8 fun r hr => sm_congr 16 fun c hc => ?_
    unfold hbt mbt
    rw [show (16 * r + c) / 16 = r by omega, show (16 * r + c) % 16 = c by omega]
  rw [e] at hit
  simp only [f_X12_overlap, hit, Option.bind_some]
theorem m_eastm : ∀ c, c < 128 → f_X12_east (nI c) (-1) = some (nI (c / 16 * 16 + (c % 16 + 15) % 16)) := by decide +kernel
def tcc (own : Nat → Int32) (a b s v c : Nat) : Nat := bN (hbt own a c && (mvN own b s v (c / 16)).testBit ((c % 16 + 15) % 16)) + bN (hbt own a c && (mvN own b s v (c / 16)).testBit ((c % 16 + 1) % 16))
theorem m_tc {M : Mem} {own : Nat → Int32} {a b s v : Nat} (h : LPn M own a b s v) : f_X12_touch M = some (nI (TCn own a b s v)) := by
  have hit := it_N (b := f_X12_touch_b4 M) (r := nI (sm (tcc own a b s v) 128)) (fun k => (nI (sm (tcc own a b s v) k), nI k)) 128 (by decide) (by
    intro k hk
    have a1 : ¬ (128 : Int32) ≤ nI k := nI_ge (b := 128) hk (by decide)
    have q1 := inb_t (k := k) (n := 128) hk (by decide)
    have q2 := nI_cl (show k < 2 ^ 31 by omega)
    have east1 : f_X12_east (nI k) 1 = some (nI (k / 16 * 16 + (k % 16 + 1) % 16)) := m_east (u := 1) hk (by decide)
    have l1 : k / 16 * 16 + (k % 16 + 1) % 16 < 128 := by omega
    have l2 : k / 16 * 16 + (k % 16 + 15) % 16 < 128 := by omega
    have p1 := inb_t (k := k / 16 * 16 + (k % 16 + 1) % 16) (n := 128) l1 (by decide)
    have p2 := nI_cl (show k / 16 * 16 + (k % 16 + 1) % 16 < 2 ^ 31 by omega)
    have p3 := inb_t (k := k / 16 * 16 + (k % 16 + 15) % 16) (n := 128) l2 (by decide)
    have p4 := nI_cl (show k / 16 * 16 + (k % 16 + 15) % 16 < 2 ^ 31 by omega)
    have g1 := h _ l1
    have g2 := h _ l2
    rw [show (k / 16 * 16 + (k % 16 + 1) % 16) / 16 = k / 16 by omega, show (k / 16 * 16 + (k % 16 + 1) % 16) % 16 = (k % 16 + 1) % 16 by omega] at g1
    rw [show (k / 16 * 16 + (k % 16 + 15) % 16) / 16 = k / 16 by omega, show (k / 16 * 16 + (k % 16 + 15) % 16) % 16 = (k % 16 + 15) % 16 by omega] at g2
    have e : sm (tcc own a b s v) (k + 1) = sm (tcc own a b s v) k + tcc own a b s v k := rfl
    simp only [f_X12_touch_b4, a1, if_false, q1, if_true, q2, h k hk, lie1, east1, m_eastm k hk, Option.bind_some, p1, p2, p3, p4, g1, g2, lies, nI_add, nI_1, e]
    unfold tcc hbt
    by_cases w : (mkN own a (k / 16)).testBit (k % 16) = true
    · rw [if_pos w, w, Bool.true_and, Bool.true_and, Nat.add_comm (bN ((mvN own b s v (k / 16)).testBit ((k % 16 + 1) % 16)))]
      rfl
    · have w2 : (mkN own a (k / 16)).testBit (k % 16) = false := by simpa using w
      rw [if_neg w, w2, Bool.false_and, Bool.false_and]
      rfl) (by
    have a1 : (128 : Int32) ≤ nI 128 := by decide
    simp only [f_X12_touch_b4, a1, if_true]) (s0 := (0, 0)) rfl
  have e : sm (tcc own a b s v) 128 = TCn own a b s v := by
    rw [sm_128]
    refine sm_congr 8 fun r hr => sm_congr 16 fun c hc => ?_
    unfold tcc hbt
    rw [show (16 * r + c) / 16 = r by omega, show (16 * r + c) % 16 = c by omega]
  rw [e] at hit
  simp only [f_X12_touch, hit, Option.bind_some]
/-! the gap behind a cell -/
def gpB (h0 b0 h1 b1 h2 b2 h3 b3 h4 b4 : Bool) : Nat := bN ((true && !(h1 || b1)) && (h0 && b2 || b0 && h2)) + 2 * bN (((true && !(h1 || b1)) && !(h2 || b2)) && (h0 && b3 || b0 && h3)) + 3 * bN ((((true && !(h1 || b1)) && !(h2 || b2)) && !(h3 || b3)) && (h0 && b4 || b0 && h4))
theorem gpC_B (H B : Nat → Bool) (c : Nat) : gpC H B c = gpB (H c) (B c) (H ((c + 1) % 16)) (B ((c + 1) % 16)) (H ((c + 2) % 16)) (B ((c + 2) % 16)) (H ((c + 3) % 16)) (B ((c + 3) % 16)) (H ((c + 4) % 16)) (B ((c + 4) % 16)) := rfl
def gpV (n : Nat) (h0 b0 he be : Bool) : Nat := if (h0 && be || b0 && he) = true then n else 0
theorem gpB_0 : ∀ h0 b0 h1 b1 h2 b2 h3 b3 h4 b4 : Bool, (h1 || b1) = true → gpB h0 b0 h1 b1 h2 b2 h3 b3 h4 b4 = gpV 0 h0 b0 h1 b1 := by decide +kernel
theorem gpB_1 : ∀ h0 b0 h1 b1 h2 b2 h3 b3 h4 b4 : Bool, (h1 || b1) = false → (h2 || b2) = true → gpB h0 b0 h1 b1 h2 b2 h3 b3 h4 b4 = gpV 1 h0 b0 h2 b2 := by decide +kernel
theorem gpB_2 : ∀ h0 b0 h1 b1 h2 b2 h3 b3 h4 b4 : Bool, (h1 || b1) = false → (h2 || b2) = false → (h3 || b3) = true → gpB h0 b0 h1 b1 h2 b2 h3 b3 h4 b4 = gpV 2 h0 b0 h3 b3 := by decide +kernel
theorem gpB_3 : ∀ h0 b0 h1 b1 h2 b2 h3 b3 h4 b4 : Bool, (h1 || b1) = false → (h2 || b2) = false → (h3 || b3) = false → (h4 || b4) = true → gpB h0 b0 h1 b1 h2 b2 h3 b3 h4 b4 = gpV 3 h0 b0 h4 b4 := by decide +kernel
theorem gpB_4 : ∀ h0 b0 h1 b1 h2 b2 h3 b3 h4 b4 : Bool, (h1 || b1) = false → (h2 || b2) = false → (h3 || b3) = false → (h4 || b4) = false → gpB h0 b0 h1 b1 h2 b2 h3 b3 h4 b4 = 0 := by decide +kernel
theorem gpB_z : ∀ h0 b0 h1 b1 h2 b2 h3 b3 h4 b4 : Bool, (h0 || b0) = false → gpB h0 b0 h1 b1 h2 b2 h3 b3 h4 b4 = 0 := by decide +kernel
/-- what gapBehind makes of its three numbers -/
def gbE (x11 l0 x18 : Int32) : Option Int32 :=
    Option.bind (
      if (l0 &&& 1) = 1 then
        if 1 < x18 then
          some true
        else
          if l0 ≤ 1 then
            some false
          else
            if (x18 &&& 1) = 1 then
              some true
            else
              some false
      else
        if l0 ≤ 1 then
          some false
        else
          if (x18 &&& 1) = 1 then
            some true
          else
            some false
    ) fun (x22 : Bool) =>
    Option.bind (
      if x22 = true then
        if x11 ≤ 0 then
          some 0
        else
          if 4 ≤ x11 then
            some 0
          else
            some x11
      else
        some 0
    ) fun (x23 : Int32) =>
    some x23
theorem gbE_V : ∀ n, n < 4 → ∀ h0 b0 he be : Bool, gbE (nI n) (nI (bN h0 + 2 * bN b0)) (nI (bN he + 2 * bN be)) = some (nI (gpV n h0 b0 he be)) := by decide +kernel
theorem gbE_4 : ∀ h0 b0 : Bool, gbE (nI 4) (nI (bN h0 + 2 * bN b0)) 0 = some 0 := by decide +kernel
theorem m_gapB {M : Mem} {own : Nat → Int32} {a b s v : Nat} (h : LPn M own a b s v) {c : Nat} (hc : c < 128) : f_X12_gapBehind (nI c) M = some (nI (gpC (mkN own a (c / 16)).testBit (mvN own b s v (c / 16)).testBit (c % 16))) := by
  have at_ : ∀ k, k < 16 → M 137 (c / 16 * 16 + (c % 16 + k) % 16) = nI (bN ((mkN own a (c / 16)).testBit ((c % 16 + k) % 16)) + 2 * bN ((mvN own b s v (c / 16)).testBit ((c % 16 + k) % 16))) := by
    intro k hk
    have g1 := h (c / 16 * 16 + (c % 16 + k) % 16) (by omega)
    rw [show (c / 16 * 16 + (c % 16 + k) % 16) / 16 = c / 16 by omega, show (c / 16 * 16 + (c % 16 + k) % 16) % 16 = (c % 16 + k) % 16 by omega] at g1
    exact g1
  have a0 := h c hc
  have i0 := inb_t (k := c) (n := 128) hc (by decide)
  have i1 := nI_cl (show c < 2 ^ 31 by omega)
  rw [gpC_B]
  revert a0 at_
  generalize (mkN own a (c / 16)).testBit = H
  generalize (mvN own b s v (c / 16)).testBit = B
  intro at_ a0
  have ix : ∀ k, inb (nI (c / 16 * 16 + (c % 16 + k) % 16)) 128 = true := fun k => inb_t (by omega) (by decide)
  have cl : ∀ k, (nI (c / 16 * 16 + (c % 16 + k) % 16)).toNatClampNeg = c / 16 * 16 + (c % 16 + k) % 16 := fun k => nI_cl (by omega)
  have stp1 : ∀ i, i < 4 → (H ((c % 16 + (i + 1)) % 16) || B ((c % 16 + (i + 1)) % 16)) = false → f_X12_gapBehind_b2 (nI c) M (nI i) = some (.inl (nI (i + 1))) := by
    intro i hi hf
    have b1 : ¬ (4 : Int32) ≤ nI i := nI_ge (b := 4) hi (by decide)
    have z := (lie0 _ _).mpr hf
    simp only [f_X12_gapBehind_b2, b1, if_false, nI_1, m_east hc (show i + 1 < 16 by omega), Option.bind_some, ix, if_true, cl, at_ (i + 1) (by omega), z]
  have run : ∀ N, N < 4 → (∀ i, i < N → (H ((c % 16 + (i + 1)) % 16) || B ((c % 16 + (i + 1)) % 16)) = false) → (H ((c % 16 + (N + 1)) % 16) || B ((c % 16 + (N + 1)) % 16)) = true → f_X12_gapBehind (nI c) M = some (nI (gpV N (H (c % 16)) (B (c % 16)) (H ((c % 16 + (N + 1)) % 16)) (B ((c % 16 + (N + 1)) % 16)))) := by
    intro N hN h1 h2
    have b1 : ¬ (4 : Int32) ≤ nI N := nI_ge (b := 4) hN (by decide)
    have z : ¬ nI (bN (H ((c % 16 + (N + 1)) % 16)) + 2 * bN (B ((c % 16 + (N + 1)) % 16))) = 0 := fun w => by
      rw [(lie0 _ _).mp w] at h2
      cases h2
    have hit := it_N (b := f_X12_gapBehind_b2 (nI c) M) (r := nI N) (fun i => nI i) N (by omega) (fun i hi => stp1 i (by omega) (h1 i hi)) (by
      simp only [f_X12_gapBehind_b2, b1, if_false, nI_1, m_east hc (show N + 1 < 16 by omega), Option.bind_some, ix, if_true, cl, at_ (N + 1) (by omega), z]) (s0 := 0) rfl
    have e := gbE_V N hN (H (c % 16)) (B (c % 16)) (H ((c % 16 + (N + 1)) % 16)) (B ((c % 16 + (N + 1)) % 16))
    unfold gbE at e
    simp only [f_X12_gapBehind, hit, Option.bind_some, b1, if_false, nI_1, m_east hc (show N + 1 < 16 by omega), ix, if_true, cl, at_ (N + 1) (by omega), i0, i1, a0]
    simp only [b1, if_false] at e
    exact e
  by_cases q1 : (H ((c % 16 + 1) % 16) || B ((c % 16 + 1) % 16)) = true
  · rw [gpB_0 _ _ _ _ _ _ _ _ _ _ q1]
    exact run 0 (by decide) (fun i hi => absurd hi (Nat.not_lt_zero i)) q1
  have f1 : (H ((c % 16 + 1) % 16) || B ((c % 16 + 1) % 16)) = false := by simpa using q1
  by_cases q2 : (H ((c % 16 + 2) % 16) || B ((c % 16 + 2) % 16)) = true
  · rw [gpB_1 _ _ _ _ _ _ _ _ _ _ f1 q2]
    exact run 1 (by decide) (fun i hi => by have : i = 0 := by omega
                                            subst this; exact f1) q2
  have f2 : (H ((c % 16 + 2) % 16) || B ((c % 16 + 2) % 16)) = false := by simpa using q2
  by_cases q3 : (H ((c % 16 + 3) % 16) || B ((c % 16 + 3) % 16)) = true
  · rw [gpB_2 _ _ _ _ _ _ _ _ _ _ f1 f2 q3]
    refine run 2 (by decide) (fun i hi => ?_) q3
    rcases (show i = 0 ∨ i = 1 by omega) with rfl | rfl
    · exact f1
    · exact f2
  have f3 : (H ((c % 16 + 3) % 16) || B ((c % 16 + 3) % 16)) = false := by simpa using q3
  by_cases q4 : (H ((c % 16 + 4) % 16) || B ((c % 16 + 4) % 16)) = true
  · rw [gpB_3 _ _ _ _ _ _ _ _ _ _ f1 f2 f3 q4]
    refine run 3 (by decide) (fun i hi => ?_) q4
    rcases (show i = 0 ∨ i = 1 ∨ i = 2 by omega) with rfl | rfl | rfl
    · exact f1
    · exact f2
    · exact f3
  have f4 : (H ((c % 16 + 4) % 16) || B ((c % 16 + 4) % 16)) = false := by simpa using q4
  rw [gpB_4 _ _ _ _ _ _ _ _ _ _ f1 f2 f3 f4]
  have b1 : (4 : Int32) ≤ nI 4 := by decide
  have hit := it_N (b := f_X12_gapBehind_b2 (nI c) M) (r := nI 4) (fun i => nI i) 4 (by omega) (fun i hi => stp1 i hi (by
    rcases (show i = 0 ∨ i = 1 ∨ i = 2 ∨ i = 3 by omega) with rfl | rfl | rfl | rfl
    · exact f1
    · exact f2
    · exact f3
    · exact f4)) (by
    simp only [f_X12_gapBehind_b2, b1, if_true]) (s0 := 0) rfl
  have e := gbE_4 (H (c % 16)) (B (c % 16))
  unfold gbE at e
  simp only [f_X12_gapBehind, hit, Option.bind_some, b1, if_true, i0, i1, a0]
  exact e
def gpc (own : Nat → Int32) (a b s v c : Nat) : Nat := gpC (mkN own a (c / 16)).testBit (mvN own b s v (c / 16)).testBit (c % 16)
theorem m_gp {M : Mem} {own : Nat → Int32} {a b s v : Nat} (h : LPn M own a b s v) : f_X12_gap M = some (nI (GPn own a b s v)) := by
  have hit := it_N (b := f_X12_gap_b4 M) (r := nI (sm (gpc own a b s v) 128)) (fun k => (nI (sm (gpc own a b s v) k), nI k)) 128 (by decide) (by
    intro k hk
    have a1 : ¬ (128 : Int32) ≤ nI k := nI_ge (b := 128) hk (by decide)
    have q1 := inb_t (k := k) (n := 128) hk (by decide)
    have q2 := nI_cl (show k < 2 ^ 31 by omega)
    have e : sm (gpc own a b s v) (k + 1) = sm (gpc own a b s v) k + gpc own a b s v k := rfl
    have hg := m_gapB h hk
    have h0 := h k hk
    by_cases w : nI (bN ((mkN own a (k / 16)).testBit (k % 16)) + 2 * bN ((mvN own b s v (k / 16)).testBit (k % 16))) = 0
    · have z : gpc own a b s v k = 0 := by
        unfold gpc
        rw [gpC_B, gpB_z _ _ _ _ _ _ _ _ _ _ ((lie0 _ _).mp w)]
      simp only [f_X12_gap_b4, a1, if_false, q1, if_true, q2, h0, w, Option.bind_some, nI_1, e, z]
      rw [show nI (sm (gpc own a b s v) k) + 0 = nI (sm (gpc own a b s v) k + 0) from nI_add _ 0]
    · simp only [f_X12_gap_b4, a1, if_false, q1, if_true, q2, h0, w, hg, Option.bind_some, nI_1, nI_add, e]
      rfl) (by
    have a1 : (128 : Int32) ≤ nI 128 := by decide
    simp only [f_X12_gap_b4, a1, if_true]) (s0 := (0, 0)) rfl
  have e : sm (gpc own a b s v) 128 = GPn own a b s v := by
    rw [sm_128]
    refine sm_congr 8 fun r hr => sm_congr 16 fun c hc => ?_
    unfold gpc
    rw [show (16 * r + c) / 16 = r by omega, show (16 * r + c) % 16 = c by omega]
  rw [e] at hit
  simp only [f_X12_gap, hit, Option.bind_some]
