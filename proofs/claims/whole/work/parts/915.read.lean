/-! the same letters, read by the class -/
def opC (M : Mem) (Q i : Nat) : Bool := decide (¬ M (Q + 5) i = 0)
theorem ev_congr {opn fac opn' fac' : Nat → Bool} : ∀ m, (∀ i, i < m → opn' i = opn i ∧ fac' i = fac i) → evC opn' fac' m = evC opn fac m
  | 0, _ => rfl
  | m + 1, h => by
    have ih := ev_congr m fun i hi => h i (by omega)
    obtain ⟨h1, h2⟩ := h m (by omega)
    simp only [evC, ih, h1, h2]
def semC (M : Mem) (Q m : Nat) (hO hA : Bool) (O A : CdT) : Prop := (hA = false → A = ttC) ∧ (hO = false → O = ffC) ∧ (m = 0 → hO = false ∧ hA = false) ∧ (∀ j, j < m → ∃ b, M (Q + 4) j = bI b) ∧ ∀ d e k, (hA = true → evC (opC M Q) (fcC M Q d e k) m = if O d e k = true then (true, true) else (false, A d e k)) ∧ (hA = false → 0 < m → ((evC (opC M Q) (fcC M Q d e k) m).1 || (evC (opC M Q) (fcC M Q d e k) m).2) = O d e k ∧ ((evC (opC M Q) (fcC M Q d e k) m).1 = true → (evC (opC M Q) (fcC M Q d e k) m).2 = true))
theorem semC_keep {M M1 : Mem} {Q m : Nat} {hO hA : Bool} {O A : CdT} (h : semC M Q m hO hA O A) (s : ∀ r, 1 ≤ r → r ≤ 5 → ∀ j, j < m → M1 (Q + r) j = M (Q + r) j) : semC M1 Q m hO hA O A := by
  obtain ⟨h1, h2, h3, h5, h4⟩ := h
  refine ⟨h1, h2, h3, fun j hj => by rw [s 4 (by decide) (by decide) j hj]; exact h5 j hj, fun d e k => ?_⟩
  have e1 : evC (opC M1 Q) (fcC M1 Q d e k) m = evC (opC M Q) (fcC M Q d e k) m := ev_congr m fun i hi => by
    constructor
    · unfold opC
      rw [s 5 (by decide) (by decide) i hi]
    · unfold fcC
      rw [s 1 (by decide) (by decide) i hi, s 2 (by decide) (by decide) i hi, s 3 (by decide) (by decide) i hi, s 4 (by decide) (by decide) i hi]
  rw [e1]
  exact h4 d e k
theorem ev_step {opn fac : Nat → Bool} {m : Nat} {hA o a f : Bool} (e1 : opn m = !hA) (e2 : fac m = f) (h1 : hA = true → evC opn fac m = if o = true then (true, true) else (false, a)) (h2 : hA = false → a = true) (h3 : m = 0 → hA = false ∧ o = false) (h4 : hA = false → 0 < m → ((evC opn fac m).1 || (evC opn fac m).2) = o ∧ ((evC opn fac m).1 = true → (evC opn fac m).2 = true)) : evC opn fac (m + 1) = if o = true then (true, true) else (false, a && f) := by
  have e : evC opn fac (m + 1) = if (evC opn fac m).1 = true then evC opn fac m else if opn m = true then (if (decide (0 < m) && (evC opn fac m).2) = true then (true, true) else (false, fac m)) else (false, (evC opn fac m).2 && fac m) := rfl
  rw [e, e1, e2]
  cases hA with
  | true =>
    rw [h1 rfl]
    cases o <;> simp
  | false =>
    rw [h2 rfl]
    by_cases q : m = 0
    · subst q
      rw [(h3 rfl).2]
      show (if false = true then _ else if true = true then (if (decide (0 < 0) && true) = true then (true, true) else (false, f)) else _) = _
      simp
    · obtain ⟨g1, g2⟩ := h4 rfl (by omega)
      have hm : decide (0 < m) = true := decide_eq_true (by omega)
      rw [hm]
      revert g1 g2
      generalize evC opn fac m = p
      obtain ⟨p1, p2⟩ := p
      intro g1 g2
      simp only at g1 g2
      cases p1
      · cases p2
        · simp at g1
          subst g1
          simp
        · simp at g1
          subst g1
          simp
      · have := g2 rfl
        subst this
        simp at g1
        subst g1
        simp
def lcN (l : Nat) : Nat := if l = 0 then 100 else if l = 1 then 101 else 107
theorem lc_a : ∀ l, l < 3 → ((nI (lcN l) = 100 ↔ l = 0) ∧ (nI (lcN l) = 101 ↔ l = 1)) := by decide +kernel
theorem sg_a : ∀ g, g < 3 → ((nI (60 + g) = 60 ↔ g = 0) ∧ (nI (60 + g) = 61 ↔ g = 1)) := by decide +kernel
theorem fc_F {M : Mem} {Q m l g v neg : Nat} (hl : l < 3) (hg : g < 3) (e1 : M (Q + 1) m = nI (lcN l)) (e2 : M (Q + 2) m = nI (60 + g)) (e3 : M (Q + 3) m = nI v) (e4 : M (Q + 4) m = bI (odN neg)) (d e k : Int32) : fcC M Q d e k m = facF neg l g v d e k := by
  obtain ⟨h1, h2⟩ := lc_a l hl
  obtain ⟨h3, h4⟩ := sg_a g hg
  unfold fcC facF rawF
  rw [e1, e2, e3, e4, bI_dec]
  simp only [h1, h2, h3, h4]
theorem sem_next {M : Mem} {Q m l g v neg : Nat} {hO hA : Bool} {O A : CdT} (h : semC M Q m hO hA O A) (hl : l < 3) (hg : g < 3) (e1 : M (Q + 1) m = nI (lcN l)) (e2 : M (Q + 2) m = nI (60 + g)) (e3 : M (Q + 3) m = nI v) (e4 : M (Q + 4) m = bI (odN neg)) (e5 : M (Q + 5) m = bI (!hA)) (d e k : Int32) : evC (opC M Q) (fcC M Q d e k) (m + 1) = if O d e k = true then (true, true) else (false, A d e k && facF neg l g v d e k) := by
  obtain ⟨h1, h2, h3, -, h4⟩ := h
  obtain ⟨h5, h6⟩ := h4 d e k
  refine ev_step (hA := hA) ?_ (fc_F hl hg e1 e2 e3 e4 d e k) h5 (fun y => by rw [h1 y]; rfl) (fun y => ⟨(h3 y).2, by rw [h2 (h3 y).1]; rfl⟩) h6
  unfold opC
  rw [e5, bI_dec]
def fCn : Nat → Nat
  | 8 => 1
  | 9 => 1
  | _ => 0
def RelC : AVt → Nat → Nat → Mem → Prop
  | (st, (way, num), m, neg, (hO, hA), (l, g, v), (O, A)), i, Q, M => (1 ≤ st → M Q 0 = nI way) ∧ M Q 1 = nI num ∧ (st < 3 → num = 0) ∧ M Q 2 = nI (m + fCn st) ∧ (st = 5 → M Q 3 = bI (odN neg) ∧ M Q 4 = bI (!hA)) ∧ (6 ≤ st → l < 3 ∧ M (Q + 1) m = nI (lcN l) ∧ M (Q + 4) m = bI (odN neg) ∧ M (Q + 5) m = bI (!hA)) ∧ (7 ≤ st → g < 3 ∧ M (Q + 2) m = nI (60 + g)) ∧ (8 ≤ st → M (Q + 3) m = nI v) ∧ (st < 5 → m = 0 ∧ neg = 0 ∧ hO = false ∧ hA = false ∧ st ≤ i) ∧ (5 ≤ st → 4 * m + st ≤ i + 1) ∧ semC M Q m hO hA O A
def KcL (Q : Nat) (M M1 : Mem) : Prop := ∀ p k, (p < Q ∨ Q + 5 < p) → M1 p k = M p k
theorem KcL.rf {Q : Nat} {M : Mem} : KcL Q M M := fun _ _ _ => rfl
theorem KcL.u1 {Q r j : Nat} {M M1 : Mem} {v : Int32} (h : KcL Q M M1) (hr : r ≤ 5) : KcL Q M (up M1 (Q + r) j v) := fun p k hp => by
  rw [up_at, if_neg (fun w => by omega)]
  exact h p k hp
theorem KcL.u0 {Q j : Nat} {M M1 : Mem} {v : Int32} (h : KcL Q M M1) : KcL Q M (up M1 Q j v) := h.u1 (r := 0) (by decide)
theorem KcL.tr {Q : Nat} {M M1 M2 : Mem} (h : KcL Q M M1) (g : KcL Q M1 M2) : KcL Q M M2 := fun p k hp => (g p k hp).trans (h p k hp)
theorem c_ix0 : ∀ c, c < 127 → (c = 74 ∨ c = 66 ∨ c = 83 ∨ c = 67) → f_J0_indexOf_0f7a4 0 (ji2c (nI c)) = some (nI (wyN c)) := by decide +kernel
theorem lc_lt : ∀ c, c < 127 → (c = 100 ∨ c = 101 ∨ c = 107) → lcN (ltN c) = c := by decide +kernel
theorem bI_a1 : ∀ b : Bool, bI b &&& 1 = bI b := by decide
def GcR (s : AVt) (c i Q : Nat) (M : Mem) : Prop := nxN s.1 c ≠ 10 → ∃ M', f_X4_take Q (nI (nxN s.1 c)) (nI c) M = some M' ∧ RelC (aS s c) (i + 1) Q M' ∧ KcL Q M M'
theorem c_go0 {way num m neg i c l g v Q : Nat} {hO hA : Bool} {O A : CdT} {M : Mem} (h : RelC (0, (way, num), m, neg, (hO, hA), (l, g, v), (O, A)) i Q M) (hc : c < 127) (hi : i < 50) : GcR (0, (way, num), m, neg, (hO, hA), (l, g, v), (O, A)) c i Q M := by
  obtain ⟨s0, s1, s1', s2, s5, s6, s7, s8, s9, s10, sm⟩ := h
  have nx : nxN 0 c = if c = 74 ∨ c = 66 ∨ c = 83 ∨ c = 67 then 1 else 10 := rfl
  intro hne
  have hne' : nxN 0 c ≠ 10 := hne
  have w : c = 74 ∨ c = 66 ∨ c = 83 ∨ c = 67 := Decidable.of_not_not fun w => hne' (by rw [nx, if_neg w])
  rw [if_pos w] at nx
  obtain ⟨z1, z2, z3, z4, z5⟩ := s9 (by decide)
  refine ⟨up M Q 0 (nI (wyN c)), ?_, ?_, KcL.rf.u0⟩
  · show f_X4_take Q (nI (nxN 0 c)) (nI c) M = _
    rw [nx]
    unfold f_X4_take
    rw [if_pos (show nI 1 = 1 from rfl), c_ix0 c hc w]
    rfl
  · show RelC (nxN 0 c, (wyN c, num), m, neg, (hO, hA), (l, g, v), (O, A)) (i + 1) Q _
    rw [nx]
    exact ⟨fun _ => by simp [up_at], by simp [up_at, s1], fun _ => s1' (by decide), by simp [up_at]; exact s2, fun y => absurd y (by decide), fun y => absurd y (by decide), fun y => absurd y (by decide), fun y => absurd y (by decide), fun _ => ⟨z1, z2, z3, z4, by omega⟩, fun y => absurd y (by decide), semC_keep sm fun r h1 h2 j hj => by rw [up_at, if_neg (fun y => by omega)]⟩
theorem c_go1 {way num m neg i c l g v Q : Nat} {hO hA : Bool} {O A : CdT} {M : Mem} (h : RelC (1, (way, num), m, neg, (hO, hA), (l, g, v), (O, A)) i Q M) (hc : c < 127) (hi : i < 50) : GcR (1, (way, num), m, neg, (hO, hA), (l, g, v), (O, A)) c i Q M := by
  obtain ⟨s0, s1, s1', s2, s5, s6, s7, s8, s9, s10, sm⟩ := h
  have nx : nxN 1 c = if c = 58 then 2 else 10 := rfl
  intro hne
  have hne' : nxN 1 c ≠ 10 := hne
  have w : c = 58 := Decidable.of_not_not fun w => hne' (by rw [nx, if_neg w])
  rw [if_pos w] at nx
  obtain ⟨z1, z2, z3, z4, z5⟩ := s9 (by decide)
  refine ⟨M, ?_, ?_, KcL.rf⟩
  · show f_X4_take Q (nI (nxN 1 c)) (nI c) M = _
    rw [nx]
    unfold f_X4_take
    rw [if_neg (show ¬ nI 2 = 1 by decide), if_pos (show nI 2 = 2 from rfl)]
    rfl
  · show RelC (nxN 1 c, (way, num), m, neg, (hO, hA), (l, g, v), (O, A)) (i + 1) Q _
    rw [nx]
    exact ⟨fun _ => s0 (by decide), s1, fun _ => s1' (by decide), s2, fun y => absurd y (by decide), fun y => absurd y (by decide), fun y => absurd y (by decide), fun y => absurd y (by decide), fun _ => ⟨z1, z2, z3, z4, by omega⟩, fun y => absurd y (by decide), sm⟩
theorem c_go2 {way num m neg i c l g v Q : Nat} {hO hA : Bool} {O A : CdT} {M : Mem} (h : RelC (2, (way, num), m, neg, (hO, hA), (l, g, v), (O, A)) i Q M) (hc : c < 127) (hi : i < 50) : GcR (2, (way, num), m, neg, (hO, hA), (l, g, v), (O, A)) c i Q M := by
  obtain ⟨s0, s1, s1', s2, s5, s6, s7, s8, s9, s10, sm⟩ := h
  have nx : nxN 2 c = if dgB c = true then 3 else 10 := rfl
  intro hne
  have hne' : nxN 2 c ≠ 10 := hne
  have w : dgB c = true := Decidable.of_not_not fun w => hne' (by rw [nx, if_neg w])
  rw [if_pos w] at nx
  have hd := dg_of w
  obtain ⟨z1, z2, z3, z4, z5⟩ := s9 (by decide)
  have n0 := s1' (by decide)
  subst n0
  refine ⟨up M Q 1 (nI (10 * 0 + (c - 48))), ?_, ?_, KcL.rf.u0⟩
  · show f_X4_take Q (nI (nxN 2 c)) (nI c) M = _
    rw [nx]
    unfold f_X4_take
    rw [if_neg (show ¬ nI 3 = 1 by decide), if_neg (show ¬ nI 3 = 2 by decide), if_pos (show nI 3 = 3 from rfl), s1, dg_ten hd.1]
    rfl
  · show RelC (nxN 2 c, (way, c - 48), m, neg, (hO, hA), (l, g, v), (O, A)) (i + 1) Q _
    rw [nx]
    exact ⟨fun _ => by simp [up_at]; exact s0 (by decide), by simp [up_at], fun y => absurd y (by decide), by simp [up_at]; exact s2, fun y => absurd y (by decide), fun y => absurd y (by decide), fun y => absurd y (by decide), fun y => absurd y (by decide), fun _ => ⟨z1, z2, z3, z4, by omega⟩, fun y => absurd y (by decide), semC_keep sm fun r h1 h2 j hj => by rw [up_at, if_neg (fun y => by omega)]⟩
theorem c_ahead {Q c : Nat} {M : Mem} (hc : c < 127) (hne : c ≠ 33) : f_X4_takeAheadOfFactor Q (nI c) M = some (up (up M Q 3 (bI false)) Q 4 (bI (!decide (c = 38)))) := by
  have n1 : ¬ nI c = 33 := fun y => hne ((ce_ (k := 33) hc (by decide)).mp y)
  have n2 : (nI c = 38) ↔ c = 38 := ce_ (k := 38) hc (by decide)
  unfold f_X4_takeAheadOfFactor
  rw [if_neg n1]
  by_cases q : c = 38
  · rw [if_pos (n2.mpr q), decide_eq_true q]
    rfl
  · rw [if_neg (fun y => q (n2.mp y)), decide_eq_false q]
    rfl
theorem c_q {way num m neg i c l g v Q st : Nat} {hO hA : Bool} {O A : CdT} {M : Mem} (h : RelC (st, (way, num), m, neg, (hO, hA), (l, g, v), (O, A)) i Q M) (h3 : 3 ≤ st) (h5 : st < 5) (hc : c = 63) : ∃ M', f_X4_take Q (nI 5) (nI c) M = some M' ∧ RelC (5, (way, num), m, neg, (hO, hA), (l, g, v), (O, A)) (i + 1) Q M' ∧ KcL Q M M' := by
  obtain ⟨s0, s1, s1', s2, s5, s6, s7, s8, s9, s10, sm⟩ := h
  obtain ⟨z1, z2, z3, z4, z5⟩ := s9 h5
  have f0 : fCn st = 0 := by
    rcases (show st = 3 ∨ st = 4 by omega) with rfl | rfl <;> rfl
  rw [f0] at s2
  subst hc
  refine ⟨up (up M Q 3 (bI false)) Q 4 (bI true), ?_, ⟨fun _ => by simp [up_at]; exact s0 (by omega), by simp [up_at, s1], fun y => absurd y (by decide), by simp [up_at]; exact s2, fun _ => ⟨by simp [up_at, z2]; rfl, by simp [up_at, z4]⟩, fun y => absurd y (by decide), fun y => absurd y (by decide), fun y => absurd y (by decide), fun y => absurd y (by decide), fun _ => by omega, semC_keep sm fun r h1 h2 j hj => by rw [up_at, if_neg (fun y => by omega), up_at, if_neg (fun y => by omega)]⟩, KcL.rf.u0.u0⟩
  unfold f_X4_take
  rw [if_neg (show ¬ nI 5 = 1 by decide), if_neg (show ¬ nI 5 = 2 by decide), if_neg (show ¬ nI 5 = 3 by decide), if_neg (show ¬ nI 5 = 4 by decide), if_pos (show nI 5 = 5 from rfl), c_ahead (by decide) (by decide)]
  rfl
theorem c_go3 {way num m neg i c l g v Q : Nat} {hO hA : Bool} {O A : CdT} {M : Mem} (h : RelC (3, (way, num), m, neg, (hO, hA), (l, g, v), (O, A)) i Q M) (hc : c < 127) (hi : i < 50) : GcR (3, (way, num), m, neg, (hO, hA), (l, g, v), (O, A)) c i Q M := by
  obtain ⟨s0, s1, s1', s2, s5, s6, s7, s8, s9, s10, sm⟩ := h
  have nx : nxN 3 c = if dgB c = true then 4 else if c = 63 then 5 else 10 := rfl
  intro hne
  have hne' : nxN 3 c ≠ 10 := hne
  obtain ⟨z1, z2, z3, z4, z5⟩ := s9 (by decide)
  show ∃ M', f_X4_take Q (nI (nxN 3 c)) (nI c) M = some M' ∧ RelC (if dgB c = true then (nxN 3 c, (way, 10 * num + (c - 48)), m, neg, (hO, hA), (l, g, v), (O, A)) else (nxN 3 c, (way, num), m, neg, (hO, hA), (l, g, v), (O, A))) (i + 1) Q M' ∧ KcL Q M M'
  cases w : dgB c with
  | true =>
    rw [w, if_pos rfl] at nx
    have hd := dg_of w
    rw [if_pos rfl, nx]
    refine ⟨up M Q 1 (nI (10 * num + (c - 48))), ?_, ⟨fun _ => by simp [up_at]; exact s0 (by decide), by simp [up_at], fun y => absurd y (by decide), by simp [up_at]; exact s2, fun y => absurd y (by decide), fun y => absurd y (by decide), fun y => absurd y (by decide), fun y => absurd y (by decide), fun _ => ⟨z1, z2, z3, z4, by omega⟩, fun y => absurd y (by decide), semC_keep sm fun r h1 h2 j hj => by rw [up_at, if_neg (fun y => by omega)]⟩, KcL.rf.u0⟩
    unfold f_X4_take
    rw [if_neg (show ¬ nI 4 = 1 by decide), if_neg (show ¬ nI 4 = 2 by decide), if_neg (show ¬ nI 4 = 3 by decide), if_pos (show nI 4 = 4 from rfl), s1, dg_ten hd.1]
    rfl
  | false =>
    rw [w, if_neg Bool.false_ne_true] at nx
    have q : c = 63 := Decidable.of_not_not fun q => hne' (by rw [nx, if_neg q])
    rw [if_pos q] at nx
    rw [if_neg Bool.false_ne_true, nx]
    exact c_q (st := 3) ⟨s0, s1, s1', s2, s5, s6, s7, s8, s9, s10, sm⟩ (by decide) (by decide) q
theorem c_go4 {way num m neg i c l g v Q : Nat} {hO hA : Bool} {O A : CdT} {M : Mem} (h : RelC (4, (way, num), m, neg, (hO, hA), (l, g, v), (O, A)) i Q M) (hc : c < 127) (hi : i < 50) : GcR (4, (way, num), m, neg, (hO, hA), (l, g, v), (O, A)) c i Q M := by
  obtain ⟨s0, s1, s1', s2, s5, s6, s7, s8, s9, s10, sm⟩ := h
  have nx : nxN 4 c = if c = 63 then 5 else 10 := rfl
  intro hne
  have hne' : nxN 4 c ≠ 10 := hne
  have q : c = 63 := Decidable.of_not_not fun q => hne' (by rw [nx, if_neg q])
  rw [if_pos q] at nx
  show ∃ M', f_X4_take Q (nI (nxN 4 c)) (nI c) M = some M' ∧ RelC (nxN 4 c, (way, num), m, neg, (hO, hA), (l, g, v), (O, A)) (i + 1) Q M' ∧ KcL Q M M'
  rw [nx]
  exact c_q (st := 4) ⟨s0, s1, s1', s2, s5, s6, s7, s8, s9, s10, sm⟩ (by decide) (by decide) q
theorem c_go5 {way num m neg i c l g v Q : Nat} {hO hA : Bool} {O A : CdT} {M : Mem} (h : RelC (5, (way, num), m, neg, (hO, hA), (l, g, v), (O, A)) i Q M) (hc : c < 127) (hi : i < 50) : GcR (5, (way, num), m, neg, (hO, hA), (l, g, v), (O, A)) c i Q M := by
  obtain ⟨s0, s1, s1', s2, s5, s6, s7, s8, s9, s10, sm⟩ := h
  have nx : nxN 5 c = if c = 33 then 5 else if c = 100 ∨ c = 101 ∨ c = 107 then 6 else 10 := rfl
  intro hne
  have hne' : nxN 5 c ≠ 10 := hne
  obtain ⟨y3, y4⟩ := s5 rfl
  have hm := s10 (by decide)
  have s2' : M Q 2 = nI m := s2
  show ∃ M', f_X4_take Q (nI (nxN 5 c)) (nI c) M = some M' ∧ RelC (if c = 33 then (nxN 5 c, (way, num), m, neg + 1, (hO, hA), (l, g, v), (O, A)) else (nxN 5 c, (way, num), m, neg, (hO, hA), (ltN c, g, v), (O, A))) (i + 1) Q M' ∧ KcL Q M M'
  by_cases w : c = 33
  · rw [if_pos w] at nx
    rw [if_pos w, nx]
    subst w
    refine ⟨up M Q 3 (bI (odN (neg + 1))), ?_, ⟨fun _ => by simp [up_at]; exact s0 (by decide), by simp [up_at, s1], fun y => absurd y (by decide), by simp [up_at]; exact s2, fun _ => ⟨by simp [up_at], by simp [up_at, y4]⟩, fun y => absurd y (by decide), fun y => absurd y (by decide), fun y => absurd y (by decide), fun y => absurd y (by decide), fun _ => by omega, semC_keep sm fun r h1 h2 j hj => by rw [up_at, if_neg (fun y => by omega)]⟩, KcL.rf.u0⟩
    unfold f_X4_take f_X4_takeAheadOfFactor
    rw [if_neg (show ¬ nI 5 = 1 by decide), if_neg (show ¬ nI 5 = 2 by decide), if_neg (show ¬ nI 5 = 3 by decide), if_neg (show ¬ nI 5 = 4 by decide), if_pos (show nI 5 = 5 from rfl), if_pos (show nI 33 = 33 from rfl), y3, od_s]
    cases odN neg <;> rfl
  · rw [if_neg w] at nx
    have q : c = 100 ∨ c = 101 ∨ c = 107 := Decidable.of_not_not fun q => hne' (by rw [nx, if_neg q])
    rw [if_pos q] at nx
    rw [if_neg w, nx]
    have i1 := inb_t (k := m) (n := 12) (by omega) (by decide)
    have i2 := nI_cl (show m < 2 ^ 31 by omega)
    have hl := lt_lt c
    have el := lc_lt c hc q
    have r1 : up M (Q + 1) m (nI c) Q 2 = nI m := by rw [up_at, if_neg (fun y => by omega)]; exact s2'
    have r2 : up M (Q + 1) m (nI c) Q 3 = bI (odN neg) := by rw [up_at, if_neg (fun y => by omega)]; exact y3
    have r3 : up (up M (Q + 1) m (nI c)) (Q + 4) m (bI (odN neg)) Q 2 = nI m := by rw [up_at, if_neg (fun y => by omega)]; exact r1
    have r4 : up (up M (Q + 1) m (nI c)) (Q + 4) m (bI (odN neg)) Q 4 = bI (!hA) := by rw [up_at, if_neg (fun y => by omega), up_at, if_neg (fun y => by omega)]; exact y4
    have rd : ∀ p k, ¬ (k = m ∧ (p = Q + 1 ∨ p = Q + 4 ∨ p = Q + 5)) → up (up (up M (Q + 1) m (nI c)) (Q + 4) m (bI (odN neg))) (Q + 5) m (bI (!hA)) p k = M p k := fun p k hn => by
      rw [up_at, if_neg (fun y => hn ⟨y.2, .inr (.inr y.1)⟩), up_at, if_neg (fun y => hn ⟨y.2, .inr (.inl y.1)⟩), up_at, if_neg (fun y => hn ⟨y.2, .inl y.1⟩)]
    refine ⟨up (up (up M (Q + 1) m (nI c)) (Q + 4) m (bI (odN neg))) (Q + 5) m (bI (!hA)), ?_, ⟨fun _ => (rd Q 0 (by omega)).trans (s0 (by decide)), (rd Q 1 (by omega)).trans s1, fun y => absurd y (by decide), (rd Q 2 (by omega)).trans s2, fun y => absurd y (by decide), fun _ => ⟨hl, by simp [up_at, el], by simp [up_at], by simp [up_at]⟩, fun y => absurd y (by decide), fun y => absurd y (by decide), fun y => absurd y (by decide), fun _ => by omega, semC_keep sm fun r h1 h2 j hj => rd _ _ (by omega)⟩, ((KcL.rf.u1 (r := 1) (by decide)).u1 (r := 4) (by decide)).u1 (r := 5) (by decide)⟩
    unfold f_X4_take
    rw [if_neg (show ¬ nI 6 = 1 by decide), if_neg (show ¬ nI 6 = 2 by decide), if_neg (show ¬ nI 6 = 3 by decide), if_neg (show ¬ nI 6 = 4 by decide), if_neg (show ¬ nI 6 = 5 by decide), if_pos (show nI 6 = 6 from rfl), s2', if_pos i1, i2, r1, if_pos i1, i2, r2, bI_a1, r3, if_pos i1, i2, r4, bI_a1]
    rfl
theorem c_go6 {way num m neg i c l g v Q : Nat} {hO hA : Bool} {O A : CdT} {M : Mem} (h : RelC (6, (way, num), m, neg, (hO, hA), (l, g, v), (O, A)) i Q M) (hc : c < 127) (hi : i < 50) : GcR (6, (way, num), m, neg, (hO, hA), (l, g, v), (O, A)) c i Q M := by
  obtain ⟨s0, s1, s1', s2, s5, s6, s7, s8, s9, s10, sm⟩ := h
  have nx : nxN 6 c = if c = 60 ∨ c = 61 ∨ c = 62 then 7 else 10 := rfl
  intro hne
  have hne' : nxN 6 c ≠ 10 := hne
  have w : c = 60 ∨ c = 61 ∨ c = 62 := Decidable.of_not_not fun w => hne' (by rw [nx, if_neg w])
  rw [if_pos w] at nx
  have hm := s10 (by decide)
  have s2' : M Q 2 = nI m := s2
  obtain ⟨x1, x2, x3, x4⟩ := s6 (by decide)
  have i1 := inb_t (k := m) (n := 12) (by omega) (by decide)
  have i2 := nI_cl (show m < 2 ^ 31 by omega)
  have rd : ∀ p k, ¬ (k = m ∧ p = Q + 2) → up M (Q + 2) m (nI c) p k = M p k := fun p k hn => by
    rw [up_at, if_neg (fun y => hn ⟨y.2, y.1⟩)]
  show ∃ M', f_X4_take Q (nI (nxN 6 c)) (nI c) M = some M' ∧ RelC (nxN 6 c, (way, num), m, neg, (hO, hA), (l, c - 60, v), (O, A)) (i + 1) Q M' ∧ KcL Q M M'
  rw [nx]
  refine ⟨up M (Q + 2) m (nI c), ?_, ⟨fun _ => (rd Q 0 (by omega)).trans (s0 (by decide)), (rd Q 1 (by omega)).trans s1, fun y => absurd y (by decide), (rd Q 2 (by omega)).trans s2, fun y => absurd y (by decide), fun _ => ⟨x1, (rd _ _ (by omega)).trans x2, (rd _ _ (by omega)).trans x3, (rd _ _ (by omega)).trans x4⟩, fun _ => ⟨by omega, by rw [up_at, if_pos ⟨rfl, rfl⟩, show 60 + (c - 60) = c by omega]⟩, fun y => absurd y (by decide), fun y => absurd y (by decide), fun _ => by omega, semC_keep sm fun r h1 h2 j hj => rd _ _ (by omega)⟩, KcL.rf.u1 (r := 2) (by decide)⟩
  unfold f_X4_take
  rw [if_neg (show ¬ nI 7 = 1 by decide), if_neg (show ¬ nI 7 = 2 by decide), if_neg (show ¬ nI 7 = 3 by decide), if_neg (show ¬ nI 7 = 4 by decide), if_neg (show ¬ nI 7 = 5 by decide), if_neg (show ¬ nI 7 = 6 by decide), if_pos (show nI 7 = 7 from rfl), s2', if_pos i1, i2]
  rfl
theorem c_go7 {way num m neg i c l g v Q : Nat} {hO hA : Bool} {O A : CdT} {M : Mem} (h : RelC (7, (way, num), m, neg, (hO, hA), (l, g, v), (O, A)) i Q M) (hc : c < 127) (hi : i < 50) : GcR (7, (way, num), m, neg, (hO, hA), (l, g, v), (O, A)) c i Q M := by
  obtain ⟨s0, s1, s1', s2, s5, s6, s7, s8, s9, s10, sm⟩ := h
  have nx : nxN 7 c = if dgB c = true then 8 else 10 := rfl
  intro hne
  have hne' : nxN 7 c ≠ 10 := hne
  have w : dgB c = true := Decidable.of_not_not fun w => hne' (by rw [nx, if_neg w])
  rw [if_pos w] at nx
  have hd := dg_of w
  have hm := s10 (by decide)
  have s2' : M Q 2 = nI m := s2
  obtain ⟨x1, x2, x3, x4⟩ := s6 (by decide)
  obtain ⟨x5, x6⟩ := s7 (by decide)
  have i1 := inb_t (k := m) (n := 12) (by omega) (by decide)
  have i2 := nI_cl (show m < 2 ^ 31 by omega)
  have r1 : up M (Q + 3) m (nI (c - 48)) Q 2 = nI m := by rw [up_at, if_neg (fun y => by omega)]; exact s2'
  have rd : ∀ p k, ¬ (k = m ∧ p = Q + 3) → ¬ (k = 2 ∧ p = Q) → up (up M (Q + 3) m (nI (c - 48))) Q 2 (nI (m + 1)) p k = M p k := fun p k hn hn2 => by
    rw [up_at, if_neg (fun y => hn2 ⟨y.2, y.1⟩), up_at, if_neg (fun y => hn ⟨y.2, y.1⟩)]
  show ∃ M', f_X4_take Q (nI (nxN 7 c)) (nI c) M = some M' ∧ RelC (nxN 7 c, (way, num), m, neg, (hO, hA), (l, g, c - 48), (O, A)) (i + 1) Q M' ∧ KcL Q M M'
  rw [nx]
  refine ⟨up (up M (Q + 3) m (nI (c - 48))) Q 2 (nI (m + 1)), ?_, ⟨fun _ => (rd Q 0 (by omega) (by omega)).trans (s0 (by decide)), (rd Q 1 (by omega) (by omega)).trans s1, fun y => absurd y (by decide), by simp [up_at]; rfl, fun y => absurd y (by decide), fun _ => ⟨x1, (rd _ _ (by omega) (by omega)).trans x2, (rd _ _ (by omega) (by omega)).trans x3, (rd _ _ (by omega) (by omega)).trans x4⟩, fun _ => ⟨x5, (rd _ _ (by omega) (by omega)).trans x6⟩, fun _ => by rw [up_at, if_neg (fun y => by omega), up_at, if_pos ⟨rfl, rfl⟩], fun y => absurd y (by decide), fun _ => by omega, semC_keep sm fun r h1 h2 j hj => rd _ _ (by omega) (by omega)⟩, (KcL.rf.u1 (r := 3) (by decide)).u0⟩
  unfold f_X4_take
  rw [if_neg (show ¬ nI 8 = 1 by decide), if_neg (show ¬ nI 8 = 2 by decide), if_neg (show ¬ nI 8 = 3 by decide), if_neg (show ¬ nI 8 = 4 by decide), if_neg (show ¬ nI 8 = 5 by decide), if_neg (show ¬ nI 8 = 6 by decide), if_neg (show ¬ nI 8 = 7 by decide), if_pos (show nI 8 = 8 from rfl), s2', if_pos i1, i2, dg_sub hd.1, r1, nI_1]
  rfl
theorem c_after {way num m neg i c l g v Q st : Nat} {hO hA : Bool} {O A : CdT} {M : Mem} (h : RelC (st, (way, num), m, neg, (hO, hA), (l, g, v), (O, A)) i Q M) (h8 : 8 ≤ st) (h9 : st ≤ 9) (hc : c = 38 ∨ c = 124) : ∃ M', f_X4_take Q (nI 5) (nI c) M = some M' ∧ RelC (aE 5 way num m neg hO hA l g v O A c) (i + 1) Q M' ∧ KcL Q M M' := by
  obtain ⟨s0, s1, s1', s2, s5, s6, s7, s8, s9, s10, sm⟩ := h
  have hm := s10 (by omega)
  have f1 : fCn st = 1 := by
    rcases (show st = 8 ∨ st = 9 by omega) with rfl | rfl <;> rfl
  rw [f1] at s2
  obtain ⟨x1, x2, x3, x4⟩ := s6 (by omega)
  obtain ⟨x5, x6⟩ := s7 (by omega)
  have x7 := s8 (by omega)
  have ev := sem_next sm x1 x5 x2 x6 x7 x3 x4
  obtain ⟨b1, b2, b3, b4, -⟩ := sm
  have b5 : ∀ j, j < m + 1 → ∃ b, M (Q + 4) j = bI b := fun j hj => by
    by_cases y : j = m
    · rw [y]; exact ⟨_, x3⟩
    · exact b4 j (by omega)
  have rd : ∀ b : Bool, ∀ p k, ¬ (p = Q ∧ (k = 3 ∨ k = 4)) → up (up M Q 3 (bI false)) Q 4 (bI b) p k = M p k := fun b p k hn => by
    rw [up_at, if_neg (fun y => hn ⟨y.1, .inr y.2⟩), up_at, if_neg (fun y => hn ⟨y.1, .inl y.2⟩)]
  have tk : c < 127 → c ≠ 33 → f_X4_take Q (nI 5) (nI c) M = some (up (up M Q 3 (bI false)) Q 4 (bI (!decide (c = 38)))) := fun g1 g2 => by
    unfold f_X4_take
    rw [if_neg (show ¬ nI 5 = 1 by decide), if_neg (show ¬ nI 5 = 2 by decide), if_neg (show ¬ nI 5 = 3 by decide), if_neg (show ¬ nI 5 = 4 by decide), if_pos (show nI 5 = 5 from rfl), c_ahead g1 g2]
    rfl
  rcases hc with rfl | rfl
  · refine ⟨up (up M Q 3 (bI false)) Q 4 (bI false), tk (by decide) (by decide), ?_, KcL.rf.u0.u0⟩
    show RelC (5, (way, num), m + 1, 0, (hO, true), (l, g, v), (O, fun d e k => A d e k && facF neg l g v d e k)) (i + 1) Q _
    refine ⟨fun _ => (rd _ Q 0 (by omega)).trans (s0 (by omega)), (rd _ Q 1 (by omega)).trans s1, fun y => absurd y (by decide), (rd _ Q 2 (by omega)).trans s2, fun _ => ⟨by simp [up_at]; rfl, by simp [up_at]⟩, fun y => absurd y (by decide), fun y => absurd y (by decide), fun y => absurd y (by decide), fun y => absurd y (by decide), fun _ => by omega, ?_⟩
    refine semC_keep (M := M) ⟨fun y => Bool.noConfusion y, b2, fun y => absurd y (by omega), b5, fun d e k => ⟨fun _ => ev d e k, fun y => Bool.noConfusion y⟩⟩ fun r h1 h2 j hj => rd _ _ _ (by omega)
  · refine ⟨up (up M Q 3 (bI false)) Q 4 (bI true), tk (by decide) (by decide), ?_, KcL.rf.u0.u0⟩
    show RelC (5, (way, num), m + 1, 0, (true, false), (l, g, v), (fun d e k => O d e k || (A d e k && facF neg l g v d e k), ttC)) (i + 1) Q _
    refine ⟨fun _ => (rd _ Q 0 (by omega)).trans (s0 (by omega)), (rd _ Q 1 (by omega)).trans s1, fun y => absurd y (by decide), (rd _ Q 2 (by omega)).trans s2, fun _ => ⟨by simp [up_at]; rfl, by simp [up_at]⟩, fun y => absurd y (by decide), fun y => absurd y (by decide), fun y => absurd y (by decide), fun y => absurd y (by decide), fun _ => by omega, ?_⟩
    refine semC_keep (M := M) ⟨fun _ => rfl, fun y => Bool.noConfusion y, fun y => absurd y (by omega), b5, fun d e k => ⟨fun y => Bool.noConfusion y, fun _ _ => ?_⟩⟩ fun r h1 h2 j hj => rd _ _ _ (by omega)
    rw [ev d e k]
    dsimp only
    generalize (A d e k && facF neg l g v d e k) = x
    generalize O d e k = o
    cases o <;> cases x <;> simp
theorem c_go8 {way num m neg i c l g v Q : Nat} {hO hA : Bool} {O A : CdT} {M : Mem} (h : RelC (8, (way, num), m, neg, (hO, hA), (l, g, v), (O, A)) i Q M) (hc : c < 127) (hi : i < 50) : GcR (8, (way, num), m, neg, (hO, hA), (l, g, v), (O, A)) c i Q M := by
  obtain ⟨s0, s1, s1', s2, s5, s6, s7, s8, s9, s10, sm⟩ := h
  have nx : nxN 8 c = if dgB c = true then 9 else if c = 38 ∨ c = 124 then 5 else 10 := rfl
  intro hne
  have hne' : nxN 8 c ≠ 10 := hne
  show ∃ M', f_X4_take Q (nI (nxN 8 c)) (nI c) M = some M' ∧ RelC (if dgB c = true then (nxN 8 c, (way, num), m, neg, (hO, hA), (l, g, 10 * v + (c - 48)), (O, A)) else aE (nxN 8 c) way num m neg hO hA l g v O A c) (i + 1) Q M' ∧ KcL Q M M'
  cases w : dgB c with
  | true =>
    rw [w, if_pos rfl] at nx
    have hd := dg_of w
    have hm := s10 (by decide)
    have s2' : M Q 2 = nI (m + 1) := s2
    obtain ⟨x1, x2, x3, x4⟩ := s6 (by decide)
    obtain ⟨x5, x6⟩ := s7 (by decide)
    have x7 := s8 (by decide)
    have i1 := inb_t (k := m) (n := 12) (by omega) (by decide)
    have i2 := nI_cl (show m < 2 ^ 31 by omega)
    have e9 : 10 * nI v + nI (c - 48) = nI (10 * v + (c - 48)) := by
      have : 10 * nI v = nI (10 * v) := pk_mul 10 v
      rw [this, nI_add]
    have rd : ∀ p k, ¬ (k = m ∧ p = Q + 3) → up M (Q + 3) m (nI (10 * v + (c - 48))) p k = M p k := fun p k hn => by
      rw [up_at, if_neg (fun y => hn ⟨y.2, y.1⟩)]
    rw [if_pos rfl, nx]
    refine ⟨up M (Q + 3) m (nI (10 * v + (c - 48))), ?_, ⟨fun _ => (rd Q 0 (by omega)).trans (s0 (by decide)), (rd Q 1 (by omega)).trans s1, fun y => absurd y (by decide), (rd Q 2 (by omega)).trans s2', fun y => absurd y (by decide), fun _ => ⟨x1, (rd _ _ (by omega)).trans x2, (rd _ _ (by omega)).trans x3, (rd _ _ (by omega)).trans x4⟩, fun _ => ⟨x5, (rd _ _ (by omega)).trans x6⟩, fun _ => by rw [up_at, if_pos ⟨rfl, rfl⟩], fun y => absurd y (by decide), fun _ => by omega, semC_keep sm fun r h1 h2 j hj => rd _ _ (by omega)⟩, KcL.rf.u1 (r := 3) (by decide)⟩
    unfold f_X4_take f_X4_takeSecondDigit
    rw [if_neg (show ¬ nI 9 = 1 by decide), if_neg (show ¬ nI 9 = 2 by decide), if_neg (show ¬ nI 9 = 3 by decide), if_neg (show ¬ nI 9 = 4 by decide), if_neg (show ¬ nI 9 = 5 by decide), if_neg (show ¬ nI 9 = 6 by decide), if_neg (show ¬ nI 9 = 7 by decide), if_neg (show ¬ nI 9 = 8 by decide), if_pos (show nI 9 = 9 from rfl), s2', nI_pred, if_neg (nI_n0 (by omega)), if_pos i1, i2, x7, dg_sub hd.1, e9]
    rfl
  | false =>
    rw [w, if_neg Bool.false_ne_true] at nx
    have q : c = 38 ∨ c = 124 := Decidable.of_not_not fun q => hne' (by rw [nx, if_neg q])
    rw [if_pos q] at nx
    rw [if_neg Bool.false_ne_true, nx]
    exact c_after (st := 8) ⟨s0, s1, s1', s2, s5, s6, s7, s8, s9, s10, sm⟩ (by decide) (by decide) q
theorem c_go9 {way num m neg i c l g v Q : Nat} {hO hA : Bool} {O A : CdT} {M : Mem} (h : RelC (9, (way, num), m, neg, (hO, hA), (l, g, v), (O, A)) i Q M) (hc : c < 127) (hi : i < 50) : GcR (9, (way, num), m, neg, (hO, hA), (l, g, v), (O, A)) c i Q M := by
  obtain ⟨s0, s1, s1', s2, s5, s6, s7, s8, s9, s10, sm⟩ := h
  have nx : nxN 9 c = if c = 38 ∨ c = 124 then 5 else 10 := rfl
  intro hne
  have hne' : nxN 9 c ≠ 10 := hne
  have q : c = 38 ∨ c = 124 := Decidable.of_not_not fun q => hne' (by rw [nx, if_neg q])
  rw [if_pos q] at nx
  show ∃ M', f_X4_take Q (nI (nxN 9 c)) (nI c) M = some M' ∧ RelC (aE (nxN 9 c) way num m neg hO hA l g v O A c) (i + 1) Q M' ∧ KcL Q M M'
  rw [nx]
  exact c_after (st := 9) ⟨s0, s1, s1', s2, s5, s6, s7, s8, s9, s10, sm⟩ (by decide) (by decide) q
theorem c_go {s : AVt} {c i Q : Nat} {M : Mem} (h : RelC s i Q M) (hs : s.1 < 10) (hc : c < 127) (hi : i < 50) : GcR s c i Q M := by
  obtain ⟨st, ⟨way, num⟩, m, neg, ⟨hO, hA⟩, ⟨l, g, v⟩, O, A⟩ := s
  have hs' : st < 10 := hs
  rcases (show st = 0 ∨ st = 1 ∨ st = 2 ∨ st = 3 ∨ st = 4 ∨ st = 5 ∨ st = 6 ∨ st = 7 ∨ st = 8 ∨ st = 9 by omega) with rfl | rfl | rfl | rfl | rfl | rfl | rfl | rfl | rfl | rfl
  · exact c_go0 h hc hi
  · exact c_go1 h hc hi
  · exact c_go2 h hc hi
  · exact c_go3 h hc hi
  · exact c_go4 h hc hi
  · exact c_go5 h hc hi
  · exact c_go6 h hc hi
  · exact c_go7 h hc hi
  · exact c_go8 h hc hi
  · exact c_go9 h hc hi
