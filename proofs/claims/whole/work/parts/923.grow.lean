/-! the class grows a tree -/
def lowN (s : Nat) : Nat := if s.testBit 0 = true then 0 else if s.testBit 1 = true then 1 else if s.testBit 2 = true then 2 else if s.testBit 3 = true then 3 else if s.testBit 4 = true then 4 else 5
def c6 (s : Nat) : Nat := cnt (fun c => s.testBit c = true) 6
theorem s6_low : ∀ s, s < 64 → 0 < s → lowN s < 6 ∧ s.testBit (lowN s) = true := by decide +kernel
theorem s6_ntz : ∀ s, s < 64 → 0 < s → f_J6_numberOfTrailingZeros_0f7a4 (nI s) = some (nI (lowN s)) := by decide +kernel
theorem s6_pc : ∀ s, s < 64 → pcN s = c6 s := by decide +kernel
theorem s6_or : ∀ j, j < 64 → ∀ l, l < 6 → (nI j ||| jshl 1 (nI l) = nI (j ||| 2 ^ l) ∧ j ||| 2 ^ l < 64) := by decide +kernel
theorem s6_bit : ∀ r, r < 64 → ∀ i, i < 6 → (((jshr (nI r) (nI i)) &&& 1 = 1 ↔ r.testBit i = true) ∧ ((jshr (nI r) (nI i)) &&& 1 = 0 ↔ r.testBit i = false)) := by decide +kernel
theorem s6_c1 : ∀ j, j < 64 → ∀ l, l < 6 → j.testBit l = false → c6 (j ||| 2 ^ l) = c6 j + 1 := by decide +kernel
theorem s6_1 : ∀ l, l < 6 → c6 (0 ||| 2 ^ l) = 1 := by decide +kernel
theorem s6_hi {s a : Nat} (hs : s < 64) (ha : 6 ≤ a) : s.testBit a = false := Nat.testBit_lt_two_pow (Nat.lt_of_lt_of_le hs (Nat.pow_le_pow_right (n := 2) (i := 6) (by decide) ha))
theorem s6_eq {s j : Nat} (hs : s < 64) (hj : j < 64) (h : ∀ a, a < 6 → s.testBit a = j.testBit a) : s = j := by
  apply Nat.eq_of_testBit_eq
  intro a
  by_cases q : a < 6
  · exact h a q
  · rw [s6_hi hs (by omega), s6_hi hj (by omega)]
theorem cnt_sub {p q : Nat → Prop} [DecidablePred p] [DecidablePred q] : ∀ n, (∀ i, i < n → p i → q i) → cnt p n ≤ cnt q n ∧ (cnt p n = cnt q n → ∀ i, i < n → q i → p i)
  | 0, _ => ⟨Nat.le_refl _, fun _ i hi => absurd hi (Nat.not_lt_zero i)⟩
  | n + 1, h => by
    obtain ⟨h1, h2⟩ := cnt_sub n fun i hi => h i (by omega)
    rw [cnt_s, cnt_s]
    by_cases a : p n
    · have b := h n (by omega) a
      rw [if_pos a, if_pos b]
      refine ⟨by omega, fun e i hi hq => ?_⟩
      by_cases y : i = n
      · rw [y]; exact a
      · exact h2 (by omega) i (by omega) hq
    · rw [if_neg a]
      by_cases b : q n
      · rw [if_pos b]
        exact ⟨by omega, fun e => by omega⟩
      · rw [if_neg b]
        refine ⟨by omega, fun e i hi hq => ?_⟩
        by_cases y : i = n
        · rw [y] at hq; exact absurd hq b
        · exact h2 (by omega) i (by omega) hq
theorem bit_or {j l a : Nat} : (j ||| 2 ^ l).testBit a = insT j.testBit l a := by
  rw [Nat.testBit_or, Nat.testBit_two_pow]
  unfold insT
  congr 1
  exact decide_eq_decide.mpr ⟨fun h => h.symm, fun h => h.symm⟩
theorem bit_orF (j l : Nat) : (j ||| 2 ^ l).testBit = insT j.testBit l := funext fun _ => bit_or
/-- prices as the class keeps them -/
def wI (x : Nat) : Int32 := if x = 100000 then -1 else nI x
def WtC (w : Nat → Nat → Nat) : Prop := (∀ a b, w a b < 100 ∨ w a b = 100000) ∧ ∀ a b, w a b = w b a
theorem WtC.le {w : Nat → Nat → Nat} (h : WtC w) (a b : Nat) : w a b ≤ 100000 := by rcases h.1 a b with q | q <;> omega
/-- the least step from X to i -/
def rmN (w : Nat → Nat → Nat) (X : Nat → Bool) (i : Nat) : Nat := mn (fun a => if X a = true then w a i else 100000) 100000 6
theorem rm_sp (w : Nat → Nat → Nat) (X : Nat → Bool) (c : Nat) : rmN w X c ≤ 100000 ∧ (rmN w X c = 100000 ∨ ∃ a, a < 6 ∧ X a = true ∧ rmN w X c = w a c) ∧ ∀ a, a < 6 → X a = true → rmN w X c ≤ w a c := by
  obtain ⟨h1, h2, h3⟩ := mn_l (fun a => if X a = true then w a c else 100000) 100000 6
  refine ⟨h1, ?_, fun a ha xa => ?_⟩
  · rcases h2 with h2 | ⟨a, ha, h2⟩
    · exact .inl h2
    · by_cases q : X a = true
      · refine .inr ⟨a, ha, q, ?_⟩
        have : (if X a = true then w a c else 100000) = w a c := if_pos q
        rw [← this]
        exact h2
      · refine .inl ?_
        have : (if X a = true then w a c else 100000) = 100000 := if_neg q
        rw [← this]
        exact h2
  · have := h3 a ha
    have e : (if X a = true then w a c else 100000) = w a c := if_pos xa
    rw [← e]
    exact this
theorem rm_ins {w : Nat → Nat → Nat} (X : Nat → Bool) {k : Nat} (hk : k < 6) (c : Nat) (hn : w k c ≤ 100000) : rmN w (insT X k) c = min (rmN w X c) (w k c) := by
  obtain ⟨a1, a2, a3⟩ := rm_sp w (insT X k) c
  obtain ⟨b1, b2, b3⟩ := rm_sp w X c
  have k1 : rmN w (insT X k) c ≤ w k c := a3 k hk (by simp [insT])
  have k2 : rmN w (insT X k) c ≤ rmN w X c := by
    rcases b2 with b2 | ⟨a, ha, xa, b2⟩
    · omega
    · rw [b2]
      exact a3 a ha (by simp [insT, xa])
  have k3 : min (rmN w X c) (w k c) ≤ rmN w (insT X k) c := by
    rcases a2 with a2 | ⟨a, ha, xa, a2⟩
    · omega
    · rw [a2]
      by_cases q : a = k
      · rw [q]; exact Nat.min_le_right _ _
      · have : X a = true := by simpa [insT, q] using xa
        exact Nat.le_trans (Nat.min_le_left _ _) (b3 a ha this)
  omega
theorem rm_v {w : Nat → Nat → Nat} (h : WtC w) (X : Nat → Bool) (c : Nat) : rmN w X c < 100 ∨ rmN w X c = 100000 := by
  rcases (rm_sp w X c).2.1 with q | ⟨a, -, -, q⟩
  · exact .inr q
  · rw [q]; exact h.1 a c
theorem wI_1 {x : Nat} (h : x < 100 ∨ x = 100000) : (wI x = -1) ↔ x = 100000 := by
  unfold wI
  by_cases q : x = 100000
  · rw [if_pos q]; exact ⟨fun _ => q, fun _ => rfl⟩
  · rw [if_neg q]; exact ⟨fun y => absurd y (nI_m1 (by omega)), fun y => absurd y q⟩
def PrC (w : Nat → Nat → Nat) (M : Mem) : Prop := ∀ a b, a < 6 → b < 6 → a ≠ b → M 118 (a * 6 + b) = wI (w a b)
theorem c_reach {w : Nat → Nat → Nat} (hw : WtC w) {M : Mem} (hp : PrC w M) {X : Nat → Bool} {l : Nat} (hl : l < 6) (hr : ∀ i, i < 6 → X i = false → M 119 i = wI (rmN w X i)) : ∃ M1, f_X8_reachFrom (nI l) M = some M1 ∧ (∀ i, i < 6 → insT X l i = false → M1 119 i = wI (rmN w (insT X l) i)) ∧ ∀ p k, p ≠ 119 → M1 p k = M p k := by
  obtain ⟨z, hz, z1, z2⟩ := it_inv (b := f_X8_reachFrom_b2 (nI l)) (fun n S => ∃ Mi, S = (nI n, Mi) ∧ (∀ i, i < 6 → insT X l i = false → Mi 119 i = if i < n then wI (rmN w (insT X l) i) else wI (rmN w X i)) ∧ ∀ p k, p ≠ 119 → Mi p k = M p k) 6 (Q := fun Z => (∀ i, i < 6 → insT X l i = false → Z 119 i = if i < 6 then wI (rmN w (insT X l) i) else wI (rmN w X i)) ∧ ∀ p k, p ≠ 119 → Z p k = M p k) (by decide) (by
    rintro n hn S ⟨Mi, rfl, r1, r2⟩
    have a1 : ¬ (6 : Int32) ≤ nI n := nI_ge (b := 6) hn (by decide)
    have ex : nI l * 6 + nI n = nI (l * 6 + n) := by
      have : nI l * 6 = nI (l * 6) := pk_mul l 6
      rw [this, nI_add]
    have p1 := inb_t (k := l * 6 + n) (n := 36) (by omega) (by decide)
    have p2 := nI_cl (show l * 6 + n < 2 ^ 31 by omega)
    have i1 := inb_t (k := n) (n := 6) hn (by decide)
    have i2 := nI_cl (show n < 2 ^ 31 by omega)
    have hv := hw.1 l n
    have keep : (∀ i, i < 6 → insT X l i = false → i = n → Mi 119 i = wI (rmN w (insT X l) i)) → (∀ i, i < 6 → insT X l i = false → Mi 119 i = if i < n + 1 then wI (rmN w (insT X l) i) else wI (rmN w X i)) := by
      intro hk i hi hx
      by_cases y : i = n
      · rw [if_pos (by omega)]; exact hk i hi hx y
      · have : (i < n + 1) ↔ i < n := by omega
        simp only [this]
        exact r1 i hi hx
    by_cases q0 : n = l
    · have q0' : nI n = nI l := by rw [q0]
      refine ⟨(nI (n + 1), Mi), ?_, Mi, rfl, keep fun i hi hx e => ?_, r2⟩
      · simp only [f_X8_reachFrom_b2]
        rw [if_neg a1, ex, if_pos p1, p2, if_pos q0', nI_1]
        rfl
      · rw [e, q0] at hx
        simp [insT] at hx
    · have q0' : ¬ nI n = nI l := fun y => q0 (nI_inj (by omega) (by omega) y)
      have hpr : Mi 118 (l * 6 + n) = wI (w l n) := (r2 118 _ (by decide)).trans (hp l n hl hn (fun y => q0 y.symm))
      have hmin := rm_ins (w := w) X hl n (hw.le l n)
      by_cases q1 : w l n = 100000
      · have q1' : wI (w l n) = -1 := (wI_1 hv).mpr q1
        refine ⟨(nI (n + 1), Mi), ?_, Mi, rfl, keep fun i hi hx e => ?_, r2⟩
        · simp only [f_X8_reachFrom_b2]
          rw [if_neg a1, ex, if_pos p1, p2, if_neg q0', hpr, if_pos q1', nI_1]
          rfl
        · have := r1 i hi hx
          rw [e, if_neg (Nat.lt_irrefl n)] at this
          have h2 := (rm_sp w X n).1
          rw [e, this, hmin, q1, Nat.min_eq_left h2]
      · have q1' : ¬ wI (w l n) = -1 := fun y => q1 ((wI_1 hv).mp y)
        have ev : wI (w l n) = nI (w l n) := by unfold wI; rw [if_neg q1]
        have st : f_X8_reachFrom_b2 (nI l) (nI n, Mi) = if Mi 119 n = -1 then some (.inl (nI (n + 1), up Mi 119 n (wI (w l n)))) else if Mi 119 n ≤ wI (w l n) then some (.inl (nI (n + 1), Mi)) else some (.inl (nI (n + 1), up Mi 119 n (wI (w l n)))) := by
          simp only [f_X8_reachFrom_b2]
          rw [if_neg a1, ex, if_pos p1, p2, if_neg q0', hpr, if_neg q1', if_pos i1, i2, nI_1]
          by_cases y : Mi 119 n = -1
          · rw [if_pos y, if_pos y]; rfl
          · rw [if_neg y, if_neg y]
            by_cases y2 : Mi 119 n ≤ wI (w l n)
            · rw [if_pos y2, if_pos y2]; rfl
            · rw [if_neg y2, if_neg y2]; rfl
        have rest : ∀ (hval : insT X l n = false → wI (w l n) = wI (rmN w (insT X l) n)), (∀ i, i < 6 → insT X l i = false → up Mi 119 n (wI (w l n)) 119 i = if i < n + 1 then wI (rmN w (insT X l) i) else wI (rmN w X i)) ∧ ∀ p k, p ≠ 119 → up Mi 119 n (wI (w l n)) p k = M p k := by
          intro hval
          refine ⟨fun i hi hx => ?_, fun p k hp => by rw [up_at, if_neg (fun y => hp y.1)]; exact r2 p k hp⟩
          by_cases y : i = n
          · subst y
            rw [up_at, if_pos ⟨rfl, rfl⟩, if_pos (by omega)]
            exact hval hx
          · rw [up_at, if_neg (fun t => y t.2)]
            have : (i < n + 1) ↔ i < n := by omega
            simp only [this]
            exact r1 i hi hx
        have hrv := rm_v hw X n
        have hin : insT X l n = false → Mi 119 n = wI (rmN w X n) := fun hx => by
          have := r1 n hn hx
          rwa [if_neg (Nat.lt_irrefl n)] at this
        by_cases y : Mi 119 n = -1
        · obtain ⟨f1, f2⟩ := rest fun hx => by
            have := (wI_1 hrv).mp ((hin hx).symm.trans y)
            rw [hmin, this, Nat.min_eq_right (hw.le l n)]
          exact ⟨_, by rw [st, if_pos y], _, rfl, f1, f2⟩
        · by_cases y2 : Mi 119 n ≤ wI (w l n)
          · refine ⟨_, by rw [st, if_neg y, if_pos y2], _, rfl, keep fun i hi hx e => ?_, r2⟩
            subst e
            have h1 := hin hx
            rw [h1] at y y2
            have n1 : ¬ rmN w X i = 100000 := fun t => y ((wI_1 hrv).mpr t)
            have e1 : wI (rmN w X i) = nI (rmN w X i) := by unfold wI; rw [if_neg n1]
            rw [e1, ev] at y2
            have := (nI_leI (by omega) (by omega)).mp y2
            rw [h1, hmin, Nat.min_eq_left this]
          · obtain ⟨f1, f2⟩ := rest fun hx => by
              have h1 := hin hx
              rw [h1] at y y2
              have n1 : ¬ rmN w X n = 100000 := fun t => y ((wI_1 hrv).mpr t)
              have e1 : wI (rmN w X n) = nI (rmN w X n) := by unfold wI; rw [if_neg n1]
              rw [e1, ev] at y2
              have : ¬ rmN w X n ≤ w l n := fun t => y2 (nI_le t (by omega))
              rw [hmin, Nat.min_eq_right (by omega)]
            exact ⟨_, by rw [st, if_neg y, if_neg y2], _, rfl, f1, f2⟩) (by
    rintro S ⟨Mi, rfl, r1, r2⟩
    have a1 : (6 : Int32) ≤ nI 6 := by decide
    exact ⟨Mi, by simp only [f_X8_reachFrom_b2, a1, if_true], r1, r2⟩) (s0 := (0, M)) ⟨M, rfl, fun i hi hx => by
      rw [if_neg (Nat.not_lt_zero i)]
      refine hr i hi ?_
      cases h : X i with
      | false => rfl
      | true => simp [insT, h] at hx, fun _ _ _ => rfl⟩
  refine ⟨z, ?_, fun i hi hx => ?_, z2⟩
  · unfold f_X8_reachFrom
    rw [hz, Option.bind_some]
  · have := z1 i hi hx
    rwa [if_pos hi] at this
theorem c_near {w : Nat → Nat → Nat} (hw : WtC w) {M : Mem} {X : Nat → Bool} {r : Nat} (hr : r < 64) (hm : ∀ i, i < 6 → r.testBit i = true → M 119 i = wI (rmN w X i)) : ∃ v, f_X8_nearest (nI r) M = some v ∧ ((v = -1 ∧ ∀ i, i < 6 → r.testBit i = true → rmN w X i = 100000) ∨ ∃ b, b < 6 ∧ v = nI b ∧ r.testBit b = true ∧ rmN w X b < 100 ∧ ∀ i, i < 6 → r.testBit i = true → rmN w X b ≤ rmN w X i) := by
  obtain ⟨z, hz, z1⟩ := it_inv (b := f_X8_nearest_b4 (nI r) M) (fun n S => ∃ v, S = (v, nI n) ∧ ((v = -1 ∧ ∀ i, i < n → r.testBit i = true → rmN w X i = 100000) ∨ ∃ b, b < 6 ∧ v = nI b ∧ r.testBit b = true ∧ rmN w X b < 100 ∧ ∀ i, i < n → r.testBit i = true → rmN w X b ≤ rmN w X i)) 6 (Q := fun v => ((v = -1 ∧ ∀ i, i < 6 → r.testBit i = true → rmN w X i = 100000) ∨ ∃ b, b < 6 ∧ v = nI b ∧ r.testBit b = true ∧ rmN w X b < 100 ∧ ∀ i, i < 6 → r.testBit i = true → rmN w X b ≤ rmN w X i)) (by decide) (by
    rintro n hn S ⟨v, rfl, hv⟩
    have a1 : ¬ (6 : Int32) ≤ nI n := nI_ge (b := 6) hn (by decide)
    have i1 := inb_t (k := n) (n := 6) hn (by decide)
    have i2 := nI_cl (show n < 2 ^ 31 by omega)
    have hbit := (s6_bit r hr n hn).1
    have hrv := rm_v hw X n
    have hop : (if ((jshr (nI r) (nI n)) &&& 1) = 1 then (if inb (nI n) 6 = true then (if M 119 (Int32.toNatClampNeg (nI n)) = (-1) then some false else some true) else none) else some false) = some (decide (r.testBit n = true ∧ rmN w X n < 100)) := by
      simp only [hbit]
      by_cases q : r.testBit n = true
      · rw [if_pos q, if_pos i1, i2, hm n hn q]
        by_cases y : rmN w X n = 100000
        · rw [if_pos ((wI_1 hrv).mpr y), decide_eq_false (fun t => by omega)]
        · rw [if_neg (fun t => y ((wI_1 hrv).mp t)), decide_eq_true ⟨q, by omega⟩]
      · rw [if_neg q, decide_eq_false (fun t => q t.1)]
    by_cases q : r.testBit n = true ∧ rmN w X n < 100
    · have en : M 119 n = nI (rmN w X n) := by
        rw [hm n hn q.1]
        unfold wI
        rw [if_neg (by omega)]
      rcases hv with ⟨rfl, hv⟩ | ⟨b, b1, rfl, b2, b3, b4⟩
      · refine ⟨(nI n, nI (n + 1)), ?_, nI n, rfl, .inr ⟨n, hn, rfl, q.1, q.2, fun i hi hb => ?_⟩⟩
        · simp only [f_X8_nearest_b4]
          rw [if_neg a1, hop, Option.bind_some, decide_eq_true q, if_pos rfl, if_pos True.intro, Option.bind_some, nI_1]
        · by_cases y : i = n
          · rw [y]; exact Nat.le_refl _
          · rw [hv i (by omega) hb]
            omega
      · have j1 := inb_t (k := b) (n := 6) b1 (by decide)
        have j2 := nI_cl (show b < 2 ^ 31 by omega)
        have eb : M 119 b = nI (rmN w X b) := by
          rw [hm b b1 b2]
          unfold wI
          rw [if_neg (by omega)]
        have st : f_X8_nearest_b4 (nI r) M (nI b, nI n) = if rmN w X b ≤ rmN w X n then some (.inl (nI b, nI (n + 1))) else some (.inl (nI n, nI (n + 1))) := by
          simp only [f_X8_nearest_b4]
          rw [if_neg a1, hop, Option.bind_some, decide_eq_true q, if_pos rfl, if_neg (nI_m1 (by omega)), if_pos i1, if_pos j1, j2, i2, eb, en, nI_1]
          by_cases y : rmN w X b ≤ rmN w X n
          · rw [if_pos y, if_pos (nI_le y (by omega))]; rfl
          · rw [if_neg y, if_neg (nI_ge (by omega) (by omega))]; rfl
        by_cases y : rmN w X b ≤ rmN w X n
        · refine ⟨_, by rw [st, if_pos y], _, rfl, .inr ⟨b, b1, rfl, b2, b3, fun i hi hb => ?_⟩⟩
          by_cases t : i = n
          · rw [t]; exact y
          · exact b4 i (by omega) hb
        · refine ⟨_, by rw [st, if_neg y], _, rfl, .inr ⟨n, hn, rfl, q.1, q.2, fun i hi hb => ?_⟩⟩
          by_cases t : i = n
          · rw [t]; exact Nat.le_refl _
          · have := b4 i (by omega) hb
            omega
    · refine ⟨(v, nI (n + 1)), ?_, v, rfl, ?_⟩
      · simp only [f_X8_nearest_b4]
        rw [if_neg a1, hop, Option.bind_some, decide_eq_false q, if_neg Bool.false_ne_true, Option.bind_some, nI_1]
      · have hbig : ∀ i, i = n → r.testBit i = true → rmN w X i = 100000 := fun i e hb => by
          subst e
          rcases hrv with t | t
          · exact absurd ⟨hb, t⟩ q
          · exact t
        rcases hv with ⟨rfl, hv⟩ | ⟨b, b1, rfl, b2, b3, b4⟩
        · refine .inl ⟨rfl, fun i hi hb => ?_⟩
          by_cases t : i = n
          · exact hbig i t hb
          · exact hv i (by omega) hb
        · refine .inr ⟨b, b1, rfl, b2, b3, fun i hi hb => ?_⟩
          by_cases t : i = n
          · rw [hbig i t hb]; omega
          · exact b4 i (by omega) hb) (by
    rintro S ⟨v, rfl, hv⟩
    have a1 : (6 : Int32) ≤ nI 6 := by decide
    exact ⟨v, by simp only [f_X8_nearest_b4, a1, if_true], hv⟩) (s0 := (-1, 0)) ⟨-1, rfl, .inl ⟨rfl, fun i hi => absurd hi (Nat.not_lt_zero i)⟩⟩
  refine ⟨z, ?_, z1⟩
  unfold f_X8_nearest
  rw [hz, Option.bind_some]
