/-! trees: grown from one land by the cheapest step, whatever the choice among like ones, they cost the same -/
def ClT (w : Nat → Nat → Nat) (S : Nat → Bool) (t : Nat) (X : Nat → Bool) : Prop := ∀ a b, a < 6 → b < 6 → S a = true → S b = true → X a = true → w a b ≤ t → X b = true
def RcT (w : Nat → Nat → Nat) (S : Nat → Bool) (t i j : Nat) : Prop := ∀ X, ClT w S t X → X i = true → X j = true
noncomputable def btT (w : Nat → Nat → Nat) (S : Nat → Bool) (i j : Nat) : Nat := Classical.choose (pk_least (fun t => RcT w S t i j ∨ t = 100000) ⟨100000, .inr rfl⟩)
theorem bt_sp (w : Nat → Nat → Nat) (S : Nat → Bool) (i j : Nat) : (RcT w S (btT w S i j) i j ∨ btT w S i j = 100000) ∧ ∀ t, t < btT w S i j → ¬ (RcT w S t i j ∨ t = 100000) := Classical.choose_spec (pk_least (fun t => RcT w S t i j ∨ t = 100000) ⟨100000, .inr rfl⟩)
theorem bt_nv (w : Nat → Nat → Nat) (S : Nat → Bool) (i j : Nat) : btT w S i j ≤ 100000 := by
  rcases Nat.lt_or_ge 100000 (btT w S i j) with h | h
  · exact absurd (.inr rfl) ((bt_sp w S i j).2 _ h)
  · exact h
theorem bt_le {w : Nat → Nat → Nat} {S : Nat → Bool} {t i j : Nat} (h : RcT w S t i j) : btT w S i j ≤ t := by
  rcases Nat.lt_or_ge t (btT w S i j) with g | g
  · exact absurd (.inl h) ((bt_sp w S i j).2 _ g)
  · exact g
theorem rc_mono {w : Nat → Nat → Nat} {S : Nat → Bool} {t t2 i j : Nat} (h : RcT w S t i j) (ht : t ≤ t2) : RcT w S t2 i j := fun X hX hi => h X (fun a b h1 h2 h3 h4 h5 h6 => hX a b h1 h2 h3 h4 h5 (Nat.le_trans h6 ht)) hi
theorem rc_w {w : Nat → Nat → Nat} {S : Nat → Bool} {i j : Nat} (hi : i < 6) (hj : j < 6) (si : S i = true) (sj : S j = true) : RcT w S (w i j) i j := fun X hX h => hX i j hi hj si sj h (Nat.le_refl _)
theorem bt_w {w : Nat → Nat → Nat} {S : Nat → Bool} {i j : Nat} (hi : i < 6) (hj : j < 6) (si : S i = true) (sj : S j = true) : btT w S i j ≤ w i j := bt_le (rc_w hi hj si sj)
theorem bt_r {w : Nat → Nat → Nat} {S : Nat → Bool} {i j : Nat} (hw : ∀ a b, w a b ≤ 100000) (hi : i < 6) (hj : j < 6) (si : S i = true) (sj : S j = true) : RcT w S (btT w S i j) i j := by
  rcases (bt_sp w S i j).1 with h | h
  · exact h
  · rw [h]
    exact rc_mono (rc_w hi hj si sj) (hw i j)
theorem bt_u {w : Nat → Nat → Nat} {S : Nat → Bool} (hw : ∀ a b, w a b ≤ 100000) {i j k : Nat} (hi : i < 6) (hj : j < 6) (hk : k < 6) (si : S i = true) (sj : S j = true) (sk : S k = true) : btT w S i k ≤ max (btT w S i j) (btT w S j k) := by
  refine bt_le fun X hX h => ?_
  have h1 := rc_mono (bt_r hw hi hj si sj) (Nat.le_max_left (btT w S i j) (btT w S j k)) X hX h
  exact rc_mono (bt_r hw hj hk sj sk) (Nat.le_max_right (btT w S i j) (btT w S j k)) X hX h1
theorem rc_sym {w : Nat → Nat → Nat} {S : Nat → Bool} (hs : ∀ a b, w a b = w b a) {t i j : Nat} (h : RcT w S t i j) : RcT w S t j i := by
  intro X hX hj
  cases hx : X i with
  | true => rfl
  | false =>
    have hc : ClT w S t (fun a => !X a) := by
      intro a b ha hb sa sb xa hw
      cases hb2 : X b with
      | false => simp [hb2]
      | true =>
        have := hX b a hb ha sb sa hb2 (by rw [hs]; exact hw)
        simp [this] at xa
    have := h _ hc (by simp [hx])
    simp [hj] at this
theorem bt_s {w : Nat → Nat → Nat} {S : Nat → Bool} (hw : ∀ a b, w a b ≤ 100000) (hs : ∀ a b, w a b = w b a) {i j : Nat} (hi : i < 6) (hj : j < 6) (si : S i = true) (sj : S j = true) : btT w S i j = btT w S j i := Nat.le_antisymm (bt_le (rc_sym hs (bt_r hw hj hi sj si))) (bt_le (rc_sym hs (bt_r hw hi hj si sj)))
theorem bt_cut {w : Nat → Nat → Nat} {S X : Nat → Bool} {m i j : Nat} (hm : m ≤ 100000) (hc : ∀ a b, a < 6 → b < 6 → S a = true → S b = true → X a = true → X b = false → m ≤ w a b) (xi : X i = true) (xj : X j = false) : m ≤ btT w S i j := by
  rcases Nat.lt_or_ge (btT w S i j) m with h | h
  · rcases (bt_sp w S i j).1 with g | g
    · have := g X (fun a b h1 h2 h3 h4 h5 h6 => by
        cases hb : X b with
        | true => rfl
        | false =>
          have := hc a b h1 h2 h3 h4 h5 hb
          omega) xi
      rw [xj] at this
      cases this
    · omega
  · exact h
/-- the least such step from X to c -/
noncomputable def DT (w : Nat → Nat → Nat) (S X : Nat → Bool) (c : Nat) : Nat := mn (fun a => if X a = true then btT w S a c else 100000) 100000 6
def insT (X : Nat → Bool) (k : Nat) : Nat → Bool := fun a => X a || decide (a = k)
theorem DT_sp (w : Nat → Nat → Nat) (S X : Nat → Bool) (c : Nat) : DT w S X c ≤ 100000 ∧ (DT w S X c = 100000 ∨ ∃ a, a < 6 ∧ X a = true ∧ DT w S X c = btT w S a c) ∧ ∀ a, a < 6 → X a = true → DT w S X c ≤ btT w S a c := by
  obtain ⟨h1, h2, h3⟩ := mn_l (fun a => if X a = true then btT w S a c else 100000) 100000 6
  refine ⟨h1, ?_, fun a ha xa => ?_⟩
  · rcases h2 with h2 | ⟨a, ha, h2⟩
    · exact .inl h2
    · by_cases q : X a = true
      · refine .inr ⟨a, ha, q, ?_⟩
        have : (if X a = true then btT w S a c else 100000) = btT w S a c := if_pos q
        rw [← this]
        exact h2
      · refine .inl ?_
        have : (if X a = true then btT w S a c else 100000) = 100000 := if_neg q
        rw [← this]
        exact h2
  · have := h3 a ha
    have e : (if X a = true then btT w S a c else 100000) = btT w S a c := if_pos xa
    rw [← e]
    exact this
theorem DT_ins (w : Nat → Nat → Nat) (S X : Nat → Bool) {k : Nat} (hk : k < 6) (c : Nat) : DT w S (insT X k) c = min (DT w S X c) (btT w S k c) := by
  obtain ⟨a1, a2, a3⟩ := DT_sp w S (insT X k) c
  obtain ⟨b1, b2, b3⟩ := DT_sp w S X c
  have hn := bt_nv w S k c
  have k1 : DT w S (insT X k) c ≤ btT w S k c := a3 k hk (by simp [insT])
  have k2 : DT w S (insT X k) c ≤ DT w S X c := by
    rcases b2 with b2 | ⟨a, ha, xa, b2⟩
    · omega
    · rw [b2]
      exact a3 a ha (by simp [insT, xa])
  have k3 : min (DT w S X c) (btT w S k c) ≤ DT w S (insT X k) c := by
    rcases a2 with a2 | ⟨a, ha, xa, a2⟩
    · omega
    · rw [a2]
      by_cases q : a = k
      · rw [q]; exact Nat.min_le_right _ _
      · have : X a = true := by simpa [insT, q] using xa
        exact Nat.le_trans (Nat.min_le_left _ _) (b3 a ha this)
  omega
theorem DT_swap {w : Nat → Nat → Nat} {S X : Nat → Bool} (hw : ∀ a b, w a b ≤ 100000) (hs : ∀ a b, w a b = w b a) {b k : Nat} (hb : b < 6) (hk : k < 6) (sb : S b = true) (sk : S k = true) (hX : ∀ a, X a = true → S a = true) : DT w S X k + DT w S (insT X k) b = DT w S X b + DT w S (insT X b) k := by
  rw [DT_ins w S X hk b, DT_ins w S X hb k, bt_s hw hs hb hk sb sk]
  have key : ∀ p q, p < 6 → q < 6 → S p = true → S q = true → DT w S X p < DT w S X q → DT w S X q ≤ btT w S p q := by
    intro p q hp hq sp sq hlt
    obtain ⟨-, a2, -⟩ := DT_sp w S X p
    obtain ⟨b1, -, b3⟩ := DT_sp w S X q
    rcases a2 with a2 | ⟨a, ha, xa, a2⟩
    · omega
    · have h1 := b3 a ha xa
      have h2 := bt_u hw ha hp hq (hX a xa) sp sq
      omega
  rcases Nat.lt_trichotomy (DT w S X k) (DT w S X b) with h | h | h
  · have := key k b hk hb sk sb h
    omega
  · omega
  · have := key b k hb hk sb sk h
    rw [bt_s hw hs hb hk sb sk] at this
    omega
def JLT (S J : Nat → Bool) (c : Nat) : Nat → Bool := fun a => J a || (S a && decide (a < c))
noncomputable def tjT (w : Nat → Nat → Nat) (S J : Nat → Bool) (c : Nat) : Nat := if (S c && !J c) = true then DT w S (JLT S J c) c else 0
/-- what is still to be paid once the lands of J are joined -/
noncomputable def TTT (w : Nat → Nat → Nat) (S J : Nat → Bool) : Nat := sm (tjT w S J) 6
theorem TTT_step {w : Nat → Nat → Nat} {S J : Nat → Bool} (hw : ∀ a b, w a b ≤ 100000) (hs : ∀ a b, w a b = w b a) (hJ : ∀ a, J a = true → S a = true) {b : Nat} (hb : b < 6) (sb : S b = true) (jb : J b = false) : TTT w S J = DT w S J b + TTT w S (insT J b) := by
  have p1 : ∀ k, k ≤ b → sm (tjT w S J) k + DT w S (JLT S J k) b = DT w S J b + sm (tjT w S (insT J b)) k := by
    intro k
    induction k with
    | zero =>
      intro _
      have : JLT S J 0 = J := by
        funext a
        simp [JLT]
      rw [this]
      show 0 + _ = _ + 0
      omega
    | succ k ih =>
      intro hk
      have ih := ih (by omega)
      show sm (tjT w S J) k + tjT w S J k + DT w S (JLT S J (k + 1)) b = DT w S J b + (sm (tjT w S (insT J b)) k + tjT w S (insT J b) k)
      have hkb : k ≠ b := by omega
      cases hc : (S k && !J k) with
      | true =>
        rw [Bool.and_eq_true, Bool.not_eq_true'] at hc
        have e1 : tjT w S J k = DT w S (JLT S J k) k := by
          unfold tjT
          rw [if_pos (by rw [hc.1, hc.2]; rfl)]
        have e2 : JLT S J (k + 1) = insT (JLT S J k) k := by
          funext a
          unfold JLT insT
          by_cases y : a = k
          · subst y
            simp [hc.1]
          · have : decide (a < k + 1) = decide (a < k) := decide_eq_decide.mpr (by omega)
            rw [this, decide_eq_false y]
            simp
        have e3 : tjT w S (insT J b) k = DT w S (insT (JLT S J k) b) k := by
          unfold tjT
          have : (S k && !insT J b k) = true := by
            simp [insT, hc.1, hc.2, hkb]
          rw [if_pos this]
          congr 1
          funext a
          unfold JLT insT
          show ((J a || decide (a = b)) || (S a && decide (a < k))) = ((J a || (S a && decide (a < k))) || decide (a = b))
          cases J a <;> cases S a <;> cases decide (a < k) <;> cases decide (a = b) <;> rfl
        have sw := DT_swap (X := JLT S J k) hw hs hb (show k < 6 by omega) sb hc.1 (fun a ha => by
          unfold JLT at ha
          rw [Bool.or_eq_true, Bool.and_eq_true] at ha
          rcases ha with ha | ha
          · exact hJ a ha
          · exact ha.1)
        rw [e1, e2, e3]
        omega
      | false =>
        have e1 : tjT w S J k = 0 := by
          unfold tjT
          rw [if_neg (by rw [hc]; exact Bool.false_ne_true)]
        have hc2 : S k = false ∨ J k = true := by
          cases h1 : S k <;> cases h2 : J k <;> simp [h1, h2] at hc ⊢
        have e2 : JLT S J (k + 1) = JLT S J k := by
          funext a
          unfold JLT
          by_cases y : a = k
          · subst y
            rcases hc2 with h | h <;> simp [h]
          · have : decide (a < k + 1) = decide (a < k) := decide_eq_decide.mpr (by omega)
            rw [this]
        have e3 : tjT w S (insT J b) k = 0 := by
          unfold tjT
          have : ¬ (S k && !insT J b k) = true := by
            rcases hc2 with h | h <;> simp [insT, h]
          rw [if_neg this]
        rw [e1, e2, e3]
        omega
  have p2 : sm (tjT w S J) (b + 1) = DT w S J b + sm (tjT w S (insT J b)) (b + 1) := by
    have h := p1 b (Nat.le_refl _)
    have e1 : tjT w S J b = DT w S (JLT S J b) b := by
      unfold tjT
      rw [if_pos (by rw [sb, jb]; rfl)]
    have e3 : tjT w S (insT J b) b = 0 := by
      unfold tjT
      have : ¬ (S b && !insT J b b) = true := by simp [insT]
      rw [if_neg this]
    show sm (tjT w S J) b + tjT w S J b = DT w S J b + (sm (tjT w S (insT J b)) b + tjT w S (insT J b) b)
    rw [e1, e3]
    omega
  have p3 : ∀ j, sm (tjT w S J) (b + 1 + j) = DT w S J b + sm (tjT w S (insT J b)) (b + 1 + j) := by
    intro j
    induction j with
    | zero => exact p2
    | succ j ih =>
      show sm (tjT w S J) (b + 1 + j) + tjT w S J (b + 1 + j) = DT w S J b + (sm (tjT w S (insT J b)) (b + 1 + j) + tjT w S (insT J b) (b + 1 + j))
      have e : tjT w S (insT J b) (b + 1 + j) = tjT w S J (b + 1 + j) := by
        unfold tjT
        have n1 : insT J b (b + 1 + j) = J (b + 1 + j) := by
          have : ¬ b + 1 + j = b := by omega
          simp [insT, this]
        have n2 : JLT S (insT J b) (b + 1 + j) = JLT S J (b + 1 + j) := by
          funext a
          unfold JLT insT
          by_cases y : a = b
          · subst y
            have : decide (a < a + 1 + j) = true := decide_eq_true (by omega)
            rw [this, sb]
            simp
          · rw [decide_eq_false y]
            simp
        rw [n1, n2]
      rw [e]
      omega
  have := p3 (6 - (b + 1))
  rw [show b + 1 + (6 - (b + 1)) = 6 by omega] at this
  exact this
theorem TTT_end {w : Nat → Nat → Nat} {S J : Nat → Bool} (h : ∀ a, a < 6 → S a = true → J a = true) : TTT w S J = 0 := by
  refine sm_zero 6 fun c hc => ?_
  unfold tjT
  rw [if_neg]
  intro y
  rw [Bool.and_eq_true, Bool.not_eq_true'] at y
  rw [h c hc y.1] at y
  cases y.2
theorem DT_min {w : Nat → Nat → Nat} {S J : Nat → Bool} {a b m : Nat} (hJ : ∀ a, J a = true → S a = true) (ha : a < 6) (hb : b < 6) (ja : J a = true) (sb : S b = true) (jb : J b = false) (hm : m ≤ 100000) (e : w a b = m) (hc : ∀ a b, a < 6 → b < 6 → J a = true → S b = true → J b = false → m ≤ w a b) : DT w S J b = m := by
  obtain ⟨h1, h2, h3⟩ := DT_sp w S J b
  apply Nat.le_antisymm
  · have := h3 a ha ja
    have := bt_w (w := w) (S := S) ha hb (hJ a ja) sb
    omega
  · rcases h2 with h2 | ⟨x, hx, jx, h2⟩
    · omega
    · rw [h2]
      exact bt_cut (X := J) hm (fun p q hp hq sp sq jp jq => hc p q hp hq jp sq jq) jx jb
/-- one step of growing, by any cheapest crossing -/
theorem TTT_grow {w : Nat → Nat → Nat} {S J : Nat → Bool} (hw : ∀ a b, w a b ≤ 100000) (hs : ∀ a b, w a b = w b a) (hJ : ∀ a, J a = true → S a = true) {a b m : Nat} (ha : a < 6) (hb : b < 6) (ja : J a = true) (sb : S b = true) (jb : J b = false) (e : w a b = m) (hc : ∀ a b, a < 6 → b < 6 → J a = true → S b = true → J b = false → m ≤ w a b) : TTT w S J = m + TTT w S (insT J b) := by
  rw [TTT_step hw hs hJ hb sb jb, DT_min hJ ha hb ja sb jb (by rw [← e]; exact hw a b) e hc]
