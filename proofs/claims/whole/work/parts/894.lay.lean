/-- no cell of b leaves the rows, of the first k -/
def flB (own : Nat → Int32) (b s : Nat) : Nat → Bool
  | 0 => true
  | k + 1 => flB own b s k && (!decide (own k = nI b) || decide (7 ≤ k / 16 + s ∧ k / 16 + s < 15))
theorem flB_iff (own : Nat → Int32) (b s : Nat) : ∀ n, flB own b s n = true ↔ ∀ k, k < n → own k = nI b → 7 ≤ k / 16 + s ∧ k / 16 + s < 15
  | 0 => ⟨fun _ k hk => absurd hk (Nat.not_lt_zero k), fun _ => rfl⟩
  | n + 1 => by
    have ih := flB_iff own b s n
    show (flB own b s n && (!decide (own n = nI b) || decide (7 ≤ n / 16 + s ∧ n / 16 + s < 15))) = true ↔ _
    rw [Bool.and_eq_true, ih, Bool.or_eq_true, Bool.not_eq_true', decide_eq_false_iff_not, decide_eq_true_eq]
    constructor
    · rintro ⟨h1, h2⟩ k hk e
      by_cases q : k = n
      · subst q; exact h2.resolve_left (fun w => w e)
      · exact h1 k (by omega) e
    · intro h
      refine ⟨fun k hk => h k (by omega), ?_⟩
      by_cases q : own n = nI b
      · exact .inr (h n (by omega) q)
      · exact .inl q
theorem lk_in : ∀ q, q < 8 → ∀ s, s < 15 → isN (nI q + (nI s - 7)) 8 = decide (7 ≤ q + s ∧ q + s < 15) := by decide +kernel
theorem lk_ad : ∀ q, q < 8 → ∀ s, s < 15 → 7 ≤ q + s → q + s < 15 → nI q + (nI s - 7) = nI (q + s - 7) := by decide +kernel
theorem c_stays {M : Mem} (hC : IvC M) {b s : Nat} (hb : b < 6) (hs : s < 15) : f_X2_staysInRows (nI b) (nI s - 7) M = some (flB (M 2) b s 128) := by
  have stepC : ∀ r, r < 8 → (mkN (M 2) b r = 0 ∨ (7 ≤ r + s ∧ r + s < 15)) → f_X2_staysInRows_b2 (nI b) (nI s - 7) M (nI r) = some (.inl (nI (r + 1))) := by
    intro r hr h
    have a1 : ¬ (8 : Int32) ≤ nI r := nI_ge (b := 8) hr (by decide)
    have z : nI 0 = 0 := rfl
    by_cases q : mkN (M 2) b r = 0
    · simp only [f_X2_staysInRows_b2, a1, if_false, hC.mask hb hr, Option.bind_some, q, z, if_true, nI_1]
    · have q' : ¬ nI (mkN (M 2) b r) = 0 := nI_ne0 (by omega) (by have := mk_lt (M 2) b r; omega)
      have h2 : isN (nI r + (nI s - 7)) 8 = true := by rw [lk_in r hr s hs]; exact decide_eq_true (h.resolve_left q)
      simp only [f_X2_staysInRows_b2, a1, if_false, hC.mask hb hr, Option.bind_some, q', wi_8, h2, if_true, nI_1]
  rcases fst_of (fun r => mkN (M 2) b r ≠ 0 ∧ ¬ (7 ≤ r + s ∧ r + s < 15)) 8 with ⟨N, hN, h1, h2⟩ | hall
  · have hf : flB (M 2) b s 128 = false := by
      obtain ⟨c, hc⟩ := nz_bit h1.1
      rw [mk_bit, decide_eq_true_eq] at hc
      cases hq : flB (M 2) b s 128 with
      | false => rfl
      | true =>
        have := (flB_iff (M 2) b s 128).mp hq (16 * N + c) (by omega) hc.2
        rw [show (16 * N + c) / 16 = N by omega] at this
        exact absurd this h1.2
    have hit := it_N (b := f_X2_staysInRows_b2 (nI b) (nI s - 7) M) (r := .inr false) (fun i => nI i) N (by omega) (fun i hi => stepC i (by omega) (by
      by_cases q : mkN (M 2) b i = 0
      · exact .inl q
      · exact .inr (Decidable.of_not_not fun w => h2 i hi ⟨q, w⟩))) (by
      have a1 : ¬ (8 : Int32) ≤ nI N := nI_ge (b := 8) hN (by decide)
      have q' : ¬ nI (mkN (M 2) b N) = 0 := nI_ne0 (by have := h1.1; omega) (by have := mk_lt (M 2) b N; omega)
      have h2 : isN (nI N + (nI s - 7)) 8 = false := by rw [lk_in N hN s hs]; exact decide_eq_false h1.2
      simp only [f_X2_staysInRows_b2, a1, if_false, hC.mask hb hN, Option.bind_some, q', wi_8, h2, Bool.false_eq_true]) (s0 := 0) rfl
    simp [f_X2_staysInRows, hit, hf]
  · have hf : flB (M 2) b s 128 = true := by
      rw [flB_iff]
      intro k hk e
      have hb2 : (mkN (M 2) b (k / 16)).testBit (k % 16) = true := by
        rw [mk_bit, show 16 * (k / 16) + k % 16 = k by omega]
        simp [e, Nat.mod_lt]
      refine Decidable.of_not_not fun w => hall (k / 16) (by omega) ⟨fun z => ?_, w⟩
      rw [z, Nat.zero_testBit] at hb2
      cases hb2
    have hit := it_N (b := f_X2_staysInRows_b2 (nI b) (nI s - 7) M) (r := .inl ()) (fun i => nI i) 8 (by omega) (fun i hi => stepC i hi (by
      by_cases q : mkN (M 2) b i = 0
      · exact .inl q
      · exact .inr (Decidable.of_not_not fun w => hall i hi ⟨q, w⟩))) (by
      have a1 : (8 : Int32) ≤ nI 8 := by decide
      simp only [f_X2_staysInRows_b2, a1, if_true]) (s0 := 0) rfl
    simp [f_X2_staysInRows, hit, hf]
/-- the reference's picture of two lands -/
def LPn (M : Mem) (own : Nat → Int32) (a b s v : Nat) : Prop := ∀ c, c < 128 → M 137 c = nI (bN ((mkN own a (c / 16)).testBit (c % 16)) + 2 * bN ((mvN own b s v (c / 16)).testBit (c % 16)))
theorem bI_N (b : Bool) : bI b = nI (bN b) := by cases b <;> rfl
theorem ite_sb (c : Bool) : (if c = true then some true else some false) = some c := by cases c <;> rfl
def lqB (own : Nat → Int32) (b s v k c : Nat) : Bool := decide ((s ≤ c / 16 + 7 ∧ c / 16 + 7 - s < 8) ∧ 16 * (c / 16 + 7 - s) + (c % 16 + (16 - v)) % 16 < k ∧ own (16 * (c / 16 + 7 - s) + (c % 16 + (16 - v)) % 16) = nI b)
theorem or2 : ∀ x : Bool, nI (bN x + 2 * bN false) ||| 2 = nI (bN x + 2 * bN true) := by decide
theorem m_lay {M : Mem} {own : Nat → Int32} (ho : ∀ c, c < 128 → M 133 c = own c) {a b s v : Nat} (hs : s < 15) (hv : v < 16) : ∃ M1, f_X12_lay (nI a) (nI b) (nI s - 7) (nI v) M = some (flB own b s 128, M1) ∧ LPn M1 own a b s v ∧ ∀ p k, p ≠ 137 → M1 p k = M p k := by
  obtain ⟨M1, hz1, y1, y2⟩ := it_inv (b := f_X12_lay_b6 (nI a)) (fun k S => S.1 = nI k ∧ (∀ c, c < k → S.2 137 c = nI (bN (decide (own c = nI a)))) ∧ ∀ p j, p ≠ 137 → S.2 p j = M p j) 128 (Q := fun Z => (∀ c, c < 128 → Z 137 c = nI (bN (decide (own c = nI a)))) ∧ ∀ p j, p ≠ 137 → Z p j = M p j) (by decide) (by
    rintro k hk ⟨x, Mi⟩ ⟨h1, h2, h3⟩
    simp only at h1 h2 h3
    subst h1
    have a1 : ¬ (128 : Int32) ≤ nI k := nI_ge (b := 128) hk (by decide)
    have q1 := inb_t (k := k) (n := 128) hk (by decide)
    have q2 := nI_cl (show k < 2 ^ 31 by omega)
    have o : Mi 133 k = own k := (h3 133 k (by decide)).trans (ho k hk)
    refine ⟨(nI (k + 1), up Mi 137 k (nI (bN (decide (own k = nI a))))), ?_, rfl, fun c hc => ?_, fun p j hp => ?_⟩
    · simp only [f_X12_lay_b6, a1, if_false, q1, if_true, q2, o, nI_1]
      by_cases w : own k = nI a
      · simp [w, bI_N]
      · simp [w, bI_N]
    · show up Mi 137 k _ 137 c = _
      rw [up_at]
      by_cases w : c = k
      · rw [if_pos ⟨rfl, w⟩, w]
      · rw [if_neg (fun y => w y.2)]; exact h2 c (by omega)
    · show up Mi 137 k _ p j = _
      rw [up_at, if_neg (fun y => hp y.1)]; exact h3 p j hp) (by
    rintro ⟨x, Mi⟩ ⟨h1, h2, h3⟩
    simp only at h1 h2 h3
    subst h1
    have a1 : (128 : Int32) ≤ nI 128 := by decide
    exact ⟨Mi, by simp only [f_X12_lay_b6, a1, if_true], h2, h3⟩) (s0 := (0, M)) ⟨rfl, fun c hc => absurd hc (Nat.not_lt_zero c), fun _ _ _ => rfl⟩
  obtain ⟨z, hz, z1, z2, z3⟩ := it_inv (b := f_X12_lay_b46 (nI b) (nI s - 7) (nI v)) (fun k S => S.1 = flB own b s k ∧ S.2.1 = nI k ∧ (∀ c, c < 128 → S.2.2 137 c = nI (bN (decide (own c = nI a)) + 2 * bN (lqB own b s v k c))) ∧ ∀ p j, p ≠ 137 → S.2.2 p j = M p j) 128 (Q := fun Z => Z.1 = flB own b s 128 ∧ (∀ c, c < 128 → Z.2 137 c = nI (bN (decide (own c = nI a)) + 2 * bN (lqB own b s v 128 c))) ∧ ∀ p j, p ≠ 137 → Z.2 p j = M p j) (by decide) (by
    rintro k hk ⟨x, y, Mi⟩ ⟨h1, h2, h3, h4⟩
    simp only at h1 h2 h3 h4
    subst h1 h2
    have a1 : ¬ (128 : Int32) ≤ nI k := nI_ge (b := 128) hk (by decide)
    have q1 := inb_t (k := k) (n := 128) hk (by decide)
    have q2 := nI_cl (show k < 2 ^ 31 by omega)
    have o : Mi 133 k = own k := (h4 133 k (by decide)).trans (ho k hk)
    have e1 : nI k / 16 = nI (k / 16) := pk_div (d := 16) (by omega) (by decide) (by decide)
    have e2 : jrem (nI k) 16 = nI (k % 16) := jrem_nI (d := 16) (by omega) (by decide) (by decide)
    have ef : flB own b s (k + 1) = (flB own b s k && (!decide (own k = nI b) || decide (7 ≤ k / 16 + s ∧ k / 16 + s < 15))) := rfl
    have hin := lk_in (k / 16) (by omega) s hs
    by_cases w : own k = nI b
    · by_cases w2 : 7 ≤ k / 16 + s ∧ k / 16 + s < 15
      · have e3 := lk_ad (k / 16) (by omega) s hs w2.1 w2.2
        have hin2 : isN (nI (k / 16 + s - 7)) 8 = true := by rw [← e3, hin]; exact decide_eq_true w2
        have ef2 : flB own b s (k + 1) = flB own b s k := by rw [ef, decide_eq_true w, decide_eq_true w2]; simp
        obtain ⟨t, ht⟩ : ∃ t, t = 16 * (k / 16 + s - 7) + (k % 16 + v) % 16 := ⟨_, rfl⟩
        have t1 : t < 128 := by omega
        have e4 : 16 * nI (k / 16 + s - 7) + jrem (nI (k % 16) + nI v) 16 = nI t := by
          have g1 : 16 * nI (k / 16 + s - 7) = nI (16 * (k / 16 + s - 7)) := pk_mul 16 _
          have g2 : jrem (nI (k % 16 + v)) 16 = nI ((k % 16 + v) % 16) := jrem_nI (d := 16) (by omega) (by decide) (by decide)
          rw [g1, nI_add, g2, nI_add, ht]
        have p1 := inb_t (k := t) (n := 128) t1 (by decide)
        have p2 := nI_cl (show t < 2 ^ 31 by omega)
        have l0 : lqB own b s v k t = false := by
          refine decide_eq_false fun ⟨y1, y2, y3⟩ => ?_
          omega
        have l1 : lqB own b s v (k + 1) t = true := by
          refine decide_eq_true ⟨by omega, by omega, ?_⟩
          rw [show 16 * (t / 16 + 7 - s) + (t % 16 + (16 - v)) % 16 = k by omega]
          exact w
        refine ⟨(flB own b s k, nI (k + 1), up Mi 137 t (Mi 137 t ||| 2)), ?_, ef2.symm, rfl, fun c hc => ?_, fun p j hp => ?_⟩
        · simp only [f_X12_lay_b46, a1, if_false, q1, if_true, q2, o, w, e1, e2, e3, wn_8, hin2, Option.bind_some, ite_sb, e4, p1, p2, nI_1]
        · show up Mi 137 t _ 137 c = _
          rw [up_at]
          by_cases y : c = t
          · subst y
            rw [if_pos ⟨rfl, rfl⟩, h3 c hc, l0, l1]
            exact or2 _
          · rw [if_neg (fun u => y u.2), h3 c hc]
            have : lqB own b s v (k + 1) c = lqB own b s v k c := by
              refine decide_eq_decide.mpr ⟨fun ⟨u1, u2, u3⟩ => ⟨u1, by omega, u3⟩, fun ⟨u1, u2, u3⟩ => ⟨u1, by omega, u3⟩⟩
            rw [this]
        · show up Mi 137 t _ p j = _
          rw [up_at, if_neg (fun u => hp u.1)]; exact h4 p j hp
      · have hin2 : isN (nI (k / 16) + (nI s - 7)) 8 = false := by rw [hin]; exact decide_eq_false w2
        have ef2 : flB own b s (k + 1) = false := by rw [ef, decide_eq_true w, decide_eq_false w2]; simp
        refine ⟨(false, nI (k + 1), Mi), ?_, ef2.symm, rfl, fun c hc => ?_, h4⟩
        · simp only [f_X12_lay_b46, a1, if_false, q1, if_true, q2, o, w, e1, e2, wn_8, hin2, Option.bind_some, ite_self, Bool.false_eq_true, nI_1]
        · show Mi 137 c = _
          rw [h3 c hc]
          have : lqB own b s v (k + 1) c = lqB own b s v k c := by
            refine decide_eq_decide.mpr ⟨fun ⟨u1, u2, u3⟩ => ⟨u1, by omega, u3⟩, fun ⟨u1, u2, u3⟩ => ⟨u1, by omega, u3⟩⟩
          rw [this]
    · have ef2 : flB own b s (k + 1) = flB own b s k := by rw [ef, decide_eq_false w]; simp
      refine ⟨(flB own b s k, nI (k + 1), Mi), ?_, ef2.symm, rfl, fun c hc => ?_, h4⟩
      · simp only [f_X12_lay_b46, a1, if_false, q1, if_true, q2, o, w, Option.bind_some, nI_1]
      · show Mi 137 c = _
        rw [h3 c hc]
        have : lqB own b s v (k + 1) c = lqB own b s v k c := by
          refine decide_eq_decide.mpr ⟨fun ⟨u1, u2, u3⟩ => ⟨u1, ?_, u3⟩, fun ⟨u1, u2, u3⟩ => ⟨u1, by omega, u3⟩⟩
          rcases Nat.lt_or_ge (16 * (c / 16 + 7 - s) + (c % 16 + (16 - v)) % 16) k with g | g
          · exact g
          · have : 16 * (c / 16 + 7 - s) + (c % 16 + (16 - v)) % 16 = k := by omega
            rw [this] at u3
            exact absurd u3 w
        rw [this]) (by
    rintro ⟨x, y, Mi⟩ ⟨h1, h2, h3, h4⟩
    simp only at h1 h2 h3 h4
    subst h2
    have a1 : (128 : Int32) ≤ nI 128 := by decide
    exact ⟨(x, Mi), by simp only [f_X12_lay_b46, a1, if_true], h1, h3, h4⟩) (s0 := (true, 0, M1)) ⟨rfl, rfl, fun c hc => by
      show M1 137 c = _
      rw [y1 c hc]
      have : lqB own b s v 0 c = false := decide_eq_false fun ⟨_, u2, _⟩ => Nat.not_lt_zero _ u2
      rw [this]
      rfl, y2⟩
  refine ⟨z.2, ?_, fun c hc => ?_, z3⟩
  · simp only [f_X12_lay, hz1, Option.bind_some, hz, z1]
  · rw [z2 c hc, mk_bit, mv_bit hv (Nat.mod_lt _ (by decide)), show 16 * (c / 16) + c % 16 = c by omega]
    have g1 : decide (c % 16 < 16 ∧ own c = nI a) = decide (own c = nI a) := decide_eq_decide.mpr ⟨fun u => u.2, fun u => ⟨Nat.mod_lt _ (by decide), u⟩⟩
    have g2 : lqB own b s v 128 c = decide ((s ≤ c / 16 + 7 ∧ c / 16 + 7 - s < 8) ∧ own (16 * (c / 16 + 7 - s) + (c % 16 + (16 - v)) % 16) = nI b) := decide_eq_decide.mpr ⟨fun ⟨u1, _, u3⟩ => ⟨u1, u3⟩, fun ⟨u1, u3⟩ => ⟨u1, by omega, u3⟩⟩
    rw [g1, g2]
