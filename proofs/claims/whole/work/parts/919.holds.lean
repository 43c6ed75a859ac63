/-! whether a law's condition holds: the class -/
theorem c_fac {M : Mem} {Q i : Nat} (hi : i < 12) {b : Bool} (hb : M (Q + 4) i = bI b) (d e k : Int32) : f_X4_factorHolds Q (nI i) d e k M = some (fcC M Q d e k i) := by
  have i1 := inb_t (k := i) (n := 12) hi (by decide)
  have i2 := nI_cl (show i < 2 ^ 31 by omega)
  have nl : ∀ x y : Int32, (if y ≤ x then some false else some true) = some (decide (x < y)) := fun x y => by
    by_cases w : x < y
    · rw [if_neg (by rw [nle_lt]; exact w), decide_eq_true w]
    · rw [if_pos (nlt_le.mp w), decide_eq_false w]
  have ne : ∀ x y : Int32, (if x = y then some true else some false) = some (decide (x = y)) := fun x y => by
    by_cases w : x = y
    · rw [if_pos w, decide_eq_true w]
    · rw [if_neg w, decide_eq_false w]
  have nb : ∀ x : Bool, (if bI x = bI b then some false else some true) = some (x != b) := fun x => by
    cases x <;> cases b <;> rfl
  unfold f_X4_factorHolds fcC
  rw [if_pos i1, i2, hb, bI_dec, ite_ss, ite_ss, Option.bind_some]
  simp only [nl, ne, ite_ss, Option.bind_some, nb]
theorem ev_t {opn fac : Nat → Bool} {i : Nat} (h : (evC opn fac i).1 = true) : evC opn fac (i + 1) = evC opn fac i := by
  show (if (evC opn fac i).1 = true then evC opn fac i else _) = _
  rw [if_pos h]
theorem ev_tt {opn fac : Nat → Bool} : ∀ i, (evC opn fac i).1 = true → (evC opn fac i).2 = true
  | 0, h => by cases h
  | i + 1, h => by
    by_cases q : (evC opn fac i).1 = true
    · rw [ev_t q] at h ⊢
      exact ev_tt i h
    · have e : evC opn fac (i + 1) = if opn i = true then (if (decide (0 < i) && (evC opn fac i).2) = true then (true, true) else (false, fac i)) else (false, (evC opn fac i).2 && fac i) := by
        show (if (evC opn fac i).1 = true then evC opn fac i else _) = _
        rw [if_neg q]
      rw [e] at h ⊢
      by_cases q1 : opn i = true
      · rw [if_pos q1] at h ⊢
        by_cases q2 : (decide (0 < i) && (evC opn fac i).2) = true
        · rw [if_pos q2]
        · rw [if_neg q2] at h; cases h
      · rw [if_neg q1] at h; cases h
theorem ev_up {opn fac : Nat → Bool} {i : Nat} (h : (evC opn fac i).1 = true) : ∀ j, evC opn fac (i + j) = evC opn fac i
  | 0 => rfl
  | j + 1 => by
    have ih := ev_up h j
    rw [← ih]
    rw [← ih] at h
    exact ev_t h
theorem c_holdsC {M : Mem} {Q nf : Nat} (hn : nf ≤ 12) (e2 : M Q 2 = nI nf) (hb : ∀ i, i < nf → ∃ b, M (Q + 4) i = bI b) (d e k : Int32) : f_X4_holds Q d e k M = some (evC (opC M Q) (fcC M Q d e k) nf).2 := by
  have j40 : ∀ i, i < nf → ∀ t : Bool, f_X4_holds_j40_0 Q d e k (nI i) M t = some (.inl (t && fcC M Q d e k i, nI (i + 1))) := by
    intro i hi t
    obtain ⟨b, hb'⟩ := hb i hi
    unfold f_X4_holds_j40_0
    rw [c_fac (by omega) hb' d e k, Option.bind_some, ite_sb, nI_1]
    cases t <;> rfl
  have stp0 : ∀ i, i < nf → ¬ (evC (opC M Q) (fcC M Q d e k) i).1 = true → f_X4_holds_b6 Q d e k M ((evC (opC M Q) (fcC M Q d e k) i).2, nI i) = if (evC (opC M Q) (fcC M Q d e k) (i + 1)).1 = true then some (.inr (.inr true)) else some (.inl ((evC (opC M Q) (fcC M Q d e k) (i + 1)).2, nI (i + 1))) := by
    intro i hi hne
    have a1 : ¬ nI nf ≤ nI i := nI_ge hi (by omega)
    have i1 := inb_t (k := i) (n := 12) (by omega) (by decide)
    have i2 := nI_cl (show i < 2 ^ 31 by omega)
    have ee : evC (opC M Q) (fcC M Q d e k) (i + 1) = if opC M Q i = true then (if (decide (0 < i) && (evC (opC M Q) (fcC M Q d e k) i).2) = true then (true, true) else (false, fcC M Q d e k i)) else (false, (evC (opC M Q) (fcC M Q d e k) i).2 && fcC M Q d e k i) := by
      show (if (evC (opC M Q) (fcC M Q d e k) i).1 = true then evC (opC M Q) (fcC M Q d e k) i else _) = _
      rw [if_neg hne]
    rw [ee]
    simp only [f_X4_holds_b6]
    rw [e2, if_neg a1, if_pos i1, i2, j40 i hi, j40 i hi]
    generalize (evC (opC M Q) (fcC M Q d e k) i).2 = t
    by_cases q : M (Q + 5) i = 0
    · have qo : opC M Q i = false := decide_eq_false (fun w => w q)
      rw [if_pos q, qo]
      rfl
    · have qo : opC M Q i = true := decide_eq_true q
      rw [if_neg q, qo, if_pos rfl]
      by_cases y : i = 0
      · have y2 : nI i ≤ 0 := by rw [y]; decide
        have y3 : decide (0 < i) = false := decide_eq_false (by omega)
        rw [if_pos y2, y3]
        rfl
      · have y2 : ¬ nI i ≤ 0 := nI_nle (by omega) (by omega)
        have y3 : decide (0 < i) = true := decide_eq_true (by omega)
        rw [if_neg y2, y3]
        cases t <;> rfl
  unfold f_X4_holds
  rcases fst_of (fun i => (evC (opC M Q) (fcC M Q d e k) (i + 1)).1 = true) nf with ⟨N, hN, h1, h2⟩ | hall
  · have pre : ∀ i, i ≤ N → ¬ (evC (opC M Q) (fcC M Q d e k) i).1 = true := by
      intro i hi
      cases i with
      | zero => intro w; cases w
      | succ j => exact h2 j (by omega)
    have hit := it_N (b := f_X4_holds_b6 Q d e k M) (r := .inr true) (fun i => ((evC (opC M Q) (fcC M Q d e k) i).2, nI i)) N (by omega) (fun i hi => by
      rw [stp0 i (by omega) (pre i (by omega)), if_neg (h2 i hi)]) (by
      rw [stp0 N hN (pre N (Nat.le_refl _)), if_pos h1]) (s0 := (true, 0)) rfl
    rw [hit]
    have := ev_up h1 (nf - (N + 1))
    rw [show N + 1 + (nf - (N + 1)) = nf by omega] at this
    rw [this, ev_tt _ h1]
    rfl
  · have pre : ∀ i, i ≤ nf → ¬ (evC (opC M Q) (fcC M Q d e k) i).1 = true := by
      intro i hi
      cases i with
      | zero => intro w; cases w
      | succ j => exact hall j (by omega)
    have hit := it_N (b := f_X4_holds_b6 Q d e k M) (r := .inl (evC (opC M Q) (fcC M Q d e k) nf).2) (fun i => ((evC (opC M Q) (fcC M Q d e k) i).2, nI i)) nf (by omega) (fun i hi => by
      rw [stp0 i hi (pre i (by omega)), if_neg (hall i hi)]) (by
      have a1 : nI nf ≤ nI nf := Int32.le_refl _
      simp only [f_X4_holds_b6, e2, a1, if_true]) (s0 := (true, 0)) rfl
    rw [hit]
    rfl
theorem c_holdsL {M : Mem} {Q : Nat} {cd : CdT} (h : ClsL M Q cd) (d e k : Int32) : f_X4_holds Q d e k M = some (cd d e k) := by
  obtain ⟨nf, h1, h2, h3, h4⟩ := h
  rw [c_holdsC h1 h2 h3 d e k]
  congr 1
  exact h4 d e k
/-! the reference -/
def BLr (M : Mem) : List Bool → Prop
  | [] => True
  | b :: r => M 148 r.length = bI b ∧ BLr M r
theorem BL_congr {M M1 : Mem} : ∀ st : List Bool, (∀ i, i < st.length → M1 148 i = M 148 i) → BLr M st → BLr M1 st
  | [], _, _ => True.intro
  | b :: r, h, hw => ⟨(h r.length (by simp)).trans hw.1, BL_congr r (fun i hi => h i (by simp; omega)) hw.2⟩
theorem BL_last {M : Mem} : ∀ (st : List Bool) (b : Bool), BLr M st → st.getLast? = some b → M 148 0 = bI b
  | [], b, _, h => by cases h
  | [x], b, hb, h => by
    have : x = b := by simpa using h
    rw [← this]
    exact hb.1
  | x :: y :: r, b, hb, h => BL_last (y :: r) b hb.2 (by rw [List.getLast?_cons_cons] at h; exact h)
theorem BL_put {M : Mem} {r : List Bool} (h : BLr M r) (b : Bool) : BLr (up M 148 r.length (bI b)) (b :: r) := by
  refine ⟨by simp [up_at], BL_congr r (fun i hi => ?_) h⟩
  have : i ≠ r.length := by omega
  simp [up_at, this]
theorem rps_len {m v d e k : Int32} {st st' : List Bool} (h : rps m v d e k st = some st') : st'.length ≤ st.length + 1 := by
  unfold rps at h
  by_cases q : m < 9
  · rw [if_pos q] at h
    cases h
    simp
  · rw [if_neg q] at h
    by_cases q2 : m = 9
    · rw [if_pos q2] at h
      cases st with
      | nil => cases h
      | cons b r => cases h; simp
    · rw [if_neg q2] at h
      cases st with
      | nil => cases h
      | cons b r =>
        cases r with
        | nil => cases h
        | cons a r => cases h; simp
theorem bI_0 (b : Bool) : (bI b = 0) ↔ b = false := by cases b <;> decide
theorem m_stk {Mi : Mem} {x i : Nat} {d e k v : Int32} {m : Int32} {st st' : List Bool} (hx : x < 16) (hi : i < 50) (hm : Mi 143 (50 * x + i) = m) (hv : Mi 144 (50 * x + i) = v) {nm : Nat} (hnm : nm ≤ 50) (e142 : Mi 142 x = nI nm) (hlt : i < nm) (hl : st.length ≤ i) (hb : BLr Mi st) (hr : rps m v d e k st = some st') : ∃ M1, f_X12_holdsFor_b6 (nI x) d e k (nI st.length, nI i, Mi) = some (.inl (nI st'.length, nI (i + 1), M1)) ∧ BLr M1 st' ∧ ∀ p j, p ≠ 148 → M1 p j = Mi p j := by
  have x1 := inb_t (k := x) (n := 16) hx (by decide)
  have x2 := nI_cl (show x < 2 ^ 31 by omega)
  have a1 : ¬ nI nm ≤ nI i := nI_ge hlt (by omega)
  have ex : 50 * nI x + nI i = nI (50 * x + i) := by
    have : 50 * nI x = nI (50 * x) := pk_mul 50 x
    rw [this, nI_add]
  have p1 := inb_t (k := 50 * x + i) (n := 800) (by omega) (by decide)
  have p2 := nI_cl (show 50 * x + i < 2 ^ 31 by omega)
  unfold rps at hr
  by_cases q : m < 9
  · rw [if_pos q] at hr
    cases hr
    have q' : ¬ 9 ≤ m := by rw [nle_lt]; exact q
    have t1 := inb_t (k := st.length) (n := 51) (by omega) (by decide)
    have t2 := nI_cl (show st.length < 2 ^ 31 by omega)
    have nl : ∀ x y : Int32, (if y ≤ x then some false else some true) = some (decide (x < y)) := fun x y => by
      by_cases w : x < y
      · rw [if_neg (by rw [nle_lt]; exact w), decide_eq_true w]
      · rw [if_pos (nlt_le.mp w), decide_eq_false w]
    have ne : ∀ x y : Int32, (if x = y then some true else some false) = some (decide (x = y)) := fun x y => by
      by_cases w : x = y
      · rw [if_pos w, decide_eq_true w]
      · rw [if_neg w, decide_eq_false w]
    refine ⟨up Mi 148 st.length (bI (fcM m v d e k)), ?_, BL_put hb _, fun p j hp => by rw [up_at, if_neg (fun w => hp w.1)]⟩
    simp only [f_X12_holdsFor_b6]
    rw [if_pos x1, x2, e142, if_neg a1, ex, if_pos p1, p2, hm, if_neg q', hv, ite_ss, ite_ss, Option.bind_some, nl, ne, nl, ite_ss, ite_ss, Option.bind_some, if_pos t1, t2, nI_1, nI_1]
    rfl
  · rw [if_neg q] at hr
    have q' : 9 ≤ m := nlt_le.mp q
    by_cases q2 : m = 9
    · rw [if_pos q2] at hr
      cases st with
      | nil => cases hr
      | cons b r =>
        cases hr
        have hl' : r.length + 1 ≤ i := by simpa using hl
        have t1 := inb_t (k := r.length) (n := 51) (by omega) (by decide)
        have t2 := nI_cl (show r.length < 2 ^ 31 by omega)
        have hx : (if bI b = 0 then some true else some false) = some (!b) := by cases b <;> rfl
        refine ⟨up Mi 148 r.length (bI (!b)), ?_, BL_put hb.2 _, fun p j hp => by rw [up_at, if_neg (fun w => hp w.1)]⟩
        show f_X12_holdsFor_b6 (nI x) d e k (nI (r.length + 1), nI i, Mi) = some (.inl (nI (r.length + 1), nI (i + 1), up Mi 148 r.length (bI (!b))))
        simp only [f_X12_holdsFor_b6]
        rw [if_pos x1, x2, e142, if_neg a1, ex, if_pos p1, p2, hm, if_pos q', if_pos q2, nI_pred, if_pos t1, t2, hb.1, hx, Option.bind_some, nI_1]
        rfl
    · rw [if_neg q2] at hr
      cases st with
      | nil => cases hr
      | cons b r =>
        cases r with
        | nil => cases hr
        | cons a r =>
          cases hr
          have hl' : r.length + 1 + 1 ≤ i := by simpa using hl
          have t1 := inb_t (k := r.length) (n := 51) (by omega) (by decide)
          have t2 := nI_cl (show r.length < 2 ^ 31 by omega)
          have t3 := inb_t (k := r.length + 1) (n := 51) (by omega) (by decide)
          have t4 := nI_cl (show r.length + 1 < 2 ^ 31 by omega)
          have d1 : nI (r.length + 1 + 1) + (-1) = nI (r.length + 1) := by rw [nI_m10, nI_pred]
          have hb1 : Mi 148 (r.length + 1) = bI b := hb.1
          have hb2 : Mi 148 r.length = bI a := hb.2.1
          have hx : (if m = 10 then (if inb (nI r.length) 51 = true then (if bI a = 0 then some false else if inb (nI (r.length + 1)) 51 = true then (if bI b = 0 then some false else some true) else none) else none) else (if inb (nI r.length) 51 = true then (if bI a = 0 then (if inb (nI (r.length + 1)) 51 = true then (if bI b = 0 then some false else some true) else none) else some true) else none)) = some (if m = 10 then a && b else a || b) := by
            rw [if_pos t1, if_pos t1, if_pos t3]
            by_cases q3 : m = 10
            · rw [if_pos q3, if_pos q3]
              cases a <;> cases b <;> rfl
            · rw [if_neg q3, if_neg q3]
              cases a <;> cases b <;> rfl
          refine ⟨up Mi 148 r.length (bI (if m = 10 then a && b else a || b)), ?_, BL_put hb.2.2 _, fun p j hp => by rw [up_at, if_neg (fun w => hp w.1)]⟩
          show f_X12_holdsFor_b6 (nI x) d e k (nI (r.length + 1 + 1), nI i, Mi) = some (.inl (nI (r.length + 1), nI (i + 1), up Mi 148 r.length (bI (if m = 10 then a && b else a || b))))
          simp only [f_X12_holdsFor_b6]
          rw [if_pos x1, x2, e142, if_neg a1, ex, if_pos p1, p2, hm, if_pos q', if_neg q2, d1, nI_pred, t2, t4, hb1, hb2, hx, Option.bind_some, if_pos t1, nI_1]
          rfl
theorem rpn_pre {mk nu : Nat → Int32} {d e k : Int32} : ∀ {n : Nat} {st : List Bool}, rpn mk nu d e k n = some st → ∀ i, i ≤ n → ∃ s, rpn mk nu d e k i = some s ∧ s.length ≤ i
  | 0, st, h, i, hi => by
    have : i = 0 := by omega
    subst this
    exact ⟨[], rfl, Nat.le_refl _⟩
  | n + 1, st, h, i, hi => by
    have e' : rpn mk nu d e k (n + 1) = (rpn mk nu d e k n).bind (rps (mk n) (nu n) d e k) := rfl
    cases hs : rpn mk nu d e k n with
    | none => rw [e', hs] at h; cases h
    | some s =>
      obtain ⟨s1, g1, g2⟩ := rpn_pre hs n (Nat.le_refl _)
      rw [hs] at g1
      cases g1
      by_cases y : i = n + 1
      · subst y
        rw [e', hs, Option.bind_some] at h
        refine ⟨st, by rw [e', hs, Option.bind_some]; exact h, ?_⟩
        have := rps_len h
        omega
      · exact rpn_pre hs i (by omega)
theorem m_holdsM {M : Mem} {x : Nat} (hx : x < 16) {cd : CdT} (h : MdlL M x cd) (d e k : Int32) : ∃ M1, f_X12_holdsFor (nI x) d e k M = some (cd d e k, M1) ∧ ∀ p j, p ≠ 148 → M1 p j = M p j := by
  obtain ⟨nm, h1, h2, h3⟩ := h
  obtain ⟨st, g1, g2⟩ := h3 d e k
  have pre := rpn_pre g1
  obtain ⟨z, hz, Mz, s, z1, z2, z3, z4⟩ := it_inv (b := f_X12_holdsFor_b6 (nI x) d e k) (fun i S => ∃ Mi s, S = (nI s.length, nI i, Mi) ∧ rpn (fun i => M 143 (50 * x + i)) (fun i => M 144 (50 * x + i)) d e k i = some s ∧ BLr Mi s ∧ ∀ p j, p ≠ 148 → Mi p j = M p j) nm (Q := fun Z => ∃ Mi s, Z = (nI s.length, Mi) ∧ rpn (fun i => M 143 (50 * x + i)) (fun i => M 144 (50 * x + i)) d e k nm = some s ∧ BLr Mi s ∧ ∀ p j, p ≠ 148 → Mi p j = M p j) (by omega) (by
    rintro i hi S ⟨Mi, s, rfl, r1, r2, r3⟩
    obtain ⟨s1, y1, y2⟩ := pre i (by omega)
    rw [r1] at y1
    cases y1
    obtain ⟨s2, y3, -⟩ := pre (i + 1) (by omega)
    have y4 : rps (M 143 (50 * x + i)) (M 144 (50 * x + i)) d e k s = some s2 := by
      have e' : rpn (fun i => M 143 (50 * x + i)) (fun i => M 144 (50 * x + i)) d e k (i + 1) = (rpn (fun i => M 143 (50 * x + i)) (fun i => M 144 (50 * x + i)) d e k i).bind (rps (M 143 (50 * x + i)) (M 144 (50 * x + i)) d e k) := rfl
      rw [e', r1, Option.bind_some] at y3
      exact y3
    obtain ⟨M1, k1, k2, k3⟩ := m_stk (Mi := Mi) hx (by omega) (r3 143 _ (by decide)) (r3 144 _ (by decide)) h1 ((r3 142 x (by decide)).trans h2) hi y2 r2 y4
    exact ⟨_, k1, M1, s2, rfl, y3, k2, fun p j hp => (k3 p j hp).trans (r3 p j hp)⟩) (by
    rintro S ⟨Mi, s, rfl, r1, r2, r3⟩
    have x1 := inb_t (k := x) (n := 16) hx (by decide)
    have x2 := nI_cl (show x < 2 ^ 31 by omega)
    have e142 : Mi 142 x = nI nm := (r3 142 x (by decide)).trans h2
    have a1 : nI nm ≤ nI nm := Int32.le_refl _
    refine ⟨(nI s.length, Mi), ?_, Mi, s, rfl, r1, r2, r3⟩
    simp only [f_X12_holdsFor_b6]
    rw [if_pos x1, x2, e142, if_pos a1]) (s0 := (0, 0, M)) ⟨M, [], rfl, rfl, True.intro, fun _ _ _ => rfl⟩
  subst z1
  rw [g1] at z2
  cases z2
  obtain ⟨s1, y1, y2⟩ := pre nm (Nat.le_refl _)
  rw [g1] at y1
  cases y1
  refine ⟨Mz, ?_, z4⟩
  unfold f_X12_holdsFor
  rw [hz, Option.bind_some]
  simp only
  rw [g2]
  cases hs : st.getLast? with
  | none =>
    have : st = [] := by
      cases st with
      | nil => rfl
      | cons b r => simp at hs
    subst this
    rfl
  | some b =>
    have hne : ¬ nI st.length = 0 := by
      cases st with
      | nil => cases hs
      | cons b r => exact nI_ne0 (by simp) (by simp at y2 ⊢; omega)
    rw [if_neg hne, show Int32.toNatClampNeg 0 = 0 from rfl, BL_last st b z3 hs]
    cases b <;> rfl
