/-! the cheapest way to cross -/
def akI (wy pr : Nat → Nat) (cb : Nat → Bool) (w : Nat) : Nat → Int32
  | 0 => -1
  | i + 1 => if wy i = w ∧ cb i = true then nI (pr i) else akI wy pr cb w i
def efI (d : Int32) (ak : Nat → Int32) (w : Nat) : Int32 := if w = 0 ∧ ¬ d = 1 then -1 else ak w
def chI (ef : Nat → Int32) : Nat → Int32 × Int32
  | 0 => (-1, -1)
  | w + 1 => if ef w = -1 then chI ef w else if (chI ef w).1 = -1 ∨ ¬ (chI ef w).1 ≤ ef w then (ef w, nI w) else chI ef w
def crI (n : Nat) (wy pr : Nat → Nat) (cd : Nat → CdT) (d e k : Int32) : Int32 × Int32 := chI (efI d (fun w => akI wy pr (fun i => cd i d e k) w n)) 4
def LwC (P n : Nat) (wy pr : Nat → Nat) (cd : Nat → CdT) (M : Mem) : Prop := n ≤ 8 ∧ M P 2 = nI n ∧ ∀ i, i < n → wy i < 4 ∧ M (P + 3 + 6 * i) 0 = nI (wy i) ∧ pr i < 100 ∧ M (P + 3 + 6 * i) 1 = nI (pr i) ∧ ClsL M (P + 3 + 6 * i) (cd i)
def LwM (g n : Nat) (wy pr : Nat → Nat) (cd : Nat → CdT) (M : Mem) : Prop := n ≤ 8 ∧ M 139 g = nI n ∧ ∀ i, i < n → wy i < 4 ∧ M 140 (8 * g + i) = nI (wy i) ∧ pr i < 100 ∧ M 141 (8 * g + i) = nI (pr i) ∧ MdlL M (8 * g + i) (cd i)
theorem IvL.lw {M : Mem} (h : IvL M) {g : Nat} (hg : g < 2) : ∃ n wy pr cd, LwC (hP g) n wy pr cd M ∧ LwM g n wy pr cd M := by
  obtain ⟨n, hn, e1, e2, hl⟩ := h g hg
  have key : ∀ i, i < n → ((M (hP g + 3 + 6 * i) 0).toNatClampNeg < 4 ∧ M (hP g + 3 + 6 * i) 0 = nI (M (hP g + 3 + 6 * i) 0).toNatClampNeg ∧ M 140 (8 * g + i) = nI (M (hP g + 3 + 6 * i) 0).toNatClampNeg) ∧ ((M (hP g + 3 + 6 * i) 1).toNatClampNeg < 100 ∧ M (hP g + 3 + 6 * i) 1 = nI (M (hP g + 3 + 6 * i) 1).toNatClampNeg ∧ M 141 (8 * g + i) = nI (M (hP g + 3 + 6 * i) 1).toNatClampNeg) ∧ ClsL M (hP g + 3 + 6 * i) (fun d e k => (evC (opC M (hP g + 3 + 6 * i)) (fcC M (hP g + 3 + 6 * i) d e k) (M (hP g + 3 + 6 * i) 2).toNatClampNeg).2) ∧ MdlL M (8 * g + i) (fun d e k => (evC (opC M (hP g + 3 + 6 * i)) (fcC M (hP g + 3 + 6 * i) d e k) (M (hP g + 3 + 6 * i) 2).toNatClampNeg).2) := by
    intro i hi
    obtain ⟨⟨w, w1, w2, w3⟩, ⟨c, c1, c2, c3⟩, cd, k1, k2⟩ := hl i hi
    have ec : (fun d e k => (evC (opC M (hP g + 3 + 6 * i)) (fcC M (hP g + 3 + 6 * i) d e k) (M (hP g + 3 + 6 * i) 2).toNatClampNeg).2) = cd := by
      obtain ⟨nf, f1, f2, -, f4⟩ := k1
      funext d e k
      rw [f2, nI_cl (by omega)]
      exact f4 d e k
    rw [ec, w2, c2, nI_cl (by omega), nI_cl (by omega)]
    exact ⟨⟨w1, rfl, w3⟩, ⟨c1, rfl, c3⟩, k1, k2⟩
  exact ⟨n, fun i => (M (hP g + 3 + 6 * i) 0).toNatClampNeg, fun i => (M (hP g + 3 + 6 * i) 1).toNatClampNeg, fun i => (fun d e k => (evC (opC M (hP g + 3 + 6 * i)) (fcC M (hP g + 3 + 6 * i) d e k) (M (hP g + 3 + 6 * i) 2).toNatClampNeg).2), ⟨hn, e1, fun i hi => ⟨(key i hi).1.1, (key i hi).1.2.1, (key i hi).2.1.1, (key i hi).2.1.2.1, (key i hi).2.2.1⟩⟩, ⟨hn, e2, fun i hi => ⟨(key i hi).1.1, (key i hi).1.2.2, (key i hi).2.1.1, (key i hi).2.1.2.2, (key i hi).2.2.2⟩⟩⟩
theorem LwC.kp {g n : Nat} {wy pr : Nat → Nat} {cd : Nat → CdT} {M M1 : Mem} (h : LwC (hP g) n wy pr cd M) (hg : g < 2) (s : Sm rL M M1) : LwC (hP g) n wy pr cd M1 := by
  obtain ⟨h1, h2, h3⟩ := h
  have hp := hP_of hg
  have row : ∀ i, i < 8 → ∀ j, j < 6 → M1 (hP g + 3 + 6 * i + j) = M (hP g + 3 + 6 * i + j) := fun i hi j hj => s.row _ fun k => by
    have : (15 ≤ hP g + 3 + 6 * i + j ∧ hP g + 3 + 6 * i + j < 63) ∨ (66 ≤ hP g + 3 + 6 * i + j ∧ hP g + 3 + 6 * i + j < 114) := by omega
    rcases this with ⟨a, b⟩ | ⟨a, b⟩
    · simp [rL, a, b]
    · simp [rL, a, b]
  refine ⟨h1, ?_, fun i hi => ?_⟩
  · rw [← h2]
    rcases hp with ⟨-, e⟩ | ⟨-, e⟩ <;> rw [e]
    · exact s 12 2 rfl
    · exact s 63 2 rfl
  · obtain ⟨a1, a2, a3, a4, a5⟩ := h3 i hi
    have q0 := row i (by omega) 0 (by decide)
    rw [Nat.add_zero] at q0
    exact ⟨a1, by rw [q0]; exact a2, a3, by rw [q0]; exact a4, a5.kp (row i (by omega))⟩
theorem LwM.kp {g n : Nat} {wy pr : Nat → Nat} {cd : Nat → CdT} {M M1 : Mem} (h : LwM g n wy pr cd M) (s : Sm rL M M1) : LwM g n wy pr cd M1 := by
  obtain ⟨h1, h2, h3⟩ := h
  have r9 := s.row 139 (fun _ => rfl)
  have r0 := s.row 140 (fun _ => rfl)
  have r1 := s.row 141 (fun _ => rfl)
  have r2 := s.row 142 (fun _ => rfl)
  have r3 := s.row 143 (fun _ => rfl)
  have r4 := s.row 144 (fun _ => rfl)
  refine ⟨h1, by rw [r9]; exact h2, fun i hi => ?_⟩
  obtain ⟨a1, a2, a3, a4, a5⟩ := h3 i hi
  exact ⟨a1, by rw [r0]; exact a2, a3, by rw [r1]; exact a4, a5.kp (by rw [r2]) (fun j _ => by rw [r3, r4]; exact ⟨rfl, rfl⟩)⟩
theorem ak_s (wy pr : Nat → Nat) (cb : Nat → Bool) (w i : Nat) : akI wy pr cb w (i + 1) = if wy i = w ∧ cb i = true then nI (pr i) else akI wy pr cb w i := rfl
theorem c_choose {g n : Nat} {wy pr : Nat → Nat} {cd : Nat → CdT} {M : Mem} (hg : g < 2) (h : LwC (hP g) n wy pr cd M) (d e k : Int32) : ∃ M1, f_X3_choose (hP g) d e k M = some M1 ∧ (M1 (hP g) 3, M1 (hP g) 4) = crI n wy pr cd d e k ∧ ∀ p j, p ≠ hP g + 2 → ¬ (p = hP g ∧ (j = 3 ∨ j = 4)) → M1 p j = M p j := by
  obtain ⟨P, eP⟩ : ∃ P, hP g = P := ⟨_, rfl⟩
  have hp := hP_of hg
  rw [eP] at h hp ⊢
  obtain ⟨h1, h2, h3⟩ := h
  obtain ⟨ak, hak⟩ : ∃ ak, ak = fun w => akI wy pr (fun i => cd i d e k) w n := ⟨_, rfl⟩
  obtain ⟨Ma, hz, z1, z2⟩ := it_inv (b := f_X3_choose_b16 P d e k) (fun i S => ∃ Mi, S = (nI (n - i) - 1, Mi) ∧ (∀ w, w < 4 → ak w = if Mi (P + 2) w = -1 then akI wy pr (fun i => cd i d e k) w (n - i) else Mi (P + 2) w) ∧ ∀ p j, p ≠ P + 2 → Mi p j = M p j) n (Q := fun Z => (∀ w, w < 4 → Z (P + 2) w = ak w) ∧ ∀ p j, p ≠ P + 2 → Z p j = M p j) (by omega) (by
    rintro i hi S ⟨Mi, rfl, r1, r2⟩
    obtain ⟨r, hr⟩ : ∃ r, n - i = r + 1 := ⟨n - i - 1, by omega⟩
    rw [hr] at r1
    have er : n - (i + 1) = r := by omega
    rw [hr, nI_pred, er]
    obtain ⟨a1, a2, a3, a4, a5⟩ := h3 r (by omega)
    have i1 := inb_t (k := r) (n := 8) (by omega) (by decide)
    have i2 := nI_cl (show r < 2 ^ 31 by omega)
    have w1 := inb_t (k := wy r) (n := 4) a1 (by decide)
    have w2 := nI_cl (show wy r < 2 ^ 31 by omega)
    have d0 : Mi (P + 3 + 6 * r) 0 = nI (wy r) := (r2 _ _ (by omega)).trans a2
    have d1 : Mi (P + 3 + 6 * r) 1 = nI (pr r) := (r2 _ _ (by omega)).trans a4
    have hh := c_holdsL (M := Mi) (a5.kp fun j hj => funext fun k => r2 _ _ (by omega)) d e k
    have st : f_X3_choose_b16 P d e k (nI r, Mi) = if Mi (P + 2) (wy r) = -1 ∧ cd r d e k = true then some (.inl (nI r - 1, up Mi (P + 2) (wy r) (nI (pr r)))) else some (.inl (nI r - 1, Mi)) := by
      simp only [f_X3_choose_b16]
      rw [if_neg (nI_n0 (by omega)), if_pos i1, i2, d0, if_pos w1, w2, hh, Option.bind_some, d1, nI_m10]
      generalize cd r d e k = X
      by_cases q : Mi (P + 2) (wy r) = -1
      · rw [if_pos q]
        cases X
        · have n2 : ¬ (Mi (P + 2) (wy r) = -1 ∧ false = true) := fun y => Bool.noConfusion y.2
          rw [if_neg Bool.false_ne_true, if_neg n2]; rfl
        · have n2 : Mi (P + 2) (wy r) = -1 ∧ true = true := ⟨q, rfl⟩
          rw [if_pos rfl, if_pos n2]; rfl
      · rw [if_neg q, if_neg (fun y => q y.1)]; rfl
    by_cases q : Mi (P + 2) (wy r) = -1 ∧ cd r d e k = true
    · refine ⟨_, by rw [st, if_pos q], _, rfl, fun w hw => ?_, fun p j hp => ?_⟩
      · rw [r1 w hw, ak_s]
        by_cases y : w = wy r
        · subst y
          have u1 : up Mi (P + 2) (wy r) (nI (pr r)) (P + 2) (wy r) = nI (pr r) := by simp [up_at]
          have u2 : ¬ nI (pr r) = -1 := nI_m1 (by omega)
          have u3 : wy r = wy r ∧ cd r d e k = true := ⟨rfl, q.2⟩
          rw [u1, if_neg u2, if_pos q.1, if_pos u3]
        · have u1 : up Mi (P + 2) (wy r) (nI (pr r)) (P + 2) w = Mi (P + 2) w := by simp [up_at, y]
          have u3 : ¬ (wy r = w ∧ cd r d e k = true) := fun y2 => y y2.1.symm
          rw [u1, if_neg u3]
      · rw [up_at, if_neg (fun y => hp y.1)]; exact r2 p j hp
    · refine ⟨_, by rw [st, if_neg q], _, rfl, fun w hw => ?_, r2⟩
      rw [r1 w hw, ak_s]
      by_cases y : Mi (P + 2) w = -1
      · rw [if_pos y, if_pos y]
        have u3 : ¬ (wy r = w ∧ cd r d e k = true) := by
          rintro ⟨y1, y2⟩
          subst y1
          exact q ⟨y, y2⟩
        rw [if_neg u3]
      · rw [if_neg y, if_neg y]) (by
    rintro S ⟨Mi, rfl, r1, r2⟩
    rw [Nat.sub_self] at r1 ⊢
    have a1 : nI 0 - 1 < (0 : Int32) := by decide
    refine ⟨Mi, by simp only [f_X3_choose_b16, a1, if_true], fun w hw => ?_, r2⟩
    rw [r1 w hw]
    by_cases y : Mi (P + 2) w = -1
    · rw [if_pos y, y]; rfl
    · rw [if_neg y]) (s0 := (nI n - 1, fil M (P + 2) 4 (-1))) ⟨fil M (P + 2) 4 (-1), rfl, fun w hw => by
      have u : fil M (P + 2) 4 (-1) (P + 2) w = -1 := by rw [fil_at, if_pos ⟨rfl, hw⟩]
      rw [if_pos u, hak]
      rfl, fun p j hp => by rw [fil_at, if_neg (fun y => hp y.1)]⟩
  obtain ⟨Mb, hy, y1, y2, y3⟩ := it_inv (b := f_X3_choose_b89 P d) (fun w S => ∃ Mi, S = (nI w, Mi) ∧ Mi P 3 = (chI (efI d ak) w).1 ∧ Mi P 4 = (chI (efI d ak) w).2 ∧ ∀ p j, ¬ (p = P ∧ (j = 3 ∨ j = 4)) → Mi p j = Ma p j) 4 (Q := fun Z => Z P 3 = (chI (efI d ak) 4).1 ∧ Z P 4 = (chI (efI d ak) 4).2 ∧ ∀ p j, ¬ (p = P ∧ (j = 3 ∨ j = 4)) → Z p j = Ma p j) (by decide) (by
    rintro w hw S ⟨Mi, rfl, r1, r2, r3⟩
    have a1 : ¬ (4 : Int32) ≤ nI w := nI_ge (b := 4) hw (by decide)
    have i1 := inb_t (k := w) (n := 4) hw (by decide)
    have i2 := nI_cl (show w < 2 ^ 31 by omega)
    have ea : Mi (P + 2) w = ak w := (r3 _ _ (by omega)).trans (z1 w hw)
    have ec : chI (efI d ak) (w + 1) = if efI d ak w = -1 then chI (efI d ak) w else if (chI (efI d ak) w).1 = -1 ∨ ¬ (chI (efI d ak) w).1 ≤ efI d ak w then (efI d ak w, nI w) else chI (efI d ak) w := rfl
    have ho : (if Mi (P + 2) w = -1 then some false else if nI w = 0 then (if d = 1 then some true else some false) else some true) = some (decide (¬ efI d ak w = -1)) := by
      have q2 : (nI w = 0) ↔ w = 0 := nI_eq (b := 0) (by omega) (by decide)
      rw [ea]
      unfold efI
      simp only [q2]
      generalize ak w = X
      by_cases t : X = -1 <;> by_cases q : w = 0 <;> by_cases y : d = 1 <;> simp [t, q, y]
    by_cases q : efI d ak w = -1
    · refine ⟨(nI (w + 1), Mi), ?_, Mi, rfl, by rw [ec, if_pos q]; exact r1, by rw [ec, if_pos q]; exact r2, r3⟩
      simp only [f_X3_choose_b89]
      rw [if_neg a1, if_pos i1, i2, ho, Option.bind_some, decide_eq_false (fun s => s q), if_neg Bool.false_ne_true, nI_1]
      rfl
    · have eak : ak w = efI d ak w := by
        unfold efI at q ⊢
        by_cases y : w = 0 ∧ ¬ d = 1
        · rw [if_pos y] at q; exact absurd rfl q
        · rw [if_neg y]
      have j150 : f_X3_choose_j150_1 P (nI w) Mi = some (up (up Mi P 3 (efI d ak w)) P 4 (nI w)) := by
        unfold f_X3_choose_j150_1
        rw [i2, ea, eak]
      by_cases y : (chI (efI d ak) w).1 = -1 ∨ ¬ (chI (efI d ak) w).1 ≤ efI d ak w
      · refine ⟨(nI (w + 1), up (up Mi P 3 (efI d ak w)) P 4 (nI w)), ?_, _, rfl, by rw [ec, if_neg q, if_pos y]; simp [up_at], by rw [ec, if_neg q, if_pos y]; simp [up_at], fun p j hp => ?_⟩
        · simp only [f_X3_choose_b89]
          rw [if_neg a1, if_pos i1, i2, ho, Option.bind_some, decide_eq_true q, if_pos rfl, r1, ea, eak, j150, nI_1]
          by_cases t : (chI (efI d ak) w).1 = -1
          · rw [if_pos t]; rfl
          · rw [if_neg t, if_neg (y.resolve_left t)]; rfl
        · rw [up_at, if_neg (fun s => hp ⟨s.1, .inr s.2⟩), up_at, if_neg (fun s => hp ⟨s.1, .inl s.2⟩)]
          exact r3 p j hp
      · refine ⟨(nI (w + 1), Mi), ?_, Mi, rfl, by rw [ec, if_neg q, if_neg y]; exact r1, by rw [ec, if_neg q, if_neg y]; exact r2, r3⟩
        simp only [f_X3_choose_b89]
        rw [if_neg a1, if_pos i1, i2, ho, Option.bind_some, decide_eq_true q, if_pos rfl, r1, ea, eak, nI_1, if_neg (fun s => y (.inl s)), if_pos (Decidable.of_not_not fun s => y (.inr s))]
        rfl) (by
    rintro S ⟨Mi, rfl, r1, r2, r3⟩
    have a1 : (4 : Int32) ≤ nI 4 := by decide
    exact ⟨Mi, by simp only [f_X3_choose_b89, a1, if_true], r1, r2, r3⟩) (s0 := (0, up (up Ma P 3 (-1)) P 4 (-1))) ⟨_, rfl, by simp [up_at, chI], by simp [up_at, chI], fun p j hp => by
      rw [up_at, if_neg (fun s => hp ⟨s.1, .inr s.2⟩), up_at, if_neg (fun s => hp ⟨s.1, .inl s.2⟩)]⟩
  refine ⟨Mb, ?_, ?_, fun p j q1 q2 => (y3 p j q2).trans (z2 p j q1)⟩
  · unfold f_X3_choose
    rw [fil_at, if_neg (fun y => by omega), h2, hz, Option.bind_some, hy, Option.bind_some]
  · rw [y1, y2, hak]
    rfl
theorem m_bits : ∀ s, s < 64 → f_X12_bitsOf (nI s) = some (nI (pcN s)) := by decide +kernel
/-- a beast -/
def BsC (b s : Nat) (e : Int32) (M : Mem) : Prop := b < 8 ∧ s < 64 ∧ M 115 b = nI s ∧ M 116 b = e
def BsM (b s : Nat) (e : Int32) (M : Mem) : Prop := b < 8 ∧ s < 64 ∧ M 149 b = nI s ∧ M 150 b = e
theorem m_wayCost {g n b s w : Nat} {wy pr : Nat → Nat} {cd : Nat → CdT} {e d : Int32} {M : Mem} (hg : g < 2) (h : LwM g n wy pr cd M) (hb : BsM b s e M) (hw : w < 4) : ∃ M1, f_X12_wayCost (nI g) (nI b) d (nI w) M = some (efI d (fun w => akI wy pr (fun i => cd i d e (nI (pcN s))) w n) w, M1) ∧ ∀ p j, p ≠ 148 → M1 p j = M p j := by
  obtain ⟨h1, h2, h3⟩ := h
  obtain ⟨b1, b2, b3, b4⟩ := hb
  have g1 := inb_t (k := g) (n := 2) hg (by decide)
  have g2 := nI_cl (show g < 2 ^ 31 by omega)
  have c1 := inb_t (k := b) (n := 8) b1 (by decide)
  have c2 := nI_cl (show b < 2 ^ 31 by omega)
  have e8 : 8 * nI g = nI (8 * g) := pk_mul 8 g
  obtain ⟨z, hz, Mz, rfl, z1⟩ := it_inv (b := f_X12_wayCost_b9 (nI g) (nI b) d (nI w)) (fun i S => ∃ Mi, S = (akI wy pr (fun i => cd i d e (nI (pcN s))) w i, nI (8 * g + i), Mi) ∧ ∀ p j, p ≠ 148 → Mi p j = M p j) n (Q := fun Z => ∃ Mi, Z = (akI wy pr (fun i => cd i d e (nI (pcN s))) w n, Mi) ∧ ∀ p j, p ≠ 148 → Mi p j = M p j) (by omega) (by
    rintro i hi S ⟨Mi, rfl, r1⟩
    obtain ⟨a1, a2, a3, a4, a5⟩ := h3 i hi
    have d9 : Mi 139 g = nI n := (r1 _ _ (by decide)).trans h2
    have d0 : Mi 140 (8 * g + i) = nI (wy i) := (r1 _ _ (by decide)).trans a2
    have d4 : Mi 149 b = nI s := (r1 _ _ (by decide)).trans b3
    have d5 : Mi 150 b = e := (r1 _ _ (by decide)).trans b4
    have q1 : ¬ nI (8 * g + n) ≤ nI (8 * g + i) := nI_ge (by omega) (by omega)
    have i1 := inb_t (k := 8 * g + i) (n := 16) (by omega) (by decide)
    have i2 := nI_cl (show 8 * g + i < 2 ^ 31 by omega)
    have hm : MdlL Mi (8 * g + i) (cd i) := a5.kp (r1 _ _ (by decide)) (fun j _ => ⟨r1 _ _ (by decide), r1 _ _ (by decide)⟩)
    rw [ak_s]
    by_cases q : wy i = w
    · have q2 : nI (wy i) = nI w := by rw [q]
      obtain ⟨M1, k1, k2⟩ := m_holdsM (show 8 * g + i < 16 by omega) hm d e (nI (pcN s))
      have d1 : M1 141 (8 * g + i) = nI (pr i) := (k2 _ _ (by decide)).trans ((r1 _ _ (by decide)).trans a4)
      refine ⟨_, ?_, M1, rfl, fun p j hp => (k2 p j hp).trans (r1 p j hp)⟩
      simp only [f_X12_wayCost_b9]
      rw [if_pos g1, g2, d9, e8, nI_add, if_neg q1, if_pos i1, i2, d0, if_pos q2, if_pos c1, c2, d4, d5, m_bits s b2, Option.bind_some, k1, Option.bind_some]
      simp only
      generalize cd i d e (nI (pcN s)) = X
      cases X
      · rw [if_neg Bool.false_ne_true, Option.bind_some]
        simp only
        rw [if_neg Bool.false_ne_true, Option.bind_some, if_neg (fun y => Bool.noConfusion y.2), nI_1]
        rfl
      · rw [if_pos rfl, Option.bind_some]
        simp only
        rw [if_pos True.intro, Option.bind_some, d1, if_pos ⟨q, True.intro⟩, nI_1]
        rfl
    · have q2 : ¬ nI (wy i) = nI w := fun y => q (nI_inj (by omega) (by omega) y)
      refine ⟨_, ?_, Mi, rfl, r1⟩
      simp only [f_X12_wayCost_b9]
      rw [if_pos g1, g2, d9, e8, nI_add, if_neg q1, if_pos i1, i2, d0, if_neg q2, Option.bind_some]
      simp only
      rw [if_neg Bool.false_ne_true, Option.bind_some, if_neg (fun y => q y.1), nI_1]
      rfl) (by
    rintro S ⟨Mi, rfl, r1⟩
    have d9 : Mi 139 g = nI n := (r1 _ _ (by decide)).trans h2
    have q1 : nI (8 * g + n) ≤ nI (8 * g + n) := Int32.le_refl _
    refine ⟨_, ?_, Mi, rfl, r1⟩
    simp only [f_X12_wayCost_b9]
    rw [if_pos g1, g2, d9, e8, nI_add, if_pos q1]) (s0 := (-1, nI (8 * g), M)) ⟨M, rfl, fun _ _ _ => rfl⟩
  refine ⟨Mz, ?_, z1⟩
  unfold f_X12_wayCost
  rw [e8, hz, Option.bind_some]
  simp only
  unfold efI
  by_cases q : w = 0
  · have q2 : nI w = 0 := by rw [q]; rfl
    rw [if_pos q2]
    by_cases y : d = 1
    · rw [if_pos y, if_neg (fun t => t.2 y)]; rfl
    · rw [if_neg y, if_pos ⟨q, y⟩]; rfl
  · have q2 : ¬ nI w = 0 := nI_ne0 (by omega) (by omega)
    rw [if_neg q2, if_neg (fun t => q t.1)]; rfl
theorem m_cross {g n b s a c : Nat} {wy pr : Nat → Nat} {cd : Nat → CdT} {e : Int32} {M : Mem} (hG : IvG M) (hg : g < 2) (h : LwM g n wy pr cd M) (hb : BsM b s e M) : ∃ M1, f_X12_crossingOf (nI g) (nI b) (nI a) (nI c) M = some ((crI n wy pr cd (nI (dsN (M 2) a c)) e (nI (pcN s))).1, M1) ∧ M1 132 29 = (crI n wy pr cd (nI (dsN (M 2) a c)) e (nI (pcN s))).2 ∧ ∀ p j, p ≠ 148 → ¬ (p = 132 ∧ j = 29) → M1 p j = M p j := by
  obtain ⟨d, hd⟩ : ∃ d, d = nI (dsN (M 2) a c) := ⟨_, rfl⟩
  have hdi := m_dist (a := a) (b := c) hG
  rw [← hd] at hdi ⊢
  obtain ⟨ak, hak⟩ : ∃ ak, ak = fun w => akI wy pr (fun i => cd i d e (nI (pcN s))) w n := ⟨_, rfl⟩
  obtain ⟨z, hz, Mz, rfl, z1, z2⟩ := it_inv (b := f_X12_crossingOf_b20 (nI g) (nI b) d) (fun w S => ∃ Mi, S = ((chI (efI d ak) w).1, nI w, Mi) ∧ Mi 132 29 = (chI (efI d ak) w).2 ∧ ∀ p j, p ≠ 148 → ¬ (p = 132 ∧ j = 29) → Mi p j = M p j) 4 (Q := fun Z => ∃ Mi, Z = ((chI (efI d ak) 4).1, Mi) ∧ Mi 132 29 = (chI (efI d ak) 4).2 ∧ ∀ p j, p ≠ 148 → ¬ (p = 132 ∧ j = 29) → Mi p j = M p j) (by decide) (by
    rintro w hw S ⟨Mi, rfl, r1, r2⟩
    have a1 : ¬ (4 : Int32) ≤ nI w := nI_ge (b := 4) hw (by decide)
    have sm : Sm rL M Mi := fun p k hp => r2 p k (by rintro rfl; cases hp) (by rintro ⟨rfl, rfl⟩; cases hp)
    have hb' : BsM b s e Mi := ⟨hb.1, hb.2.1, (r2 _ _ (by decide) (by omega)).trans hb.2.2.1, (r2 _ _ (by decide) (by omega)).trans hb.2.2.2⟩
    obtain ⟨M1, k1, k2⟩ := m_wayCost (d := d) hg (h.kp sm) hb' hw
    rw [← hak] at k1
    have ec : chI (efI d ak) (w + 1) = if efI d ak w = -1 then chI (efI d ak) w else if (chI (efI d ak) w).1 = -1 ∨ ¬ (chI (efI d ak) w).1 ≤ efI d ak w then (efI d ak w, nI w) else chI (efI d ak) w := rfl
    have kk : ∀ p j, p ≠ 148 → ¬ (p = 132 ∧ j = 29) → M1 p j = M p j := fun p j h1 h2 => (k2 p j h1).trans (r2 p j h1 h2)
    have k29 : M1 132 29 = (chI (efI d ak) w).2 := (k2 _ _ (by decide)).trans r1
    rw [ec]
    by_cases q : efI d ak w = -1
    · rw [if_pos q]
      refine ⟨_, ?_, M1, rfl, k29, kk⟩
      simp only [f_X12_crossingOf_b20]
      rw [if_neg a1, k1, Option.bind_some]
      simp only
      rw [if_pos q, nI_1]
      rfl
    · rw [if_neg q]
      by_cases y : (chI (efI d ak) w).1 = -1 ∨ ¬ (chI (efI d ak) w).1 ≤ efI d ak w
      · rw [if_pos y]
        refine ⟨_, ?_, up M1 132 29 (nI w), rfl, by simp [up_at], fun p j h1 h2 => by rw [up_at, if_neg h2]; exact kk p j h1 h2⟩
        simp only [f_X12_crossingOf_b20]
        rw [if_neg a1, k1, Option.bind_some]
        simp only
        rw [if_neg q, nI_1]
        by_cases t : (chI (efI d ak) w).1 = -1
        · rw [if_pos t]; rfl
        · rw [if_neg t, if_neg (y.resolve_left t)]; rfl
      · rw [if_neg y]
        refine ⟨_, ?_, M1, rfl, k29, kk⟩
        simp only [f_X12_crossingOf_b20]
        rw [if_neg a1, k1, Option.bind_some]
        simp only
        rw [if_neg q, nI_1, if_neg (fun s => y (.inl s)), if_pos (Decidable.of_not_not fun s => y (.inr s))]
        rfl) (by
    rintro S ⟨Mi, rfl, r1, r2⟩
    have a1 : (4 : Int32) ≤ nI 4 := by decide
    exact ⟨_, by simp only [f_X12_crossingOf_b20, a1, if_true], Mi, rfl, r1, r2⟩) (s0 := (-1, 0, up M 132 29 (-1))) ⟨up M 132 29 (-1), rfl, by simp [up_at, chI], fun p j _ h2 => by rw [up_at, if_neg h2]⟩
  refine ⟨Mz, ?_, ?_, z2⟩
  · unfold f_X12_crossingOf
    rw [hdi, Option.bind_some, hz, hak]
    rfl
  · rw [z1, hak]
    rfl
