/-! marks that go on -/
theorem lk_eq : ∀ q, q < 8 → ∀ p, p < 8 → ∀ s, s < 15 → ((nI q = nI p + (nI s - 7)) ↔ q + 7 = p + s) := by decide +kernel
theorem lk_neg : ∀ p, p < 8 → ∀ s, s < 15 → p + s < 7 → ∀ x, x < 16 → 16 * (nI p + (nI s - 7)) + nI x < 0 := by decide +kernel
theorem lk_at {p q s x y : Nat} (hp : p < 8) (hq : q < 8) (hs : s < 15) (hx : x < 16) (hy : y < 16) : (16 * (nI p + (nI s - 7)) + nI x = nI (q * 16 + y)) ↔ (q + 7 = p + s ∧ x = y) := by
  by_cases h : 7 ≤ p + s
  · have e : nI p + (nI s - 7) = nI (p + s - 7) := by
      by_cases h2 : p + s < 15
      · exact lk_ad p hp s hs h h2
      · have e1 : nI s - 7 = nI (s - 7) := pk_sub (b := 7) (by omega)
        rw [e1, nI_add, show p + (s - 7) = p + s - 7 by omega]
    have e2 : 16 * nI (p + s - 7) = nI (16 * (p + s - 7)) := pk_mul 16 _
    rw [e, e2, nI_add, nI_eq (by omega) (by omega)]
    omega
  · constructor
    · intro w
      have h1 := lk_neg p hp s hs (by omega) x hx
      rw [w] at h1
      exact absurd h1 (nI_n0 (by omega))
    · intro w
      omega
def nxB (ci cj s v : Nat) : Bool := decide (ci / 16 + 7 = cj / 16 + s ∧ cl16 (ci % 16) ((cj % 16 + v) % 16) = 1)
theorem c_east {x v : Nat} (hx : x < 16) (hv : v < 16) : f_X11_eastOf (nI x) (nI v) = some (nI ((x + v) % 16)) := by
  unfold f_X11_eastOf
  have e : (nI x + nI v) &&& 15 = nI ((x + v) % 16) := by
    rw [nI_add]
    exact pk_andN (by omega) 4 rfl
  have e2 : (16 : Int32) - 1 = 15 := by decide
  first | rw [e] | (rw [e2, e]) | simp only [e]
theorem c_next {ci cj s v : Nat} (hi : ci < 128) (hj : cj < 128) (hs : s < 15) (hv : v < 16) : f_X5_isNextTo (nI ci) (nI cj) (nI s - 7) (nI v) = some (nxB ci cj s v) := by
  have e1 : nI ci / 16 = nI (ci / 16) := pk_div (d := 16) (by omega) (by decide) (by decide)
  have e2 : nI cj / 16 = nI (cj / 16) := pk_div (d := 16) (by omega) (by decide) (by decide)
  have e3 : jrem (nI ci) 16 = nI (ci % 16) := jrem_nI (d := 16) (by omega) (by decide) (by decide)
  have e4 : jrem (nI cj) 16 = nI (cj % 16) := jrem_nI (d := 16) (by omega) (by decide) (by decide)
  have e5 := c_ring (ci % 16) (by omega) ((cj % 16 + v) % 16) (by omega)
  have hc := cl_8 (ci % 16) (by omega) ((cj % 16 + v) % 16) (by omega)
  unfold f_X5_isNextTo
  rw [e1, e2, e3, e4, c_east (by omega) hv, Option.bind_some, e5, Option.bind_some]
  unfold nxB
  by_cases w : ci / 16 + 7 = cj / 16 + s
  · rw [if_pos ((lk_eq _ (by omega) _ (by omega) s hs).mpr w)]
    by_cases w2 : cl16 (ci % 16) ((cj % 16 + v) % 16) = 1
    · rw [if_pos (by rw [w2]; rfl), Option.bind_some, decide_eq_true ⟨w, w2⟩]
    · have w3 : ¬ nI (cl16 (ci % 16) ((cj % 16 + v) % 16)) = 1 := fun y => w2 (nI_inj (b := 1) (by omega) (by decide) y)
      rw [if_neg w3, Option.bind_some, decide_eq_false (fun y => w2 y.2)]
  · rw [if_neg (fun y => w ((lk_eq _ (by omega) _ (by omega) s hs).mp y)), Option.bind_some, decide_eq_false (fun y => w y.1)]
theorem m_next {ci cj s v : Nat} (hi : ci < 128) (hj : cj < 128) (hs : s < 15) (hv : v < 16) : (if 16 * (nI cj / 16 + (nI s - 7)) + jrem (jrem (nI cj) 16 + nI v) 16 = nI (ci / 16 * 16 + (ci % 16 + 1) % 16) then some true else (f_X12_east (nI ci) (-1)).bind fun r800 => if 16 * (nI cj / 16 + (nI s - 7)) + jrem (jrem (nI cj) 16 + nI v) 16 = r800 then some true else some false) = some (nxB ci cj s v) := by
  have e2 : nI cj / 16 = nI (cj / 16) := pk_div (d := 16) (by omega) (by decide) (by decide)
  have e4 : jrem (nI cj) 16 = nI (cj % 16) := jrem_nI (d := 16) (by omega) (by decide) (by decide)
  have e5 : jrem (nI (cj % 16) + nI v) 16 = nI ((cj % 16 + v) % 16) := by
    rw [nI_add]
    exact jrem_nI (d := 16) (by omega) (by decide) (by decide)
  have k1 := lk_at (p := cj / 16) (q := ci / 16) (s := s) (x := (cj % 16 + v) % 16) (y := (ci % 16 + 1) % 16) (by omega) (by omega) hs (by omega) (by omega)
  have k2 := lk_at (p := cj / 16) (q := ci / 16) (s := s) (x := (cj % 16 + v) % 16) (y := (ci % 16 + 15) % 16) (by omega) (by omega) hs (by omega) (by omega)
  have k3 := cl_x 1 (by decide) (ci % 16) (by omega) ((cj % 16 + v) % 16) (by omega)
  rw [m_eastm ci hi, Option.bind_some, e2, e4, e5]
  unfold nxB
  by_cases w : ci / 16 + 7 = cj / 16 + s ∧ (cj % 16 + v) % 16 = (ci % 16 + 1) % 16
  · rw [if_pos (k1.mpr w), decide_eq_true ⟨w.1, k3.mpr (.inl (by omega))⟩]
  · rw [if_neg (fun y => w (k1.mp y))]
    by_cases w2 : ci / 16 + 7 = cj / 16 + s ∧ (cj % 16 + v) % 16 = (ci % 16 + 15) % 16
    · rw [if_pos (k2.mpr w2), decide_eq_true ⟨w2.1, k3.mpr (.inr (by omega))⟩]
    · rw [if_neg (fun y => w2 (k2.mp y)), decide_eq_false]
      rintro ⟨y1, y2⟩
      rcases k3.mp y2 with y | y
      · exact w ⟨y1, by omega⟩
      · exact w2 ⟨y1, by omega⟩
/-- sums of ints -/
def sI (f : Nat → Int32) : Nat → Int32
  | 0 => 0
  | n + 1 => sI f n + f n
theorem sI_s (f : Nat → Int32) (n : Nat) : sI f (n + 1) = sI f n + f n := rfl
theorem sI_z {f : Nat → Int32} : ∀ n, (∀ i, i < n → f i = 0) → sI f n = 0
  | 0, _ => rfl
  | n + 1, h => by rw [sI_s, sI_z n fun i hi => h i (by omega), h n (by omega)]; rfl
theorem sI_congr {f g : Nat → Int32} : ∀ n, (∀ i, i < n → f i = g i) → sI f n = sI g n
  | 0, _ => rfl
  | n + 1, h => by rw [sI_s, sI_s, sI_congr n fun i hi => h i (by omega), h n (by omega)]
def cel (M : Mem) (i : Nat) : Nat := (M 7 i).toNatClampNeg
def onT (M : Mem) (b : Int32) (s v i j : Nat) : Int32 := if M 6 i = M 6 j ∧ lo M j = b ∧ nxB (cel M i) (cel M j) s v = true then (if gsv (M 6 i) (M 6 j) (M 8 i) (M 8 j) = true then WT (M 6 i).toNatClampNeg else -WT (M 6 i).toNatClampNeg) else 0
def onI (M : Mem) (a b : Int32) (s v n i : Nat) : Int32 := if lo M i = a then sI (onT M b s v i) n else 0
def onV (M : Mem) (a b : Int32) (s v n : Nat) : Int32 := sI (onI M a b s v n) n
theorem onV_rows {M M2 : Mem} (e2 : M2 2 = M 2) (e6 : M2 6 = M 6) (e7 : M2 7 = M 7) (e8 : M2 8 = M 8) : onV M2 = onV M := by
  funext a b s v n
  unfold onV onI onT cel lo
  rw [e2, e6, e7, e8]
/-- what is known of a mark -/
def MkA (M : Mem) (n : Nat) : Prop := ∀ i, i < n → (M 134 i = M 6 i ∧ M 135 i = M 7 i ∧ M 136 i = M 8 i) ∧ (∃ k, k < 6 ∧ M 6 i = nI k) ∧ (∃ c, c < 128 ∧ M 7 i = nI c ∧ cel M i = c ∧ lo M i = M 2 c) ∧ ∃ v, v < 16 ∧ M 8 i = nI v
theorem IvM.mk {M : Mem} (h : IvM M) : ∃ n, n ≤ 40 ∧ M 5 4 = nI n ∧ M 132 1 = nI n ∧ MkA M n := by
  obtain ⟨n, hn, e1, e2, hc⟩ := h
  refine ⟨n, hn, e1, e2, fun i hi => ?_⟩
  obtain ⟨k1, k2, k3, k4, ⟨c, k5, k6, k7⟩, k8⟩ := hc i hi
  refine ⟨⟨k1, k2, k3⟩, k4, ⟨c, k5, k6, by unfold cel; rw [k6, nI_cl (by omega)], by unfold lo; rw [k6, nI_cl (by omega)]⟩, k8⟩
theorem c_land {M : Mem} {n i : Nat} (hn : n ≤ 40) (hA : MkA M n) (hi : i < n) : f_X5_landOf (nI i) M = some (lo M i) := by
  obtain ⟨-, -, ⟨c, k5, k6, -, k7⟩, -⟩ := hA i hi
  have p1 := inb_t (k := i) (n := 40) (by omega) (by decide)
  have p2 := inb_t (k := c) (n := 128) k5 (by decide)
  unfold f_X5_landOf f_X2_ownerOf
  rw [if_pos p1, nI_cl (show i < 2 ^ 31 by omega), k6, if_pos p2, nI_cl (show c < 2 ^ 31 by omega), k7]
  rfl
theorem c_from {M : Mem} {n i s v : Nat} {b : Int32} (hn : n ≤ 40) (e1 : M 5 4 = nI n) (hA : MkA M n) (hi : i < n) (hs : s < 15) (hv : v < 16) : f_X5_goingOnFrom (nI i) b (nI s - 7) (nI v) M = some (sI (onT M b s v i) n) := by
  obtain ⟨-, ⟨ki, k1, k2⟩, ⟨ci, k3, k4, k4', k5⟩, vi, k6, k7⟩ := hA i hi
  have i1 := inb_t (k := i) (n := 40) (by omega) (by decide)
  have i2 := nI_cl (show i < 2 ^ 31 by omega)
  have hw := c_wt (M := M) (show i < 40 by omega) k1 k2
  have hw2 : WT (M 6 i).toNatClampNeg = WT ki := by rw [k2, nI_cl (by omega)]
  have hit := it_N (b := f_X5_goingOnFrom_b6 (nI i) b (nI s - 7) (nI v) M) (r := sI (onT M b s v i) n) (fun j => (sI (onT M b s v i) j, nI j)) n (by omega) (by
    intro j hj
    obtain ⟨-, ⟨kj, g1, g2⟩, ⟨cj, g3, g4, g4', g5⟩, vj, g6, g7⟩ := hA j hj
    have a1 : ¬ nI n ≤ nI j := nI_ge hj (by omega)
    have p1 := inb_t (k := j) (n := 40) (by omega) (by decide)
    have p2 := nI_cl (show j < 2 ^ 31 by omega)
    have hl := c_land hn hA hj
    have hx := c_next (ci := ci) (cj := cj) (v := v) k3 g3 hs hv
    have hld := c_lead (M := M) (show i < 40 by omega) (show j < 40 by omega)
    have et : onT M b s v i j = if M 6 i = M 6 j ∧ lo M j = b ∧ nxB ci cj s v = true then (if gsv (M 6 i) (M 6 j) (M 8 i) (M 8 j) = true then WT ki else -WT ki) else 0 := by
      unfold onT
      rw [k4', g4', hw2]
    rw [sI_s, et]
    simp only [f_X5_goingOnFrom_b6]
    rw [e1, if_neg a1, if_pos p1, if_pos i1, p2, i2, k4, g4, hl, hx, hld, hw, nI_1]
    generalize lo M j = L
    generalize nxB ci cj s v = X
    generalize gsv (M 6 i) (M 6 j) (M 8 i) (M 8 j) = G
    generalize WT ki = W
    by_cases q1 : M 6 i = M 6 j
    · rw [if_pos q1.symm]
      by_cases q2 : L = b
      · cases X
        · simp [q1, q2]
        · cases G <;> simp [q1, q2]
      · simp [q1, q2]
    · rw [if_neg (fun w => q1 w.symm), if_neg (fun w => q1 w.1)]
      simp) (by
    have a1 : nI n ≤ nI n := Int32.le_refl _
    simp only [f_X5_goingOnFrom_b6, e1, a1, if_true]) (s0 := (0, 0)) rfl
  simp only [f_X5_goingOnFrom, hit, Option.bind_some]
theorem c_on {M : Mem} {n s v : Nat} {a b : Int32} (hn : n ≤ 40) (e1 : M 5 4 = nI n) (hA : MkA M n) (hs : s < 15) (hv : v < 16) : f_X5_goingOn a b (nI s - 7) (nI v) M = some (onV M a b s v n) := by
  have hit := it_N (b := f_X5_goingOn_b6 a b (nI s - 7) (nI v) M) (r := sI (onI M a b s v n) n) (fun i => (sI (onI M a b s v n) i, nI i)) n (by omega) (by
    intro i hi
    have a1 : ¬ nI n ≤ nI i := nI_ge hi (by omega)
    have hl := c_land hn hA hi
    have hf := c_from (b := b) hn e1 hA hi hs hv
    simp only [f_X5_goingOn_b6]
    rw [e1, if_neg a1, hl, hf, nI_1, sI_s]
    unfold onI
    by_cases q : lo M i = a
    · simp [q]
    · simp [q]) (by
    have a1 : nI n ≤ nI n := Int32.le_refl _
    simp only [f_X5_goingOn_b6, e1, a1, if_true]) (s0 := (0, 0)) rfl
  simp only [f_X5_goingOn, hit, Option.bind_some, onV]
