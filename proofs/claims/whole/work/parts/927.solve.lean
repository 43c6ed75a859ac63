/-! the cheapest tree over further lands, too -/
noncomputable def spT (c : Nat) (x : Nat) (t : Nat × Nat) : Nat × Nat := if c < t.1 ∨ (c = t.1 ∧ c < 100000 ∧ c6 x < c6 t.2) then (c, x) else t
noncomputable def spS (w : Nat → Nat → Nat) (s : Nat) : Nat → Nat × Nat
  | 0 => (100000, 0)
  | x + 1 => if x &&& s = 0 then spT (treeN w (s ||| x)) x (spS w s x) else spS w s x
theorem spS_s (w : Nat → Nat → Nat) (s x : Nat) : spS w s (x + 1) = if x &&& s = 0 then spT (treeN w (s ||| x)) x (spS w s x) else spS w s x := rfl
theorem spT_le {c x : Nat} {t : Nat × Nat} (h : t.1 ≤ 100000 ∧ t.2 < 64) (hx : x < 64) : (spT c x t).1 ≤ 100000 ∧ (spT c x t).2 < 64 := by
  unfold spT
  by_cases q : c < t.1 ∨ (c = t.1 ∧ c < 100000 ∧ c6 x < c6 t.2)
  · rw [if_pos q]; exact ⟨by show c ≤ 100000; omega, hx⟩
  · rw [if_neg q]; exact h
theorem spS_le (w : Nat → Nat → Nat) (s : Nat) : ∀ x, x ≤ 64 → (spS w s x).1 ≤ 100000 ∧ (spS w s x).2 < 64
  | 0, _ => ⟨Nat.le_refl _, by show 0 < 64; decide⟩
  | x + 1, hx => by
    have ih := spS_le w s x (by omega)
    rw [spS_s]
    by_cases q : x &&& s = 0
    · rw [if_pos q]; exact spT_le ih (by omega)
    · rw [if_neg q]; exact ih
def p5 (t : Nat × Nat) : Int32 := if t.1 = 100000 then -1 else nI t.2
def KsB (g : Nat) (M M1 : Mem) : Prop := ∀ p k, p ≠ 4 → p ≠ 117 → p ≠ 118 → p ≠ 119 → p ≠ hP g + 2 → ¬ (p = hP g ∧ (k = 3 ∨ k = 4)) → M1 p k = M p k
theorem KsB.sm {g : Nat} (hg : g < 2) {M M1 : Mem} (h : KsB g M M1) {r : Nat → Nat → Bool} (hr : ∀ k, r 4 k = false ∧ r 118 k = false ∧ r 14 k = false ∧ r 65 k = false ∧ r 12 3 = false ∧ r 12 4 = false ∧ r 63 3 = false ∧ r 63 4 = false ∧ r 117 k = false ∧ r 119 k = false) : Sm r M M1 := by
  intro p k hp
  obtain ⟨f1, f2, f3, f4, f5, f6, f7, f8, f9, f10⟩ := hr k
  have no : ∀ {x y : Nat}, r x y = false → ¬ (p = x ∧ k = y) := fun hf ⟨a, b⟩ => by
    subst a b
    rw [hf] at hp
    cases hp
  refine h p k (fun y => no f1 ⟨y, rfl⟩) (fun y => no f9 ⟨y, rfl⟩) (fun y => no f2 ⟨y, rfl⟩) (fun y => no f10 ⟨y, rfl⟩) ?_ ?_
  · rcases hP_of hg with ⟨-, e⟩ | ⟨-, e⟩ <;> rw [e]
    · exact fun y => no f3 ⟨y, rfl⟩
    · exact fun y => no f4 ⟨y, rfl⟩
  · rcases hP_of hg with ⟨-, e⟩ | ⟨-, e⟩ <;> rw [e]
    · rintro ⟨y, t | t⟩
      · exact no f5 ⟨y, t⟩
      · exact no f6 ⟨y, t⟩
    · rintro ⟨y, t | t⟩
      · exact no f7 ⟨y, t⟩
      · exact no f8 ⟨y, t⟩
theorem KsB.L {g : Nat} (hg : g < 2) {M M1 : Mem} (h : KsB g M M1) : Sm rL M M1 := h.sm hg fun _ => ⟨rfl, rfl, rfl, rfl, rfl, rfl, rfl, rfl, rfl, rfl⟩
theorem Inv.kb {g : Nat} (hg : g < 2) {M M1 : Mem} (hI : Inv M) (hG : IvG M1) (h : KsB g M M1) : Inv M1 := by
  obtain ⟨_, h2, h3, h4, h5, h6, h7⟩ := hI
  exact ⟨hG, h2.sm (h.sm hg fun _ => ⟨rfl, rfl, rfl, rfl, rfl, rfl, rfl, rfl, rfl, rfl⟩), h3.sm (h.sm hg fun _ => ⟨rfl, rfl, rfl, rfl, rfl, rfl, rfl, rfl, rfl, rfl⟩), h4.sm (h.L hg), h5.sm (h.sm hg fun _ => ⟨rfl, rfl, rfl, rfl, rfl, rfl, rfl, rfl, rfl, rfl⟩), h6.sm (h.sm hg fun _ => ⟨rfl, rfl, rfl, rfl, rfl, rfl, rfl, rfl, rfl, rfl⟩), h7.sm (h.sm hg fun _ => ⟨rfl, rfl, rfl, rfl, rfl, rfl, rfl, rfl, rfl, rfl⟩)⟩
theorem c_take8 {M : Mem} {x c : Nat} {t : Nat × Nat} (h4 : M 117 4 = wI t.1) (h5 : M 117 5 = p5 t) (ht : t.1 ≤ 100000 ∧ t.2 < 64) (hx : x < 64) : ∃ M1, f_X8_take (nI x) (if c < 100000 then nI c else -1) M = some M1 ∧ M1 117 4 = wI (spT c x t).1 ∧ M1 117 5 = p5 (spT c x t) ∧ ∀ p k, p ≠ 117 → M1 p k = M p k := by
  by_cases q : c < 100000
  · rw [if_pos q]
    have n1 : ¬ nI c = -1 := nI_m1 (by omega)
    have setC : (c < t.1 ∨ (c = t.1 ∧ c < 100000 ∧ c6 x < c6 t.2)) → (up (up M 117 4 (nI c)) 117 5 (nI x)) 117 4 = wI (spT c x t).1 ∧ (up (up M 117 4 (nI c)) 117 5 (nI x)) 117 5 = p5 (spT c x t) ∧ ∀ p k, p ≠ 117 → (up (up M 117 4 (nI c)) 117 5 (nI x)) p k = M p k := by
      intro hy
      have e : spT c x t = (c, x) := by unfold spT; rw [if_pos hy]
      have e1 : wI c = nI c := by unfold wI; rw [if_neg (by omega)]
      have e2 : p5 (c, x) = nI x := by
        unfold p5
        rw [if_neg (show ¬ (c, x).1 = 100000 by show ¬ c = 100000; omega)]
      rw [e, e2]
      refine ⟨?_, by simp [up_at], fun p k hp => by simp [up_at, hp]⟩
      show _ = wI c
      rw [e1]
      simp [up_at]
    have keepC : ¬ (c < t.1 ∨ (c = t.1 ∧ c < 100000 ∧ c6 x < c6 t.2)) → M 117 4 = wI (spT c x t).1 ∧ M 117 5 = p5 (spT c x t) ∧ ∀ p k, p ≠ 117 → M p k = M p k := by
      intro hy
      have e : spT c x t = t := by unfold spT; rw [if_neg hy]
      rw [e]
      exact ⟨h4, h5, fun _ _ _ => rfl⟩
    by_cases q1 : t.1 = 100000
    · have e4 : M 117 4 = -1 := by rw [h4, q1]; rfl
      refine ⟨_, ?_, setC (.inl (by omega))⟩
      unfold f_X8_take
      rw [if_neg n1, e4, if_neg n1, Option.bind_some, if_pos rfl]
      rfl
    · have e4 : M 117 4 = nI t.1 := by rw [h4]; unfold wI; rw [if_neg q1]
      have e5 : M 117 5 = nI t.2 := by rw [h5]; unfold p5; rw [if_neg q1]
      have n2 : ¬ nI t.1 = -1 := nI_m1 (by omega)
      have ht2 := ht.2
      have hx5 : (if nI c = nI t.1 then (f_J6_bitCount_0f7a4 (nI x)).bind fun (r6 : Int32) => (f_J6_bitCount_0f7a4 (nI t.2)).bind fun (r7 : Int32) => if r7 ≤ r6 then some false else some true else some false) = some (decide (c = t.1 ∧ c6 x < c6 t.2)) := by
        rw [pc_I (by omega), Option.bind_some, pc_I (by omega), Option.bind_some, s6_pc x hx, s6_pc t.2 ht2]
        have b1 := c6_le x
        have b2 := c6_le t.2
        by_cases y : c = t.1
        · rw [if_pos (by rw [y])]
          by_cases y2 : c6 x < c6 t.2
          · rw [if_neg (nI_ge y2 (by omega)), decide_eq_true ⟨y, y2⟩]
          · rw [if_pos (nI_le (by omega) (by omega)), decide_eq_false (fun t => y2 t.2)]
        · rw [if_neg (fun t => y (nI_inj (by omega) (by omega) t)), decide_eq_false (fun t => y t.1)]
      have st : f_X8_take (nI x) (nI c) M = if c < t.1 then some (up (up M 117 4 (nI c)) 117 5 (nI x)) else if (c = t.1 ∧ c6 x < c6 t.2) then some (up (up M 117 4 (nI c)) 117 5 (nI x)) else some M := by
        unfold f_X8_take f_X8_take_j54_0
        rw [if_neg n1, e4, e5, hx5, Option.bind_some, if_neg n2]
        by_cases y : c < t.1
        · rw [if_pos y, if_pos (nI_lt y (by omega))]; rfl
        · rw [if_neg y, if_neg (nI_nlt (by omega) (by omega))]
          by_cases y2 : c = t.1 ∧ c6 x < c6 t.2
          · rw [if_pos y2, decide_eq_true y2]; rfl
          · rw [if_neg y2, decide_eq_false y2]; rfl
      rw [st]
      by_cases y : c < t.1
      · rw [if_pos y]
        exact ⟨_, rfl, setC (.inl y)⟩
      · rw [if_neg y]
        by_cases y2 : c = t.1 ∧ c6 x < c6 t.2
        · rw [if_pos y2]
          exact ⟨_, rfl, setC (.inr ⟨y2.1, q, y2.2⟩)⟩
        · rw [if_neg y2]
          exact ⟨_, rfl, keepC (by rintro (w | w); exact y w; exact y2 ⟨w.1, w.2.2⟩)⟩
  · rw [if_neg q]
    have e : spT c x t = t := by
      unfold spT
      rw [if_neg (by omega)]
    rw [e]
    refine ⟨M, ?_, h4, h5, fun _ _ _ => rfl⟩
    unfold f_X8_take
    rw [if_pos rfl]
theorem and_z {x s : Nat} (hx : x < 64) (hs : s < 64) : (nI x &&& nI s = 0) ↔ x &&& s = 0 := by
  rw [vb_and (by omega) (by omega)]
  exact nI_eq (b := 0) (Nat.lt_of_le_of_lt Nat.and_le_left (by omega)) (by decide)
theorem or_64 {x s : Nat} (hx : x < 64) (hs : s < 64) : s ||| x < 64 := Nat.or_lt_two_pow (n := 6) hs hx
theorem or_pos {x s : Nat} (h : 0 < s) : 0 < s ||| x := Nat.lt_of_lt_of_le h Nat.left_le_or
theorem c_solve {M : Mem} {g n b s : Nat} {wy pr : Nat → Nat} {cd : Nat → CdT} {e : Int32} (hG : IvG M) (hg : g < 2) (lC : LwC (hP g) n wy pr cd M) (bC : BsC b s e M) (h0 : 0 < s) : ∃ M1, f_X8_solve (hP g) (nI b) M = some (wI (spS (wtN (M 2) n wy pr cd e (nI (pcN s))) s 64).1, M1) ∧ M1 117 4 = wI (spS (wtN (M 2) n wy pr cd e (nI (pcN s))) s 64).1 ∧ M1 117 5 = p5 (spS (wtN (M 2) n wy pr cd e (nI (pcN s))) s 64) ∧ IvG M1 ∧ KsB g M M1 := by
  obtain ⟨Ma, k1, k2, k3, k4⟩ := c_ask8 hG hg lC bC
  have hpr : ∀ i, i < n → pr i < 100 := fun i hi => (lC.2.2 i hi).2.2.1
  have hw := wt_C (own := M 2) (wy := wy) (cd := cd) (e := e) (k := nI (pcN s)) hpr
  revert k2 hw
  generalize wtN (M 2) n wy pr cd e (nI (pcN s)) = w
  intro k2 hw
  have hp := hP_of hg
  have hs := bC.2.1
  have hb8 := bC.1
  have b1 := inb_t (k := b) (n := 8) hb8 (by decide)
  have b2 := nI_cl (show b < 2 ^ 31 by omega)
  have ls : f_X0_landsOf (nI b) Ma = some (nI s) := by
    unfold f_X0_landsOf
    rw [if_pos b1, b2, k4 115 b (by decide) (by decide) (by omega) (by omega), bC.2.2.1]
  obtain ⟨z, hz, z1, z2, z3⟩ := it_inv (b := f_X8_solve_b28 (nI s)) (fun x S => ∃ Mi, S = (nI x, Mi) ∧ Mi 117 4 = wI (spS w s x).1 ∧ Mi 117 5 = p5 (spS w s x) ∧ ∀ p k, p ≠ 117 → p ≠ 119 → Mi p k = Ma p k) 64 (Q := fun Z => Z 117 4 = wI (spS w s 64).1 ∧ Z 117 5 = p5 (spS w s 64) ∧ ∀ p k, p ≠ 117 → p ≠ 119 → Z p k = Ma p k) (by decide) (by
    rintro x hx S ⟨Mi, rfl, r1, r2, r3⟩
    have a1 : ¬ (64 : Int32) ≤ nI x := nI_ge (b := 64) hx (by decide)
    have az := and_z hx hs
    rw [spS_s]
    by_cases q : x &&& s = 0
    · rw [if_pos q]
      have hpi : PrC w Mi := fun a c h1 h2 h3 => (r3 118 _ (by decide) (by decide)).trans (k2 a c h1 h2 h3)
      obtain ⟨M38, t1, t2⟩ := c_tree hw hpi (or_64 hx hs) (or_pos (x := x) h0)
      have eo : nI x ||| nI s = nI (s ||| x) := by rw [vb_or (by omega) (by omega), Nat.or_comm]
      obtain ⟨M39, u1, u2, u3, u4⟩ := c_take8 (M := M38) (x := x) (c := treeN w (s ||| x)) ((t2 117 4 (by decide)).trans r1) ((t2 117 5 (by decide)).trans r2) (spS_le w s x (by omega)) hx
      refine ⟨(nI (x + 1), M39), ?_, M39, rfl, u2, u3, fun p k h1 h2 => (u4 p k h1).trans ((t2 p k h2).trans (r3 p k h1 h2))⟩
      simp only [f_X8_solve_b28]
      rw [if_neg a1, if_pos (az.mpr q), eo, t1, Option.bind_some]
      simp only
      have et : trC w (s ||| x) = if treeN w (s ||| x) < 100000 then nI (treeN w (s ||| x)) else -1 := rfl
      rw [et, u1, nI_1]
      rfl
    · rw [if_neg q]
      refine ⟨(nI (x + 1), Mi), ?_, Mi, rfl, r1, r2, r3⟩
      simp only [f_X8_solve_b28]
      rw [if_neg a1, if_neg (fun y => q (az.mp y)), nI_1]
      rfl) (by
    rintro S ⟨Mi, rfl, r1, r2, r3⟩
    have a1 : (64 : Int32) ≤ nI 64 := by decide
    exact ⟨Mi, by simp only [f_X8_solve_b28, a1, if_true], r1, r2, r3⟩) (s0 := (0, up (up Ma 117 4 (-1)) 117 5 (-1))) ⟨_, rfl, by rw [up_at, if_neg (fun y => absurd y.2 (by decide)), up_at, if_pos ⟨rfl, rfl⟩]; rfl, by rw [up_at, if_pos ⟨rfl, rfl⟩]; rfl, fun p k h1 h2 => by rw [up_at, if_neg (fun y => h1 y.1), up_at, if_neg (fun y => h1 y.1)]⟩
  refine ⟨z, ?_, z1, z2, k3.row4 fun p k hpk => z3 p k (by omega) (by omega), fun p k c1 c2 c3 c4 c5 c6 => (z3 p k c2 c4).trans (k4 p k c1 c3 c5 c6)⟩
  unfold f_X8_solve
  rw [k1, Option.bind_some, ls, Option.bind_some, hz, Option.bind_some, z1]
def KsN (M M1 : Mem) : Prop := ∀ p k, p ≠ 148 → p ≠ 151 → ¬ (p = 132 ∧ (k = 29 ∨ k = 31 ∨ k = 32)) → M1 p k = M p k
theorem KsN.A {M M1 : Mem} (h : KsN M M1) : Sm rA M M1 := fun p k hp => h p k (by rintro rfl; cases hp) (by rintro rfl; cases hp) (by rintro ⟨rfl, rfl | rfl | rfl⟩ <;> cases hp)
theorem m_step8 {M : Mem} {x c : Nat} {t : Nat × Nat} (h4 : M 132 31 = nI t.1) (h5 : M 132 32 = p5 t) (ht : t.1 ≤ 100000 ∧ t.2 < 64) (hx : x < 64) {r : Int32} (er : r = if c < 100000 then nI c else 100000) : ∃ M1, (Option.bind (if r = (M 132 31) then (if 100000 ≤ r then some false else (f_X12_bitsOf (nI x)).bind fun (r99 : Int32) => (f_X12_bitsOf (M 132 32)).bind fun (r100 : Int32) => if r100 ≤ r99 then some false else some true) else some false) fun (x98 : Bool) => Option.bind (if r < (M 132 31) then some (nI x) else if x98 = true then some (nI x) else some (M 132 32)) fun (x101 : Int32) => Option.bind (if ((up M 132 32 x101) 132 31) ≤ r then some ((up M 132 32 x101) 132 31) else some r) fun (x102 : Int32) => some (up (up M 132 32 x101) 132 31 x102)) = some M1 ∧ M1 132 31 = nI (spT c x t).1 ∧ M1 132 32 = p5 (spT c x t) ∧ ∀ p k, ¬ (p = 132 ∧ (k = 31 ∨ k = 32)) → M1 p k = M p k := by
  have ht2 := ht.2
  have u31 : ∀ v, up M 132 32 v 132 31 = nI t.1 := fun v => by rw [up_at, if_neg (fun y => absurd y.2 (by decide)), h4]
  have fr : ∀ v u, ∀ p k, ¬ (p = 132 ∧ (k = 31 ∨ k = 32)) → up (up M 132 32 v) 132 31 u p k = M p k := fun v u p k hn => by
    rw [up_at, if_neg (fun y => hn ⟨y.1, .inl y.2⟩), up_at, if_neg (fun y => hn ⟨y.1, .inr y.2⟩)]
  have hx98 : (if r = nI t.1 then (if 100000 ≤ r then some false else (f_X12_bitsOf (nI x)).bind fun (r99 : Int32) => (f_X12_bitsOf (p5 t)).bind fun (r100 : Int32) => if r100 ≤ r99 then some false else some true) else some false) = some (decide (c = t.1 ∧ c < 100000 ∧ c6 x < c6 t.2)) := by
    rw [m_bits x hx, Option.bind_some, s6_pc x hx]
    by_cases q : c < 100000
    · rw [er, if_pos q, if_neg (show ¬ (100000 : Int32) ≤ nI c from nI_ge (b := 100000) q (by decide))]
      by_cases y : c = t.1
      · have ep : p5 t = nI t.2 := by unfold p5; rw [if_neg (by omega)]
        rw [if_pos (by rw [y]), ep, m_bits t.2 ht2, Option.bind_some, s6_pc t.2 ht2]
        have b1 := c6_le x
        have b2 := c6_le t.2
        by_cases y2 : c6 x < c6 t.2
        · rw [if_neg (nI_ge y2 (by omega)), decide_eq_true ⟨y, q, y2⟩]
        · rw [if_pos (nI_le (by omega) (by omega)), decide_eq_false (fun t => y2 t.2.2)]
      · rw [if_neg (fun t => y (nI_inj (by omega) (by omega) t)), decide_eq_false (fun t => y t.1)]
    · rw [er, if_neg q, if_pos (show (100000 : Int32) ≤ 100000 from Int32.le_refl _), decide_eq_false (fun t => q t.2.1)]
      by_cases y : (100000 : Int32) = nI t.1
      · rw [if_pos y]
      · rw [if_neg y]
  rw [h4, h5, hx98, Option.bind_some]
  have rl : r < nI t.1 ↔ c < t.1 := by
    rw [er]
    by_cases q : c < 100000
    · rw [if_pos q]; exact nI_ltI (by omega) (by omega)
    · rw [if_neg q]
      constructor
      · intro y
        have : 100000 < t.1 := (nI_ltI (a := 100000) (by decide) (by omega)).mp y
        omega
      · intro y; omega
  have rle : nI t.1 ≤ r ↔ ¬ c < t.1 := by
    rw [← rl]
    exact nlt_le.symm
  by_cases y : c < t.1
  · have e : spT c x t = (c, x) := by unfold spT; rw [if_pos (.inl y)]
    have e2 : p5 (c, x) = nI x := by
      unfold p5
      rw [if_neg (show ¬ (c, x).1 = 100000 by show ¬ c = 100000; omega)]
    have er2 : r = nI c := by rw [er, if_pos (by omega)]
    refine ⟨up (up M 132 32 (nI x)) 132 31 (nI c), ?_, by rw [e]; simp [up_at], by rw [e, e2]; simp [up_at], fr _ _⟩
    rw [if_pos (rl.mpr y), Option.bind_some, u31, if_neg (fun w => (rle.mp w) y), Option.bind_some, er2]
  · by_cases y2 : c = t.1 ∧ c < 100000 ∧ c6 x < c6 t.2
    · have e : spT c x t = (c, x) := by unfold spT; rw [if_pos (.inr y2)]
      have e2 : p5 (c, x) = nI x := by
        unfold p5
        rw [if_neg (show ¬ (c, x).1 = 100000 by show ¬ c = 100000; omega)]
      refine ⟨up (up M 132 32 (nI x)) 132 31 (nI t.1), ?_, by rw [e, y2.1]; simp [up_at], by rw [e, e2]; simp [up_at], fr _ _⟩
      rw [if_neg (fun w => y (rl.mp w)), decide_eq_true y2, if_pos rfl, Option.bind_some, u31, if_pos (rle.mpr y), Option.bind_some]
    · have e : spT c x t = t := by
        unfold spT
        rw [if_neg (by rintro (w | w); exact y w; exact y2 w)]
      refine ⟨up (up M 132 32 (p5 t)) 132 31 (nI t.1), ?_, by rw [e]; simp [up_at], by rw [e]; simp [up_at], fr _ _⟩
      rw [if_neg (fun w => y (rl.mp w)), decide_eq_false y2, if_neg Bool.false_ne_true, Option.bind_some, u31, if_pos (rle.mpr y), Option.bind_some]
theorem m_find {M : Mem} {g n b s : Nat} {wy pr : Nat → Nat} {cd : Nat → CdT} {e : Int32} (hI : Inv M) (hg : g < 2) (lM : LwM g n wy pr cd M) (bM : BsM b s e M) (h0 : 0 < s) : ∃ M1, f_X12_findSpread (nI g) (nI b) M = some M1 ∧ M1 132 31 = wI (spS (wtN (M 2) n wy pr cd e (nI (pcN s))) s 64).1 ∧ M1 132 32 = p5 (spS (wtN (M 2) n wy pr cd e (nI (pcN s))) s 64) ∧ KsN M M1 := by
  obtain ⟨Ma, k1, k2, k3⟩ := m_lay8 hI hg lM bM
  have hpr : ∀ i, i < n → pr i < 100 := fun i hi => (lM.2.2 i hi).2.2.1
  have hw := wt_C (own := M 2) (wy := wy) (cd := cd) (e := e) (k := nI (pcN s)) hpr
  revert k2 hw
  generalize wtN (M 2) n wy pr cd e (nI (pcN s)) = w
  intro k2 hw
  have hs := bM.2.1
  have hb8 := bM.1
  have b1 := inb_t (k := b) (n := 8) hb8 (by decide)
  have b2 := nI_cl (show b < 2 ^ 31 by omega)
  have ls : up (up Ma 132 31 100000) 132 32 (-1) 149 b = nI s := by
    rw [up_at, if_neg (fun y => absurd y.1 (by decide)), up_at, if_neg (fun y => absurd y.1 (by decide)), k3 149 b (by decide) (by decide) (by omega), bM.2.2.1]
  obtain ⟨z, hz, z1, z2, z3⟩ := it_inv (b := f_X12_findSpread_b28 (nI b) Ma) (fun x S => ∃ Mi, S = (nI x, Mi) ∧ Mi 132 31 = nI (spS w s x).1 ∧ Mi 132 32 = p5 (spS w s x) ∧ ∀ p k, ¬ (p = 132 ∧ (k = 31 ∨ k = 32)) → Mi p k = Ma p k) 64 (Q := fun Z => Z 132 31 = nI (spS w s 64).1 ∧ Z 132 32 = p5 (spS w s 64) ∧ ∀ p k, ¬ (p = 132 ∧ (k = 31 ∨ k = 32)) → Z p k = Ma p k) (by decide) (by
    rintro x hx S ⟨Mi, rfl, r1, r2, r3⟩
    have a1 : ¬ (64 : Int32) ≤ nI x := nI_ge (b := 64) hx (by decide)
    have az := and_z hx hs
    rw [spS_s]
    by_cases q : x &&& s = 0
    · rw [if_pos q]
      have hpi : PrM w Mi := fun a c h1 h2 h3 => (r3 151 _ (by omega)).trans (k2 a c h1 h2 h3)
      have t1 := m_tree hw hpi (or_64 hx hs) (or_pos (x := x) h0)
      have eo : nI s ||| nI x = nI (s ||| x) := vb_or (by omega) (by omega)
      obtain ⟨M39, u1, u2, u3, u4⟩ := m_step8 (M := Mi) (x := x) (c := treeN w (s ||| x)) r1 r2 (spS_le w s x (by omega)) hx (r := trM w (s ||| x)) rfl
      refine ⟨(nI (x + 1), M39), ?_, M39, rfl, u2, u3, fun p k h1 => (u4 p k h1).trans (r3 p k h1)⟩
      simp only [f_X12_findSpread_b28]
      rw [if_neg a1, b2, ls, if_pos (az.mpr q), eo, t1, Option.bind_some, u1, nI_1]
      rfl
    · rw [if_neg q]
      refine ⟨(nI (x + 1), Mi), ?_, Mi, rfl, r1, r2, r3⟩
      simp only [f_X12_findSpread_b28]
      rw [if_neg a1, b2, ls, if_neg (fun y => q (az.mp y)), nI_1]
      rfl) (by
    rintro S ⟨Mi, rfl, r1, r2, r3⟩
    have a1 : (64 : Int32) ≤ nI 64 := by decide
    exact ⟨Mi, by simp only [f_X12_findSpread_b28, a1, if_true], r1, r2, r3⟩) (s0 := (0, up (up Ma 132 31 100000) 132 32 (-1))) ⟨_, rfl, by rw [up_at, if_neg (fun y => absurd y.2 (by decide)), up_at, if_pos ⟨rfl, rfl⟩]; rfl, by rw [up_at, if_pos ⟨rfl, rfl⟩]; rfl, fun p k h1 => by rw [up_at, if_neg (fun y => h1 ⟨y.1, .inr y.2⟩), up_at, if_neg (fun y => h1 ⟨y.1, .inl y.2⟩)]⟩
  have hle := (spS_le w s 64 (Nat.le_refl _)).1
  have ew : (if nI (spS w s 64).1 = 100000 then some (-1) else some (nI (spS w s 64).1)) = some (wI (spS w s 64).1) := by
    unfold wI
    by_cases q : (spS w s 64).1 = 100000
    · rw [if_pos q, if_pos (by rw [q]; rfl)]
    · have n1 : ¬ nI (spS w s 64).1 = 100000 := fun y => q (nI_inj (b := 100000) (by omega) (by decide) y)
      rw [if_neg q, if_neg n1]
  refine ⟨up z 132 31 (wI (spS w s 64).1), ?_, by simp [up_at], by rw [up_at, if_neg (fun y => absurd y.2 (by decide))]; exact z2, fun p k c1 c2 c3 => ?_⟩
  · unfold f_X12_findSpread
    rw [k1, Option.bind_some, if_pos b1, hz, Option.bind_some, z1, ew, Option.bind_some]
  · rw [up_at, if_neg (fun y => c3 ⟨y.1, .inr (.inl y.2)⟩), z3 p k (fun y => c3 ⟨y.1, .inr y.2⟩)]
    exact k3 p k c1 c2 (fun y => c3 ⟨y.1, .inl y.2⟩)
