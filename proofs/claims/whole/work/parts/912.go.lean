/-! reading a law, letter by letter: (state, (way, number), factors done, denials, (a term ahead, a factor ahead in the term), (letter, sign, value), (the terms ahead, the factors ahead)) -/
abbrev AVt : Type := Nat × (Nat × Nat) × Nat × Nat × (Bool × Bool) × (Nat × Nat × Nat) × (CdT × CdT)
def rawF (l g v : Nat) : CdT := fun d e k => if g = 0 then decide ((if l = 0 then d else if l = 1 then e else k) < nI v) else if g = 1 then decide ((if l = 0 then d else if l = 1 then e else k) = nI v) else decide (nI v < (if l = 0 then d else if l = 1 then e else k))
def facF (neg l g v : Nat) : CdT := fun d e k => rawF l g v d e k != odN neg
def wyN (c : Nat) : Nat := if c = 74 then 0 else if c = 66 then 1 else if c = 83 then 2 else 3
def ltN (c : Nat) : Nat := if c = 100 then 0 else if c = 101 then 1 else 2
def aE (t way num m neg : Nat) (hO hA : Bool) (l g v : Nat) (O A : CdT) (c : Nat) : AVt :=
  if c = 38 then (t, (way, num), m + 1, 0, (hO, true), (l, g, v), (O, fun d e k => A d e k && facF neg l g v d e k))
  else (t, (way, num), m + 1, 0, (true, false), (l, g, v), (fun d e k => O d e k || (A d e k && facF neg l g v d e k), ttC))
def aS : AVt → Nat → AVt
  | (st, (way, num), m, neg, (hO, hA), (l, g, v), (O, A)), c =>
    if st = 0 then (nxN st c, (wyN c, num), m, neg, (hO, hA), (l, g, v), (O, A))
    else if st = 2 then (nxN st c, (way, c - 48), m, neg, (hO, hA), (l, g, v), (O, A))
    else if st = 3 then (if dgB c = true then (nxN st c, (way, 10 * num + (c - 48)), m, neg, (hO, hA), (l, g, v), (O, A)) else (nxN st c, (way, num), m, neg, (hO, hA), (l, g, v), (O, A)))
    else if st = 5 then (if c = 33 then (nxN st c, (way, num), m, neg + 1, (hO, hA), (l, g, v), (O, A)) else (nxN st c, (way, num), m, neg, (hO, hA), (ltN c, g, v), (O, A)))
    else if st = 6 then (nxN st c, (way, num), m, neg, (hO, hA), (l, c - 60, v), (O, A))
    else if st = 7 then (nxN st c, (way, num), m, neg, (hO, hA), (l, g, c - 48), (O, A))
    else if st = 8 then (if dgB c = true then (nxN st c, (way, num), m, neg, (hO, hA), (l, g, 10 * v + (c - 48)), (O, A)) else aE (nxN st c) way num m neg hO hA l g v O A c)
    else if st = 9 then aE (nxN st c) way num m neg hO hA l g v O A c
    else (nxN st c, (way, num), m, neg, (hO, hA), (l, g, v), (O, A))
def pnd : Nat → Nat
  | 6 => 1
  | 7 => 1
  | 8 => 1
  | _ => 0
def RelS (st way num l g v : Nat) (M : Mem) : Prop := M 132 14 = nI st ∧ (1 ≤ st → way < 4 ∧ M 132 15 = nI way) ∧ (3 ≤ st → num < 100 ∧ M 132 16 = nI num) ∧ (st = 3 → num < 10) ∧ (6 ≤ st → l < 3 ∧ M 132 17 = nI l) ∧ (7 ≤ st → g < 3 ∧ M 132 18 = nI g) ∧ (8 ≤ st → v < 100 ∧ M 132 19 = nI v) ∧ (st = 8 → v < 10)
def stF (st l g v : Nat) (hO hA : Bool) (O A : CdT) (d e k : Int32) : List Bool := (if st = 9 then [rawF l g v d e k] else []) ++ tlF hO hA O A d e k
def RelM : AVt → Nat → Mem → Prop
  | (st, (way, num), _, neg, (hO, hA), (l, g, v), (O, A)), i, M => RelS st way num l g v M ∧ (hA = false → A = ttC) ∧ (hO = false → O = ffC) ∧ ∃ rm, SKr M rm (List.replicate neg 9 ++ tlL hO hA) (stF st l g v hO hA O A) ∧ rm + neg + (tlL hO hA).length + pnd st ≤ i
def KmL (M M1 : Mem) : Prop := ∀ p k, p ≠ 145 → p ≠ 146 → p ≠ 147 → ¬ (p = 132 ∧ 14 ≤ k ∧ k ≤ 24) → M1 p k = M p k
theorem KmL.rf {M : Mem} : KmL M M := fun _ _ _ _ _ _ => rfl
theorem KmL.tr {M M1 M2 : Mem} (h : KmL M M1) (g : KmL M1 M2) : KmL M M2 := fun p k a b c d => (g p k a b c d).trans (h p k a b c d)
theorem KmL.u1 {M M1 : Mem} (h : KmL M M1) {j : Nat} {v : Int32} (h1 : 14 ≤ j) (h2 : j ≤ 24) : KmL M (up M1 132 j v) := fun p k a b c d => by
  rw [up_at, if_neg (fun w => d ⟨w.1, by omega, by omega⟩)]
  exact h p k a b c d
theorem KmL.w {M M1 : Mem} (h : KmL M M1) {j : Nat} {v : Int32} : KmL M (up M1 147 j v) := fun p k a b c d => by
  rw [up_at, if_neg (fun w => c w.1)]
  exact h p k a b c d
theorem FrD.km {M M1 : Mem} (h : FrD M M1) : KmL M M1 := fun p k a b c d => h p k a b (fun w => d ⟨w.1, by omega, by omega⟩)
theorem SK_up {M : Mem} {rm j : Nat} {ws : List Nat} {F : Int32 → Int32 → Int32 → List Bool} {v : Int32} (h : SKr M rm ws F) (h1 : j ≠ 22) (h2 : j ≠ 24) : SKr (up M 132 j v) rm ws F := by
  obtain ⟨a1, a2, a3, a4⟩ := h
  refine ⟨?_, ?_, WL_congr ws (fun i _ => by simp [up_at]) a3, fun d e k => ?_⟩
  · rw [up_at, if_neg (fun w => h1 w.2.symm)]; exact a1
  · rw [up_at, if_neg (fun w => h2 w.2.symm)]; exact a2
  · rw [rpn_congr (mk := M 145) (nu := M 146) d e k rm (fun i hi => by constructor <;> simp [up_at])]
    exact a4 d e k
theorem SK_push {M : Mem} {rm x : Nat} {ws : List Nat} {F : Int32 → Int32 → Int32 → List Bool} (h : SKr M rm ws F) : SKr (up (up M 147 ws.length (nI x)) 132 24 (nI (ws.length + 1))) rm (x :: ws) F := by
  obtain ⟨a1, a2, a3, a4⟩ := h
  refine ⟨by simp [up_at, a1], by simp [up_at], ⟨by simp [up_at], WL_congr ws (fun i hi => ?_) a3⟩, fun d e k => ?_⟩
  · have : i ≠ ws.length := by omega
    simp [up_at, this]
  · rw [rpn_congr (mk := M 145) (nu := M 146) d e k rm (fun i hi => by constructor <;> simp [up_at])]
    exact a4 d e k
theorem fm_a : ∀ l, l < 3 → ∀ g, g < 3 → ((nI (3 * l + g) / 3 = 0 ↔ l = 0) ∧ (nI (3 * l + g) / 3 = 1 ↔ l = 1) ∧ (jrem (nI (3 * l + g)) 3 = 0 ↔ g = 0) ∧ (jrem (nI (3 * l + g)) 3 = 1 ↔ g = 1) ∧ nI (3 * l + g) < 9) := by decide +kernel
theorem rps_f {l g v : Nat} (hl : l < 3) (hg : g < 3) (d e k : Int32) (st : List Bool) : rps (nI (3 * l + g)) (nI v) d e k st = some (rawF l g v d e k :: st) := by
  obtain ⟨h1, h2, h3, h4, h5⟩ := fm_a l hl g hg
  unfold rps fcM rawF
  rw [if_pos h5]
  simp only [h1, h2, h3, h4]
theorem m_endN {M : Mem} {rm l g v : Nat} {ws : List Nat} {F : Int32 → Int32 → Int32 → List Bool} (h : SKr M rm ws F) (hb : rm < 50) (hl : l < 3) (hg : g < 3) (e1 : M 132 17 = nI l) (e2 : M 132 18 = nI g) (e3 : M 132 19 = nI v) : ∃ M1, f_X12_endNumber M = some M1 ∧ SKr M1 (rm + 1) ws (fun d e k => rawF l g v d e k :: F d e k) ∧ M1 132 14 = nI 9 ∧ (∀ j, j ≠ 22 → j ≠ 14 → M1 132 j = M 132 j) ∧ KmL M M1 := by
  have e4 : 3 * nI l + nI g = nI (3 * l + g) := by
    have : 3 * nI l = nI (3 * l) := pk_mul 3 l
    rw [this, nI_add]
  refine ⟨up (up (up (up M 145 rm (nI (3 * l + g))) 146 rm (nI v)) 132 22 (nI (rm + 1))) 132 14 9, ?_, SK_up (SK_mark h (fun d e k => rps_f hl hg d e k _)) (by decide) (by decide), by simp [up_at]; rfl, fun j h1 h2 => by simp [up_at, h1, h2], fun p k a b c d => ?_⟩
  · unfold f_X12_endNumber
    rw [e1, e2, e3, e4, m_mark h.1 hb]
    rfl
  · rw [up_at, if_neg (fun w => d ⟨w.1, by omega, by omega⟩), up_at, if_neg (fun w => d ⟨w.1, by omega, by omega⟩), up_at, if_neg (fun w => b w.1), up_at, if_neg (fun w => a w.1)]
theorem m_dg : ∀ c, c < 127 → f_X12_in (Int32.toInt64 (nI c)) 48 57 = some (dgB c) := by decide +kernel
theorem m_way : ∀ c, c < 127 → f_X12_wayOf (nI c) = some (if c = 74 ∨ c = 66 ∨ c = 83 ∨ c = 67 then nI (wyN c) else -1) := by decide +kernel
theorem m_let : ∀ c, c < 127 → f_X12_letterOf (nI c) = some (if c = 100 ∨ c = 101 ∨ c = 107 then nI (ltN c) else -1) := by decide +kernel
theorem wy_lt (c : Nat) : wyN c < 4 := by unfold wyN; split; decide; split; decide; split <;> decide
theorem lt_lt (c : Nat) : ltN c < 3 := by unfold ltN; split; decide; split <;> decide
/-- behind a factor: what comes once its number is laid -/
theorem m_behind {M19 : Mem} {rm neg c : Nat} {hO hA : Bool} {O A B : CdT} (h : SKr M19 rm (List.replicate neg 9 ++ tlL hO hA) (fun d e k => B d e k :: tlF hO hA O A d e k)) (hb : rm + neg + (tlL hO hA).length ≤ 49) (a0 : hA = false → A = ttC) (o0 : hO = false → O = ffC) (hc : c = 38 ∨ c = 124) : ∃ M1, (Option.bind (if nI c = 38 then some (10 : Int32) else some 11) fun (x21 : Int32) => (f_X12_layDown x21 M19).bind fun (M22 : Mem) => Option.bind (if nI c = 38 then some (10 : Int32) else some 11) fun (x23 : Int32) => if inb (M22 132 24) 50 = true then some (true, (up (up (up M22 147 (Int32.toNatClampNeg (M22 132 24)) x23) 132 24 (((up M22 147 (Int32.toNatClampNeg (M22 132 24)) x23) 132 24) + 1)) 132 14 5)) else none) = some (true, M1) ∧ M1 132 14 = nI 5 ∧ (∀ j, j ≠ 22 → j ≠ 14 → j ≠ 24 → M1 132 j = M19 132 j) ∧ KmL M19 M1 ∧ (c = 38 → ∃ rm1, SKr M1 rm1 (tlL hO true) (tlF hO true O (fun d e k => A d e k && (B d e k != odN neg))) ∧ rm1 + (tlL hO true).length ≤ rm + neg + (tlL hO hA).length + 1) ∧ (c = 124 → ∃ rm1, SKr M1 rm1 (tlL true false) (tlF true false (fun d e k => O d e k || (A d e k && (B d e k != odN neg))) ttC) ∧ rm1 + (tlL true false).length ≤ rm + neg + (tlL hO hA).length + 1) := by
  have key : ∀ (M2 : Mem) (x rm2 : Nat) (ws : List Nat) (F : Int32 → Int32 → Int32 → List Bool), SKr M2 rm2 ws F → ws.length < 50 → FrD M19 M2 → ∃ M1, (if inb (M2 132 24) 50 = true then some (true, (up (up (up M2 147 (Int32.toNatClampNeg (M2 132 24)) (nI x)) 132 24 (((up M2 147 (Int32.toNatClampNeg (M2 132 24)) (nI x)) 132 24) + 1)) 132 14 5)) else none) = some (true, M1) ∧ M1 132 14 = nI 5 ∧ (∀ j, j ≠ 22 → j ≠ 14 → j ≠ 24 → M1 132 j = M19 132 j) ∧ KmL M19 M1 ∧ SKr M1 rm2 (x :: ws) F := by
    intro M2 x rm2 ws F s hw hf
    have p1 := inb_t (k := ws.length) (n := 50) hw (by decide)
    have p2 := nI_cl (show ws.length < 2 ^ 31 by omega)
    have q1 : up M2 147 ws.length (nI x) 132 24 = nI ws.length := by
      rw [up_at, if_neg (fun w => absurd w.1 (by decide))]
      exact s.2.1
    refine ⟨up (up (up M2 147 ws.length (nI x)) 132 24 (nI (ws.length + 1))) 132 14 5, ?_, by simp [up_at]; rfl, fun j h1 h2 h3 => ?_, ((hf.km.w).u1 (j := 24) (by decide) (by decide)).u1 (j := 14) (by decide) (by decide), SK_up (SK_push s) (by decide) (by decide)⟩
    · rw [s.2.1, if_pos p1, p2, q1, nI_1]
    · rw [up_at, if_neg (fun w => h2 w.2), up_at, if_neg (fun w => h3 w.2), up_at, if_neg (fun w => absurd w.1 (by decide))]
      exact hf 132 j (by decide) (by decide) (fun w => by rcases w.2 with w | w; exact h1 w; exact h3 w)
  have lb : (tlL hO false).length ≤ 1 := by cases hO <;> decide
  rcases hc with rfl | rfl
  · obtain ⟨M2, rm2, k1, k2, k3, k4⟩ := m_down10 h (by omega) a0
    obtain ⟨M1, g1, g2, g3, g4, g5⟩ := key M2 10 rm2 _ _ k2 (by omega) k4
    refine ⟨M1, ?_, g2, g3, g4, fun _ => ⟨rm2, g5, ?_⟩, fun w => absurd w (by decide)⟩
    · rw [if_pos (show nI 38 = 38 from rfl), Option.bind_some, k1, Option.bind_some, Option.bind_some]
      exact g1
    · have : (tlL hO true).length = (tlL hO false).length + 1 := by cases hO <;> rfl
      omega
  · obtain ⟨M2, rm2, k1, k2, k3, k4⟩ := m_down11 h (by omega) a0 o0
    obtain ⟨M1, g1, g2, g3, g4, g5⟩ := key M2 11 rm2 _ _ k2 (by decide) k4
    refine ⟨M1, ?_, g2, g3, g4, fun w => absurd w (by decide), fun _ => ⟨rm2, g5, ?_⟩⟩
    · rw [if_neg (show ¬ nI 124 = 38 by decide), Option.bind_some, k1, Option.bind_some, Option.bind_some]
      exact g1
    · have : (tlL true false).length = 1 := rfl
      omega
