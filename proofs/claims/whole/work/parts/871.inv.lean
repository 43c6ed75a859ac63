/-! sums, least values over rows -/
def sm (f : Nat → Nat) : Nat → Nat
  | 0 => 0
  | n + 1 => sm f n + f n
def mn (f : Nat → Nat) (d : Nat) : Nat → Nat
  | 0 => d
  | n + 1 => min (mn f d n) (f n)
def rg (a b : Nat) : Nat := let x := (a + (16 - b % 16)) % 16; min x (16 - x)
/-- the steps between two cells -/
def stp (p q : Nat) : Nat := (if p / 16 < q / 16 then q / 16 - p / 16 else p / 16 - q / 16) + (let c := (if p % 16 < q % 16 then q % 16 - p % 16 else p % 16 - q % 16); if 8 < c then 16 - c else c)
/-- a land's columns in a row, as a mask -/
def mkN (own : Nat → Int32) (l r : Nat) : Nat := sm (fun c => if own (16 * r + c) = nI l then 2 ^ c else 0) 16
/-- the distance of two lands -/
def dsN (own : Nat → Int32) (a b : Nat) : Nat := mn (fun p => mn (fun q => if own p = nI a ∧ own q = nI b then stp p q else 99) 99 128) 99 128
/-! a law's condition, as the class keeps it (terms in a row) and as the reference does (marks for a stack) -/
def fcC (M : Mem) (Q : Nat) (d e k : Int32) (i : Nat) : Bool :=
  let v := if M (Q + 1) i = 100 then d else if M (Q + 1) i = 101 then e else k
  let so := if M (Q + 2) i = 60 then decide (v < M (Q + 3) i) else if M (Q + 2) i = 61 then decide (v = M (Q + 3) i) else decide (M (Q + 3) i < v)
  so != decide (¬ M (Q + 4) i = 0)
/-- (answered already, the term so far) behind i factors -/
def evC (opn fac : Nat → Bool) : Nat → Bool × Bool
  | 0 => (false, true)
  | i + 1 =>
    let s := evC opn fac i
    if s.1 then s else if opn i then (if decide (0 < i) && s.2 then (true, true) else (false, fac i)) else (false, s.2 && fac i)
def ClsL (M : Mem) (Q : Nat) (cd : Int32 → Int32 → Int32 → Bool) : Prop := ∃ nf, nf ≤ 12 ∧ M Q 2 = nI nf ∧ (∀ i, i < nf → ∃ b, M (Q + 4) i = bI b) ∧ ∀ d e k, (evC (fun i => decide (¬ M (Q + 5) i = 0)) (fcC M Q d e k) nf).2 = cd d e k
def fcM (m v d e k : Int32) : Bool :=
  let u := if m / 3 = 0 then d else if m / 3 = 1 then e else k
  if jrem m 3 = 0 then decide (u < v) else if jrem m 3 = 1 then decide (u = v) else decide (v < u)
def rps (m v d e k : Int32) (st : List Bool) : Option (List Bool) :=
  if m < 9 then some (fcM m v d e k :: st) else if m = 9 then (match st with
    | b :: r => some ((!b) :: r)
    | [] => none) else (match st with
    | b :: a :: r => some ((if m = 10 then a && b else a || b) :: r)
    | _ => none)
def rpn (mk nu : Nat → Int32) (d e k : Int32) : Nat → Option (List Bool)
  | 0 => some []
  | n + 1 => (rpn mk nu d e k n).bind (rps (mk n) (nu n) d e k)
def MdlL (M : Mem) (x : Nat) (cd : Int32 → Int32 → Int32 → Bool) : Prop := ∃ nm, nm ≤ 50 ∧ M 142 x = nI nm ∧ ∀ d e k, ∃ st, rpn (fun i => M 143 (50 * x + i)) (fun i => M 144 (50 * x + i)) d e k nm = some st ∧ cd d e k = st.getLast?.getD true
def LawR (M : Mem) (Q x : Nat) : Prop := (∃ w, w < 4 ∧ M Q 0 = nI w ∧ M 140 x = nI w) ∧ (∃ c, c < 100 ∧ M Q 1 = nI c ∧ M 141 x = nI c) ∧ ∃ cd, ClsL M Q cd ∧ MdlL M x cd
def hP (h : Nat) : Nat := if h = 0 then 12 else 63
/-! what holds between calls -/
def IvG (M : Mem) : Prop := (∀ c, c < 128 → M 133 c = M 2 c ∧ (M 2 c = -1 ∨ ∃ l, l < 6 ∧ M 2 c = nI l)) ∧ (∀ l r, l < 6 → r < 8 → M 3 (8 * l + r) = nI (mkN (M 2) l r)) ∧ ∀ a b, a < b → b < 6 → M 4 (6 * a + b) = 0 ∨ M 4 (6 * a + b) = nI (dsN (M 2) a b)
def IvM (M : Mem) : Prop := ∃ n, n ≤ 40 ∧ M 5 4 = nI n ∧ M 132 1 = nI n ∧ ∀ i, i < n → M 134 i = M 6 i ∧ M 135 i = M 7 i ∧ M 136 i = M 8 i ∧ (∃ k, k < 6 ∧ M 6 i = nI k) ∧ (∃ c, c < 128 ∧ M 7 i = nI c ∧ ¬ M 2 c = -1) ∧ ∃ v, v < 16 ∧ M 8 i = nI v
def IvP (M : Mem) : Prop := ∃ n, n ≤ 50 ∧ M 10 1 = nI n ∧ M 132 7 = nI n ∧ ∀ i, i < n → M 138 i = M 11 i ∧ ∃ c, 0 < c ∧ c < 127 ∧ M 11 i = nI c
def IvL (M : Mem) : Prop := ∀ h, h < 2 → ∃ n, n ≤ 8 ∧ M (hP h) 2 = nI n ∧ M 139 h = nI n ∧ ∀ i, i < n → LawR M (hP h + 3 + 6 * i) (8 * h + i)
def IvB (M : Mem) : Prop := ∃ n, n ≤ 8 ∧ M 114 2 = nI n ∧ M 132 26 = nI n ∧ ∀ i, i < n → M 149 i = M 115 i ∧ M 150 i = M 116 i ∧ (∃ s, 0 < s ∧ s < 64 ∧ M 115 i = nI s) ∧ ∃ a, a < 10 ∧ M 116 i = nI a
def IvS (M : Mem) : Prop := (∃ v, v < 8 ∧ M 120 7 = nI v ∧ M 132 33 = nI v) ∧ ∃ n, n ≤ 12 ∧ M 120 6 = nI n ∧ M 132 34 = nI n ∧ ∀ i, i < n → M 152 i = M 121 i ∧ M 153 i = M 122 i ∧ M 154 i = M 123 i ∧ M 155 i = M 124 i ∧ M 156 i = M 125 i ∧ (∃ a b, a < 6 ∧ b < 6 ∧ a ≠ b ∧ M 121 i = nI a ∧ M 122 i = nI b) ∧ (∃ g, g < 10 ∧ M 123 i = nI g) ∧ (∃ z, M 124 i = bI z) ∧ ∃ w, 0 < w ∧ w < 100 ∧ M 125 i = nI w
def IvF (M : Mem) : Prop := ∃ v, v < 16777216 ∧ M 131 0 = nI v ∧ M 132 41 = nI v
def Inv (M : Mem) : Prop := IvG M ∧ IvM M ∧ IvP M ∧ IvL M ∧ IvB M ∧ IvS M ∧ IvF M
/-! which places the parts read -/
def rG (p _k : Nat) : Bool := p == 2 || p == 3 || p == 4 || p == 133
def rM (p k : Nat) : Bool := p == 2 || p == 6 || p == 7 || p == 8 || p == 134 || p == 135 || p == 136 || (p == 5 && k == 4) || (p == 132 && k == 1)
def rP (p k : Nat) : Bool := p == 11 || p == 138 || (p == 10 && k == 1) || (p == 132 && k == 7)
def rL (p k : Nat) : Bool := (decide (15 ≤ p) && decide (p < 63)) || (decide (66 ≤ p) && decide (p < 114)) || (p == 12 && k == 2) || (p == 63 && k == 2) || p == 139 || p == 140 || p == 141 || p == 142 || p == 143 || p == 144
def rB (p k : Nat) : Bool := p == 115 || p == 116 || p == 149 || p == 150 || (p == 114 && k == 2) || (p == 132 && k == 26)
def rS (p k : Nat) : Bool := p == 121 || p == 122 || p == 123 || p == 124 || p == 125 || p == 152 || p == 153 || p == 154 || p == 155 || p == 156 || (p == 120 && k == 6) || (p == 120 && k == 7) || (p == 132 && k == 33) || (p == 132 && k == 34)
def rF (p k : Nat) : Bool := (p == 131 && k == 0) || (p == 132 && k == 41)
/-- the same at the places of r -/
def Sm (r : Nat → Nat → Bool) (M M1 : Mem) : Prop := ∀ p k, r p k = true → M1 p k = M p k
theorem Sm.row {r : Nat → Nat → Bool} {M M1 : Mem} (h : Sm r M M1) (p : Nat) (hr : ∀ k, r p k = true) : M1 p = M p := funext fun k => h p k (hr k)
theorem IvG.sm {M M1 : Mem} (h : IvG M) (s : Sm rG M M1) : IvG M1 := by
  have e2 := s.row 2 (fun _ => rfl)
  have e3 := s.row 3 (fun _ => rfl)
  have e4 := s.row 4 (fun _ => rfl)
  have e5 := s.row 133 (fun _ => rfl)
  unfold IvG
  rw [e2, e3, e4, e5]
  exact h
theorem IvM.sm {M M1 : Mem} (h : IvM M) (s : Sm rM M M1) : IvM M1 := by
  unfold IvM
  rw [s.row 2 (fun _ => rfl), s.row 6 (fun _ => rfl), s.row 7 (fun _ => rfl), s.row 8 (fun _ => rfl), s.row 134 (fun _ => rfl), s.row 135 (fun _ => rfl), s.row 136 (fun _ => rfl), s 5 4 rfl, s 132 1 rfl]
  exact h
theorem IvP.sm {M M1 : Mem} (h : IvP M) (s : Sm rP M M1) : IvP M1 := by
  unfold IvP
  rw [s.row 11 (fun _ => rfl), s.row 138 (fun _ => rfl), s 10 1 rfl, s 132 7 rfl]
  exact h
theorem IvB.sm {M M1 : Mem} (h : IvB M) (s : Sm rB M M1) : IvB M1 := by
  unfold IvB
  rw [s.row 115 (fun _ => rfl), s.row 116 (fun _ => rfl), s.row 149 (fun _ => rfl), s.row 150 (fun _ => rfl), s 114 2 rfl, s 132 26 rfl]
  exact h
theorem IvS.sm {M M1 : Mem} (h : IvS M) (s : Sm rS M M1) : IvS M1 := by
  unfold IvS
  rw [s.row 121 (fun _ => rfl), s.row 122 (fun _ => rfl), s.row 123 (fun _ => rfl), s.row 124 (fun _ => rfl), s.row 125 (fun _ => rfl), s.row 152 (fun _ => rfl), s.row 153 (fun _ => rfl), s.row 154 (fun _ => rfl), s.row 155 (fun _ => rfl), s.row 156 (fun _ => rfl), s 120 6 rfl, s 120 7 rfl, s 132 33 rfl, s 132 34 rfl]
  exact h
theorem IvF.sm {M M1 : Mem} (h : IvF M) (s : Sm rF M M1) : IvF M1 := by
  unfold IvF
  rw [s 131 0 rfl, s 132 41 rfl]
  exact h
theorem LawR.sm {M M1 : Mem} {Q x : Nat} (h : LawR M Q x) (e : ∀ j, j < 6 → M1 (Q + j) = M (Q + j)) (e1 : M1 140 = M 140) (e2 : M1 141 = M 141) (e3 : M1 142 = M 142) (e4 : M1 143 = M 143) (e5 : M1 144 = M 144) : LawR M1 Q x := by
  have q0 := e 0 (by decide)
  have q1 := e 1 (by decide)
  have q2 := e 2 (by decide)
  have q3 := e 3 (by decide)
  have q4 := e 4 (by decide)
  have q5 := e 5 (by decide)
  rw [Nat.add_zero] at q0
  unfold LawR ClsL MdlL
  have hf : fcC M1 Q = fcC M Q := by
    funext d e k i
    unfold fcC
    rw [q1, q2, q3, q4]
  rw [q0, q4, q5, e1, e2, e3, e4, e5, hf]
  exact h
theorem IvL.sm {M M1 : Mem} (h : IvL M) (s : Sm rL M M1) : IvL M1 := by
  intro g hg
  obtain ⟨n, h1, h2, h3, h4⟩ := h g hg
  have h139 := s.row 139 (fun _ => rfl)
  have hs : M1 (hP g) 2 = M (hP g) 2 := by
    rcases (show g = 0 ∨ g = 1 by omega) with rfl | rfl
    · exact s 12 2 rfl
    · exact s 63 2 rfl
  refine ⟨n, h1, by rw [hs]; exact h2, by rw [h139]; exact h3, fun i hi => ?_⟩
  refine (h4 i hi).sm (fun j hj => s.row _ (fun k => ?_)) (s.row 140 (fun _ => rfl)) (s.row 141 (fun _ => rfl)) (s.row 142 (fun _ => rfl)) (s.row 143 (fun _ => rfl)) (s.row 144 (fun _ => rfl))
  rcases (show g = 0 ∨ g = 1 by omega) with rfl | rfl
  · have a1 : 15 ≤ hP 0 + 3 + 6 * i + j := by show 15 ≤ 12 + 3 + 6 * i + j; omega
    have a2 : hP 0 + 3 + 6 * i + j < 63 := by show 12 + 3 + 6 * i + j < 63; omega
    simp [rL, a1, a2]
  · have a1 : 66 ≤ hP 1 + 3 + 6 * i + j := by show 66 ≤ 63 + 3 + 6 * i + j; omega
    have a2 : hP 1 + 3 + 6 * i + j < 114 := by show 63 + 3 + 6 * i + j < 114; omega
    simp [rL, a1, a2]
/-- all that is kept between calls -/
def rA (p k : Nat) : Bool := rG p k || rM p k || rP p k || rL p k || rB p k || rS p k || rF p k
theorem Inv.sm {M M1 : Mem} (h : Inv M) (s : Sm rA M M1) : Inv M1 := by
  obtain ⟨h1, h2, h3, h4, h5, h6, h7⟩ := h
  refine ⟨h1.sm fun p k q => s p k ?_, h2.sm fun p k q => s p k ?_, h3.sm fun p k q => s p k ?_, h4.sm fun p k q => s p k ?_, h5.sm fun p k q => s p k ?_, h6.sm fun p k q => s p k ?_, h7.sm fun p k q => s p k ?_⟩ <;> simp [rA, q]
theorem Sm.rfl' {r : Nat → Nat → Bool} {M : Mem} : Sm r M M := fun _ _ _ => rfl
theorem Sm.trans' {r : Nat → Nat → Bool} {M M1 M2 : Mem} (h : Sm r M M1) (h2 : Sm r M1 M2) : Sm r M M2 := fun p k q => (h2 p k q).trans (h p k q)
theorem Sm.up' {r : Nat → Nat → Bool} {M M1 : Mem} (h : Sm r M M1) {p k : Nat} {v : Int32} (hr : r p k = false) : Sm r M (up M1 p k v) := by
  intro q j hq
  rw [up_at]
  by_cases hc : q = p ∧ j = k
  · obtain ⟨rfl, rfl⟩ := hc
    rw [hr] at hq
    cases hq
  · rw [if_neg hc]; exact h q j hq
theorem Inv_M0 : Inv M0 := by
  have z : ∀ p k, p ≠ 2 → p ≠ 133 → p ≠ 120 → p ≠ 132 → M0 p k = 0 := fun p k h1 h2 h3 h4 => by rw [M0_z ⟨h1, h2, h3, h4⟩]
  have o : ∀ c, c < 128 → M0 2 c = -1 := fun c h => by rw [M0_2]; simp [flN, h]
  have o3 : ∀ c, c < 128 → M0 133 c = -1 := fun c h => by rw [M0_133]; simp [flN, h]
  refine ⟨⟨fun c hc => ⟨by rw [o c hc, o3 c hc], Or.inl (o c hc)⟩, fun l r hl hr => ?_, fun a b _ _ => Or.inl (z 4 _ (by decide) (by decide) (by decide) (by decide))⟩, ⟨0, by decide, rfl, rfl, fun i hi => by omega⟩, ⟨0, by decide, rfl, rfl, fun i hi => by omega⟩, ?_, ⟨0, by decide, rfl, rfl, fun i hi => by omega⟩, ⟨⟨2, by decide, rfl, rfl⟩, 0, by decide, rfl, rfl, fun i hi => by omega⟩, ⟨0, by decide, rfl, rfl⟩⟩
  · rw [z 3 _ (by decide) (by decide) (by decide) (by decide)]
    have : mkN (M0 2) l r = 0 := by
      unfold mkN
      have hz : ∀ n, n ≤ 16 → sm (fun c => if M0 2 (16 * r + c) = nI l then 2 ^ c else 0) n = 0 := by
        intro n
        induction n with
        | zero => intro _; rfl
        | succ n ih =>
          intro hn
          have h1 : ¬ M0 2 (16 * r + n) = nI l := by
            rw [o _ (by omega)]
            exact fun h => nI_m1 (show l < 2 ^ 31 by omega) h.symm
          simp [sm, ih (by omega), h1]
      exact hz 16 (by decide)
    rw [this]
    rfl
  · intro h hh
    refine ⟨0, by decide, ?_, ?_, fun i hi => by omega⟩
    · rcases (show h = 0 ∨ h = 1 by omega) with rfl | rfl <;> rfl
    · rw [z 139 _ (by decide) (by decide) (by decide) (by decide)]; rfl
