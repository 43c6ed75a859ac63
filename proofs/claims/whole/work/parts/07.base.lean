/-! the pure words: partial results, loops, places -/
abbrev Mem : Type := Nat → Nat → Int32
def OB {α : Type} (o : Option α) (P : α → Prop) : Prop := ∃ z, o = some z ∧ P z
theorem OB_some {α : Type} {a : α} {P : α → Prop} (h : OB (some a) P) : P a := by
  obtain ⟨z, h1, h2⟩ := h
  cases h1
  exact h2
theorem OB_bind {α β : Type} {o : Option α} {k : α → Option β} {P : β → Prop} (h : OB (o.bind k) P) : OB o (fun x => OB (k x) P) := by
  obtain ⟨z, h1, h2⟩ := h
  cases o with
  | none => cases h1
  | some a => exact ⟨a, rfl, z, h1, h2⟩
theorem OB_g {α : Type} {c : Prop} [Decidable c] {o : Option α} {P : α → Prop} (h : OB (if c then o else none) P) : c ∧ OB o P := by
  by_cases hc : c
  · rw [if_pos hc] at h; exact ⟨hc, h⟩
  · rw [if_neg hc] at h
    obtain ⟨z, h1, -⟩ := h
    cases h1
theorem OB_t {α : Type} {c : Prop} [Decidable c] {o o2 : Option α} {P : α → Prop} (h : OB (if c then o else o2) P) (hc : c) : OB o P := by
  rw [if_pos hc] at h; exact h
theorem OB_f {α : Type} {c : Prop} [Decidable c] {o o2 : Option α} {P : α → Prop} (h : OB (if c then o else o2) P) (hc : ¬ c) : OB o2 P := by
  rw [if_neg hc] at h; exact h
theorem OB_mono {α : Type} {o : Option α} {P Q : α → Prop} (h : OB o P) (k : ∀ z, P z → Q z) : OB o Q := by
  obtain ⟨z, h1, h2⟩ := h
  exact ⟨z, h1, k z h2⟩
theorem OB_of {α : Type} {o : Option α} {z : α} (h : o = some z) : OB o (fun x => x = z) := ⟨z, h, rfl⟩
def it {S R : Type} (b : S → Option (S ⊕ R)) : Nat → S → Option R
  | 0, _ => none
  | n + 1, s => (b s).bind fun z => match z with
    | .inl s' => it b n s'
    | .inr r => some r
def it_P {S R : Type} (Wd : S → Prop) (P : R → Prop) (z : S ⊕ R) : Prop := match z with
  | .inl s' => Wd s'
  | .inr r => P r
theorem it_W {S R : Type} {b : S → Option (S ⊕ R)} {P : R → Prop} (Wd : S → Prop) {n : Nat} {s0 : S} (h : OB (it b n s0) P)
    (step : ∀ s, OB (b s) (it_P Wd P) → Wd s) : Wd s0 := by
  induction n generalizing s0 with
  | zero => obtain ⟨z, h1, -⟩ := h; cases h1
  | succ n ih =>
    refine step s0 (OB_mono (OB_bind h) ?_)
    intro z hz
    cases z with
    | inl s' => exact ih hz
    | inr r =>
      have h9 : OB (some r) P := hz
      exact (OB_some h9 : P r)
def FU : Nat := 2000
def inb (i : Int32) (n : Nat) : Bool := decide (0 ≤ i) && decide (i.toNatClampNeg < n)
theorem inb_in {i : Int32} {n : Nat} (h : inb i n = true) : vp_in i n := by
  simp only [inb, Bool.and_eq_true, decide_eq_true_eq] at h
  intro q
  rcases q with q | q
  · have h1 := h.1
    rw [Int32.le_iff_toInt_le] at h1
    rw [Int32.lt_iff_toInt_lt] at q
    omega
  · omega
theorem inb_lt {i : Int32} {n : Nat} (h : inb i n = true) : i.toNatClampNeg < n := by
  simp only [inb, Bool.and_eq_true, decide_eq_true_eq] at h
  exact h.2
def bI (b : Bool) : Int32 := if b = true then 1 else 0
theorem bI_n (b : Bool) : narrow .boolean (.int (bI b)) = .int (bI b) := by cases b <;> decide
theorem bI_v (b : Bool) : vp_nar .boolean (bI b) = bI b := by cases b <;> decide
theorem bI_f {b : Bool} (h : bI b = 0) : ¬ b = true := by cases b <;> simp_all [bI]
theorem bI_t {b : Bool} (h : ¬ bI b = 0) : b = true := by cases b <;> simp_all [bI]
theorem vz_and (x : Int32) : vp_nar .boolean x = x &&& 1 := rfl
def jrem (x y : Int32) : Int32 := x - x / y * y
def jshl (x y : Int32) : Int32 := x <<< (y &&& 31)
def jshr (x y : Int32) : Int32 := x >>> (y &&& 31)
def jushr (x y : Int32) : Int32 := (x.toUInt32 >>> (y.toUInt32 &&& Int32.toUInt32 31)).toInt32
def jlushr (x : Int64) (y : Int32) : Int64 := (x.toUInt64 >>> (y.toInt64.toUInt64 &&& Int64.toUInt64 63)).toInt64
def jlshl (x : Int64) (y : Int32) : Int64 := x <<< (y.toInt64 &&& 63)
def jlshr (x : Int64) (y : Int32) : Int64 := x >>> (y.toInt64 &&& 63)
def ji2c (x : Int32) : Int32 := (x.toUInt32 % 65536).toInt32
/-- one place written -/
def up (M : Mem) (p k : Nat) (v : Int32) : Mem := fun a => if a = p then upd (M a) k v else M a
/-- a row filled -/
def fil (M : Mem) (p n : Nat) (v : Int32) : Mem := fun a => if a = p then (fun j => if j < n then v else M a j) else M a
/-! the shape of the heap behind the two constructors: objects (class, fields: none an int, some none the long, some (some q) the cell q) and rows (0 ints, 1 booleans, else laws from a place on; length; place) -/
abbrev Sh : Type := (Nat × List (Option (Option Nat))) ⊕ (Nat × Nat × Nat)
def shLaw (q : Nat) : List Sh := [.inl (4, [none, none, none, none, none, some (some (q + 1)), some (some (q + 2)), some (some (q + 3)), some (some (q + 4)), some (some (q + 5))]), .inr (0, 12, 0), .inr (0, 12, 0), .inr (0, 12, 0), .inr (1, 12, 0), .inr (1, 12, 0)]
def shHolder (q : Nat) : List Sh := [.inl (3, [some (some (q + 1)), some (some (q + 2)), none, none, none]), .inr (2, 8, q + 3), .inr (0, 4, 0)] ++ (shLaw (q + 3) ++ (shLaw (q + 9) ++ (shLaw (q + 15) ++ (shLaw (q + 21) ++ (shLaw (q + 27) ++ (shLaw (q + 33) ++ (shLaw (q + 39) ++ shLaw (q + 45))))))))
