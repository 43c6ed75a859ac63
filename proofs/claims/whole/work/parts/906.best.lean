/-! the cheapest way onward -/
def mnsN (sp v : Nat) (f : Nat → Nat) : Nat → Nat
  | 0 => 100000
  | w + 1 => if cl16 v w ≤ sp ∧ f w + cl16 v w < mnsN sp v f w then f w + cl16 v w else mnsN sp v f w
def bnx (sp v : Nat) (f : Nat → Nat) : Nat → Nat × Nat
  | 0 => (v, cl16 v v + f v)
  | k + 1 => if (cl16 v k + f k < (bnx sp v f k).2 ∨ (cl16 v k + f k = (bnx sp v f k).2 ∧ k < (bnx sp v f k).1)) ∧ cl16 v k ≤ sp then (k, cl16 v k + f k) else bnx sp v f k
theorem cl_vv : ∀ v, v < 16 → cl16 v v = 0 := by decide
theorem bnx_I (sp : Nat) {v : Nat} (hv : v < 16) (f : Nat → Nat) : ∀ k, k ≤ 16 → (bnx sp v f k).1 < 16 ∧ cl16 v (bnx sp v f k).1 ≤ sp ∧ (bnx sp v f k).2 = cl16 v (bnx sp v f k).1 + f (bnx sp v f k).1 ∧ ∀ w, w < k → cl16 v w ≤ sp → (bnx sp v f k).2 ≤ cl16 v w + f w ∧ (cl16 v w + f w = (bnx sp v f k).2 → (bnx sp v f k).1 ≤ w)
  | 0, _ => ⟨hv, by show cl16 v v ≤ sp; rw [cl_vv v hv]; exact Nat.zero_le _, rfl, fun w hw => absurd hw (Nat.not_lt_zero w)⟩
  | k + 1, hk => by
    obtain ⟨h1, h2, h3, h4⟩ := bnx_I sp hv f k (by omega)
    have e : bnx sp v f (k + 1) = if (cl16 v k + f k < (bnx sp v f k).2 ∨ (cl16 v k + f k = (bnx sp v f k).2 ∧ k < (bnx sp v f k).1)) ∧ cl16 v k ≤ sp then (k, cl16 v k + f k) else bnx sp v f k := rfl
    by_cases q : (cl16 v k + f k < (bnx sp v f k).2 ∨ (cl16 v k + f k = (bnx sp v f k).2 ∧ k < (bnx sp v f k).1)) ∧ cl16 v k ≤ sp
    · rw [e, if_pos q]
      refine ⟨by show k < 16; omega, q.2, rfl, fun w hw hc => ?_⟩
      show cl16 v k + f k ≤ cl16 v w + f w ∧ (cl16 v w + f w = cl16 v k + f k → k ≤ w)
      by_cases y : w = k
      · subst y
        exact ⟨Nat.le_refl _, fun _ => Nat.le_refl _⟩
      · obtain ⟨g1, g2⟩ := h4 w (by omega) hc
        rcases q.1 with r | ⟨r1, r2⟩
        · exact ⟨by omega, fun s => by omega⟩
        · refine ⟨by omega, fun s => ?_⟩
          have := g2 (by omega)
          omega
    · rw [e, if_neg q]
      refine ⟨h1, h2, h3, fun w hw hc => ?_⟩
      by_cases y : w = k
      · subst y
        have q1 : ¬ cl16 v w + f w < (bnx sp v f w).2 := fun r => q ⟨.inl r, hc⟩
        refine ⟨by omega, fun s => ?_⟩
        rcases Nat.lt_or_ge w (bnx sp v f w).1 with r | r
        · exact absurd ⟨.inr ⟨s, r⟩, hc⟩ q
        · exact r
      · exact h4 w (by omega) hc
theorem mns_I (sp v : Nat) (f : Nat → Nat) : ∀ k, mnsN sp v f k ≤ 100000 ∧ (∀ w, w < k → cl16 v w ≤ sp → mnsN sp v f k ≤ f w + cl16 v w) ∧ (mnsN sp v f k = 100000 ∨ ∃ w, w < k ∧ cl16 v w ≤ sp ∧ mnsN sp v f k = f w + cl16 v w)
  | 0 => ⟨Nat.le_refl _, fun w hw => absurd hw (Nat.not_lt_zero w), .inl rfl⟩
  | k + 1 => by
    obtain ⟨h1, h2, h3⟩ := mns_I sp v f k
    have e : mnsN sp v f (k + 1) = if cl16 v k ≤ sp ∧ f k + cl16 v k < mnsN sp v f k then f k + cl16 v k else mnsN sp v f k := rfl
    by_cases q : cl16 v k ≤ sp ∧ f k + cl16 v k < mnsN sp v f k
    · rw [e, if_pos q]
      refine ⟨by omega, fun w hw hc => ?_, .inr ⟨k, by omega, q.1, rfl⟩⟩
      by_cases y : w = k
      · subst y; exact Nat.le_refl _
      · have := h2 w (by omega) hc
        omega
    · rw [e, if_neg q]
      refine ⟨h1, fun w hw hc => ?_, ?_⟩
      · by_cases y : w = k
        · subst y
          rcases Nat.lt_or_ge (f w + cl16 v w) (mnsN sp v f w) with r | r
          · exact absurd ⟨hc, r⟩ q
          · exact r
        · exact h2 w (by omega) hc
      · rcases h3 with h3 | ⟨w, g1, g2, g3⟩
        · exact .inl h3
        · exact .inr ⟨w, by omega, g2, g3⟩
theorem mns_bnx {sp v : Nat} (hv : v < 16) {f : Nat → Nat} (hf : ∀ w, w < 16 → f w ≤ 20000) (hs : sp < 8) : mnsN sp v f 16 = (bnx sp v f 16).2 := by
  obtain ⟨h1, h2, h3, h4⟩ := bnx_I sp hv f 16 (Nat.le_refl _)
  obtain ⟨g1, g2, g3⟩ := mns_I sp v f 16
  have k1 := g2 _ h1 h2
  have k2 := hf _ h1
  rcases g3 with g3 | ⟨w, w1, w2, w3⟩
  · omega
  · have := (h4 w w1 w2).1
    omega
def onwN (B : Nat → Nat → Nat) (sp : Nat) : Nat → Nat → Nat
  | 0, v => B 9 v
  | d + 1, v => (bnx sp v (onwN B sp d) 16).2 + B (8 - d) v
theorem onw_le {B : Nat → Nat → Nat} {sp : Nat} (hB : ∀ a v, B a v ≤ 1200) : ∀ d v, v < 16 → onwN B sp d v ≤ (d + 1) * 1200
  | 0, v, hv => by
    have := hB 9 v
    show B 9 v ≤ _
    omega
  | d + 1, v, hv => by
    have ih := onw_le (sp := sp) hB d v hv
    obtain ⟨h1, h2, h3, h4⟩ := bnx_I sp hv (onwN B sp d) 16 (Nat.le_refl _)
    have k := (h4 v hv (by rw [cl_vv v hv]; exact Nat.zero_le _)).1
    rw [cl_vv v hv] at k
    have := hB (8 - d) v
    show (bnx sp v (onwN B sp d) 16).2 + B (8 - d) v ≤ _
    omega
theorem onw_20 {B : Nat → Nat → Nat} {sp : Nat} (hB : ∀ a v, B a v ≤ 1200) {d v : Nat} (hd : d ≤ 9) (hv : v < 16) : onwN B sp d v ≤ 20000 := by
  have := onw_le (sp := sp) hB d v hv
  omega
def plcN (B : Nat → Nat → Nat) (sp : Nat) : Nat → Nat
  | 0 => 0
  | a + 1 => (bnx sp (plcN B sp a) (onwN B sp (8 - a)) 16).1
theorem plc_lt (B : Nat → Nat → Nat) (sp : Nat) : ∀ a, plcN B sp a < 16
  | 0 => by show 0 < 16; decide
  | a + 1 => (bnx_I sp (plc_lt B sp a) (onwN B sp (8 - a)) 16 (Nat.le_refl _)).1
theorem c_via {M : Mem} {age v w : Nat} {f : Nat → Nat} (ha : age < 9) (hv : v < 16) (hw : w < 16) (hf : M 127 ((age + 1) * 16 + w) = nI (f w)) : f_X9_priceVia (nI age) (nI v) (nI w) M = some (nI (cl16 v w + f w)) := by
  have e1 : (nI age + 1) * 16 + nI w = nI ((age + 1) * 16 + w) := by
    have : nI (age + 1) * 16 = nI ((age + 1) * 16) := pk_mul _ 16
    rw [nI_1, this, nI_add]
  have p1 := inb_t (k := (age + 1) * 16 + w) (n := 160) (by omega) (by decide)
  have p2 := nI_cl (show (age + 1) * 16 + w < 2 ^ 31 by omega)
  unfold f_X9_priceVia
  rw [c_ring v hv w hw, Option.bind_some, e1, if_pos p1, p2, hf, nI_add]
theorem c_best {M : Mem} {age v sp : Nat} {f : Nat → Nat} (ha : age < 9) (hv : v < 16) (hs : sp < 8) (e7 : M 120 7 = nI sp) (hf : ∀ w, w < 16 → M 127 ((age + 1) * 16 + w) = nI (f w)) (hb : ∀ w, w < 16 → f w ≤ 20000) : f_X9_bestNext (nI age) (nI v) M = some (nI (bnx sp v f 16).1) := by
  have hit := it_N (b := f_X9_bestNext_b14 (nI age) (nI v) M) (r := nI (bnx sp v f 16).1) (fun k => (nI (bnx sp v f k).1, nI (bnx sp v f k).2, nI k)) 16 (by decide) (by
    intro k hk
    have a1 : ¬ (16 : Int32) ≤ nI k := nI_ge (b := 16) hk (by decide)
    have hvia := c_via ha hv hk (hf k hk)
    have g3 := c_ring v hv k hk
    have g4 := cl_8 v hv k hk
    obtain ⟨h1, h2, h3, -⟩ := bnx_I sp hv f k (by omega)
    have b1 := hb k hk
    have b2 := hb _ h1
    have e : bnx sp v f (k + 1) = if (cl16 v k + f k < (bnx sp v f k).2 ∨ (cl16 v k + f k = (bnx sp v f k).2 ∧ k < (bnx sp v f k).1)) ∧ cl16 v k ≤ sp then (k, cl16 v k + f k) else bnx sp v f k := rfl
    have hlt : (nI (cl16 v k + f k) < nI (bnx sp v f k).2) ↔ cl16 v k + f k < (bnx sp v f k).2 := nI_ltI (by omega) (by omega)
    have heq : (nI (cl16 v k + f k) = nI (bnx sp v f k).2) ↔ cl16 v k + f k = (bnx sp v f k).2 := nI_eq (by omega) (by omega)
    have hle : (nI (bnx sp v f k).1 ≤ nI k) ↔ (bnx sp v f k).1 ≤ k := nI_leI (by omega) (by omega)
    have hsp : (nI sp < nI (cl16 v k)) ↔ sp < cl16 v k := nI_ltI (by omega) (by omega)
    have hx : (if nI (cl16 v k + f k) < nI (bnx sp v f k).2 then some true else if nI (cl16 v k + f k) = nI (bnx sp v f k).2 then (if nI (bnx sp v f k).1 ≤ nI k then some false else some true) else some false) = some (decide (cl16 v k + f k < (bnx sp v f k).2 ∨ (cl16 v k + f k = (bnx sp v f k).2 ∧ k < (bnx sp v f k).1))) := by
      simp only [hlt, heq, hle]
      by_cases w1 : cl16 v k + f k < (bnx sp v f k).2
      · rw [if_pos w1, decide_eq_true (Or.inl w1)]
      · rw [if_neg w1]
        by_cases w2 : cl16 v k + f k = (bnx sp v f k).2
        · rw [if_pos w2]
          by_cases w3 : (bnx sp v f k).1 ≤ k
          · rw [if_pos w3, decide_eq_false]
            rintro (r | r)
            · exact w1 r
            · omega
          · rw [if_neg w3, decide_eq_true (Or.inr ⟨w2, by omega⟩)]
        · rw [if_neg w2, decide_eq_false]
          rintro (r | r)
          · exact w1 r
          · exact w2 r.1
    show f_X9_bestNext_b14 (nI age) (nI v) M (nI (bnx sp v f k).1, nI (bnx sp v f k).2, nI k) = some (.inl (nI (bnx sp v f (k + 1)).1, nI (bnx sp v f (k + 1)).2, nI (k + 1)))
    simp only [f_X9_bestNext_b14]
    rw [if_neg a1, hvia, Option.bind_some, hx, Option.bind_some, g3, Option.bind_some, e7, nI_1, e]
    generalize bnx sp v f k = t at *
    by_cases w1 : cl16 v k + f k < t.2 ∨ (cl16 v k + f k = t.2 ∧ k < t.1)
    · rw [decide_eq_true w1, if_pos rfl]
      by_cases w2 : cl16 v k ≤ sp
      · rw [if_neg (fun r => absurd (hsp.mp r) (by omega)), if_pos ⟨w1, w2⟩]
        rfl
      · rw [if_pos (hsp.mpr (by omega)), if_neg (fun r => w2 r.2)]
        rfl
    · rw [decide_eq_false w1, if_neg Bool.false_ne_true, if_neg (fun r => w1 r.1)]
      rfl) (by
    have a1 : (16 : Int32) ≤ nI 16 := by decide
    simp only [f_X9_bestNext_b14, a1, if_true]) (s0 := (nI v, nI (cl16 v v + f v), 0)) rfl
  unfold f_X9_bestNext
  rw [c_via ha hv hv (hf v hv), Option.bind_some, hit, Option.bind_some]
