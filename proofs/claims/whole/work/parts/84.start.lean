/-! the memory behind the constructors -/
def M0 : Mem := fun p k => if p = 2 ∨ p = 133 then (if k < 128 then -1 else 0) else if p = 120 ∧ k = 7 then 2 else if p = 132 ∧ k = 33 then 2 else 0
theorem M0_z {p : Nat} (h : p ≠ 2 ∧ p ≠ 133 ∧ p ≠ 120 ∧ p ≠ 132) : M0 p = fun _ => 0 := by
  funext k
  simp [M0, h]
theorem M0_2 : M0 2 = flN (fun _ => 0) (-1) 128 := by
  funext k
  simp [M0, flN]
theorem M0_133 : M0 133 = flN (fun _ => 0) (-1) 128 := by
  funext k
  simp [M0, flN]
theorem arrV_cg {cI : ClassId} {n : Nat} {f g : Nat → Value} (h : ∀ j, j < n → f j = g j) : arrV cI n f = arrV cI n g := by
  unfold arrV
  congr 2
  funext j
  exact h j.1 j.2
def OKL (G : GG) (n0 : Nat) (L : List va_E) (S : List Sh) (k : Nat) : Prop := L.length = S.length ∧ ∀ (i : Nat) (e : va_E) (s : Sh), L[i]? = some e → S[i]? = some s → ∀ H : Heap, va_at G.1 vwCl (n0 + (k + i), e) H → va_at G.1 vwCl (n0 + (k + i), shE G (M0 (k + i)) 0 s) H
theorem OKL_nil {G : GG} {n0 k : Nat} : OKL G n0 [] [] k := ⟨rfl, fun i e s h => by simp at h⟩
theorem OKL_w {G : GG} {n0 k : Nat} {e : va_E} {s : Sh} {L : List va_E} {S : List Sh} (h : ∀ H : Heap, va_at G.1 vwCl (n0 + k, e) H → va_at G.1 vwCl (n0 + k, shE G (M0 k) 0 s) H) (hr : OKL G n0 L S (k + 1)) : OKL G n0 (e :: L) (s :: S) k := by
  refine ⟨by simp [hr.1], fun i e' s' h1 h2 H => ?_⟩
  cases i with
  | zero =>
    simp at h1 h2
    subst h1; subst h2
    exact h H
  | succ i =>
    rw [List.getElem?_cons_succ] at h1 h2
    have h3 := hr.2 i e' s' h1 h2 H
    rw [show k + (i + 1) = k + 1 + i by omega]
    exact h3
theorem OKL_c {G : GG} {n0 k : Nat} {e : va_E} {s : Sh} {L : List va_E} {S : List Sh} (h : e = shE G (M0 k) 0 s) (hr : OKL G n0 L S (k + 1)) : OKL G n0 (e :: L) (s :: S) k := OKL_w (fun H q => by rw [← h]; exact q) hr
theorem OKL_app {G : GG} {n0 k j : Nat} {L1 L2 : List va_E} {S1 S2 : List Sh} (h1 : OKL G n0 L1 S1 k) (hj : L1.length = j) (h2 : OKL G n0 L2 S2 (k + j)) : OKL G n0 (L1 ++ L2) (S1 ++ S2) k := by
  refine ⟨by simp [h1.1, h2.1], fun i e s g1 g2 H => ?_⟩
  by_cases hi : i < L1.length
  · rw [List.getElem?_append_left hi] at g1
    rw [List.getElem?_append_left (by rw [← h1.1]; exact hi)] at g2
    exact h1.2 i e s g1 g2 H
  · rw [List.getElem?_append_right (by omega)] at g1
    rw [List.getElem?_append_right (by rw [← h1.1]; omega), ← h1.1] at g2
    have h3 := h2.2 _ e s g1 g2 H
    rw [show k + j + (i - L1.length) = k + i by omega] at h3
    exact h3
def segLaw (G : GG) (n0 q : Nat) : List va_E := [.inr (4, [.int 0, .int 0, .int 0, .int 0, .int 0, .ref (n0 + (q + 1)), .ref (n0 + (q + 2)), .ref (n0 + (q + 3)), .ref (n0 + (q + 4)), .ref (n0 + (q + 5))]), .inl (gI G, 12, .inl (fun _ => 0)), .inl (gI G, 12, .inl (fun _ => 0)), .inl (gI G, 12, .inl (fun _ => 0)), .inl (gZ G, 12, .inl (fun _ => 0)), .inl (gZ G, 12, .inl (fun _ => 0))]
theorem OKL_law {G : GG} {n0 q : Nat} (hG : xa G = fun p => n0 + p) (h1 : 3 ≤ q) (h2 : q + 6 ≤ 114) : OKL G n0 (segLaw G n0 q) (shLaw q) q := by
  have z : ∀ i, i < 6 → M0 (q + i) = fun _ => 0 := fun i hi => M0_z (by omega)
  unfold segLaw shLaw
  refine OKL_c (by rw [show M0 q = fun _ => 0 from M0_z (by omega)]; simp [shE, fvE, hG]) ?_
  refine OKL_c (by rw [z 1 (by decide)]; rfl) ?_
  refine OKL_c (by rw [z 2 (by decide)]; rfl) ?_
  refine OKL_c (by rw [z 3 (by decide)]; rfl) ?_
  refine OKL_c (by rw [z 4 (by decide)]; rfl) ?_
  refine OKL_c (by rw [z 5 (by decide)]; rfl) ?_
  exact OKL_nil
def segH3 (G : GG) (n0 k : Nat) : List va_E := [.inr (3, [.ref (n0 + (k + 1)), .ref (n0 + (k + 2)), .int 0, .int 0, .int 0]), .inl (gL G, 8, .inr (.inr (.inr (.inr (va_up (va_up (va_up (va_up (va_up (va_up (va_up (va_up (fun _ => none) 0 (some (n0 + (k + 3)))) 1 (some (n0 + (k + 9)))) 2 (some (n0 + (k + 15)))) 3 (some (n0 + (k + 21)))) 4 (some (n0 + (k + 27)))) 5 (some (n0 + (k + 33)))) 6 (some (n0 + (k + 39)))) 7 (some (n0 + (k + 45)))))))), .inl (gI G, 4, .inl (fun _ => 0))]
theorem seg_X3_eq (G : GG) (n0 k : Nat) : seg_X3_init G n0 k = segH3 G n0 k ++ (segLaw G n0 (k + 3) ++ (segLaw G n0 (k + 9) ++ (segLaw G n0 (k + 15) ++ (segLaw G n0 (k + 21) ++ (segLaw G n0 (k + 27) ++ (segLaw G n0 (k + 33) ++ (segLaw G n0 (k + 39) ++ (segLaw G n0 (k + 45))))))))) := rfl
theorem OKL_H3 {G : GG} {n0 k : Nat} (hG : xa G = fun p => n0 + p) (h1 : 3 ≤ k) (h2 : k + 51 ≤ 114) : OKL G n0 (segH3 G n0 k) [.inl (3, [some (some (k + 1)), some (some (k + 2)), none, none, none]), .inr (2, 8, k + 3), .inr (0, 4, 0)] k := by
  unfold segH3
  refine OKL_c (by rw [show M0 k = fun _ => 0 from M0_z (by omega)]; simp [shE, fvE, hG]) ?_
  refine OKL_w (fun H q => ?_) ?_
  · have q1 : H[n0 + (k + 1)]? = some (vp_cell (gL G) (8, .inr (.inr (.inr (.inr (va_up (va_up (va_up (va_up (va_up (va_up (va_up (va_up (fun _ => none) 0 (some (n0 + (k + 3)))) 1 (some (n0 + (k + 9)))) 2 (some (n0 + (k + 15)))) 3 (some (n0 + (k + 21)))) 4 (some (n0 + (k + 27)))) 5 (some (n0 + (k + 33)))) 6 (some (n0 + (k + 39)))) 7 (some (n0 + (k + 45))))))))) := q
    show H[n0 + (k + 1)]? = some (vp_cell (gL G) (8, .inr (.inr (.inr (.inr (fun i => some (xa G (k + 3 + 6 * i))))))))
    rw [q1, vp_cell_q, vp_cell_q]
    congr 1
    refine arrV_cg (fun j hj => ?_)
    rw [hG]
    rcases (show j = 0 ∨ j = 1 ∨ j = 2 ∨ j = 3 ∨ j = 4 ∨ j = 5 ∨ j = 6 ∨ j = 7 by omega) with rfl | rfl | rfl | rfl | rfl | rfl | rfl | rfl <;> rfl
  · refine OKL_c (by rw [show M0 (k + 1 + 1) = fun _ => 0 from M0_z (by omega)]; rfl) ?_
    exact OKL_nil
theorem OKL_H {G : GG} {n0 k : Nat} (hG : xa G = fun p => n0 + p) (h1 : 3 ≤ k) (h2 : k + 51 ≤ 114) : OKL G n0 (seg_X3_init G n0 k) (shHolder k) k := by
  rw [seg_X3_eq]
  refine OKL_app (j := 3) (OKL_H3 hG h1 h2) rfl ?_
  exact (OKL_app (j := 6) (OKL_law (q := k + 3) hG (by omega) (by omega)) rfl (OKL_app (j := 6) (OKL_law (q := k + 9) hG (by omega) (by omega)) rfl (OKL_app (j := 6) (OKL_law (q := k + 15) hG (by omega) (by omega)) rfl (OKL_app (j := 6) (OKL_law (q := k + 21) hG (by omega) (by omega)) rfl (OKL_app (j := 6) (OKL_law (q := k + 27) hG (by omega) (by omega)) rfl (OKL_app (j := 6) (OKL_law (q := k + 33) hG (by omega) (by omega)) rfl (OKL_app (j := 6) (OKL_law (q := k + 39) hG (by omega) (by omega)) rfl (by simpa only [Nat.add_assoc] using OKL_law (q := k + 45) hG (by omega) (by omega)))))))))
theorem OKL_X2 {G : GG} {n0 : Nat} (hG : xa G = fun p => n0 + p) : OKL G n0 (seg_X2_init G n0 1) [.inl (2, [some (some 2), some (some 3), some (some 4)]), .inr (0, 128, 0), .inr (0, 48, 0), .inr (0, 36, 0)] 1 := by
  unfold seg_X2_init
  refine OKL_c (by rw [show M0 1 = fun _ => 0 from M0_z (by decide)]; simp [shE, fvE, hG]) ?_
  refine OKL_c (by rw [M0_2]; rfl) ?_
  refine OKL_c (by rw [show M0 3 = fun _ => 0 from M0_z (by decide)]; rfl) ?_
  refine OKL_c (by rw [show M0 4 = fun _ => 0 from M0_z (by decide)]; rfl) ?_
  exact OKL_nil
theorem OKL_X5 {G : GG} {n0 : Nat} (hG : xa G = fun p => n0 + p) : OKL G n0 (seg_X5_init G n0 5 (n0 + 1)) [.inl (5, [some (some 1), some (some 6), some (some 7), some (some 8), none]), .inr (0, 40, 0), .inr (0, 40, 0), .inr (0, 40, 0)] 5 := by
  unfold seg_X5_init
  refine OKL_c (by rw [show M0 5 = fun _ => 0 from M0_z (by decide)]; simp [shE, fvE, hG]) ?_
  refine OKL_c (by rw [show M0 6 = fun _ => 0 from M0_z (by decide)]; rfl) ?_
  refine OKL_c (by rw [show M0 7 = fun _ => 0 from M0_z (by decide)]; rfl) ?_
  refine OKL_c (by rw [show M0 8 = fun _ => 0 from M0_z (by decide)]; rfl) ?_
  exact OKL_nil
theorem OKL_X1 {G : GG} {n0 : Nat} (hG : xa G = fun p => n0 + p) : OKL G n0 (seg_X1_init G n0 9 (n0 + 1)) [.inl (1, [some (some 1), none, none, none, none, none, none, none, none])] 9 := by
  unfold seg_X1_init
  refine OKL_c (by rw [show M0 9 = fun _ => 0 from M0_z (by decide)]; simp [shE, fvE, hG]) ?_
  exact OKL_nil
theorem OKL_X6 {G : GG} {n0 : Nat} (hG : xa G = fun p => n0 + p) : OKL G n0 (seg_X6_init G n0 10) [.inl (6, [some (some 11), none]), .inr (0, 50, 0)] 10 := by
  unfold seg_X6_init
  refine OKL_c (by rw [show M0 10 = fun _ => 0 from M0_z (by decide)]; simp [shE, fvE, hG]) ?_
  refine OKL_c (by rw [show M0 11 = fun _ => 0 from M0_z (by decide)]; rfl) ?_
  exact OKL_nil
theorem OKL_X0 {G : GG} {n0 : Nat} (hG : xa G = fun p => n0 + p) : OKL G n0 (seg_X0_init G n0 114) [.inl (0, [some (some 115), some (some 116), none]), .inr (0, 8, 0), .inr (0, 8, 0)] 114 := by
  unfold seg_X0_init
  refine OKL_c (by rw [show M0 114 = fun _ => 0 from M0_z (by decide)]; simp [shE, fvE, hG]) ?_
  refine OKL_c (by rw [show M0 115 = fun _ => 0 from M0_z (by decide)]; rfl) ?_
  refine OKL_c (by rw [show M0 116 = fun _ => 0 from M0_z (by decide)]; rfl) ?_
  exact OKL_nil
theorem OKL_X8 {G : GG} {n0 : Nat} (hG : xa G = fun p => n0 + p) : OKL G n0 (seg_X8_init G n0 117 (n0 + 1) (n0 + 114)) [.inl (8, [some (some 1), some (some 114), some (some 118), some (some 119), none, none]), .inr (0, 36, 0), .inr (0, 6, 0)] 117 := by
  unfold seg_X8_init
  refine OKL_c (by rw [show M0 117 = fun _ => 0 from M0_z (by decide)]; simp [shE, fvE, hG]) ?_
  refine OKL_c (by rw [show M0 118 = fun _ => 0 from M0_z (by decide)]; rfl) ?_
  refine OKL_c (by rw [show M0 119 = fun _ => 0 from M0_z (by decide)]; rfl) ?_
  exact OKL_nil
theorem OKL_X9 {G : GG} {n0 : Nat} (hG : xa G = fun p => n0 + p) : OKL G n0 (seg_X9_init G n0 120 (n0 + 9)) [.inl (9, [some (some 9), some (some 121), some (some 122), some (some 123), some (some 124), some (some 125), none, none, some (some 126), some (some 127), some (some 128)]), .inr (0, 12, 0), .inr (0, 12, 0), .inr (0, 12, 0), .inr (1, 12, 0), .inr (0, 12, 0), .inr (0, 160, 0), .inr (0, 160, 0), .inr (0, 10, 0)] 120 := by
  unfold seg_X9_init
  refine OKL_c (by simp [shE, fvE, hG, M0]) ?_
  refine OKL_c (by rw [show M0 121 = fun _ => 0 from M0_z (by decide)]; rfl) ?_
  refine OKL_c (by rw [show M0 122 = fun _ => 0 from M0_z (by decide)]; rfl) ?_
  refine OKL_c (by rw [show M0 123 = fun _ => 0 from M0_z (by decide)]; rfl) ?_
  refine OKL_c (by rw [show M0 124 = fun _ => 0 from M0_z (by decide)]; rfl) ?_
  refine OKL_c (by rw [show M0 125 = fun _ => 0 from M0_z (by decide)]; rfl) ?_
  refine OKL_c (by rw [show M0 126 = fun _ => 0 from M0_z (by decide)]; rfl) ?_
  refine OKL_c (by rw [show M0 127 = fun _ => 0 from M0_z (by decide)]; rfl) ?_
  refine OKL_c (by rw [show M0 128 = fun _ => 0 from M0_z (by decide)]; rfl) ?_
  exact OKL_nil
theorem OKL_X7 {G : GG} {n0 : Nat} (hG : xa G = fun p => n0 + p) : OKL G n0 (seg_X7_init G n0 129 (n0 + 5)) [.inl (7, [some (some 5), some (some 130), none, none, none]), .inr (0, 128, 0)] 129 := by
  unfold seg_X7_init
  refine OKL_c (by rw [show M0 129 = fun _ => 0 from M0_z (by decide)]; simp [shE, fvE, hG]) ?_
  refine OKL_c (by rw [show M0 130 = fun _ => 0 from M0_z (by decide)]; rfl) ?_
  exact OKL_nil
theorem OKL_X10 {G : GG} {n0 : Nat} (hG : xa G = fun p => n0 + p) : OKL G n0 (seg_X10_init G n0 131) [.inl (10, [none])] 131 := by
  unfold seg_X10_init
  refine OKL_c (by rw [show M0 131 = fun _ => 0 from M0_z (by decide)]; simp [shE, fvE, hG]) ?_
  exact OKL_nil
theorem OKL_X12 {G : GG} {n0 : Nat} (hG : xa G = fun p => n0 + p) : OKL G n0 (seg_X12_init G n0 132) [.inl (12, [some (some 133), none, some (some 134), some (some 135), some (some 136), some (some 137), some (some 138), none, some (some 139), some (some 140), some (some 141), some (some 142), some (some 143), some (some 144), none, none, none, none, none, none, some (some 145), some (some 146), none, some (some 147), none, some (some 148), none, some (some 149), some (some 150), none, some (some 151), none, none, none, none, some (some 152), some (some 153), some (some 154), some (some 155), some (some 156), some (some 157), none, some none]), .inr (0, 128, 0), .inr (0, 40, 0), .inr (0, 40, 0), .inr (0, 40, 0), .inr (0, 128, 0), .inr (0, 50, 0), .inr (0, 2, 0), .inr (0, 16, 0), .inr (0, 16, 0), .inr (0, 16, 0), .inr (0, 800, 0), .inr (0, 800, 0), .inr (0, 50, 0), .inr (0, 50, 0), .inr (0, 50, 0), .inr (1, 51, 0), .inr (0, 8, 0), .inr (0, 8, 0), .inr (0, 36, 0), .inr (0, 12, 0), .inr (0, 12, 0), .inr (0, 12, 0), .inr (1, 12, 0), .inr (0, 12, 0), .inr (0, 160, 0)] 132 := by
  unfold seg_X12_init
  refine OKL_c (by simp [shE, fvE, hG, M0]) ?_
  refine OKL_c (by rw [M0_133]; rfl) ?_
  refine OKL_c (by rw [show M0 134 = fun _ => 0 from M0_z (by decide)]; rfl) ?_
  refine OKL_c (by rw [show M0 135 = fun _ => 0 from M0_z (by decide)]; rfl) ?_
  refine OKL_c (by rw [show M0 136 = fun _ => 0 from M0_z (by decide)]; rfl) ?_
  refine OKL_c (by rw [show M0 137 = fun _ => 0 from M0_z (by decide)]; rfl) ?_
  refine OKL_c (by rw [show M0 138 = fun _ => 0 from M0_z (by decide)]; rfl) ?_
  refine OKL_c (by rw [show M0 139 = fun _ => 0 from M0_z (by decide)]; rfl) ?_
  refine OKL_c (by rw [show M0 140 = fun _ => 0 from M0_z (by decide)]; rfl) ?_
  refine OKL_c (by rw [show M0 141 = fun _ => 0 from M0_z (by decide)]; rfl) ?_
  refine OKL_c (by rw [show M0 142 = fun _ => 0 from M0_z (by decide)]; rfl) ?_
  refine OKL_c (by rw [show M0 143 = fun _ => 0 from M0_z (by decide)]; rfl) ?_
  refine OKL_c (by rw [show M0 144 = fun _ => 0 from M0_z (by decide)]; rfl) ?_
  refine OKL_c (by rw [show M0 145 = fun _ => 0 from M0_z (by decide)]; rfl) ?_
  refine OKL_c (by rw [show M0 146 = fun _ => 0 from M0_z (by decide)]; rfl) ?_
  refine OKL_c (by rw [show M0 147 = fun _ => 0 from M0_z (by decide)]; rfl) ?_
  refine OKL_c (by rw [show M0 148 = fun _ => 0 from M0_z (by decide)]; rfl) ?_
  refine OKL_c (by rw [show M0 149 = fun _ => 0 from M0_z (by decide)]; rfl) ?_
  refine OKL_c (by rw [show M0 150 = fun _ => 0 from M0_z (by decide)]; rfl) ?_
  refine OKL_c (by rw [show M0 151 = fun _ => 0 from M0_z (by decide)]; rfl) ?_
  refine OKL_c (by rw [show M0 152 = fun _ => 0 from M0_z (by decide)]; rfl) ?_
  refine OKL_c (by rw [show M0 153 = fun _ => 0 from M0_z (by decide)]; rfl) ?_
  refine OKL_c (by rw [show M0 154 = fun _ => 0 from M0_z (by decide)]; rfl) ?_
  refine OKL_c (by rw [show M0 155 = fun _ => 0 from M0_z (by decide)]; rfl) ?_
  refine OKL_c (by rw [show M0 156 = fun _ => 0 from M0_z (by decide)]; rfl) ?_
  refine OKL_c (by rw [show M0 157 = fun _ => 0 from M0_z (by decide)]; rfl) ?_
  exact OKL_nil
def shX11 : List Sh := .inl (11, [some (some 1), some (some 5), some (some 9), some (some 10), some (some 12), some (some 63), some (some 114), some (some 117), some (some 120), some (some 129), some (some 131)]) :: (((((((((([.inl (2, [some (some 2), some (some 3), some (some 4)]), .inr (0, 128, 0), .inr (0, 48, 0), .inr (0, 36, 0)] ++ [.inl (5, [some (some 1), some (some 6), some (some 7), some (some 8), none]), .inr (0, 40, 0), .inr (0, 40, 0), .inr (0, 40, 0)]) ++ [.inl (1, [some (some 1), none, none, none, none, none, none, none, none])]) ++ [.inl (6, [some (some 11), none]), .inr (0, 50, 0)]) ++ shHolder 12) ++ shHolder 63) ++ [.inl (0, [some (some 115), some (some 116), none]), .inr (0, 8, 0), .inr (0, 8, 0)]) ++ [.inl (8, [some (some 1), some (some 114), some (some 118), some (some 119), none, none]), .inr (0, 36, 0), .inr (0, 6, 0)]) ++ [.inl (9, [some (some 9), some (some 121), some (some 122), some (some 123), some (some 124), some (some 125), none, none, some (some 126), some (some 127), some (some 128)]), .inr (0, 12, 0), .inr (0, 12, 0), .inr (0, 12, 0), .inr (1, 12, 0), .inr (0, 12, 0), .inr (0, 160, 0), .inr (0, 160, 0), .inr (0, 10, 0)]) ++ [.inl (7, [some (some 5), some (some 130), none, none, none]), .inr (0, 128, 0)]) ++ [.inl (10, [none])])
theorem OKL_X11 {G : GG} {n0 : Nat} (hG : xa G = fun p => n0 + p) : OKL G n0 (seg_X11_init G n0) shX11 0 := by
  unfold seg_X11_init shX11
  refine OKL_c (by rw [show M0 0 = fun _ => 0 from M0_z (by decide)]; simp [shE, fvE, hG]) ?_
  exact (OKL_app (j := 130) ((OKL_app (j := 128) ((OKL_app (j := 119) ((OKL_app (j := 116) ((OKL_app (j := 113) ((OKL_app (j := 62) ((OKL_app (j := 11) ((OKL_app (j := 9) ((OKL_app (j := 8) ((OKL_app (j := 4) (OKL_X2 hG) rfl (OKL_X5 hG))) rfl (OKL_X1 hG))) rfl (OKL_X6 hG))) rfl (OKL_H (k := 12) hG (by decide) (by decide)))) rfl (OKL_H (k := 63) hG (by decide) (by decide)))) rfl (OKL_X0 hG))) rfl (OKL_X8 hG))) rfl (OKL_X9 hG))) rfl (OKL_X7 hG))) rfl (OKL_X10 hG))
def shX12 : List Sh := [.inl (12, [some (some 133), none, some (some 134), some (some 135), some (some 136), some (some 137), some (some 138), none, some (some 139), some (some 140), some (some 141), some (some 142), some (some 143), some (some 144), none, none, none, none, none, none, some (some 145), some (some 146), none, some (some 147), none, some (some 148), none, some (some 149), some (some 150), none, some (some 151), none, none, none, none, some (some 152), some (some 153), some (some 154), some (some 155), some (some 156), some (some 157), none, some none]), .inr (0, 128, 0), .inr (0, 40, 0), .inr (0, 40, 0), .inr (0, 40, 0), .inr (0, 128, 0), .inr (0, 50, 0), .inr (0, 2, 0), .inr (0, 16, 0), .inr (0, 16, 0), .inr (0, 16, 0), .inr (0, 800, 0), .inr (0, 800, 0), .inr (0, 50, 0), .inr (0, 50, 0), .inr (0, 50, 0), .inr (1, 51, 0), .inr (0, 8, 0), .inr (0, 8, 0), .inr (0, 36, 0), .inr (0, 12, 0), .inr (0, 12, 0), .inr (0, 12, 0), .inr (1, 12, 0), .inr (0, 12, 0), .inr (0, 160, 0)]
theorem shp_eq : shX11 ++ shX12 = shp := by rfl
theorem shX11_len : shX11.length = 132 := by rfl
theorem start_P {G : GG} {n0 : Nat} {H : Heap} (hG : xa G = fun p => n0 + p) (h : GP G n0 (seg_X11_init G n0 ++ seg_X12_init G n0 132) H) : va_P G.1 vwCl (wl G M0 0) H := by
  have h11 := OKL_X11 (G := G) (n0 := n0) hG
  have hk : OKL G n0 (seg_X11_init G n0 ++ seg_X12_init G n0 132) (shX11 ++ shX12) 0 := OKL_app (j := 132) h11 (h11.1.trans shX11_len) (OKL_X12 hG)
  rw [shp_eq] at hk
  intro p q hq
  obtain ⟨s, hs, rfl⟩ := wl_inv hq
  have hl : p < (seg_X11_init G n0 ++ seg_X12_init G n0 132).length := by rw [hk.1]; exact (List.getElem?_eq_some_iff.mp hs).1
  have h1 := hk.2 p _ s (List.getElem?_eq_getElem hl) hs H
  rw [Nat.zero_add] at h1
  have h2 := h1 (h p _ (gw_at (List.getElem?_eq_getElem hl)))
  rw [hG]
  exact h2
