/-! the reference's marks and its waiting row -/
abbrev CdT : Type := Int32 → Int32 → Int32 → Bool
def ttC : CdT := fun _ _ _ => true
def ffC : CdT := fun _ _ _ => false
def odN (n : Nat) : Bool := decide (n % 2 = 1)
theorem od_s (n : Nat) : odN (n + 1) = !odN n := by
  unfold odN
  by_cases h : n % 2 = 1
  · rw [decide_eq_true h, decide_eq_false (by omega)]; rfl
  · rw [decide_eq_false h, decide_eq_true (by omega)]; rfl
def WLr (M : Mem) : List Nat → Prop
  | [] => True
  | x :: r => M 147 r.length = nI x ∧ WLr M r
def SKr (M : Mem) (rm : Nat) (ws : List Nat) (F : Int32 → Int32 → Int32 → List Bool) : Prop := M 132 22 = nI rm ∧ M 132 24 = nI ws.length ∧ WLr M ws ∧ ∀ d e k, rpn (M 145) (M 146) d e k rm = some (F d e k)
theorem WL_congr {M M1 : Mem} : ∀ ws : List Nat, (∀ i, i < ws.length → M1 147 i = M 147 i) → WLr M ws → WLr M1 ws
  | [], _, _ => True.intro
  | x :: r, h, hw => ⟨(h r.length (by simp)).trans hw.1, WL_congr r (fun i hi => h i (by simp; omega)) hw.2⟩
theorem rpn_congr {mk nu mk' nu' : Nat → Int32} (d e k : Int32) : ∀ n, (∀ i, i < n → mk' i = mk i ∧ nu' i = nu i) → rpn mk' nu' d e k n = rpn mk nu d e k n
  | 0, _ => rfl
  | n + 1, h => by
    show (rpn mk' nu' d e k n).bind (rps (mk' n) (nu' n) d e k) = (rpn mk nu d e k n).bind (rps (mk n) (nu n) d e k)
    rw [rpn_congr d e k n (fun i hi => h i (by omega)), (h n (by omega)).1, (h n (by omega)).2]
theorem it_go {S R : Type} {b : S → Option (S ⊕ R)} {s s2 : S} (h : b s = some (.inl s2)) (n : Nat) : it b (n + 1) s = it b n s2 := by
  show (b s).bind _ = _
  rw [h]
  rfl
theorem it_end {S R : Type} {b : S → Option (S ⊕ R)} {s : S} {r : R} (h : b s = some (.inr r)) (n : Nat) : it b (n + 1) s = some r := by
  show (b s).bind _ = _
  rw [h]
  rfl
def FrD (M M1 : Mem) : Prop := ∀ p k, p ≠ 145 → p ≠ 146 → ¬ (p = 132 ∧ (k = 22 ∨ k = 24)) → M1 p k = M p k
theorem FrD.tr {M M1 M2 : Mem} (h : FrD M M1) (g : FrD M1 M2) : FrD M M2 := fun p k a b c => (g p k a b c).trans (h p k a b c)
theorem m_mark {M : Mem} {rm : Nat} (e : M 132 22 = nI rm) (h : rm < 50) (x v : Int32) : f_X12_layMark x v M = some (up (up (up M 145 rm x) 146 rm v) 132 22 (nI (rm + 1))) := by
  have p1 := inb_t (k := rm) (n := 50) h (by decide)
  have p2 := nI_cl (show rm < 2 ^ 31 by omega)
  have q1 : up M 145 rm x 132 22 = nI rm := by rw [up_at, if_neg (fun w => absurd w.1 (by decide)), e]
  have q2 : up (up M 145 rm x) 146 rm v 132 22 = nI rm := by rw [up_at, if_neg (fun w => absurd w.1 (by decide)), q1]
  unfold f_X12_layMark
  rw [e, if_pos p1, p2, q1, if_pos p1, p2, q2, nI_1]
theorem SK_mark {M : Mem} {rm : Nat} {ws : List Nat} {F F' : Int32 → Int32 → Int32 → List Bool} (h : SKr M rm ws F) {x v : Int32} (hF : ∀ d e k, rps x v d e k (F d e k) = some (F' d e k)) : SKr (up (up (up M 145 rm x) 146 rm v) 132 22 (nI (rm + 1))) (rm + 1) ws F' := by
  obtain ⟨h1, h2, h3, h4⟩ := h
  refine ⟨by simp [up_at], by simp [up_at, h2], WL_congr ws (fun i _ => by simp [up_at]) h3, fun d e k => ?_⟩
  show (rpn _ _ d e k rm).bind (rps _ _ d e k) = _
  rw [rpn_congr (mk := M 145) (nu := M 146) d e k rm (fun i hi => ?_), h4 d e k, Option.bind_some]
  · rw [show (up (up (up M 145 rm x) 146 rm v) 132 22 (nI (rm + 1))) 145 rm = x by simp [up_at], show (up (up (up M 145 rm x) 146 rm v) 132 22 (nI (rm + 1))) 146 rm = v by simp [up_at]]
    exact hF d e k
  · have : i ≠ rm := by omega
    constructor <;> simp [up_at, this]
theorem m_pop {M : Mem} {rm x : Nat} {r : List Nat} {F F' : Int32 → Int32 → Int32 → List Bool} (h : SKr M rm (x :: r) F) (hb : rm + r.length + 1 ≤ 50) {most : Int32} (hm : ¬ most < nI x) (hF : ∀ d e k, rps (nI x) 0 d e k (F d e k) = some (F' d e k)) : ∃ M1, f_X12_layDown_b0 most M = some (.inl M1) ∧ SKr M1 (rm + 1) r F' ∧ FrD M M1 := by
  obtain ⟨h1, h2, h3, h4⟩ := h
  have e2 : M 132 24 = nI (r.length + 1) := h2
  have p1 := inb_t (k := r.length) (n := 50) (by omega) (by decide)
  have p2 := nI_cl (show r.length < 2 ^ 31 by omega)
  have a1 : ¬ nI (r.length + 1) ≤ 0 := nI_nle (by omega) (by omega)
  obtain ⟨M1, hM1⟩ : ∃ M1, M1 = up M 132 24 (nI r.length) := ⟨_, rfl⟩
  have s1 : SKr M1 rm r F := by
    subst hM1
    refine ⟨by simp [up_at, h1], by simp [up_at], WL_congr r (fun i _ => by simp [up_at]) h3.2, fun d e k => ?_⟩
    rw [rpn_congr (mk := M 145) (nu := M 146) d e k rm (fun i hi => by constructor <;> simp [up_at])]
    exact h4 d e k
  have q1 : M1 132 24 = nI r.length := s1.2.1
  have q2 : M1 147 r.length = nI x := by subst hM1; simp [up_at]; exact h3.1
  have hmk := m_mark s1.1 (by omega) (nI x) 0
  refine ⟨_, ?_, SK_mark s1 hF, fun p k b1 b2 b3 => ?_⟩
  · unfold f_X12_layDown_b0
    rw [e2, if_neg a1, nI_pred, if_pos p1, p2, h3.1, if_neg hm, ← hM1, q1, if_pos p1, p2, q2, hmk]
    rfl
  · rw [up_at, if_neg (fun w => b3 ⟨w.1, .inl w.2⟩), up_at, if_neg (fun w => b2 w.1), up_at, if_neg (fun w => b1 w.1), hM1, up_at, if_neg (fun w => b3 ⟨w.1, .inr w.2⟩)]
theorem m_stop0 {M : Mem} {rm : Nat} {F : Int32 → Int32 → Int32 → List Bool} (h : SKr M rm [] F) (most : Int32) : f_X12_layDown_b0 most M = some (.inr M) := by
  have e2 : M 132 24 = 0 := h.2.1
  unfold f_X12_layDown_b0
  rw [e2, if_pos (by decide)]
theorem m_stop1 {M : Mem} {rm x : Nat} {r : List Nat} {F : Int32 → Int32 → Int32 → List Bool} (h : SKr M rm (x :: r) F) (hb : r.length < 50) {most : Int32} (hm : most < nI x) : f_X12_layDown_b0 most M = some (.inr M) := by
  have e2 : M 132 24 = nI (r.length + 1) := h.2.1
  have p1 := inb_t (k := r.length) (n := 50) hb (by decide)
  have p2 := nI_cl (show r.length < 2 ^ 31 by omega)
  have a1 : ¬ nI (r.length + 1) ≤ 0 := nI_nle (by omega) (by omega)
  unfold f_X12_layDown_b0
  rw [e2, if_neg a1, nI_pred, if_pos p1, p2, h.2.2.1.1, if_pos hm]
theorem rps_9 (d e k : Int32) (b : Bool) (r : List Bool) : rps (nI 9) 0 d e k (b :: r) = some ((!b) :: r) := rfl
theorem rps_10 (d e k : Int32) (b a : Bool) (r : List Bool) : rps (nI 10) 0 d e k (b :: a :: r) = some ((a && b) :: r) := rfl
theorem rps_11 (d e k : Int32) (b a : Bool) (r : List Bool) : rps (nI 11) 0 d e k (b :: a :: r) = some ((a || b) :: r) := rfl
theorem m_nots {tl : List Nat} {most : Int32} (hm : ¬ most < nI 9) {R : Int32 → Int32 → Int32 → List Bool} : ∀ (neg rm : Nat) (M : Mem) (B : CdT), SKr M rm (List.replicate neg 9 ++ tl) (fun d e k => B d e k :: R d e k) → rm + neg + tl.length ≤ 50 → ∃ M1, (∀ n, it (f_X12_layDown_b0 most) (n + neg) M = it (f_X12_layDown_b0 most) n M1) ∧ SKr M1 (rm + neg) tl (fun d e k => (B d e k != odN neg) :: R d e k) ∧ FrD M M1 := by
  intro neg
  induction neg with
  | zero =>
    intro rm M B h hb
    refine ⟨M, fun n => rfl, ?_, fun _ _ _ _ _ => rfl⟩
    have e : (fun d e k => (B d e k != odN 0) :: R d e k) = fun d e k => B d e k :: R d e k := by
      funext d e k
      cases B d e k <;> rfl
    rw [e]
    exact h
  | succ neg ih =>
    intro rm M B h hb
    have h' : SKr M rm (9 :: (List.replicate neg 9 ++ tl)) (fun d e k => B d e k :: R d e k) := h
    obtain ⟨M1, k1, k2, k3⟩ := m_pop (F' := fun d e k => (!B d e k) :: R d e k) h' (by simp; omega) hm (fun d e k => rps_9 d e k _ _)
    obtain ⟨M2, g1, g2, g3⟩ := ih (rm + 1) M1 (fun d e k => !B d e k) k2 (by omega)
    refine ⟨M2, fun n => ?_, ?_, k3.tr g3⟩
    · rw [show n + (neg + 1) = (n + neg) + 1 by omega, it_go k1]
      exact g1 n
    · have e : (fun d e k => (B d e k != odN (neg + 1)) :: R d e k) = fun d e k => ((!B d e k) != odN neg) :: R d e k := by
        funext d e k
        rw [od_s]
        cases B d e k <;> cases odN neg <;> rfl
      rw [e, show rm + (neg + 1) = rm + 1 + neg by omega]
      exact g2
def tlL (hO hA : Bool) : List Nat := (if hA = true then [10] else []) ++ (if hO = true then [11] else [])
def tlF (hO hA : Bool) (O A : CdT) (d e k : Int32) : List Bool := (if hA = true then [A d e k] else []) ++ (if hO = true then [O d e k] else [])
theorem tlL_len (hO hA : Bool) : (tlL hO hA).length = bN hA + bN hO := by cases hO <;> cases hA <;> rfl
theorem m_down10 {M : Mem} {rm neg : Nat} {hO hA : Bool} {O A B : CdT} (h : SKr M rm (List.replicate neg 9 ++ tlL hO hA) (fun d e k => B d e k :: tlF hO hA O A d e k)) (hb : rm + neg + (tlL hO hA).length ≤ 50) (a0 : hA = false → A = ttC) : ∃ M1 rm1, f_X12_layDown 10 M = some M1 ∧ SKr M1 rm1 (tlL hO false) (fun d e k => (A d e k && (B d e k != odN neg)) :: tlF hO false O ttC d e k) ∧ rm1 + (tlL hO false).length ≤ rm + neg + (tlL hO hA).length ∧ FrD M M1 := by
  obtain ⟨M1, g1, g2, g3⟩ := m_nots (most := 10) (by decide) neg rm M B h hb
  have hFU : FU = (FU - neg - 2) + 1 + 1 + neg := by
    have : neg ≤ 50 := by omega
    unfold FU
    omega
  have fin : ∀ {M2 : Mem} {rm2 : Nat} {F : Int32 → Int32 → Int32 → List Bool}, SKr M2 rm2 (tlL hO false) F → f_X12_layDown_b0 10 M2 = some (.inr M2) := by
    intro M2 rm2 F s
    cases hO
    · exact m_stop0 s 10
    · exact m_stop1 (x := 11) (r := []) s (by decide) (by decide)
  cases hA with
  | false =>
    refine ⟨M1, rm + neg, ?_, ?_, Nat.le_refl _, g3⟩
    · unfold f_X12_layDown
      rw [hFU, g1, it_end (fin g2)]
      rfl
    · have e : (fun d e k => (A d e k && (B d e k != odN neg)) :: tlF hO false O ttC d e k) = fun d e k => (B d e k != odN neg) :: tlF hO false O A d e k := by
        funext d e k
        rw [a0 rfl]
        rfl
      rw [e]
      exact g2
  | true =>
    have g2' : SKr M1 (rm + neg) (10 :: tlL hO false) (fun d e k => (B d e k != odN neg) :: A d e k :: tlF hO false O ttC d e k) := g2
    have hl : (tlL hO true).length = (tlL hO false).length + 1 := by cases hO <;> rfl
    obtain ⟨M2, k1, k2, k3⟩ := m_pop (F' := fun d e k => (A d e k && (B d e k != odN neg)) :: tlF hO false O ttC d e k) g2' (by omega) (most := 10) (by decide) (fun d e k => rps_10 d e k _ _ _)
    refine ⟨M2, rm + neg + 1, ?_, k2, by omega, g3.tr k3⟩
    unfold f_X12_layDown
    rw [hFU, g1, it_go k1, it_end (fin k2)]
    rfl
theorem m_down11 {M : Mem} {rm neg : Nat} {hO hA : Bool} {O A B : CdT} (h : SKr M rm (List.replicate neg 9 ++ tlL hO hA) (fun d e k => B d e k :: tlF hO hA O A d e k)) (hb : rm + neg + (tlL hO hA).length ≤ 50) (a0 : hA = false → A = ttC) (o0 : hO = false → O = ffC) : ∃ M1 rm1, f_X12_layDown 11 M = some M1 ∧ SKr M1 rm1 [] (fun d e k => [O d e k || (A d e k && (B d e k != odN neg))]) ∧ rm1 ≤ rm + neg + (tlL hO hA).length ∧ FrD M M1 := by
  obtain ⟨M1, g1, g2, g3⟩ := m_nots (most := 11) (by decide) neg rm M B h hb
  have hFU : FU = (FU - neg - 3) + 1 + 1 + 1 + neg := by
    have : neg ≤ 50 := by omega
    unfold FU
    omega
  have s2 : ∃ M2 rm2 j, j ≤ 1 ∧ (∀ n, it (f_X12_layDown_b0 11) (n + j) M1 = it (f_X12_layDown_b0 11) n M2) ∧ SKr M2 rm2 (tlL hO false) (fun d e k => (A d e k && (B d e k != odN neg)) :: tlF hO false O ttC d e k) ∧ rm2 + (tlL hO false).length ≤ rm + neg + (tlL hO hA).length ∧ FrD M M2 := by
    cases hA with
    | false =>
      refine ⟨M1, rm + neg, 0, by decide, fun _ => rfl, ?_, Nat.le_refl _, g3⟩
      have e : (fun d e k => (A d e k && (B d e k != odN neg)) :: tlF hO false O ttC d e k) = fun d e k => (B d e k != odN neg) :: tlF hO false O A d e k := by
        funext d e k
        rw [a0 rfl]
        rfl
      rw [e]
      exact g2
    | true =>
      have g2' : SKr M1 (rm + neg) (10 :: tlL hO false) (fun d e k => (B d e k != odN neg) :: A d e k :: tlF hO false O ttC d e k) := g2
      have hl : (tlL hO true).length = (tlL hO false).length + 1 := by cases hO <;> rfl
      obtain ⟨M2, k1, k2, k3⟩ := m_pop (F' := fun d e k => (A d e k && (B d e k != odN neg)) :: tlF hO false O ttC d e k) g2' (by omega) (most := 11) (by decide) (fun d e k => rps_10 d e k _ _ _)
      exact ⟨M2, rm + neg + 1, 1, by decide, fun n => it_go k1 n, k2, by omega, g3.tr k3⟩
  obtain ⟨M2, rm2, j, hj, k1, k2, k3, k4⟩ := s2
  have hFU2 : (FU - neg - 3) + 1 + 1 + 1 = (FU - neg - j - 2) + 1 + 1 + j := by
    have : neg ≤ 50 := by omega
    unfold FU
    omega
  cases hO with
  | false =>
    refine ⟨M2, rm2, ?_, ?_, k3, k4⟩
    · unfold f_X12_layDown
      rw [hFU, g1, hFU2, k1, it_end (m_stop0 k2 11)]
      rfl
    · have e : (fun d e k => [O d e k || (A d e k && (B d e k != odN neg))]) = fun d e k => (A d e k && (B d e k != odN neg)) :: tlF false false O ttC d e k := by
        funext d e k
        rw [o0 rfl]
        rfl
      rw [e]
      exact k2
  | true =>
    have k2' : SKr M2 rm2 [11] (fun d e k => (A d e k && (B d e k != odN neg)) :: O d e k :: []) := k2
    obtain ⟨M3, w1, w2, w3⟩ := m_pop (F' := fun d e k => [O d e k || (A d e k && (B d e k != odN neg))]) k2' (by
      have : (tlL true false).length = 1 := rfl
      show rm2 + 0 + 1 ≤ 50
      omega) (most := 11) (by decide) (fun d e k => rps_11 d e k _ _ _)
    refine ⟨M3, rm2 + 1, ?_, w2, k3, k4.tr w3⟩
    unfold f_X12_layDown
    rw [hFU, g1, hFU2, k1, it_go w1, it_end (m_stop0 w2 11)]
    rfl
