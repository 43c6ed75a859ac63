/-! what each two lands cost -/
def wN (v : Int32) : Nat := if v = -1 then 100000 else v.toNatClampNeg
def wtN (own : Nat → Int32) (n : Nat) (wy pr : Nat → Nat) (cd : Nat → CdT) (e k : Int32) (a b : Nat) : Nat := if a = b then 100000 else wN (crI n wy pr cd (nI (dsN own a b)) e k).1
theorem ak_v {wy pr : Nat → Nat} {cb : Nat → Bool} {w : Nat} : ∀ n, (∀ i, i < n → pr i < 100) → akI wy pr cb w n = -1 ∨ ∃ p, p < 100 ∧ akI wy pr cb w n = nI p
  | 0, _ => .inl rfl
  | n + 1, h => by
    rw [ak_s]
    by_cases q : wy n = w ∧ cb n = true
    · rw [if_pos q]; exact .inr ⟨_, h n (by omega), rfl⟩
    · rw [if_neg q]; exact ak_v n fun i hi => h i (by omega)
theorem ch_v {ef : Nat → Int32} (h : ∀ w, ef w = -1 ∨ ∃ p, p < 100 ∧ ef w = nI p) : ∀ w, (chI ef w).1 = -1 ∨ ∃ p, p < 100 ∧ (chI ef w).1 = nI p
  | 0 => .inl rfl
  | w + 1 => by
    have ih := ch_v h w
    show (if ef w = -1 then chI ef w else if (chI ef w).1 = -1 ∨ ¬ (chI ef w).1 ≤ ef w then (ef w, nI w) else chI ef w).1 = -1 ∨ _
    by_cases q : ef w = -1
    · simp only [chI, if_pos q]; exact ih
    · by_cases q2 : (chI ef w).1 = -1 ∨ ¬ (chI ef w).1 ≤ ef w
      · simp only [chI, if_neg q, if_pos q2]; exact h w
      · simp only [chI, if_neg q, if_neg q2]; exact ih
theorem cr_v {n : Nat} {wy pr : Nat → Nat} {cd : Nat → CdT} (h : ∀ i, i < n → pr i < 100) (d e k : Int32) : (crI n wy pr cd d e k).1 = -1 ∨ ∃ p, p < 100 ∧ (crI n wy pr cd d e k).1 = nI p := by
  refine ch_v (fun w => ?_) 4
  unfold efI
  by_cases q : w = 0 ∧ ¬ d = 1
  · rw [if_pos q]; exact .inl rfl
  · rw [if_neg q]; exact ak_v n h
theorem wN_v {v : Int32} (h : v = -1 ∨ ∃ p, p < 100 ∧ v = nI p) : (wN v < 100 ∨ wN v = 100000) ∧ wI (wN v) = v ∧ (if v = -1 then 100000 else v) = nI (wN v) := by
  rcases h with rfl | ⟨p, hp, rfl⟩
  · exact ⟨.inr rfl, rfl, rfl⟩
  · have n1 : ¬ nI p = -1 := nI_m1 (by omega)
    have e : wN (nI p) = p := by unfold wN; rw [if_neg n1, nI_cl (by omega)]
    rw [e]
    refine ⟨.inl hp, ?_, if_neg n1⟩
    unfold wI
    rw [if_neg (by omega)]
theorem wt_C {own : Nat → Int32} {n : Nat} {wy pr : Nat → Nat} {cd : Nat → CdT} {e k : Int32} (h : ∀ i, i < n → pr i < 100) : WtC (wtN own n wy pr cd e k) := by
  refine ⟨fun a b => ?_, fun a b => ?_⟩
  · unfold wtN
    by_cases q : a = b
    · rw [if_pos q]; exact .inr rfl
    · rw [if_neg q]; exact (wN_v (cr_v h _ e k)).1
  · unfold wtN
    by_cases q : a = b
    · rw [if_pos q, if_pos q.symm]
    · rw [if_neg q, if_neg (fun t => q t.symm), ds_comm]
def KsA (g : Nat) (M M1 : Mem) : Prop := ∀ p k, p ≠ 4 → p ≠ 118 → p ≠ hP g + 2 → ¬ (p = hP g ∧ (k = 3 ∨ k = 4)) → M1 p k = M p k
theorem KsA.tr {g : Nat} {M M1 M2 : Mem} (h : KsA g M M1) (h2 : KsA g M1 M2) : KsA g M M2 := fun p k a b c d => (h2 p k a b c d).trans (h p k a b c d)
theorem KsA.sm {g : Nat} (hg : g < 2) {M M1 : Mem} (h : KsA g M M1) {r : Nat → Nat → Bool} (hr : ∀ k, r 4 k = false ∧ r 118 k = false ∧ r 14 k = false ∧ r 65 k = false ∧ r 12 3 = false ∧ r 12 4 = false ∧ r 63 3 = false ∧ r 63 4 = false) : Sm r M M1 := by
  intro p k hp
  obtain ⟨f1, f2, f3, f4, f5, f6, f7, f8⟩ := hr k
  have no : ∀ {x y : Nat}, r x y = false → ¬ (p = x ∧ k = y) := fun hf ⟨a, b⟩ => by
    subst a b
    rw [hf] at hp
    cases hp
  refine h p k (fun y => no f1 ⟨y, rfl⟩) (fun y => no f2 ⟨y, rfl⟩) ?_ ?_
  · rcases hP_of hg with ⟨-, e⟩ | ⟨-, e⟩ <;> rw [e]
    · exact fun y => no f3 ⟨y, rfl⟩
    · exact fun y => no f4 ⟨y, rfl⟩
  · rcases hP_of hg with ⟨-, e⟩ | ⟨-, e⟩ <;> rw [e]
    · rintro ⟨y, t | t⟩
      · exact no f5 ⟨y, t⟩
      · exact no f6 ⟨y, t⟩
    · rintro ⟨y, t | t⟩
      · exact no f7 ⟨y, t⟩
      · exact no f8 ⟨y, t⟩
theorem KsA.L {g : Nat} (hg : g < 2) {M M1 : Mem} (h : KsA g M M1) : Sm rL M M1 := h.sm hg fun _ => ⟨rfl, rfl, rfl, rfl, rfl, rfl, rfl, rfl⟩
theorem Inv.ks {g : Nat} (hg : g < 2) {M M1 : Mem} (hI : Inv M) (hG : IvG M1) (h : KsA g M M1) : Inv M1 := by
  obtain ⟨_, h2, h3, h4, h5, h6, h7⟩ := hI
  exact ⟨hG, h2.sm (h.sm hg fun _ => ⟨rfl, rfl, rfl, rfl, rfl, rfl, rfl, rfl⟩), h3.sm (h.sm hg fun _ => ⟨rfl, rfl, rfl, rfl, rfl, rfl, rfl, rfl⟩), h4.sm (h.L hg), h5.sm (h.sm hg fun _ => ⟨rfl, rfl, rfl, rfl, rfl, rfl, rfl, rfl⟩), h6.sm (h.sm hg fun _ => ⟨rfl, rfl, rfl, rfl, rfl, rfl, rfl, rfl⟩), h7.sm (h.sm hg fun _ => ⟨rfl, rfl, rfl, rfl, rfl, rfl, rfl, rfl⟩)⟩
theorem IvG.row4 {M M1 : Mem} (h : IvG M) (s : ∀ p k, (p = 2 ∨ p = 3 ∨ p = 4 ∨ p = 133) → M1 p k = M p k) : IvG M1 := h.sm fun p k hp => s p k (by simp [rG] at hp; omega)
def DnT (a b x y : Nat) : Prop := x < a ∨ (x = a ∧ y < b)
theorem c_ask8 {M : Mem} {g n b s : Nat} {wy pr : Nat → Nat} {cd : Nat → CdT} {e : Int32} (hG : IvG M) (hg : g < 2) (lC : LwC (hP g) n wy pr cd M) (bC : BsC b s e M) : ∃ M1, f_X8_ask (hP g) (nI b) M = some M1 ∧ PrC (wtN (M 2) n wy pr cd e (nI (pcN s))) M1 ∧ IvG M1 ∧ KsA g M M1 := by
  obtain ⟨w, hw⟩ : ∃ w, w = wtN (M 2) n wy pr cd e (nI (pcN s)) := ⟨_, rfl⟩
  rw [← hw]
  have hpr : ∀ i, i < n → pr i < 100 := fun i hi => (lC.2.2 i hi).2.2.1
  have hp := hP_of hg
  have eP : ∀ a c, a ≠ c → wI (w a c) = (crI n wy pr cd (nI (dsN (M 2) a c)) e (nI (pcN s))).1 := by
    intro a c hac
    rw [hw]
    unfold wtN
    rw [if_neg hac]
    exact (wN_v (cr_v hpr _ e _)).2.1
  have wsym : ∀ a c, w a c = w c a := by rw [hw]; exact (wt_C hpr).2
  have inner : ∀ a, a < 6 → ∀ Ms, IvG Ms → KsA g M Ms → (∀ x y, x < y → y < 6 → DnT a (a + 1) x y → Ms 118 (x * 6 + y) = wI (w x y) ∧ Ms 118 (y * 6 + x) = wI (w x y)) → ∃ M1, it (f_X8_ask_b35 (hP g) e (nI (pcN s))) FU (nI a, nI a + 1, Ms) = some (nI a, M1) ∧ IvG M1 ∧ KsA g M M1 ∧ ∀ x y, x < y → y < 6 → DnT a 6 x y → M1 118 (x * 6 + y) = wI (w x y) ∧ M1 118 (y * 6 + x) = wI (w x y) := by
    intro a ha Ms h1 h2 h3
    obtain ⟨z, hz, M1, rfl, z1⟩ := it_inv (b := f_X8_ask_b35 (hP g) e (nI (pcN s))) (fun i S => ∃ Mi, S = (nI a, nI (a + 1 + i), Mi) ∧ IvG Mi ∧ KsA g M Mi ∧ ∀ x y, x < y → y < 6 → DnT a (a + 1 + i) x y → Mi 118 (x * 6 + y) = wI (w x y) ∧ Mi 118 (y * 6 + x) = wI (w x y)) (6 - (a + 1)) (Q := fun Z => ∃ Mi, Z = (nI a, Mi) ∧ IvG Mi ∧ KsA g M Mi ∧ ∀ x y, x < y → y < 6 → DnT a 6 x y → Mi 118 (x * 6 + y) = wI (w x y) ∧ Mi 118 (y * 6 + x) = wI (w x y)) (by omega) (by
      rintro i hi S ⟨Mi, rfl, r1, r2, r3⟩
      obtain ⟨c, hc⟩ : ∃ c, c = a + 1 + i := ⟨_, rfl⟩
      rw [← hc] at r3 ⊢
      rw [show a + 1 + (i + 1) = c + 1 by omega]
      have c6 : c < 6 := by omega
      have a1 : ¬ (6 : Int32) ≤ nI c := nI_ge (b := 6) c6 (by decide)
      have e2 : Mi 2 = M 2 := funext fun k => r2 2 k (by decide) (by decide) (by omega) (by omega)
      obtain ⟨M84, k1, k2, k3⟩ := c_apart r1 ha c6 (show a ≠ c by omega)
      rw [e2] at k1
      have r4 : KsA g M M84 := r2.tr fun p k b1 _ _ _ => k3 p k (by simp [rX4, b1])
      obtain ⟨M85, d1, d2, d3⟩ := c_choose hg (lC.kp hg (r4.L hg)) (nI (dsN (M 2) a c)) e (nI (pcN s))
      have d4 : M85 (hP g) 3 = wI (w a c) := by rw [eP a c (by omega), ← d2]
      have ex1 : nI a * 6 + nI c = nI (a * 6 + c) := by
        have : nI a * 6 = nI (a * 6) := pk_mul a 6
        rw [this, nI_add]
      have ex2 : nI c * 6 + nI a = nI (c * 6 + a) := by
        have : nI c * 6 = nI (c * 6) := pk_mul c 6
        rw [this, nI_add]
      have p1 := inb_t (k := a * 6 + c) (n := 36) (by omega) (by decide)
      have p2 := nI_cl (show a * 6 + c < 2 ^ 31 by omega)
      have p3 := inb_t (k := c * 6 + a) (n := 36) (by omega) (by decide)
      have p4 := nI_cl (show c * 6 + a < 2 ^ 31 by omega)
      have u1 : up M85 118 (a * 6 + c) (wI (w a c)) (hP g) 3 = wI (w a c) := by rw [up_at, if_neg (fun y => by omega), d4]
      refine ⟨(nI a, nI (c + 1), up (up M85 118 (a * 6 + c) (wI (w a c))) 118 (c * 6 + a) (wI (w a c))), ?_, _, rfl, ?_, ?_, ?_⟩
      · simp only [f_X8_ask_b35]
        rw [if_neg a1, k1, Option.bind_some]
        simp only
        rw [d1, Option.bind_some, ex1, if_pos p1, ex2, if_pos p3, p2, p4, d4, u1, nI_1]
      · refine k2.row4 fun p k hpk => ?_
        rw [up_at, if_neg (fun y => by omega), up_at, if_neg (fun y => by omega)]
        exact d3 p k (by omega) (by omega)
      · intro p k b1 b2 b3 b4
        rw [up_at, if_neg (fun y => b2 y.1), up_at, if_neg (fun y => b2 y.1), d3 p k b3 b4]
        exact r4 p k b1 b2 b3 b4
      · intro x y hxy hy hd
        by_cases t : x = a ∧ y = c
        · obtain ⟨rfl, rfl⟩ := t
          refine ⟨?_, ?_⟩
          · rw [up_at, if_neg (fun y => by omega), up_at, if_pos ⟨rfl, rfl⟩]
          · rw [up_at, if_pos ⟨rfl, rfl⟩]
        · have hd2 : DnT a c x y := by unfold DnT at hd ⊢; omega
          obtain ⟨q1, q2⟩ := r3 x y hxy hy hd2
          have back : ∀ k, M85 118 k = Mi 118 k := fun k => (d3 118 k (by omega) (by omega)).trans (k3 118 k rfl)
          have x6 : x < 6 := by omega
          have ac : a < c := by omega
          have n1 : ¬ (x * 6 + y = c * 6 + a) := by omega
          have n2 : ¬ (x * 6 + y = a * 6 + c) := by omega
          have n3 : ¬ (y * 6 + x = c * 6 + a) := by omega
          have n4 : ¬ (y * 6 + x = a * 6 + c) := by
            intro h
            have h1 : y = a := by omega
            omega
          refine ⟨?_, ?_⟩
          · rw [up_at, if_neg (fun t => n1 t.2), up_at, if_neg (fun t => n2 t.2), back]; exact q1
          · rw [up_at, if_neg (fun t => n3 t.2), up_at, if_neg (fun t => n4 t.2), back]; exact q2) (by
      rintro S ⟨Mi, rfl, r1, r2, r3⟩
      rw [show a + 1 + (6 - (a + 1)) = 6 by omega] at r3 ⊢
      have a1 : (6 : Int32) ≤ nI 6 := by decide
      exact ⟨_, by simp only [f_X8_ask_b35, a1, if_true], Mi, rfl, r1, r2, r3⟩) (s0 := (nI a, nI a + 1, Ms)) ⟨Ms, by rw [nI_1], h1, h2, h3⟩
    exact ⟨M1, hz, z1⟩
  obtain ⟨z, hz, z1, z2, z3⟩ := it_inv (b := f_X8_ask_b22 (hP g) e (nI (pcN s))) (fun a S => ∃ Mi, S = (nI a, Mi) ∧ IvG Mi ∧ KsA g M Mi ∧ ∀ x y, x < y → y < 6 → x < a → Mi 118 (x * 6 + y) = wI (w x y) ∧ Mi 118 (y * 6 + x) = wI (w x y)) 6 (Q := fun Z => IvG Z ∧ KsA g M Z ∧ ∀ x y, x < y → y < 6 → x < 6 → Z 118 (x * 6 + y) = wI (w x y) ∧ Z 118 (y * 6 + x) = wI (w x y)) (by decide) (by
    rintro a ha S ⟨Mi, rfl, r1, r2, r3⟩
    have a1 : ¬ (6 : Int32) ≤ nI a := nI_ge (b := 6) ha (by decide)
    obtain ⟨M1, k1, k2, k3, k4⟩ := inner a ha Mi r1 r2 (fun x y hxy hy hd => r3 x y hxy hy (by unfold DnT at hd; omega))
    refine ⟨(nI (a + 1), M1), ?_, M1, rfl, k2, k3, fun x y hxy hy hx => k4 x y hxy hy (by unfold DnT; omega)⟩
    simp only [f_X8_ask_b22]
    rw [if_neg a1, k1, Option.bind_some]
    simp only
    rw [nI_1]) (by
    rintro S ⟨Mi, rfl, r1, r2, r3⟩
    have a1 : (6 : Int32) ≤ nI 6 := by decide
    exact ⟨Mi, by simp only [f_X8_ask_b22, a1, if_true], r1, r2, r3⟩) (s0 := (0, M)) ⟨M, rfl, hG, fun _ _ _ _ _ _ => rfl, fun x y _ _ hx => absurd hx (Nat.not_lt_zero x)⟩
  refine ⟨z, ?_, fun a c ha hc hac => ?_, z1, z2⟩
  · unfold f_X8_ask
    rw [c_age bC, Option.bind_some, c_howMany bC, Option.bind_some, hz, Option.bind_some]
  · by_cases t : a < c
    · exact (z3 a c t hc ha).1
    · rw [wsym a c]
      exact (z3 c a (by omega) ha hc).2
def KsM (M M1 : Mem) : Prop := ∀ p k, p ≠ 148 → p ≠ 151 → ¬ (p = 132 ∧ k = 29) → M1 p k = M p k
theorem KsM.A {M M1 : Mem} (h : KsM M M1) : Sm rA M M1 := fun p k hp => h p k (by rintro rfl; cases hp) (by rintro rfl; cases hp) (by rintro ⟨rfl, rfl⟩; cases hp)
theorem m_lay8 {M : Mem} {g n b s : Nat} {wy pr : Nat → Nat} {cd : Nat → CdT} {e : Int32} (hI : Inv M) (hg : g < 2) (lM : LwM g n wy pr cd M) (bM : BsM b s e M) : ∃ M1, f_X12_layBetween (nI g) (nI b) M = some M1 ∧ PrM (wtN (M 2) n wy pr cd e (nI (pcN s))) M1 ∧ KsM M M1 := by
  obtain ⟨w, hw⟩ : ∃ w, w = wtN (M 2) n wy pr cd e (nI (pcN s)) := ⟨_, rfl⟩
  rw [← hw]
  have hpr : ∀ i, i < n → pr i < 100 := fun i hi => (lM.2.2 i hi).2.2.1
  have inner : ∀ a, a < 6 → ∀ Ms, KsM M Ms → (∀ x y, x < 6 → y < 6 → x ≠ y → DnT a 0 x y → Ms 151 (6 * x + y) = nI (w x y)) → ∃ M1, it (f_X12_layBetween_b11 (nI g) (nI b)) FU (nI a, 0, Ms) = some (nI a, M1) ∧ KsM M M1 ∧ ∀ x y, x < 6 → y < 6 → x ≠ y → DnT a 6 x y → M1 151 (6 * x + y) = nI (w x y) := by
    intro a ha Ms h2 h3
    obtain ⟨z, hz, M1, rfl, z1⟩ := it_inv (b := f_X12_layBetween_b11 (nI g) (nI b)) (fun c S => ∃ Mi, S = (nI a, nI c, Mi) ∧ KsM M Mi ∧ ∀ x y, x < 6 → y < 6 → x ≠ y → DnT a c x y → Mi 151 (6 * x + y) = nI (w x y)) 6 (Q := fun Z => ∃ Mi, Z = (nI a, Mi) ∧ KsM M Mi ∧ ∀ x y, x < 6 → y < 6 → x ≠ y → DnT a 6 x y → Mi 151 (6 * x + y) = nI (w x y)) (by decide) (by
      rintro c hc S ⟨Mi, rfl, r2, r3⟩
      have a1 : ¬ (6 : Int32) ≤ nI c := nI_ge (b := 6) hc (by decide)
      have ex : 6 * nI a + nI c = nI (6 * a + c) := by
        have : 6 * nI a = nI (6 * a) := pk_mul 6 a
        rw [this, nI_add]
      have p1 := inb_t (k := 6 * a + c) (n := 36) (by omega) (by decide)
      have p2 := nI_cl (show 6 * a + c < 2 ^ 31 by omega)
      have fin : ∀ (Mj : Mem) (V : Int32), KsM M Mj → (∀ k, Mj 151 k = Mi 151 k) → (a ≠ c → V = nI (w a c)) → KsM M (up Mj 151 (6 * a + c) V) ∧ ∀ x y, x < 6 → y < 6 → x ≠ y → DnT a (c + 1) x y → up Mj 151 (6 * a + c) V 151 (6 * x + y) = nI (w x y) := by
        intro Mj V h1 h2 h3
        refine ⟨fun p k b1 b2 b3 => by rw [up_at, if_neg (fun y => b2 y.1)]; exact h1 p k b1 b2 b3, fun x y hx hy hxy hd => ?_⟩
        by_cases t : x = a ∧ y = c
        · obtain ⟨rfl, rfl⟩ := t
          rw [up_at, if_pos ⟨rfl, rfl⟩]
          exact h3 hxy
        · rw [up_at, if_neg (fun y => by omega), h2]
          exact r3 x y hx hy hxy (by unfold DnT at hd ⊢; omega)
      by_cases q : a = c
      · have q2 : nI a = nI c := by rw [q]
        obtain ⟨f1, f2⟩ := fin Mi 100000 r2 (fun _ => rfl) (fun t => absurd q t)
        refine ⟨_, ?_, _, rfl, f1, f2⟩
        simp only [f_X12_layBetween_b11]
        rw [if_neg a1, if_pos q2, Option.bind_some]
        simp only
        rw [if_pos True.intro, Option.bind_some, ex, if_pos p1, p2, nI_1]
      · have q2 : ¬ nI a = nI c := fun y => q (nI_inj (by omega) (by omega) y)
        have sA := r2.A
        have hIi := hI.sm sA
        have e2 : Mi 2 = M 2 := funext fun k => r2 2 k (by decide) (by decide) (by omega)
        have bMi : BsM b s e Mi := ⟨bM.1, bM.2.1, (r2 _ _ (by decide) (by decide) (by omega)).trans bM.2.2.1, (r2 _ _ (by decide) (by decide) (by omega)).trans bM.2.2.2⟩
        obtain ⟨M1, m1, -, m3⟩ := m_cross (a := a) (c := c) hIi.1 hg (lM.kp sA.L) bMi
        rw [e2] at m1
        have hv := wN_v (cr_v (wy := wy) (cd := cd) hpr (nI (dsN (M 2) a c)) e (nI (pcN s)))
        have ew : w a c = wN (crI n wy pr cd (nI (dsN (M 2) a c)) e (nI (pcN s))).1 := by
          rw [hw]
          unfold wtN
          rw [if_neg q]
        obtain ⟨f1, f2⟩ := fin M1 (nI (w a c)) (fun p k b1 b2 b3 => (m3 p k b1 b3).trans (r2 p k b1 b2 b3)) (fun k => m3 151 k (by decide) (by omega)) (fun _ => rfl)
        refine ⟨_, ?_, _, rfl, f1, f2⟩
        simp only [f_X12_layBetween_b11]
        rw [if_neg a1, if_neg q2, m1, Option.bind_some]
        simp only
        rw [Option.bind_some]
        simp only
        rw [ite_ss, hv.2.2, ← ew, Option.bind_some, ex, if_pos p1, p2, nI_1]) (by
      rintro S ⟨Mi, rfl, r2, r3⟩
      have a1 : (6 : Int32) ≤ nI 6 := by decide
      exact ⟨_, by simp only [f_X12_layBetween_b11, a1, if_true], Mi, rfl, r2, r3⟩) (s0 := (nI a, 0, Ms)) ⟨Ms, rfl, h2, h3⟩
    exact ⟨M1, hz, z1⟩
  obtain ⟨z, hz, z2, z3⟩ := it_inv (b := f_X12_layBetween_b2 (nI g) (nI b)) (fun a S => ∃ Mi, S = (nI a, Mi) ∧ KsM M Mi ∧ ∀ x y, x < 6 → y < 6 → x ≠ y → x < a → Mi 151 (6 * x + y) = nI (w x y)) 6 (Q := fun Z => KsM M Z ∧ ∀ x y, x < 6 → y < 6 → x ≠ y → x < 6 → Z 151 (6 * x + y) = nI (w x y)) (by decide) (by
    rintro a ha S ⟨Mi, rfl, r2, r3⟩
    have a1 : ¬ (6 : Int32) ≤ nI a := nI_ge (b := 6) ha (by decide)
    obtain ⟨M1, k1, k3, k4⟩ := inner a ha Mi r2 (fun x y hx hy hxy hd => r3 x y hx hy hxy (by unfold DnT at hd; omega))
    refine ⟨(nI (a + 1), M1), ?_, M1, rfl, k3, fun x y hx hy hxy hxa => k4 x y hx hy hxy (by unfold DnT; omega)⟩
    simp only [f_X12_layBetween_b2]
    rw [if_neg a1, k1, Option.bind_some]
    simp only
    rw [nI_1]) (by
    rintro S ⟨Mi, rfl, r2, r3⟩
    have a1 : (6 : Int32) ≤ nI 6 := by decide
    exact ⟨Mi, by simp only [f_X12_layBetween_b2, a1, if_true], r2, r3⟩) (s0 := (0, M)) ⟨M, rfl, fun _ _ _ _ _ => rfl, fun x y _ _ _ hx => absurd hx (Nat.not_lt_zero x)⟩
  refine ⟨z, ?_, fun a c ha hc hac => z3 a c ha hc hac ha, z2⟩
  unfold f_X12_layBetween
  rw [hz, Option.bind_some]
