/-! places -/
def isPl (u v : Int32) : Bool := decide (-7 ≤ u) && decide (u ≤ 7) && isN v 16
theorem c_place (u v : Int32) : f_X11_isPlace u v = some (isPl u v) := by
  unfold f_X11_isPlace isPl
  rw [wi_16, Option.bind_some]
  by_cases h1 : u < -7
  · have h2 : ¬ (-7 : Int32) ≤ u := by rw [nle_lt]; exact h1
    simp [h1, h2]
  · have h2 : (-7 : Int32) ≤ u := nlt_le.mp h1
    by_cases h3 : 7 < u
    · have h4 : ¬ u ≤ 7 := by rw [nle_lt]; exact h3
      simp [h1, h2, h3, h4]
    · have h4 : u ≤ 7 := nlt_le.mp h3
      cases isN v 16 <;> simp [h1, h2, h3, h4]
theorem m_inU (u : Int32) : f_X12_in (Int32.toInt64 u) (-7) 7 = some (decide (-7 ≤ u) && decide (u ≤ 7)) := r_lh u (-7) 7
theorem m_place (u v : Int32) : f_X12_isPlace u v = some (isPl u v) := by
  unfold f_X12_isPlace isPl
  rw [m_inU, Option.bind_some, wn_16, Option.bind_some]
  cases (decide (-7 ≤ u) && decide (u ≤ 7)) <;> cases isN v 16 <;> rfl
theorem isU_of {u : Int32} (h : (decide (-7 ≤ u) && decide (u ≤ 7)) = true) : ∃ s, s < 15 ∧ u = nI s - 7 := by
  rw [Bool.and_eq_true, decide_eq_true_eq, decide_eq_true_eq] at h
  have e7 : (-7 : Int32).toInt = -7 := rfl
  have f7 : (7 : Int32).toInt = 7 := rfl
  have h1 := h.1
  have h2 := h.2
  rw [i_le] at h1 h2
  refine ⟨(u.toInt + 7).toNat, by omega, ?_⟩
  rw [i_eq]
  have : (nI (u.toInt + 7).toNat - nI 7).toInt = ((u.toInt + 7).toNat : Int) - 7 := pk_sub_toInt (by omega) (by decide)
  rw [show (nI (u.toInt + 7).toNat - 7).toInt = ((u.toInt + 7).toNat : Int) - 7 from this]
  omega
theorem isPl_of {u v : Int32} (h : isPl u v = true) : ∃ s w, s < 15 ∧ w < 16 ∧ u = nI s - 7 ∧ v = nI w := by
  unfold isPl at h
  rw [Bool.and_eq_true] at h
  obtain ⟨s, h1, h2⟩ := isU_of h.1
  obtain ⟨w, h3, h4⟩ := isN_of (by decide) h.2
  exact ⟨s, w, h1, h3, h2, h4⟩
theorem isU_s : ∀ s, s < 15 → (decide (-7 ≤ nI s - 7) && decide (nI s - 7 ≤ 7)) = true := by decide +kernel
theorem isPl_s {s w : Nat} (hs : s < 15) (hw : w < 16) : isPl (nI s - 7) (nI w) = true := by
  unfold isPl
  rw [isU_s s hs, isN_nI hw (by decide)]
  rfl
theorem Inv.n9 {M M1 : Mem} (h : Inv M) (s : ∀ p k, p ≠ 9 → M1 p k = M p k) : Inv M1 := h.sm fun p k hp => s p k (by rintro rfl; cases hp)
theorem Inv.n137 {M M1 : Mem} (h : Inv M) (s : ∀ p k, p ≠ 137 → M1 p k = M p k) : Inv M1 := h.sm fun p k hp => s p k (by rintro rfl; cases hp)
theorem OV_le (own : Nat → Int32) (a b s v : Nat) : OVn own a b s v ≤ 128 := by
  have h : ∀ r, r < 8 → ovF own a b s v r ≤ 16 * 1 := fun r _ => sm_le 16 fun c _ => bN_le _
  have := sm_le 8 h
  unfold OVn
  omega
theorem TC_le (own : Nat → Int32) (a b s v : Nat) : TCn own a b s v ≤ 256 := by
  have h : ∀ r, r < 8 → tcF own a b s v r ≤ 16 * 2 := fun r _ => sm_le 16 fun c _ => by
    have h1 := bN_le ((mkN own a r).testBit c && (mvN own b s v r).testBit ((c + 15) % 16))
    have h2 := bN_le ((mkN own a r).testBit c && (mvN own b s v r).testBit ((c + 1) % 16))
    omega
  have := sm_le 8 h
  unfold TCn
  omega
/-- whether a place counts, once no cell leaves -/
def ctB (own : Nat → Int32) (a b s v : Nat) : Bool := decide (0 < TCn own a b s v + OVn own a b s v)
def prI (own : Nat → Int32) (a b s v : Nat) : Int32 := 3 * nI (OVn own a b s v) + nI (GPn own a b s v) - nI (TCn own a b s v)
theorem c_cnt {M : Mem} {own : Nat → Int32} {a b s v : Nat} (e1 : M 9 1 = nI (OVn own a b s v)) (e2 : M 9 2 = nI (TCn own a b s v)) : f_X1_isCounted M = some (ctB own a b s v) := by
  have h1 := OV_le own a b s v
  have h2 := TC_le own a b s v
  unfold f_X1_isCounted ctB
  rw [e1, e2, nI_add]
  by_cases q : 0 < TCn own a b s v + OVn own a b s v
  · have : ¬ nI (TCn own a b s v + OVn own a b s v) < 1 := nI_nlt (b := 1) (by omega) (by omega)
    rw [if_neg this, Option.bind_some, decide_eq_true q]
  · have : nI (TCn own a b s v + OVn own a b s v) < 1 := nI_lt (b := 1) (by omega) (by decide)
    rw [if_pos this, Option.bind_some, decide_eq_false q]
theorem c_price {M : Mem} {own : Nat → Int32} {a b s v : Nat} (e1 : M 9 1 = nI (OVn own a b s v)) (e2 : M 9 2 = nI (TCn own a b s v)) (e3 : M 9 3 = nI (GPn own a b s v)) : f_X1_price M = some (prI own a b s v) := by
  unfold f_X1_price prI
  rw [e1, e2, e3]
theorem m_cost {M : Mem} {own : Nat → Int32} {a b s v : Nat} (h : LPn M own a b s v) : f_X12_cost M = some (prI own a b s v) := by
  unfold f_X12_cost prI
  rw [m_ov h, m_gp h, m_tc h]
  rfl
theorem m_cnt {M : Mem} {own : Nat → Int32} (ho : ∀ c, c < 128 → M 133 c = own c) {a b s v : Nat} (hs : s < 15) (hv : v < 16) : ∃ M1, f_X12_isCounted (nI a) (nI b) (nI s - 7) (nI v) M = some (flB own b s 128 && ctB own a b s v, M1) ∧ LPn M1 own a b s v ∧ ∀ p k, p ≠ 137 → M1 p k = M p k := by
  obtain ⟨M1, k1, k2, k3⟩ := m_lay (a := a) (b := b) ho hs hv
  refine ⟨M1, ?_, k2, k3⟩
  have h1 := OV_le own a b s v
  have h2 := TC_le own a b s v
  unfold f_X12_isCounted ctB
  rw [k1, Option.bind_some]
  simp only
  rw [m_tc k2, Option.bind_some, m_ov k2, Option.bind_some, nI_add]
  generalize flB own b s 128 = F
  cases F
  · rfl
  · rw [if_pos rfl]
    by_cases q : 0 < TCn own a b s v + OVn own a b s v
    · have : ¬ nI (TCn own a b s v + OVn own a b s v) ≤ 0 := nI_nle q (by omega)
      rw [if_neg this, Option.bind_some, decide_eq_true q]
      rfl
    · have : nI (TCn own a b s v + OVn own a b s v) ≤ 0 := nI_le (b := 0) (by omega) (by decide)
      rw [if_pos this, Option.bind_some, decide_eq_false q]
      rfl
theorem isN_6 {a : Int32} (h : isN a 6 = true) : a = 0 ∨ a = 1 ∨ a = 2 ∨ a = 3 ∨ a = 4 ∨ a = 5 := by
  obtain ⟨k, hk, rfl⟩ := isN_of (by decide) h
  rcases (show k = 0 ∨ k = 1 ∨ k = 2 ∨ k = 3 ∨ k = 4 ∨ k = 5 by omega) with rfl | rfl | rfl | rfl | rfl | rfl <;> simp [nI]
theorem st_put : ST_put Inv := by
  intro a1 a2 a3 a4 a5 M hI
  by_cases h : isP a1 a2 = true
  · by_cases h2 : isPl a3 a4 = true
    · by_cases h3 : isN a5 6 = true
      · obtain ⟨a, b, ha, hb, hab, rfl, rfl⟩ := isP_of h
        obtain ⟨s, v, hs, hv, rfl, rfl⟩ := isPl_of h2
        have c0 : f_X11_put (nI a) (nI b) (nI s - 7) (nI v) a5 M = if flB (M 2) b s 128 = true then (if a5 = 5 then (f_X5_goingOn (nI a) (nI b) (nI s - 7) (nI v) M).bind fun (r9 : Int32) => some (r9, M) else (f_X1_look (nI a) (nI b) (nI s - 7) (nI v) M).bind fun (M5 : Mem) => if a5 = 0 then some ((M5 9 1), M5) else if a5 = 1 then some ((M5 9 2), M5) else if a5 = 2 then some ((M5 9 3), M5) else if a5 = 3 then (f_X1_price M5).bind fun (r6 : Int32) => some (r6, M5) else (f_X1_isCounted M5).bind fun (r7 : Bool) => Option.bind (if r7 = true then some true else some false) fun (x8 : Bool) => some ((bI x8), M5)) else Option.bind (if a5 = 4 then some 0 else some (-1000001)) fun (x10 : Int32) => some (x10, M) := by
          unfold f_X11_put
          rw [c_pair, h, Option.bind_some, if_pos rfl, c_place, h2, Option.bind_some, if_pos rfl, wi_6, h3, Option.bind_some, if_pos rfl, c_stays hI.1.C hb hs, Option.bind_some]
        have m0 : ∀ Mx, f_X12_put (nI a) (nI b) (nI s - 7) (nI v) a5 Mx = if a5 = 4 then (f_X12_isCounted (nI a) (nI b) (nI s - 7) (nI v) Mx).bind fun ((r22, M23) : (Bool × Mem)) => Option.bind (if r22 = true then some true else some false) fun (x24 : Bool) => some ((bI x24), M23) else (f_X12_lay (nI a) (nI b) (nI s - 7) (nI v) Mx).bind fun ((r4, M5) : (Bool × Mem)) => if r4 = true then Option.bind (if a5 = 0 then (f_X12_overlap M5).bind fun (r21 : Int32) => some r21 else if a5 = 1 then (f_X12_touch M5).bind fun (r20 : Int32) => some r20 else if a5 = 2 then (f_X12_gap M5).bind fun (r19 : Int32) => some r19 else if a5 = 3 then (f_X12_cost M5).bind fun (r18 : Int32) => some r18 else (f_X12_onOf (nI a) (nI b) (nI s - 7) (nI v) M5).bind fun (r17 : Int32) => some r17) fun (x16 : Int32) => some (x16, M5) else some ((-1000001), M5) := by
          intro Mx
          unfold f_X12_put
          rw [m_pair, h, Option.bind_some, if_pos rfl, m_place, h2, Option.bind_some, if_pos rfl, wn_6, h3, Option.bind_some, if_pos rfl]
        have own_ : ∀ Mx : Mem, Inv Mx → Mx 2 = M 2 → ∀ c, c < 128 → Mx 133 c = M 2 c := fun Mx hx e c hc => by rw [← e]; exact (hx.1.1 c hc).1
        cases hF : flB (M 2) b s 128 with
        | false =>
          rw [hF] at c0
          by_cases q4 : a5 = 4
          · obtain ⟨M1, k1, -, k3⟩ := m_cnt (a := a) (b := b) (own_ M hI rfl) hs hv
            rw [hF] at k1
            refine ob_mk (z := (0, M)) (by rw [c0, if_neg (by decide), if_pos q4]; rfl) (ob_mk (z := (0, M1)) ?_ ⟨rfl, hI.n137 k3⟩)
            rw [m0, if_pos q4, k1]
            rfl
          · obtain ⟨M1, k1, -, k3⟩ := m_lay (a := a) (b := b) (own_ M hI rfl) hs hv
            rw [hF] at k1
            refine ob_mk (z := (-1000001, M)) (by rw [c0, if_neg (by decide), if_neg q4]; rfl) (ob_mk (z := (-1000001, M1)) ?_ ⟨rfl, hI.n137 k3⟩)
            rw [m0, if_neg q4, k1]
            rfl
        | true =>
          rw [hF, if_pos rfl] at c0
          by_cases q5 : a5 = 5
          · obtain ⟨M1, k1, -, k3⟩ := m_lay (a := a) (b := b) (own_ M hI rfl) hs hv
            rw [hF] at k1
            obtain ⟨n, hn, e1, e2, hA⟩ := hI.2.1.mk
            have hI1 := hI.n137 k3
            obtain ⟨n1, hn1, d1, d2, hA1⟩ := hI1.2.1.mk
            have en : n1 = n := nI_inj (by omega) (by omega) (d1.symm.trans ((k3 5 4 (by decide)).trans e1))
            subst en
            have hc := c_on (a := nI a) (b := nI b) hn e1 hA hs hv
            have hm := m_on (a := nI a) (b := nI b) hn1 d2 (fun c hc => (hI1.1.1 c hc).1) hA1 hs hv
            rw [onV_rows (funext fun k => k3 2 k (by decide)) (funext fun k => k3 6 k (by decide)) (funext fun k => k3 7 k (by decide)) (funext fun k => k3 8 k (by decide))] at hm
            refine ob_mk (z := (onV M (nI a) (nI b) s v n1, M)) (by rw [c0, if_pos q5, hc]; rfl) (ob_mk (z := (onV M (nI a) (nI b) s v n1, M1)) ?_ ⟨rfl, hI1⟩)
            have q4 : ¬ a5 = 4 := by rw [q5]; decide
            have q0 : ¬ a5 = 0 := by rw [q5]; decide
            have q1 : ¬ a5 = 1 := by rw [q5]; decide
            have q2 : ¬ a5 = 2 := by rw [q5]; decide
            have q3 : ¬ a5 = 3 := by rw [q5]; decide
            rw [m0, if_neg q4, k1, Option.bind_some]
            simp only
            rw [if_pos True.intro, if_neg q0, if_neg q1, if_neg q2, if_neg q3, hm]
            rfl
          · obtain ⟨M5, l1, l2, l3, l4, l5⟩ := c_look hI.1.C ha hb hs hv
            have hI5 : Inv M5 := hI.n9 fun p k hp => l5 p k (fun w => hp w.1)
            have r2 : M5 2 = M 2 := funext fun k => l5 2 k (by omega)
            rw [if_neg q5, l1, Option.bind_some] at c0
            have fin : ∀ V : Int32, (∃ M6, f_X12_put (nI a) (nI b) (nI s - 7) (nI v) a5 M5 = some (V, M6) ∧ ∀ p k, p ≠ 137 → M6 p k = M5 p k) → f_X11_put (nI a) (nI b) (nI s - 7) (nI v) a5 M = some (V, M5) → OB (f_X11_put (nI a) (nI b) (nI s - 7) (nI v) a5 M) (fun z => OB (f_X12_put (nI a) (nI b) (nI s - 7) (nI v) a5 z.2) (fun w => w.1 = z.1 ∧ Inv w.2)) := by
              rintro V ⟨M6, g1, g2⟩ g3
              exact ob_mk g3 (ob_mk g1 ⟨rfl, hI5.n137 g2⟩)
            by_cases q4 : a5 = 4
            · obtain ⟨M6, k1, -, k3⟩ := m_cnt (a := a) (b := b) (own_ M5 hI5 r2) hs hv
              rw [hF, Bool.true_and] at k1
              have q0 : ¬ a5 = 0 := by rw [q4]; decide
              have q1 : ¬ a5 = 1 := by rw [q4]; decide
              have q2 : ¬ a5 = 2 := by rw [q4]; decide
              have q3 : ¬ a5 = 3 := by rw [q4]; decide
              refine fin (bI (ctB (M 2) a b s v)) ⟨M6, ?_, k3⟩ ?_
              · rw [m0, if_pos q4, k1, Option.bind_some]
                simp only
                rw [ite_sb, Option.bind_some]
              · rw [c0, if_neg q0, if_neg q1, if_neg q2, if_neg q3, c_cnt l2 l3, Option.bind_some, ite_sb, Option.bind_some]
            · obtain ⟨M6, k1, k2, k3⟩ := m_lay (a := a) (b := b) (own_ M5 hI5 r2) hs hv
              rw [hF] at k1
              have m1 := m0 M5
              rw [if_neg q4, k1, Option.bind_some] at m1
              simp only at m1
              rw [if_pos True.intro] at m1
              by_cases q0 : a5 = 0
              · refine fin (nI (OVn (M 2) a b s v)) ⟨M6, ?_, k3⟩ ?_
                · rw [m1, if_pos q0, m_ov k2]; rfl
                · rw [c0, if_pos q0, l2]
              by_cases q1 : a5 = 1
              · refine fin (nI (TCn (M 2) a b s v)) ⟨M6, ?_, k3⟩ ?_
                · rw [m1, if_neg q0, if_pos q1, m_tc k2]; rfl
                · rw [c0, if_neg q0, if_pos q1, l3]
              by_cases q2 : a5 = 2
              · refine fin (nI (GPn (M 2) a b s v)) ⟨M6, ?_, k3⟩ ?_
                · rw [m1, if_neg q0, if_neg q1, if_pos q2, m_gp k2]; rfl
                · rw [c0, if_neg q0, if_neg q1, if_pos q2, l4]
              by_cases q3 : a5 = 3
              · refine fin (prI (M 2) a b s v) ⟨M6, ?_, k3⟩ ?_
                · rw [m1, if_neg q0, if_neg q1, if_neg q2, if_pos q3, m_cost k2]; rfl
                · rw [c0, if_neg q0, if_neg q1, if_neg q2, if_pos q3, c_price l2 l3 l4]; rfl
              rcases isN_6 h3 with w | w | w | w | w | w
              · exact absurd w q0
              · exact absurd w q1
              · exact absurd w q2
              · exact absurd w q3
              · exact absurd w q4
              · exact absurd w q5
      · refine ob_mk (z := (-1000003, M)) (by simp [f_X11_put, c_pair, h, c_place, h2, wi_6, h3]) ?_
        exact ob_mk (z := (-1000003, M)) (by simp [f_X12_put, m_pair, h, m_place, h2, wn_6, h3]) ⟨rfl, hI⟩
    · refine ob_mk (z := (-1000003, M)) (by simp [f_X11_put, c_pair, h, c_place, h2]) ?_
      exact ob_mk (z := (-1000003, M)) (by simp [f_X12_put, m_pair, h, m_place, h2]) ⟨rfl, hI⟩
  · refine ob_mk (z := (-1000002, M)) (by simp [f_X11_put, c_pair, h]) ?_
    exact ob_mk (z := (-1000002, M)) (by simp [f_X12_put, m_pair, h]) ⟨rfl, hI⟩
