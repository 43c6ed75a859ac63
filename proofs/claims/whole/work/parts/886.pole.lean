/-! poles: how many needles agree on a cell -/
def tcl (M : Mem) (a2 : Int32) (u i : Nat) : Nat := if lo M i = a2 then (M 7 i).toNatClampNeg / 16 * 16 + ((M 7 i).toNatClampNeg % 16 + u) % 16 else (M 7 i).toNatClampNeg
theorem m_east {c u : Nat} (hc : c < 128) (hu : u < 16) : f_X12_east (nI c) (nI u) = some (nI (c / 16 * 16 + (c % 16 + u) % 16)) := by
  have e1 : nI c / 16 = nI (c / 16) := pk_div (d := 16) (by omega) (by decide) (by decide)
  have e2 : jrem (nI c) 16 = nI (c % 16) := jrem_nI (d := 16) (by omega) (by decide) (by decide)
  have e3 : nI (c / 16) * 16 = nI (c / 16 * 16) := pk_mul _ 16
  have e4 : nI (c % 16 + u) + 16 = nI (c % 16 + u + 16) := nI_add _ 16
  have e5 : jrem (nI (c % 16 + u + 16)) 16 = nI ((c % 16 + u + 16) % 16) := jrem_nI (d := 16) (by omega) (by decide) (by decide)
  unfold f_X12_east
  rw [e1, e2, e3, nI_add, e4, e5, nI_add, show (c % 16 + u + 16) % 16 = (c % 16 + u) % 16 by omega]
theorem c_ring : ∀ a, a < 16 → ∀ b, b < 16 → f_X11_ringDistance (nI a) (nI b) = some (nI (cl16 a b)) := by decide +kernel
theorem c_steps {p q : Nat} (hp : p < 128) (hq : q < 128) : f_X11_stepsBetween (nI p) (nI q) = some (nI (stp p q)) := by
  have e1 : jrem (nI p) 16 = nI (p % 16) := jrem_nI (d := 16) (by omega) (by decide) (by decide)
  have e2 : jrem (nI q) 16 = nI (q % 16) := jrem_nI (d := 16) (by omega) (by decide) (by decide)
  have e3 : nI p / 16 = nI (p / 16) := pk_div (d := 16) (by omega) (by decide) (by decide)
  have e4 : nI q / 16 = nI (q / 16) := pk_div (d := 16) (by omega) (by decide) (by decide)
  have h := stp_rc (p / 16) (p % 16) (q / 16) (q % 16) (Nat.mod_lt _ (by decide)) (Nat.mod_lt _ (by decide))
  rw [show 16 * (p / 16) + p % 16 = p by omega, show 16 * (q / 16) + q % 16 = q by omega] at h
  simp only [f_X11_stepsBetween, e1, e2, e3, e4, c_ring _ (Nat.mod_lt p (by decide)) _ (Nat.mod_lt q (by decide)), Option.bind_some, jabs_nI (show p / 16 < 2 ^ 30 by omega) (show q / 16 < 2 ^ 30 by omega), nI_add, h]
theorem IvM.at_ {M : Mem} (h : IvM M) : ∃ n, n ≤ 40 ∧ M 5 4 = nI n ∧ M 132 1 = nI n ∧ ∀ i, i < n → M 134 i = M 6 i ∧ M 135 i = M 7 i ∧ M 136 i = M 8 i ∧ ∃ c, c < 128 ∧ M 7 i = nI c ∧ lo M i = M 2 c ∧ ¬ M 2 c = -1 ∧ ∃ v, v < 16 ∧ M 8 i = nI v := by
  obtain ⟨n, hn, e1, e2, hc⟩ := h
  refine ⟨n, hn, e1, e2, fun i hi => ?_⟩
  obtain ⟨k1, k2, k3, -, ⟨c, k5, k6, k7⟩, v, hv, k8⟩ := hc i hi
  exact ⟨k1, k2, k3, c, k5, k6, by unfold lo; rw [k6, nI_cl (by omega)], k7, v, hv, k8⟩
theorem tcl_lt {M : Mem} {a2 : Int32} {u i c : Nat} (hc : c < 128) (e : M 7 i = nI c) : tcl M a2 u i < 128 := by
  unfold tcl
  rw [e, nI_cl (show c < 2 ^ 31 by omega)]
  split <;> omega
def agb (M : Mem) (a1 a2 : Int32) (u c i : Nat) : Bool := decide (M 6 i = 4) && (decide (a1 = -1) || decide (lo M i = a1)) && decide (nI (stp (tcl M a2 u i) c) = M 8 i)
def agN (M : Mem) (a1 a2 : Int32) (u c n : Nat) : Nat := cnt (fun i => agb M a1 a2 u c i = true) n
theorem m_agree {M : Mem} (hG : IvG M) {n : Nat} (hn : n ≤ 40) (e2 : M 132 1 = nI n) (hc : ∀ i, i < n → M 134 i = M 6 i ∧ M 135 i = M 7 i ∧ M 136 i = M 8 i ∧ ∃ c, c < 128 ∧ M 7 i = nI c ∧ lo M i = M 2 c ∧ ¬ M 2 c = -1 ∧ ∃ v, v < 16 ∧ M 8 i = nI v) {a1 a2 : Int32} {u c : Nat} (hu : u < 16) (hcc : c < 128) : f_X12_agreeAt a1 a2 (nI u) (nI c) M = some (nI (agN M a1 a2 u c n)) := by
  have hit := it_N (b := f_X12_agreeAt_b6 a1 a2 (nI u) (nI c) M) (r := nI (agN M a1 a2 u c n)) (fun i => (nI (agN M a1 a2 u c i), nI i)) n (by omega) (by
    intro i hi
    have g1 : ¬ nI n ≤ nI i := nI_ge hi (by omega)
    have p1 := inb_t (k := i) (n := 40) (by omega) (by decide)
    obtain ⟨k1, k2, k3, d, k5, k6, k7, k8, -⟩ := hc i hi
    have p2 := inb_t (k := d) (n := 128) k5 (by decide)
    have p3 := nI_cl (show d < 2 ^ 31 by omega)
    have ht := tcl_lt (a2 := a2) (u := u) k5 k6
    have et : (if a2 = -1 then some (nI d) else if M 2 d = a2 then (f_X12_east (nI d) (nI u)).bind fun r49 => some r49 else some (nI d)) = some (nI (tcl M a2 u i)) := by
      unfold tcl
      rw [k7, k6, p3]
      by_cases q : a2 = -1
      · subst q
        rw [if_pos rfl, if_neg k8]
      · rw [if_neg q]
        by_cases q2 : M 2 d = a2
        · rw [if_pos q2, if_pos q2, m_east k5 hu]; rfl
        · rw [if_neg q2, if_neg q2]
    have e : agN M a1 a2 u c (i + 1) = agN M a1 a2 u c i + (if agb M a1 a2 u c i = true then 1 else 0) := rfl
    simp only [f_X12_agreeAt_b6, e2, g1, if_false, p1, if_true, nI_cl (show i < 2 ^ 31 by omega), k1, k2, k3, k6, p2, p3, (hG.1 d k5).1, et, Option.bind_some, m_apart ht hcc, nI_1, e]
    unfold agb
    rw [k7]
    by_cases x1 : M 6 i = 4 <;> by_cases x2 : a1 = -1 <;> by_cases x3 : M 2 d = a1 <;> by_cases x4 : nI (stp (tcl M a2 u i) c) = M 8 i <;> simp [x1, x2, x3, x4, bN_t, bN_f]
    ) (by
    have g1 : nI n ≤ nI n := Int32.le_refl _
    simp only [f_X12_agreeAt_b6, e2, g1, if_true]) (s0 := (0, 0)) rfl
  simp [f_X12_agreeAt, hit]
