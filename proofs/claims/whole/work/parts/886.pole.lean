/-! poles: how many needles agree on a cell -/
def ndl (M : Mem) (a1 : Int32) (i : Nat) : Prop := M 6 i = 4 ∧ (a1 = -1 ∨ lo M i = a1)
def tcl (M : Mem) (a2 : Int32) (u i : Nat) : Nat := if lo M i = a2 then (M 7 i).toNatClampNeg / 16 * 16 + ((M 7 i).toNatClampNeg % 16 + u) % 16 else (M 7 i).toNatClampNeg
def agr (M : Mem) (a1 a2 : Int32) (u c i : Nat) : Prop := ndl M a1 i ∧ nI (stp (tcl M a2 u i) c) = M 8 i
theorem m_east {c u : Nat} (hc : c < 128) (hu : u < 16) : f_X12_east (nI c) (nI u) = some (nI (c / 16 * 16 + (c % 16 + u) % 16)) := by
  have e1 : nI c / 16 = nI (c / 16) := pk_div (d := 16) (by omega) (by decide) (by decide)
  have e2 : jrem (nI c) 16 = nI (c % 16) := jrem_nI (d := 16) (by omega) (by decide) (by decide)
  have e3 : nI (c / 16) * 16 = nI (c / 16 * 16) := pk_mul _ 16
  have e4 : nI (c % 16 + u) + 16 = nI (c % 16 + u + 16) := nI_add _ 16
  have e5 : jrem (nI (c % 16 + u + 16)) 16 = nI ((c % 16 + u + 16) % 16) := jrem_nI (d := 16) (by omega) (by decide) (by decide)
  unfold f_X12_east
  rw [e1, e2, e3, nI_add, e4, e5, nI_add, show (c % 16 + u + 16) % 16 = (c % 16 + u) % 16 by omega]
theorem c_ring : ∀ a, a < 16 → ∀ b, b < 16 → f_X11_ringDistance (nI a) (nI b) = some (nI (cl16 a b)) := by decide +kernel
theorem c_steps {p q : Nat} (hp : p < 128) (hq : q < 128) : f_X11_stepsBetween (nI p) (nI q) = some (nI (stp p q)) := by
  have e1 : jrem (nI p) 16 = nI (p % 16) := jrem_nI (d := 16) (by omega) (by decide) (by decide)
  have e2 : jrem (nI q) 16 = nI (q % 16) := jrem_nI (d := 16) (by omega) (by decide) (by decide)
  have e3 : nI p / 16 = nI (p / 16) := pk_div (d := 16) (by omega) (by decide) (by decide)
  have e4 : nI q / 16 = nI (q / 16) := pk_div (d := 16) (by omega) (by decide) (by decide)
  have h := stp_rc (p / 16) (p % 16) (q / 16) (q % 16) (Nat.mod_lt _ (by decide)) (Nat.mod_lt _ (by decide))
  rw [show 16 * (p / 16) + p % 16 = p by omega, show 16 * (q / 16) + q % 16 = q by omega] at h
  simp only [f_X11_stepsBetween, e1, e2, e3, e4, c_ring _ (Nat.mod_lt p (by decide)) _ (Nat.mod_lt q (by decide)), Option.bind_some, jabs_nI (show p / 16 < 2 ^ 30 by omega) (show q / 16 < 2 ^ 30 by omega), nI_add, h]
