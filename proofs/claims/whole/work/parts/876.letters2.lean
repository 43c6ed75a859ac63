theorem tld_by {n : Nat} : ∀ k, tldN n k = true → ∀ i, i < nzN n k → 0 < byN n i ∧ byN n i < 127
  | 0, _, i, hi => absurd hi (Nat.not_lt_zero i)
  | k + 1, h, i, hi => by
    simp only [tldN, Bool.and_eq_true, Bool.or_eq_true, decide_eq_true_eq] at h
    have e : nzN n (k + 1) = nzN n k + (if byN n k = 0 then 0 else 1) := rfl
    rw [e] at hi
    by_cases q : byN n k = 0
    · rw [if_pos q] at hi
      exact tld_by k h.1.1 i hi
    · rw [if_neg q] at hi
      have hk := h.2.resolve_left q
      by_cases hik : i = k
      · subst hik
        omega
      · exact tld_by k h.1.1 i (by omega)
def wr (n s : Nat) (M : Mem) : Nat → Mem
  | 0 => M
  | k + 1 => up (wr n s M k) 11 (s + k) (nI (byN n k))
theorem wr_at (n s : Nat) (M : Mem) : ∀ k p j, wr n s M k p j = if p = 11 ∧ s ≤ j ∧ j < s + k then nI (byN n (j - s)) else M p j
  | 0, p, j => by
    have : ¬ (p = 11 ∧ s ≤ j ∧ j < s + 0) := by omega
    rw [if_neg this]
    rfl
  | k + 1, p, j => by
    show up (wr n s M k) 11 (s + k) (nI (byN n k)) p j = _
    rw [up_at, wr_at n s M k p j]
    by_cases h : p = 11 ∧ j = s + k
    · obtain ⟨rfl, rfl⟩ := h
      rw [if_pos ⟨rfl, rfl⟩, if_pos (by omega), Nat.add_sub_cancel_left]
    · rw [if_neg (by simpa [and_comm, eq_comm] using h)]
      by_cases h2 : p = 11 ∧ s ≤ j ∧ j < s + k
      · rw [if_pos h2, if_pos (by omega)]
      · rw [if_neg h2, if_neg (by omega)]
def wrm (n s : Nat) (M : Mem) : Nat → Mem
  | 0 => M
  | k + 1 => up (up (wrm n s M k) 138 (s + k) (nI (byN n k))) 132 7 (nI (s + k + 1))
theorem wrm_at (n s : Nat) {M : Mem} (hs : M 132 7 = nI s) : ∀ k p j, wrm n s M k p j = if p = 132 ∧ j = 7 then nI (s + k) else if p = 138 ∧ s ≤ j ∧ j < s + k then nI (byN n (j - s)) else M p j
  | 0, p, j => by
    have h1 : ¬ (p = 138 ∧ s ≤ j ∧ j < s + 0) := by omega
    rw [if_neg h1]
    by_cases h : p = 132 ∧ j = 7
    · obtain ⟨rfl, rfl⟩ := h
      rw [if_pos ⟨rfl, rfl⟩]
      exact hs
    · rw [if_neg h]
      rfl
  | k + 1, p, j => by
    show up (up (wrm n s M k) 138 (s + k) (nI (byN n k))) 132 7 (nI (s + k + 1)) p j = _
    rw [up_at, up_at, wrm_at n s hs k p j]
    by_cases h0 : p = 132 ∧ j = 7
    · obtain ⟨rfl, rfl⟩ := h0
      simp
      rfl
    · have h0' : ¬ (p = 132 ∧ j = 7) := h0
      simp only [h0', if_false]
      by_cases h : p = 138 ∧ j = s + k
      · obtain ⟨rfl, rfl⟩ := h
        simp
      · have h3 : ¬ (p = 138 ∧ j = s + k) := h
        by_cases h2 : p = 138 ∧ s ≤ j ∧ j < s + k
        · rw [if_neg h3, if_pos h2, if_pos (by omega)]
        · rw [if_neg h3, if_neg h2, if_neg (by omega)]
theorem c_write {n s : Nat} {M : Mem} (hn : n < 2 ^ 64) (e : M 10 1 = nI s) (hs : s + nzN n 8 ≤ 50) : f_X6_write (lN n) M = some (nI (s + nzN n 8), up (wr n s M (nzN n 8)) 10 1 (nI (s + nzN n 8))) := by
  have h8 := nz_le n 8
  have e2 : ∀ k, wr n s M k 10 1 = nI s := fun k => by rw [wr_at]; simpa using e
  have hit := it_N (b := f_X6_write_b8 (lN n) (nI (nzN n 8))) (r := wr n s M (nzN n 8)) (fun i => (nI i, wr n s M i)) (nzN n 8) (by omega) (by
    intro i hi
    have a1 : ¬ nI (nzN n 8) ≤ nI i := nI_ge hi (by omega)
    have p1 := inb_t (k := s + i) (n := 50) (by omega) (by decide)
    simp only [f_X6_write_b8, a1, if_false, s_byte hn (show i < 8 by omega), Option.bind_some, e2, nI_add, p1, if_true, nI_cl (show s + i < 2 ^ 31 by omega), nI_1]
    rfl) (by
    have a1 : nI (nzN n 8) ≤ nI (nzN n 8) := Int32.le_refl _
    simp only [f_X6_write_b8, a1, if_true]) (s0 := (0, M)) rfl
  simp [f_X6_write, c_many hn, hit, up_at, e2, nI_add]
theorem m_write {n s : Nat} {M : Mem} (hn : n < 2 ^ 64) (e : M 132 7 = nI s) (hs : s + nzN n 8 ≤ 50) : it (f_X12_letters_b108 (lN n) (nI (nzN n 8))) FU (0, M) = some (wrm n s M (nzN n 8)) := by
  have h8 := nz_le n 8
  have e2 : ∀ k, wrm n s M k 132 7 = nI (s + k) := fun k => by rw [wrm_at n s e]; simp
  refine it_N (fun i => (nI i, wrm n s M i)) (nzN n 8) (by omega) ?_ ?_ rfl
  · intro i hi
    have a1 : ¬ nI (nzN n 8) ≤ nI i := nI_ge hi (by omega)
    have p1 := inb_t (k := s + i) (n := 50) (by omega) (by decide)
    have h1 : (8 : Int32) * nI i = nI (8 * i) := pk_mul 8 i
    have h2 : Int64.toInt32 (jlushr (lN n) (nI (8 * i)) &&& 255) = nI (byN n i) := by
      rw [jl_nI hn (by omega), m255 (Nat.lt_of_le_of_lt (Nat.div_le_self _ _) hn)]
      rfl
    simp only [f_X12_letters_b108, a1, if_false, e2, p1, if_true, nI_cl (show s + i < 2 ^ 31 by omega), nI_1, h1, h2, up_at]
    simp
    rw [nI_1]
    rfl
  · have a1 : nI (nzN n 8) ≤ nI (nzN n 8) := Int32.le_refl _
    simp only [f_X12_letters_b108, a1, if_true]
theorem st_letters : ST_letters Inv := by
  intro a1 M hI
  obtain ⟨hG, hM, ⟨s, hs, e1, e2, hc⟩, hL, hB, hS, hF⟩ := id hI
  obtain ⟨n, hn, rfl⟩ := wb_of a1
  have h8 := nz_le n 8
  by_cases ht : tldN n 8 = true
  · by_cases hr : s + nzN n 8 ≤ 50
    · have z1 : ¬ (50 : Int32) < nI (s + nzN n 8) := nI_nlt (a := 50) hr (by decide)
      have z2 : nI (s + nzN n 8) ≤ 50 := nI_le (b := 50) hr (by decide)
      have e4 : up (wr n s M (nzN n 8)) 10 1 (nI (s + nzN n 8)) 132 7 = nI s := by simp [up_at, wr_at, e2]
      refine ob_mk (z := (nI (s + nzN n 8), up (wr n s M (nzN n 8)) 10 1 (nI (s + nzN n 8)))) (by simp [f_X11_letters, c_told hn, ht, f_X6_hasRoomFor, c_many hn, e1, nI_add, z1, c_write hn e1 hr]) ?_
      refine ob_mk (z := (nI (s + nzN n 8), wrm n s (up (wr n s M (nzN n 8)) 10 1 (nI (s + nzN n 8))) (nzN n 8))) (by simp [f_X12_letters, m_told hn, ht, e4, nI_add, z2, m_write hn e4 hr, wrm_at n s e4]) ⟨rfl, ?_⟩
      have hsm : ∀ r : Nat → Nat → Bool, (∀ j, r 11 j = false) → (∀ j, r 138 j = false) → r 10 1 = false → r 132 7 = false → Sm r M (wrm n s (up (wr n s M (nzN n 8)) 10 1 (nI (s + nzN n 8))) (nzN n 8)) := by
        intro r r1 r2 r3 r4 p k hp
        rw [wrm_at n s e4]
        by_cases h1 : p = 132 ∧ k = 7
        · obtain ⟨rfl, rfl⟩ := h1
          rw [r4] at hp; cases hp
        · rw [if_neg h1]
          by_cases h2 : p = 138 ∧ s ≤ k ∧ k < s + nzN n 8
          · obtain ⟨rfl, -⟩ := h2
            rw [r2] at hp; cases hp
          · rw [if_neg h2, up_at]
            by_cases h3 : p = 10 ∧ k = 1
            · obtain ⟨rfl, rfl⟩ := h3
              rw [r3] at hp; cases hp
            · rw [if_neg h3, wr_at]
              by_cases h4 : p = 11 ∧ s ≤ k ∧ k < s + nzN n 8
              · obtain ⟨rfl, -⟩ := h4
                rw [r1] at hp; cases hp
              · rw [if_neg h4]
      refine ⟨hG.sm (hsm _ (fun _ => rfl) (fun _ => rfl) rfl rfl), hM.sm (hsm _ (fun _ => rfl) (fun _ => rfl) rfl rfl), ⟨s + nzN n 8, hr, ?_, ?_, fun i hi => ?_⟩, hL.sm (hsm _ (fun _ => rfl) (fun _ => rfl) rfl rfl), hB.sm (hsm _ (fun _ => rfl) (fun _ => rfl) rfl rfl), hS.sm (hsm _ (fun _ => rfl) (fun _ => rfl) rfl rfl), hF.sm (hsm _ (fun _ => rfl) (fun _ => rfl) rfl rfl)⟩
      · simp [wrm_at n s e4, up_at]
      · simp [wrm_at n s e4]
      · by_cases q : s ≤ i
        · have hb := tld_by 8 ht (i - s) (by omega)
          exact ⟨by simp [wrm_at n s e4, up_at, wr_at, q, hi], byN n (i - s), hb.1, hb.2, by simp [wrm_at n s e4, up_at, wr_at, q, hi]⟩
        · have hb := hc i (by omega)
          simpa [wrm_at n s e4, up_at, wr_at, q] using hb
    · have z1 : (50 : Int32) < nI (s + nzN n 8) := nI_lt (a := 50) (by omega) (by omega)
      have z2 : ¬ nI (s + nzN n 8) ≤ 50 := nI_ge (b := s + nzN n 8) (a := 50) (by omega) (by omega)
      refine ob_mk (z := (-104, M)) (by simp [f_X11_letters, c_told hn, ht, f_X6_hasRoomFor, c_many hn, e1, nI_add, z1]) ?_
      exact ob_mk (z := (-104, M)) (by simp [f_X12_letters, m_told hn, ht, e2, nI_add, z2]) ⟨rfl, hI⟩
  · refine ob_mk (z := (-102, M)) (by simp [f_X11_letters, c_told hn, ht]) ?_
    exact ob_mk (z := (-102, M)) (by simp [f_X12_letters, m_told hn, ht]) ⟨rfl, hI⟩
