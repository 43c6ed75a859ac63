/-! chance -/
theorem nI_dec {k : Nat} (h : 0 < k) : nI k + (-1) = nI (k - 1) := by
  rw [← nI_pd h]
  exact (Int32.sub_eq_add_neg (nI k) 1).symm
theorem c_red {p q : Nat} (hp : 0 < p) (hq : 0 < q) (hp2 : p ≤ 240) (hq2 : q ≤ 240) : f_X11_reduced (nI p) (nI q) = some (nI (p / Nat.gcd p q)) := by
  have g0 : 0 < Nat.gcd p q := Nat.gcd_pos_of_pos_left q hp
  have g1 : Nat.gcd p q ≤ p := Nat.le_of_dvd hp (Nat.gcd_dvd_left p q)
  have g2 : Nat.gcd p q ≤ q := Nat.le_of_dvd hq (Nat.gcd_dvd_right p q)
  have hm : jmin (nI p) (nI q) = nI (min p q) := jmin_nI (by omega) (by omega)
  have step : ∀ i, i < min p q - Nat.gcd p q → f_X11_reduced_b6 (nI p) (nI q) (nI (min p q - i)) = some (.inl (nI (min p q - (i + 1)))) := by
    intro i hi
    obtain ⟨d, hd⟩ : ∃ d, d = min p q - i := ⟨_, rfl⟩
    have d1 : Nat.gcd p q < d := by omega
    rw [← hd, show min p q - (i + 1) = d - 1 by omega]
    have a1 : ¬ nI d ≤ 1 := nI_ge (a := 1) (by omega) (by omega)
    have a2 : ¬ nI d = 0 := nI_ne0 (by omega) (by omega)
    have e1 : jrem (nI p) (nI d) = nI (p % d) := jrem_nI (by omega) (by omega) (by omega)
    have e2 : jrem (nI q) (nI d) = nI (q % d) := jrem_nI (by omega) (by omega) (by omega)
    have m1 : p % d < d := Nat.mod_lt _ (by omega)
    have m2 : q % d < d := Nat.mod_lt _ (by omega)
    unfold f_X11_reduced_b6
    rw [if_neg a1, if_pos a2, e1, e2, nI_dec (by omega)]
    by_cases w1 : p % d = 0
    · by_cases w2 : q % d = 0
      · exfalso
        have hdv : d ∣ Nat.gcd p q := Nat.dvd_gcd (Nat.dvd_of_mod_eq_zero w1) (Nat.dvd_of_mod_eq_zero w2)
        have := Nat.le_of_dvd g0 hdv
        omega
      · have z1 : nI (p % d) = 0 := by rw [w1]; rfl
        rw [if_pos z1, if_neg (nI_ne0 (by omega) (by omega))]
    · rw [if_neg (nI_ne0 (by omega) (by omega))]
  unfold f_X11_reduced
  rw [hm]
  by_cases h1 : Nat.gcd p q = 1
  · have hit := it_N (b := f_X11_reduced_b6 (nI p) (nI q)) (r := .inl ()) (fun i => nI (min p q - i)) (min p q - Nat.gcd p q) (by omega) step (by
      have e : min p q - (min p q - Nat.gcd p q) = 1 := by omega
      show f_X11_reduced_b6 (nI p) (nI q) (nI (min p q - (min p q - Nat.gcd p q))) = _
      rw [e]
      unfold f_X11_reduced_b6
      rw [if_pos (show nI 1 ≤ 1 by decide)]) (s0 := nI (min p q)) rfl
    rw [hit, h1, Nat.div_one]
    rfl
  · have hit := it_N (b := f_X11_reduced_b6 (nI p) (nI q)) (r := .inr (nI (p / Nat.gcd p q))) (fun i => nI (min p q - i)) (min p q - Nat.gcd p q) (by omega) step (by
      have e : min p q - (min p q - Nat.gcd p q) = Nat.gcd p q := by omega
      show f_X11_reduced_b6 (nI p) (nI q) (nI (min p q - (min p q - Nat.gcd p q))) = _
      rw [e]
      have a1 : ¬ nI (Nat.gcd p q) ≤ 1 := nI_ge (a := 1) (by omega) (by omega)
      have a2 : ¬ nI (Nat.gcd p q) = 0 := nI_ne0 (by omega) (by omega)
      have e1 : jrem (nI p) (nI (Nat.gcd p q)) = nI (p % Nat.gcd p q) := jrem_nI (by omega) (by omega) (by omega)
      have e2 : jrem (nI q) (nI (Nat.gcd p q)) = nI (q % Nat.gcd p q) := jrem_nI (by omega) (by omega) (by omega)
      have z1 : nI (p % Nat.gcd p q) = 0 := by rw [Nat.mod_eq_zero_of_dvd (Nat.gcd_dvd_left p q)]; rfl
      have z2 : nI (q % Nat.gcd p q) = 0 := by rw [Nat.mod_eq_zero_of_dvd (Nat.gcd_dvd_right p q)]; rfl
      have e3 : nI p / nI (Nat.gcd p q) = nI (p / Nat.gcd p q) := pk_div (by omega) (by omega) (by omega)
      unfold f_X11_reduced_b6
      rw [if_neg a1, if_pos a2, e1, if_pos z1, e2, if_pos z2, e3]) (s0 := nI (min p q)) rfl
    rw [hit]
    rfl
theorem m_gcd : ∀ x y f, x < 2 ^ 30 → y < 2 ^ 30 → x < f → it f_X12_common_b4 f (nI x, nI y) = some (nI (Nat.gcd x y)) := by
  intro x
  induction x using Nat.strongRecOn with
  | _ x ih =>
    intro y f hx hy hf
    obtain ⟨f', rfl⟩ : ∃ f', f = f' + 1 := ⟨f - 1, by omega⟩
    show (f_X12_common_b4 (nI x, nI y)).bind _ = _
    by_cases h : x = 0
    · subst h
      rw [Nat.gcd_zero_left]
      rfl
    · have a2 : ¬ nI x = 0 := nI_ne0 (by omega) (by omega)
      have e1 : jrem (nI y) (nI x) = nI (y % x) := jrem_nI (by omega) (by omega) (by omega)
      have m1 : y % x < x := Nat.mod_lt _ (by omega)
      have e : f_X12_common_b4 (nI x, nI y) = some (.inl (nI (y % x), nI x)) := by
        unfold f_X12_common_b4
        simp only
        rw [if_neg a2, if_pos a2, e1]
      rw [e, Option.bind_some]
      simp only
      rw [ih (y % x) m1 x f' (by omega) hx (by omega), ← Nat.gcd_rec]
theorem m_com {x y : Nat} (hx : x ≤ 240) (hy : y ≤ 240) : f_X12_common (nI x) (nI y) = some (nI (Nat.gcd x y)) := by
  unfold f_X12_common
  rw [m_gcd x y FU (by omega) (by omega) (by unfold FU; omega)]
  rfl
theorem m_chance {M : Mem} (hI : Inv M) {a b : Nat} {lim : Int32} : ∃ M1, it (f_X12_chance_b65 (nI a) (nI b) lim) FU (0, 0, -7, M) = some (nI (svN (M 2) a b lim 240).1, nI (svN (M 2) a b lim 240).2.1, M1) ∧ ∀ p k, p ≠ 137 → M1 p k = M p k := by
  have inner : ∀ s, s < 15 → ∀ M0 : Mem, (∀ p k, p ≠ 137 → M0 p k = M p k) → ∃ M1, it (f_X12_chance_b75 (nI a) (nI b) lim) FU (nI (svN (M 2) a b lim (16 * s)).1, nI (svN (M 2) a b lim (16 * s)).2.1, nI s - 7, 0, M0) = some (nI (svN (M 2) a b lim (16 * (s + 1))).1, nI (svN (M 2) a b lim (16 * (s + 1))).2.1, nI s - 7, M1) ∧ ∀ p k, p ≠ 137 → M1 p k = M p k := by
    intro s hs M0 h0
    obtain ⟨z, hz, z1, z2⟩ := it_inv (b := f_X12_chance_b75 (nI a) (nI b) lim) (fun v S => (∃ Mi, S = (nI (svN (M 2) a b lim (16 * s + v)).1, nI (svN (M 2) a b lim (16 * s + v)).2.1, nI s - 7, nI v, Mi) ∧ ∀ p k, p ≠ 137 → Mi p k = M p k)) 16 (Q := fun Z => ∃ Mi, Z = (nI (svN (M 2) a b lim (16 * s + 16)).1, nI (svN (M 2) a b lim (16 * s + 16)).2.1, nI s - 7, Mi) ∧ ∀ p k, p ≠ 137 → Mi p k = M p k) (by decide) (by
      rintro v hv S ⟨Mi, rfl, h3⟩
      have a1 : ¬ (16 : Int32) ≤ nI v := nI_ge (b := 16) hv (by decide)
      have hIi := hI.n137 h3
      have r2 : Mi 2 = M 2 := funext fun k => h3 2 k (by decide)
      obtain ⟨M1, k1, k2, k3⟩ := m_cnt (a := a) (b := b) (own := M 2) (fun c hc => by rw [← r2]; exact (hIi.1.1 c hc).1) hs hv
      have es := es_at (own := M 2) (a := a) (b := b) (s := s) (lim := lim) hv
      have g3 : ∀ p k, p ≠ 137 → M1 p k = M p k := fun p k hp => (k3 p k hp).trans (h3 p k hp)
      rw [es]
      revert es
      generalize svN (M 2) a b lim (16 * s + v) = t
      intro _
      cases hc : flB (M 2) b s 128 && ctB (M 2) a b s v with
      | false =>
        rw [hc] at k1
        refine ⟨_, ?_, M1, rfl, g3⟩
        simp only [f_X12_chance_b75]
        rw [if_neg a1, k1, Option.bind_some]
        simp only
        rw [if_neg Bool.false_ne_true, Option.bind_some, if_neg Bool.false_ne_true, Option.bind_some, bN_f, bN_f, nI_1]
        rfl
      | true =>
        rw [hc] at k1
        have eS : svS true (prI (M 2) a b s v) lim s v t = (t.1 + 1, t.2.1 + (if lim < prI (M 2) a b s v then 0 else 1), if t.1 = 0 ∨ ¬ t.2.2.1 ≤ prI (M 2) a b s v then (prI (M 2) a b s v, s, v) else t.2.2) := by
          unfold svS
          rw [if_pos rfl]
        rw [eS]
        refine ⟨_, ?_, M1, rfl, g3⟩
        simp only [f_X12_chance_b75]
        rw [if_neg a1, k1, Option.bind_some]
        simp only
        rw [if_pos True.intro, if_pos True.intro, m_cost k2, Option.bind_some, Option.bind_some, nI_1, bN_t]
        by_cases q : lim < prI (M 2) a b s v
        · rw [if_pos q, if_pos q, Option.bind_some, bN_f]
          rfl
        · rw [if_neg q, if_neg q, Option.bind_some, bN_t]) (by
      rintro S ⟨Mi, rfl, h3⟩
      have a1 : (16 : Int32) ≤ nI 16 := by decide
      exact ⟨_, by simp only [f_X12_chance_b75, a1, if_true], Mi, rfl, h3⟩) (s0 := (nI (svN (M 2) a b lim (16 * s)).1, nI (svN (M 2) a b lim (16 * s)).2.1, nI s - 7, 0, M0)) ⟨M0, rfl, h0⟩
    obtain ⟨rfl, z2⟩ := z2
    rw [show 16 * (s + 1) = 16 * s + 16 by omega]
    exact ⟨z1, hz, z2⟩
  obtain ⟨z, hz, M1, rfl, z2⟩ := it_inv (b := f_X12_chance_b65 (nI a) (nI b) lim) (fun s S => (∃ Mi, S = (nI (svN (M 2) a b lim (16 * s)).1, nI (svN (M 2) a b lim (16 * s)).2.1, nI s - 7, Mi) ∧ ∀ p k, p ≠ 137 → Mi p k = M p k)) 15 (Q := fun Z => ∃ Mi, Z = (nI (svN (M 2) a b lim (16 * 15)).1, nI (svN (M 2) a b lim (16 * 15)).2.1, Mi) ∧ ∀ p k, p ≠ 137 → Mi p k = M p k) (by decide) (by
    rintro s hs S ⟨Mi, rfl, h3⟩
    obtain ⟨M1, k1, k2⟩ := inner s hs Mi h3
    refine ⟨_, ?_, M1, rfl, k2⟩
    simp only [f_X12_chance_b65]
    rw [if_neg (lk_8 s hs), k1, Option.bind_some]
    simp only
    rw [lk_p1 s hs]) (by
    rintro S ⟨Mi, rfl, h3⟩
    have a1 : (8 : Int32) ≤ nI 15 - 7 := by decide
    exact ⟨_, by simp only [f_X12_chance_b65, a1, if_true], Mi, rfl, h3⟩) (s0 := (0, 0, -7, M)) ⟨M, by
      have : (-7 : Int32) = nI 0 - 7 := by decide
      rw [← this]
      rfl, fun _ _ _ => rfl⟩
  rw [show 16 * 15 = 240 from rfl] at hz
  exact ⟨M1, hz, z2⟩
theorem svS_mono (ct : Bool) (p lim : Int32) (s v : Nat) (t : Nat × Nat × Int32 × Nat × Nat) : t.2.1 ≤ (svS ct p lim s v t).2.1 := by
  unfold svS
  cases ct
  · exact Nat.le_refl _
  · simp only [if_true]
    omega
theorem sv_mono {own : Nat → Int32} {a b : Nat} {lim : Int32} (k : Nat) : ∀ j, (svN own a b lim k).2.1 ≤ (svN own a b lim (k + j)).2.1
  | 0 => Nat.le_refl _
  | j + 1 => by
    have e : svN own a b lim (k + (j + 1)) = svS (ckB own a b (k + j)) (prI own a b ((k + j) / 16) ((k + j) % 16)) lim ((k + j) / 16) ((k + j) % 16) (svN own a b lim (k + j)) := rfl
    rw [e]
    exact Nat.le_trans (sv_mono k j) (svS_mono _ _ _ _ _ _)
theorem sv_good {own : Nat → Int32} {a b s v : Nat} (hs : s < 15) (hv : v < 16) (hF : flB own b s 128 = true) (hc : ctB own a b s v = true) : 0 < (svN own a b (prI own a b s v) 240).2.1 := by
  have es := es_at (own := own) (a := a) (b := b) (s := s) (lim := prI own a b s v) hv
  rw [hF, hc] at es
  have hm := sv_mono (own := own) (a := a) (b := b) (lim := prI own a b s v) (16 * s + (v + 1)) (240 - (16 * s + (v + 1)))
  rw [show 16 * s + (v + 1) + (240 - (16 * s + (v + 1))) = 240 by omega, es] at hm
  have h1 : ¬ prI own a b s v < prI own a b s v := fun w => Int32.lt_irrefl w
  have h2 : (svS (true && true) (prI own a b s v) (prI own a b s v) s v (svN own a b (prI own a b s v) (16 * s + v))).2.1 = (svN own a b (prI own a b s v) (16 * s + v)).2.1 + 1 := by
    unfold svS
    rw [Bool.true_and, if_pos rfl]
    simp only
    rw [if_neg h1]
  omega
theorem st_chance : ST_chance Inv := by
  intro a1 a2 a3 a4 a5 M hI
  by_cases h : isP a1 a2 = true
  · by_cases h2 : isPl a3 a4 = true
    · by_cases h3 : isN a5 2 = true
      · obtain ⟨a, b, ha, hb, hab, rfl, rfl⟩ := isP_of h
        obtain ⟨s, v, hs, hv, rfl, rfl⟩ := isPl_of h2
        have c0 : f_X11_chance (nI a) (nI b) (nI s - 7) (nI v) a5 M = if flB (M 2) b s 128 = true then (f_X1_look (nI a) (nI b) (nI s - 7) (nI v) M).bind fun (M5 : Mem) => (f_X1_isCounted M5).bind fun (r6 : Bool) => if r6 = true then (f_X1_price M5).bind fun (r7 : Int32) => (f_X1_survey (nI a) (nI b) r7 M5).bind fun (M8 : Mem) => Option.bind (if a5 = 0 then (f_X11_reduced (M8 9 5) (M8 9 4)).bind fun (r15 : Int32) => some r15 else (f_X11_reduced (M8 9 4) (M8 9 5)).bind fun (r14 : Int32) => some r14) fun (x13 : Int32) => some (x13, M8) else some ((-103), M5) else some ((-103), M) := by
          unfold f_X11_chance
          rw [c_pair, h, Option.bind_some, if_pos rfl, c_place, h2, Option.bind_some, if_pos rfl, wi_2, h3, Option.bind_some, if_pos rfl, c_stays hI.1.C hb hs, Option.bind_some]
        have m0 : ∀ Mx, f_X12_chance (nI a) (nI b) (nI s - 7) (nI v) a5 Mx = (f_X12_isCounted (nI a) (nI b) (nI s - 7) (nI v) Mx).bind fun ((r4, M5) : (Bool × Mem)) => if r4 = true then (f_X12_cost M5).bind fun (r6 : Int32) => Option.bind (it (f_X12_chance_b65 (nI a) (nI b) r6) FU (0, 0, (-7), M5)) fun ((x155, x156, M157) : (Int32 × Int32 × Mem)) => Option.bind (if a5 = 0 then some x156 else some x155) fun (x198 : Int32) => (f_X12_common x156 x155).bind fun (r199 : Int32) => if ¬ r199 = 0 then some ((x198 / r199), M157) else none else some ((-103), M5) := by
          intro Mx
          unfold f_X12_chance
          rw [m_pair, h, Option.bind_some, if_pos rfl, m_place, h2, Option.bind_some, if_pos rfl, wn_2, h3, Option.bind_some, if_pos rfl]
        have own_ : ∀ Mx : Mem, Inv Mx → Mx 2 = M 2 → ∀ c, c < 128 → Mx 133 c = M 2 c := fun Mx hx e c hc => by rw [← e]; exact (hx.1.1 c hc).1
        cases hF : flB (M 2) b s 128 with
        | false =>
          obtain ⟨M1, k1, -, k3⟩ := m_cnt (a := a) (b := b) (own_ M hI rfl) hs hv
          rw [hF] at k1 c0
          refine ob_mk (z := (-103, M)) (by rw [c0, if_neg (by decide)]) (ob_mk (z := (-103, M1)) ?_ ⟨rfl, hI.n137 k3⟩)
          rw [m0, k1]
          rfl
        | true =>
          obtain ⟨M5, l1, l2, l3, l4, l5⟩ := c_look hI.1.C ha hb hs hv
          have hI5 : Inv M5 := hI.n9 fun p k hp => l5 p k (fun w => hp w.1)
          have r2 : M5 2 = M 2 := funext fun k => l5 2 k (by omega)
          rw [hF, if_pos rfl, l1, Option.bind_some, c_cnt l2 l3, Option.bind_some] at c0
          cases hc : ctB (M 2) a b s v with
          | false =>
            obtain ⟨M1, k1, -, k3⟩ := m_cnt (a := a) (b := b) (own_ M5 hI5 r2) hs hv
            rw [hF, hc] at k1
            rw [hc] at c0
            refine ob_mk (z := (-103, M5)) (by rw [c0, if_neg (by decide)]) (ob_mk (z := (-103, M1)) ?_ ⟨rfl, hI5.n137 k3⟩)
            rw [m0, k1]
            rfl
          | true =>
            obtain ⟨M8, u1, ⟨u2, u3, -⟩, u4⟩ := c_survey hI5 (lim := prI (M 2) a b s v) ha hb
            have hI8 := hI5.n9 u4
            have r8 : M8 2 = M 2 := (funext fun k => u4 2 k (by decide)).trans r2
            obtain ⟨M1, k1, k2, k3⟩ := m_cnt (a := a) (b := b) (own_ M8 hI8 r8) hs hv
            rw [hF, hc] at k1
            have hI1 := hI8.n137 k3
            have r1 : M1 2 = M 2 := (funext fun k => k3 2 k (by decide)).trans r8
            obtain ⟨M9, v1, v2⟩ := m_chance hI1 (a := a) (b := b) (lim := prI (M 2) a b s v)
            rw [r1] at v1
            rw [r2] at u2 u3
            have hg := sv_good hs hv hF hc
            have hle := svN_le (M 2) a b (prI (M 2) a b s v) 240
            revert u2 u3 v1 hg hle
            generalize svN (M 2) a b (prI (M 2) a b s v) 240 = t
            intro u2 u3 v1 hg hle
            have e1 := c_red (p := t.2.1) (q := t.1) hg (by omega) (by omega) (by omega)
            have e2 := c_red (p := t.1) (q := t.2.1) (by omega) hg (by omega) (by omega)
            have e3 := m_com (x := t.2.1) (y := t.1) (by omega) (by omega)
            rw [Nat.gcd_comm t.1 t.2.1] at e2
            have g0 : 0 < Nat.gcd t.2.1 t.1 := Nat.gcd_pos_of_pos_left _ hg
            have g1 : Nat.gcd t.2.1 t.1 ≤ t.2.1 := Nat.le_of_dvd hg (Nat.gcd_dvd_left _ _)
            have gz : ¬ nI (Nat.gcd t.2.1 t.1) = 0 := nI_ne0 g0 (by omega)
            have d1 : nI t.2.1 / nI (Nat.gcd t.2.1 t.1) = nI (t.2.1 / Nat.gcd t.2.1 t.1) := pk_div (by omega) g0 (by omega)
            have d2 : nI t.1 / nI (Nat.gcd t.2.1 t.1) = nI (t.1 / Nat.gcd t.2.1 t.1) := pk_div (by omega) g0 (by omega)
            rw [hc, if_pos rfl, c_price l2 l3 l4, Option.bind_some, u1, Option.bind_some, u2, u3, e1, e2] at c0
            have m1 := m0 M8
            rw [k1, Option.bind_some] at m1
            simp only [Bool.and_self] at m1
            rw [if_pos True.intro, m_cost k2, Option.bind_some, v1, Option.bind_some] at m1
            simp only at m1
            rw [ite_ss, Option.bind_some, e3, Option.bind_some, if_pos gz] at m1
            by_cases q : a5 = 0
            · rw [if_pos q] at c0
              rw [if_pos q, d1] at m1
              exact ob_mk c0 (ob_mk m1 ⟨rfl, hI1.n137 v2⟩)
            · rw [if_neg q] at c0
              rw [if_neg q, d2] at m1
              exact ob_mk c0 (ob_mk m1 ⟨rfl, hI1.n137 v2⟩)
      · refine ob_mk (z := (-102, M)) (by simp [f_X11_chance, c_pair, h, c_place, h2, wi_2, h3]) ?_
        exact ob_mk (z := (-102, M)) (by simp [f_X12_chance, m_pair, h, m_place, h2, wn_2, h3]) ⟨rfl, hI⟩
    · refine ob_mk (z := (-102, M)) (by simp [f_X11_chance, c_pair, h, c_place, h2]) ?_
      exact ob_mk (z := (-102, M)) (by simp [f_X12_chance, m_pair, h, m_place, h2]) ⟨rfl, hI⟩
  · refine ob_mk (z := (-101, M)) (by simp [f_X11_chance, c_pair, h]) ?_
    exact ob_mk (z := (-101, M)) (by simp [f_X12_chance, m_pair, h]) ⟨rfl, hI⟩
