theorem stF_n {st l g v : Nat} {hO hA : Bool} {O A : CdT} (h : st ≠ 9) : stF st l g v hO hA O A = tlF hO hA O A := by
  funext d e k
  unfold stF
  rw [if_neg h]
  rfl
theorem stF_9 {l g v : Nat} {hO hA : Bool} {O A : CdT} : stF 9 l g v hO hA O A = fun d e k => rawF l g v d e k :: tlF hO hA O A d e k := rfl
def GoR (s : AVt) (c i : Nat) (M : Mem) : Prop := (nxN s.1 c ≠ 10 → ∃ M', f_X12_go (nI c) M = some (true, M') ∧ RelM (aS s c) (i + 1) M' ∧ KmL M M') ∧ (nxN s.1 c = 10 → ∃ M', f_X12_go (nI c) M = some (false, M') ∧ KmL M M')
theorem dg_of {c : Nat} (h : dgB c = true) : 48 ≤ c ∧ c ≤ 57 := by
  unfold dgB at h
  rw [Bool.and_eq_true, decide_eq_true_eq, decide_eq_true_eq] at h
  exact h
theorem dg_sub {c : Nat} (h : 48 ≤ c) : nI c - 48 = nI (c - 48) := pk_sub (b := 48) h
theorem dg_ten {n c : Nat} (h : 48 ≤ c) : 10 * nI n + nI c - 48 = nI (10 * n + (c - 48)) := by
  have e1 : 10 * nI n = nI (10 * n) := pk_mul 10 n
  have e2 : nI (10 * n + c) - 48 = nI (10 * n + c - 48) := pk_sub (b := 48) (by omega)
  rw [e1, nI_add, e2, show 10 * n + c - 48 = 10 * n + (c - 48) by omega]
theorem ce_ {c k : Nat} (hc : c < 127) (hk : k < 127) : (nI c = nI k) ↔ c = k := nI_eq (by omega) (by omega)
theorem m_go0 {way num m neg i c l g v : Nat} {hO hA : Bool} {O A : CdT} {M : Mem} (h : RelM (0, (way, num), m, neg, (hO, hA), (l, g, v), (O, A)) i M) (hc : c < 127) (hi : i < 50) : GoR (0, (way, num), m, neg, (hO, hA), (l, g, v), (O, A)) c i M := by
  obtain ⟨⟨s0, s1, s3, s3', s6, s7, s8, s8'⟩, a0, o0, rm, sk, hb⟩ := h
  have nx : nxN 0 c = if c = 74 ∨ c = 66 ∨ c = 83 ∨ c = 67 then 1 else 10 := rfl
  have rd : ∀ W : Int32, up (up M 132 15 W) 132 14 1 132 15 = W := fun W => by simp [up_at]
  have km : ∀ W : Int32, KmL M (up (up M 132 15 W) 132 14 1) := fun W => (KmL.rf.u1 (j := 15) (by decide) (by decide)).u1 (j := 14) (by decide) (by decide)
  have hw := wy_lt c
  by_cases w : c = 74 ∨ c = 66 ∨ c = 83 ∨ c = 67
  · rw [if_pos w] at nx
    refine ⟨fun _ => ⟨up (up M 132 15 (nI (wyN c))) 132 14 1, ?_, ?_, km _⟩, fun y => absurd (nx.symm.trans y) (by decide)⟩
    · unfold f_X12_go
      rw [m_dg c hc, Option.bind_some, s0, if_pos (show nI 0 = 0 from rfl), m_way c hc, if_pos w, Option.bind_some, rd, if_neg (nI_m1 (by omega)), Option.bind_some]
    · show RelM (nxN 0 c, (wyN c, num), m, neg, (hO, hA), (l, g, v), (O, A)) (i + 1) _
      rw [nx]
      rw [stF_n (by decide)] at sk
      refine ⟨⟨by simp [up_at]; rfl, fun _ => ⟨hw, by simp [up_at]⟩, fun y => absurd y (by decide), fun y => absurd y (by decide), fun y => absurd y (by decide), fun y => absurd y (by decide), fun y => absurd y (by decide), fun y => absurd y (by decide)⟩, a0, o0, rm, ?_, Nat.le_succ_of_le hb⟩
      rw [stF_n (by decide)]
      exact SK_up (SK_up sk (by decide) (by decide)) (by decide) (by decide)
  · rw [if_neg w] at nx
    refine ⟨fun y => absurd nx y, fun _ => ⟨up (up M 132 15 (-1)) 132 14 1, ?_, km _⟩⟩
    unfold f_X12_go
    rw [m_dg c hc, Option.bind_some, s0, if_pos (show nI 0 = 0 from rfl), m_way c hc, if_neg w, Option.bind_some, rd, if_pos rfl, Option.bind_some]
theorem m_go1 {way num m neg i c l g v : Nat} {hO hA : Bool} {O A : CdT} {M : Mem} (h : RelM (1, (way, num), m, neg, (hO, hA), (l, g, v), (O, A)) i M) (hc : c < 127) (hi : i < 50) : GoR (1, (way, num), m, neg, (hO, hA), (l, g, v), (O, A)) c i M := by
  obtain ⟨⟨s0, s1, s3, s3', s6, s7, s8, s8'⟩, a0, o0, rm, sk, hb⟩ := h
  have nx : nxN 1 c = if c = 58 then 2 else 10 := rfl
  have km : KmL M (up M 132 14 2) := KmL.rf.u1 (j := 14) (by decide) (by decide)
  have ce : (nI c = 58) ↔ c = 58 := ce_ (k := 58) hc (by decide)
  by_cases w : c = 58
  · rw [if_pos w] at nx
    refine ⟨fun _ => ⟨up M 132 14 2, ?_, ?_, km⟩, fun y => absurd (nx.symm.trans y) (by decide)⟩
    · unfold f_X12_go
      rw [m_dg c hc, Option.bind_some, s0, if_neg (show ¬ nI 1 = 0 by decide), if_pos (show nI 1 = 1 from rfl), if_pos (ce.mpr w), Option.bind_some]
    · show RelM (nxN 1 c, (way, num), m, neg, (hO, hA), (l, g, v), (O, A)) (i + 1) _
      rw [nx]
      rw [stF_n (by decide)] at sk
      refine ⟨⟨by simp [up_at]; rfl, fun _ => ⟨(s1 (by decide)).1, by simp [up_at, (s1 (by decide)).2]⟩, fun y => absurd y (by decide), fun y => absurd y (by decide), fun y => absurd y (by decide), fun y => absurd y (by decide), fun y => absurd y (by decide), fun y => absurd y (by decide)⟩, a0, o0, rm, ?_, Nat.le_succ_of_le hb⟩
      rw [stF_n (by decide)]
      exact SK_up sk (by decide) (by decide)
  · rw [if_neg w] at nx
    refine ⟨fun y => absurd nx y, fun _ => ⟨up M 132 14 2, ?_, km⟩⟩
    unfold f_X12_go
    rw [m_dg c hc, Option.bind_some, s0, if_neg (show ¬ nI 1 = 0 by decide), if_pos (show nI 1 = 1 from rfl), if_neg (fun y => w (ce.mp y)), Option.bind_some]
theorem m_go2 {way num m neg i c l g v : Nat} {hO hA : Bool} {O A : CdT} {M : Mem} (h : RelM (2, (way, num), m, neg, (hO, hA), (l, g, v), (O, A)) i M) (hc : c < 127) (hi : i < 50) : GoR (2, (way, num), m, neg, (hO, hA), (l, g, v), (O, A)) c i M := by
  obtain ⟨⟨s0, s1, s3, s3', s6, s7, s8, s8'⟩, a0, o0, rm, sk, hb⟩ := h
  have nx : nxN 2 c = if dgB c = true then 3 else 10 := rfl
  have km : ∀ W : Int32, KmL M (up (up M 132 16 W) 132 14 3) := fun W => (KmL.rf.u1 (j := 16) (by decide) (by decide)).u1 (j := 14) (by decide) (by decide)
  cases w : dgB c with
  | true =>
    rw [w, if_pos rfl] at nx
    have hd := dg_of w
    refine ⟨fun _ => ⟨up (up M 132 16 (nI (c - 48))) 132 14 3, ?_, ?_, km _⟩, fun y => absurd (nx.symm.trans y) (by decide)⟩
    · unfold f_X12_go
      rw [m_dg c hc, Option.bind_some, s0, if_neg (show ¬ nI 2 = 0 by decide), if_neg (show ¬ nI 2 = 1 by decide), if_pos (show nI 2 = 2 from rfl), w, dg_sub hd.1]
    · show RelM (nxN 2 c, (way, c - 48), m, neg, (hO, hA), (l, g, v), (O, A)) (i + 1) _
      rw [nx]
      rw [stF_n (by decide)] at sk
      refine ⟨⟨by simp [up_at]; rfl, fun _ => ⟨(s1 (by decide)).1, by simp [up_at, (s1 (by decide)).2]⟩, fun _ => ⟨by omega, by simp [up_at]⟩, fun _ => by omega, fun y => absurd y (by decide), fun y => absurd y (by decide), fun y => absurd y (by decide), fun y => absurd y (by decide)⟩, a0, o0, rm, ?_, Nat.le_succ_of_le hb⟩
      rw [stF_n (by decide)]
      exact SK_up (SK_up sk (by decide) (by decide)) (by decide) (by decide)
  | false =>
    rw [w, if_neg Bool.false_ne_true] at nx
    refine ⟨fun y => absurd nx y, fun _ => ⟨up (up M 132 16 (nI c - 48)) 132 14 3, ?_, km _⟩⟩
    unfold f_X12_go
    rw [m_dg c hc, Option.bind_some, s0, if_neg (show ¬ nI 2 = 0 by decide), if_neg (show ¬ nI 2 = 1 by decide), if_pos (show nI 2 = 2 from rfl), w]
theorem m_go3 {way num m neg i c l g v : Nat} {hO hA : Bool} {O A : CdT} {M : Mem} (h : RelM (3, (way, num), m, neg, (hO, hA), (l, g, v), (O, A)) i M) (hc : c < 127) (hi : i < 50) : GoR (3, (way, num), m, neg, (hO, hA), (l, g, v), (O, A)) c i M := by
  obtain ⟨⟨s0, s1, s3, s3', s6, s7, s8, s8'⟩, a0, o0, rm, sk, hb⟩ := h
  have nx : nxN 3 c = if dgB c = true then 4 else if c = 63 then 5 else 10 := rfl
  have km : ∀ W X : Int32, KmL M (up (up M 132 16 W) 132 14 X) := fun W X => (KmL.rf.u1 (j := 16) (by decide) (by decide)).u1 (j := 14) (by decide) (by decide)
  have ce : (nI c = 63) ↔ c = 63 := ce_ (k := 63) hc (by decide)
  obtain ⟨n1, n2⟩ := s3 (by decide)
  have n3 := s3' rfl
  rw [stF_n (by decide)] at sk
  cases w : dgB c with
  | true =>
    rw [w, if_pos rfl] at nx
    have hd := dg_of w
    refine ⟨fun _ => ⟨up (up M 132 16 (nI (10 * num + (c - 48)))) 132 14 4, ?_, ?_, km _ _⟩, fun y => absurd (nx.symm.trans y) (by decide)⟩
    · unfold f_X12_go
      rw [m_dg c hc, Option.bind_some, s0, if_neg (show ¬ nI 3 = 0 by decide), if_neg (show ¬ nI 3 = 1 by decide), if_neg (show ¬ nI 3 = 2 by decide), if_pos (show nI 3 = 3 from rfl), w, if_pos rfl, if_pos rfl, if_pos rfl, Option.bind_some, Option.bind_some, Option.bind_some, n2, dg_ten hd.1]
    · show RelM (if dgB c = true then (nxN 3 c, (way, 10 * num + (c - 48)), m, neg, (hO, hA), (l, g, v), (O, A)) else (nxN 3 c, (way, num), m, neg, (hO, hA), (l, g, v), (O, A))) (i + 1) _
      rw [w, if_pos rfl, nx]
      refine ⟨⟨by simp [up_at]; rfl, fun _ => ⟨(s1 (by decide)).1, by simp [up_at, (s1 (by decide)).2]⟩, fun _ => ⟨by omega, by simp [up_at]⟩, fun y => absurd y (by decide), fun y => absurd y (by decide), fun y => absurd y (by decide), fun y => absurd y (by decide), fun y => absurd y (by decide)⟩, a0, o0, rm, ?_, Nat.le_succ_of_le hb⟩
      rw [stF_n (by decide)]
      exact SK_up (SK_up sk (by decide) (by decide)) (by decide) (by decide)
  | false =>
    rw [w, if_neg Bool.false_ne_true] at nx
    by_cases q : c = 63
    · rw [if_pos q] at nx
      refine ⟨fun _ => ⟨up (up M 132 16 (nI num)) 132 14 5, ?_, ?_, km _ _⟩, fun y => absurd (nx.symm.trans y) (by decide)⟩
      · unfold f_X12_go
        rw [m_dg c hc, Option.bind_some, s0, if_neg (show ¬ nI 3 = 0 by decide), if_neg (show ¬ nI 3 = 1 by decide), if_neg (show ¬ nI 3 = 2 by decide), if_pos (show nI 3 = 3 from rfl), w, if_neg Bool.false_ne_true, if_neg Bool.false_ne_true, if_neg Bool.false_ne_true, if_pos (ce.mpr q), Option.bind_some, Option.bind_some, Option.bind_some, n2]
      · show RelM (if dgB c = true then (nxN 3 c, (way, 10 * num + (c - 48)), m, neg, (hO, hA), (l, g, v), (O, A)) else (nxN 3 c, (way, num), m, neg, (hO, hA), (l, g, v), (O, A))) (i + 1) _
        rw [w, if_neg Bool.false_ne_true, nx]
        refine ⟨⟨by simp [up_at]; rfl, fun _ => ⟨(s1 (by decide)).1, by simp [up_at, (s1 (by decide)).2]⟩, fun _ => ⟨n1, by simp [up_at]⟩, fun y => absurd y (by decide), fun y => absurd y (by decide), fun y => absurd y (by decide), fun y => absurd y (by decide), fun y => absurd y (by decide)⟩, a0, o0, rm, ?_, Nat.le_succ_of_le hb⟩
        rw [stF_n (by decide)]
        exact SK_up (SK_up sk (by decide) (by decide)) (by decide) (by decide)
    · rw [if_neg q] at nx
      refine ⟨fun y => absurd nx y, fun _ => ⟨up (up M 132 16 (nI num)) 132 14 5, ?_, km _ _⟩⟩
      unfold f_X12_go
      rw [m_dg c hc, Option.bind_some, s0, if_neg (show ¬ nI 3 = 0 by decide), if_neg (show ¬ nI 3 = 1 by decide), if_neg (show ¬ nI 3 = 2 by decide), if_pos (show nI 3 = 3 from rfl), w, if_neg Bool.false_ne_true, if_neg Bool.false_ne_true, if_neg Bool.false_ne_true, if_neg (fun y => q (ce.mp y)), Option.bind_some, Option.bind_some, Option.bind_some, n2]
theorem m_go4 {way num m neg i c l g v : Nat} {hO hA : Bool} {O A : CdT} {M : Mem} (h : RelM (4, (way, num), m, neg, (hO, hA), (l, g, v), (O, A)) i M) (hc : c < 127) (hi : i < 50) : GoR (4, (way, num), m, neg, (hO, hA), (l, g, v), (O, A)) c i M := by
  obtain ⟨⟨s0, s1, s3, s3', s6, s7, s8, s8'⟩, a0, o0, rm, sk, hb⟩ := h
  have nx : nxN 4 c = if c = 63 then 5 else 10 := rfl
  have km : KmL M (up M 132 14 5) := KmL.rf.u1 (j := 14) (by decide) (by decide)
  have ce : (nI c = 63) ↔ c = 63 := ce_ (k := 63) hc (by decide)
  by_cases w : c = 63
  · rw [if_pos w] at nx
    refine ⟨fun _ => ⟨up M 132 14 5, ?_, ?_, km⟩, fun y => absurd (nx.symm.trans y) (by decide)⟩
    · unfold f_X12_go
      rw [m_dg c hc, Option.bind_some, s0, if_neg (show ¬ nI 4 = 0 by decide), if_neg (show ¬ nI 4 = 1 by decide), if_neg (show ¬ nI 4 = 2 by decide), if_neg (show ¬ nI 4 = 3 by decide), if_pos (show nI 4 = 4 from rfl), if_pos (ce.mpr w), Option.bind_some]
    · show RelM (nxN 4 c, (way, num), m, neg, (hO, hA), (l, g, v), (O, A)) (i + 1) _
      rw [nx]
      rw [stF_n (by decide)] at sk
      refine ⟨⟨by simp [up_at]; rfl, fun _ => ⟨(s1 (by decide)).1, by simp [up_at, (s1 (by decide)).2]⟩, fun _ => ⟨(s3 (by decide)).1, by simp [up_at, (s3 (by decide)).2]⟩, fun y => absurd y (by decide), fun y => absurd y (by decide), fun y => absurd y (by decide), fun y => absurd y (by decide), fun y => absurd y (by decide)⟩, a0, o0, rm, ?_, Nat.le_succ_of_le hb⟩
      rw [stF_n (by decide)]
      exact SK_up sk (by decide) (by decide)
  · rw [if_neg w] at nx
    refine ⟨fun y => absurd nx y, fun _ => ⟨up M 132 14 5, ?_, km⟩⟩
    unfold f_X12_go
    rw [m_dg c hc, Option.bind_some, s0, if_neg (show ¬ nI 4 = 0 by decide), if_neg (show ¬ nI 4 = 1 by decide), if_neg (show ¬ nI 4 = 2 by decide), if_neg (show ¬ nI 4 = 3 by decide), if_pos (show nI 4 = 4 from rfl), if_neg (fun y => w (ce.mp y)), Option.bind_some]
theorem m_go5 {way num m neg i c l g v : Nat} {hO hA : Bool} {O A : CdT} {M : Mem} (h : RelM (5, (way, num), m, neg, (hO, hA), (l, g, v), (O, A)) i M) (hc : c < 127) (hi : i < 50) : GoR (5, (way, num), m, neg, (hO, hA), (l, g, v), (O, A)) c i M := by
  obtain ⟨⟨s0, s1, s3, s3', s6, s7, s8, s8'⟩, a0, o0, rm, sk, hb⟩ := h
  have nx : nxN 5 c = if c = 33 then 5 else if c = 100 ∨ c = 101 ∨ c = 107 then 6 else 10 := rfl
  have rd : ∀ W : Int32, up (up M 132 17 W) 132 14 6 132 17 = W := fun W => by simp [up_at]
  have km : ∀ W : Int32, KmL M (up (up M 132 17 W) 132 14 6) := fun W => (KmL.rf.u1 (j := 17) (by decide) (by decide)).u1 (j := 14) (by decide) (by decide)
  have ce : (nI c = 33) ↔ c = 33 := ce_ (k := 33) hc (by decide)
  have hb' : rm + neg + (tlL hO hA).length + 0 ≤ i := hb
  have hl := lt_lt c
  rw [stF_n (by decide)] at sk
  by_cases w : c = 33
  · rw [if_pos w] at nx
    obtain ⟨L, hL⟩ : ∃ L, L = (List.replicate neg 9 ++ tlL hO hA).length := ⟨_, rfl⟩
    have hL2 : L = neg + (tlL hO hA).length := by rw [hL, List.length_append, List.length_replicate]
    have e24 : M 132 24 = nI L := by rw [hL]; exact sk.2.1
    have p1 := inb_t (k := L) (n := 50) (by omega) (by decide)
    have p2 := nI_cl (show L < 2 ^ 31 by omega)
    have q1 : up M 147 L 9 132 24 = nI L := by
      rw [up_at, if_neg (fun w => absurd w.1 (by decide))]
      exact e24
    have sk2 := SK_push (x := 9) sk
    rw [← hL] at sk2
    refine ⟨fun _ => ⟨up (up M 147 L 9) 132 24 (nI (L + 1)), ?_, ?_, (KmL.rf.w).u1 (j := 24) (by decide) (by decide)⟩, fun y => absurd (nx.symm.trans y) (by decide)⟩
    · unfold f_X12_go
      rw [m_dg c hc, Option.bind_some, s0, if_neg (show ¬ nI 5 = 0 by decide), if_neg (show ¬ nI 5 = 1 by decide), if_neg (show ¬ nI 5 = 2 by decide), if_neg (show ¬ nI 5 = 3 by decide), if_neg (show ¬ nI 5 = 4 by decide), if_pos (show nI 5 = 5 from rfl), if_pos (ce.mpr w), e24, if_pos p1, p2, q1, nI_1]
    · show RelM (if c = 33 then (nxN 5 c, (way, num), m, neg + 1, (hO, hA), (l, g, v), (O, A)) else (nxN 5 c, (way, num), m, neg, (hO, hA), (ltN c, g, v), (O, A))) (i + 1) _
      rw [if_pos w, nx]
      refine ⟨⟨by simp [up_at, s0], fun _ => ⟨(s1 (by decide)).1, by simp [up_at, (s1 (by decide)).2]⟩, fun _ => ⟨(s3 (by decide)).1, by simp [up_at, (s3 (by decide)).2]⟩, fun y => absurd y (by decide), fun y => absurd y (by decide), fun y => absurd y (by decide), fun y => absurd y (by decide), fun y => absurd y (by decide)⟩, a0, o0, rm, ?_, ?_⟩
      · rw [stF_n (by decide)]
        exact sk2
      · show rm + (neg + 1) + (tlL hO hA).length + 0 ≤ i + 1
        omega
  · rw [if_neg w] at nx
    by_cases q : c = 100 ∨ c = 101 ∨ c = 107
    · rw [if_pos q] at nx
      refine ⟨fun _ => ⟨up (up M 132 17 (nI (ltN c))) 132 14 6, ?_, ?_, km _⟩, fun y => absurd (nx.symm.trans y) (by decide)⟩
      · unfold f_X12_go
        rw [m_dg c hc, Option.bind_some, s0, if_neg (show ¬ nI 5 = 0 by decide), if_neg (show ¬ nI 5 = 1 by decide), if_neg (show ¬ nI 5 = 2 by decide), if_neg (show ¬ nI 5 = 3 by decide), if_neg (show ¬ nI 5 = 4 by decide), if_pos (show nI 5 = 5 from rfl), if_neg (fun y => w (ce.mp y)), m_let c hc, if_pos q, Option.bind_some, rd, if_neg (nI_m1 (by omega)), Option.bind_some]
      · show RelM (if c = 33 then (nxN 5 c, (way, num), m, neg + 1, (hO, hA), (l, g, v), (O, A)) else (nxN 5 c, (way, num), m, neg, (hO, hA), (ltN c, g, v), (O, A))) (i + 1) _
        rw [if_neg w, nx]
        refine ⟨⟨by simp [up_at]; rfl, fun _ => ⟨(s1 (by decide)).1, by simp [up_at, (s1 (by decide)).2]⟩, fun _ => ⟨(s3 (by decide)).1, by simp [up_at, (s3 (by decide)).2]⟩, fun y => absurd y (by decide), fun _ => ⟨hl, by simp [up_at]⟩, fun y => absurd y (by decide), fun y => absurd y (by decide), fun y => absurd y (by decide)⟩, a0, o0, rm, ?_, ?_⟩
        · rw [stF_n (by decide)]
          exact SK_up (SK_up sk (by decide) (by decide)) (by decide) (by decide)
        · show rm + neg + (tlL hO hA).length + 1 ≤ i + 1
          omega
    · rw [if_neg q] at nx
      refine ⟨fun y => absurd nx y, fun _ => ⟨up (up M 132 17 (-1)) 132 14 6, ?_, km _⟩⟩
      unfold f_X12_go
      rw [m_dg c hc, Option.bind_some, s0, if_neg (show ¬ nI 5 = 0 by decide), if_neg (show ¬ nI 5 = 1 by decide), if_neg (show ¬ nI 5 = 2 by decide), if_neg (show ¬ nI 5 = 3 by decide), if_neg (show ¬ nI 5 = 4 by decide), if_pos (show nI 5 = 5 from rfl), if_neg (fun y => w (ce.mp y)), m_let c hc, if_neg q, Option.bind_some, rd, if_pos rfl, Option.bind_some]
theorem m_sg : ∀ c, c < 127 → (c = 60 ∨ c = 61 ∨ c = 62) → ((if nI c = 60 then some (0 : Int32) else if nI c = 61 then some 1 else some 2) = some (nI (c - 60)) ∧ (if nI c = 60 then some true else if nI c = 61 then some true else if nI c = 62 then some true else some false) = some true) := by decide +kernel
theorem m_sx : ∀ c, c < 127 → ¬ (c = 60 ∨ c = 61 ∨ c = 62) → ((if nI c = 60 then some (0 : Int32) else if nI c = 61 then some 1 else some 2) = some 2 ∧ (if nI c = 60 then some true else if nI c = 61 then some true else if nI c = 62 then some true else some false) = some false) := by decide +kernel
theorem m_go6 {way num m neg i c l g v : Nat} {hO hA : Bool} {O A : CdT} {M : Mem} (h : RelM (6, (way, num), m, neg, (hO, hA), (l, g, v), (O, A)) i M) (hc : c < 127) (hi : i < 50) : GoR (6, (way, num), m, neg, (hO, hA), (l, g, v), (O, A)) c i M := by
  obtain ⟨⟨s0, s1, s3, s3', s6, s7, s8, s8'⟩, a0, o0, rm, sk, hb⟩ := h
  have nx : nxN 6 c = if c = 60 ∨ c = 61 ∨ c = 62 then 7 else 10 := rfl
  have km : ∀ W : Int32, KmL M (up (up M 132 18 W) 132 14 7) := fun W => (KmL.rf.u1 (j := 18) (by decide) (by decide)).u1 (j := 14) (by decide) (by decide)
  have hb' : rm + neg + (tlL hO hA).length + 1 ≤ i := hb
  rw [stF_n (by decide)] at sk
  by_cases w : c = 60 ∨ c = 61 ∨ c = 62
  · rw [if_pos w] at nx
    obtain ⟨g1, g2⟩ := m_sg c hc w
    refine ⟨fun _ => ⟨up (up M 132 18 (nI (c - 60))) 132 14 7, ?_, ?_, km _⟩, fun y => absurd (nx.symm.trans y) (by decide)⟩
    · unfold f_X12_go
      rw [m_dg c hc, Option.bind_some, s0, if_neg (show ¬ nI 6 = 0 by decide), if_neg (show ¬ nI 6 = 1 by decide), if_neg (show ¬ nI 6 = 2 by decide), if_neg (show ¬ nI 6 = 3 by decide), if_neg (show ¬ nI 6 = 4 by decide), if_neg (show ¬ nI 6 = 5 by decide), if_pos (show nI 6 = 6 from rfl), g1, Option.bind_some, g2, Option.bind_some]
    · show RelM (nxN 6 c, (way, num), m, neg, (hO, hA), (l, c - 60, v), (O, A)) (i + 1) _
      rw [nx]
      refine ⟨⟨by simp [up_at]; rfl, fun _ => ⟨(s1 (by decide)).1, by simp [up_at, (s1 (by decide)).2]⟩, fun _ => ⟨(s3 (by decide)).1, by simp [up_at, (s3 (by decide)).2]⟩, fun y => absurd y (by decide), fun _ => ⟨(s6 (by decide)).1, by simp [up_at, (s6 (by decide)).2]⟩, fun _ => ⟨by omega, by simp [up_at]⟩, fun y => absurd y (by decide), fun y => absurd y (by decide)⟩, a0, o0, rm, ?_, ?_⟩
      · rw [stF_n (by decide)]
        exact SK_up (SK_up sk (by decide) (by decide)) (by decide) (by decide)
      · show rm + neg + (tlL hO hA).length + 1 ≤ i + 1
        omega
  · rw [if_neg w] at nx
    obtain ⟨g1, g2⟩ := m_sx c hc w
    refine ⟨fun y => absurd nx y, fun _ => ⟨up (up M 132 18 2) 132 14 7, ?_, km _⟩⟩
    unfold f_X12_go
    rw [m_dg c hc, Option.bind_some, s0, if_neg (show ¬ nI 6 = 0 by decide), if_neg (show ¬ nI 6 = 1 by decide), if_neg (show ¬ nI 6 = 2 by decide), if_neg (show ¬ nI 6 = 3 by decide), if_neg (show ¬ nI 6 = 4 by decide), if_neg (show ¬ nI 6 = 5 by decide), if_pos (show nI 6 = 6 from rfl), g1, Option.bind_some, g2, Option.bind_some]
theorem m_go7 {way num m neg i c l g v : Nat} {hO hA : Bool} {O A : CdT} {M : Mem} (h : RelM (7, (way, num), m, neg, (hO, hA), (l, g, v), (O, A)) i M) (hc : c < 127) (hi : i < 50) : GoR (7, (way, num), m, neg, (hO, hA), (l, g, v), (O, A)) c i M := by
  obtain ⟨⟨s0, s1, s3, s3', s6, s7, s8, s8'⟩, a0, o0, rm, sk, hb⟩ := h
  have nx : nxN 7 c = if dgB c = true then 8 else 10 := rfl
  have km : ∀ W : Int32, KmL M (up (up M 132 19 W) 132 14 8) := fun W => (KmL.rf.u1 (j := 19) (by decide) (by decide)).u1 (j := 14) (by decide) (by decide)
  have hb' : rm + neg + (tlL hO hA).length + 1 ≤ i := hb
  rw [stF_n (by decide)] at sk
  cases w : dgB c with
  | true =>
    rw [w, if_pos rfl] at nx
    have hd := dg_of w
    refine ⟨fun _ => ⟨up (up M 132 19 (nI (c - 48))) 132 14 8, ?_, ?_, km _⟩, fun y => absurd (nx.symm.trans y) (by decide)⟩
    · unfold f_X12_go
      rw [m_dg c hc, Option.bind_some, s0, if_neg (show ¬ nI 7 = 0 by decide), if_neg (show ¬ nI 7 = 1 by decide), if_neg (show ¬ nI 7 = 2 by decide), if_neg (show ¬ nI 7 = 3 by decide), if_neg (show ¬ nI 7 = 4 by decide), if_neg (show ¬ nI 7 = 5 by decide), if_neg (show ¬ nI 7 = 6 by decide), if_pos (show nI 7 = 7 from rfl), w, dg_sub hd.1]
    · show RelM (nxN 7 c, (way, num), m, neg, (hO, hA), (l, g, c - 48), (O, A)) (i + 1) _
      rw [nx]
      refine ⟨⟨by simp [up_at]; rfl, fun _ => ⟨(s1 (by decide)).1, by simp [up_at, (s1 (by decide)).2]⟩, fun _ => ⟨(s3 (by decide)).1, by simp [up_at, (s3 (by decide)).2]⟩, fun y => absurd y (by decide), fun _ => ⟨(s6 (by decide)).1, by simp [up_at, (s6 (by decide)).2]⟩, fun _ => ⟨(s7 (by decide)).1, by simp [up_at, (s7 (by decide)).2]⟩, fun _ => ⟨by omega, by simp [up_at]⟩, fun _ => by omega⟩, a0, o0, rm, ?_, ?_⟩
      · rw [stF_n (by decide)]
        exact SK_up (SK_up sk (by decide) (by decide)) (by decide) (by decide)
      · show rm + neg + (tlL hO hA).length + 1 ≤ i + 1
        omega
  | false =>
    rw [w, if_neg Bool.false_ne_true] at nx
    refine ⟨fun y => absurd nx y, fun _ => ⟨up (up M 132 19 (nI c - 48)) 132 14 8, ?_, km _⟩⟩
    unfold f_X12_go
    rw [m_dg c hc, Option.bind_some, s0, if_neg (show ¬ nI 7 = 0 by decide), if_neg (show ¬ nI 7 = 1 by decide), if_neg (show ¬ nI 7 = 2 by decide), if_neg (show ¬ nI 7 = 3 by decide), if_neg (show ¬ nI 7 = 4 by decide), if_neg (show ¬ nI 7 = 5 by decide), if_neg (show ¬ nI 7 = 6 by decide), if_pos (show nI 7 = 7 from rfl), w]
theorem m_after {M M19 : Mem} {way num m neg i c l g v rm st : Nat} {hO hA : Bool} {O A : CdT} (sk : SKr M19 rm (List.replicate neg 9 ++ tlL hO hA) (fun d e k => rawF l g v d e k :: tlF hO hA O A d e k)) (hb : rm + neg + (tlL hO hA).length ≤ i) (hi : i < 50) (a0 : hA = false → A = ttC) (o0 : hO = false → O = ffC) (hc : c = 38 ∨ c = 124) (k9 : KmL M M19) (s1 : way < 4 ∧ M19 132 15 = nI way) (s3 : num < 100 ∧ M19 132 16 = nI num) (e19 : (if M 132 14 = 8 then (f_X12_endNumber M).bind fun (M20 : Mem) => some M20 else some M) = some M19) (hn : nxN st c = 5) : ∃ M', f_X12_goBehind (nI c) M = some (true, M') ∧ RelM (aE (nxN st c) way num m neg hO hA l g v O A c) (i + 1) M' ∧ KmL M M' := by
  obtain ⟨M1, k1, k2, k3, k4, k5, k6⟩ := m_behind sk (by omega) a0 o0 hc
  have j14 : f_X12_goBehind_j14_0 (nI c) M = some (true, M1) := by
    unfold f_X12_goBehind_j14_0
    rw [e19, Option.bind_some]
    exact k1
  have rs : RelS 5 way num l g v M1 := ⟨k2, fun _ => ⟨s1.1, (k3 15 (by decide) (by decide) (by decide)).trans s1.2⟩, fun _ => ⟨s3.1, (k3 16 (by decide) (by decide) (by decide)).trans s3.2⟩, fun y => absurd y (by decide), fun y => absurd y (by decide), fun y => absurd y (by decide), fun y => absurd y (by decide), fun y => absurd y (by decide)⟩
  refine ⟨M1, ?_, ?_, k9.tr k4⟩
  · unfold f_X12_goBehind
    rcases hc with rfl | rfl
    · rw [if_pos (show nI 38 = 38 from rfl), j14]
    · rw [if_neg (show ¬ nI 124 = 38 by decide), if_pos (show nI 124 = 124 from rfl), j14]
  · rw [hn]
    rcases hc with rfl | rfl
    · obtain ⟨rm1, r1, r2⟩ := k5 rfl
      refine ⟨rs, fun y => Bool.noConfusion y, o0, rm1, ?_, ?_⟩
      · rw [stF_n (by decide)]
        exact r1
      · show rm1 + 0 + (tlL hO true).length + 0 ≤ i + 1
        omega
    · obtain ⟨rm1, r1, r2⟩ := k6 rfl
      refine ⟨rs, fun _ => rfl, fun y => Bool.noConfusion y, rm1, ?_, ?_⟩
      · rw [stF_n (by decide)]
        exact r1
      · show rm1 + 0 + (tlL true false).length + 0 ≤ i + 1
        omega
theorem m_noBehind {M : Mem} {c : Nat} (hc : c < 127) (h : ¬ (c = 38 ∨ c = 124)) : f_X12_goBehind (nI c) M = some (false, M) := by
  have n1 : ¬ nI c = 38 := fun y => h (.inl ((ce_ (k := 38) hc (by decide)).mp y))
  have n2 : ¬ nI c = 124 := fun y => h (.inr ((ce_ (k := 124) hc (by decide)).mp y))
  unfold f_X12_goBehind
  rw [if_neg n1, if_neg n2]
theorem m_go8 {way num m neg i c l g v : Nat} {hO hA : Bool} {O A : CdT} {M : Mem} (h : RelM (8, (way, num), m, neg, (hO, hA), (l, g, v), (O, A)) i M) (hc : c < 127) (hi : i < 50) : GoR (8, (way, num), m, neg, (hO, hA), (l, g, v), (O, A)) c i M := by
  obtain ⟨⟨s0, s1, s3, s3', s6, s7, s8, s8'⟩, a0, o0, rm, sk, hb⟩ := h
  have nx : nxN 8 c = if dgB c = true then 9 else if c = 38 ∨ c = 124 then 5 else 10 := rfl
  have hb' : rm + neg + (tlL hO hA).length + 1 ≤ i := hb
  obtain ⟨x6, y6⟩ := s6 (by decide)
  obtain ⟨x7, y7⟩ := s7 (by decide)
  obtain ⟨x8, y8⟩ := s8 (by decide)
  have x8' := s8' rfl
  rw [stF_n (by decide)] at sk
  cases w : dgB c with
  | true =>
    rw [w, if_pos rfl] at nx
    have hd := dg_of w
    obtain ⟨M1, k1, k2, k3, k4, k5⟩ := m_endN (M := up M 132 19 (nI (10 * v + (c - 48)))) (l := l) (g := g) (v := 10 * v + (c - 48)) (SK_up sk (by decide) (by decide)) (by omega) x6 x7 (by simp [up_at, y6]) (by simp [up_at, y7]) (by simp [up_at])
    have rd : ∀ j, j ≠ 22 → j ≠ 14 → j ≠ 19 → M1 132 j = M 132 j := fun j h1 h2 h3 => by rw [k4 j h1 h2, up_at, if_neg (fun y => h3 y.2)]
    refine ⟨fun _ => ⟨M1, ?_, ?_, (KmL.rf.u1 (j := 19) (by decide) (by decide)).tr k5⟩, fun y => absurd (nx.symm.trans y) (by decide)⟩
    · unfold f_X12_go
      rw [m_dg c hc, Option.bind_some, s0, if_neg (show ¬ nI 8 = 0 by decide), if_neg (show ¬ nI 8 = 1 by decide), if_neg (show ¬ nI 8 = 2 by decide), if_neg (show ¬ nI 8 = 3 by decide), if_neg (show ¬ nI 8 = 4 by decide), if_neg (show ¬ nI 8 = 5 by decide), if_neg (show ¬ nI 8 = 6 by decide), if_neg (show ¬ nI 8 = 7 by decide), if_pos (show nI 8 = 8 from rfl), w, if_pos rfl, y8, dg_ten hd.1, k1, Option.bind_some]
    · show RelM (if dgB c = true then (nxN 8 c, (way, num), m, neg, (hO, hA), (l, g, 10 * v + (c - 48)), (O, A)) else aE (nxN 8 c) way num m neg hO hA l g v O A c) (i + 1) _
      rw [w, if_pos rfl, nx]
      refine ⟨⟨k3, fun _ => ⟨(s1 (by decide)).1, (rd 15 (by decide) (by decide) (by decide)).trans (s1 (by decide)).2⟩, fun _ => ⟨(s3 (by decide)).1, (rd 16 (by decide) (by decide) (by decide)).trans (s3 (by decide)).2⟩, fun y => absurd y (by decide), fun _ => ⟨x6, (rd 17 (by decide) (by decide) (by decide)).trans y6⟩, fun _ => ⟨x7, (rd 18 (by decide) (by decide) (by decide)).trans y7⟩, fun _ => ⟨by omega, by rw [k4 19 (by decide) (by decide)]; simp [up_at]⟩, fun y => absurd y (by decide)⟩, a0, o0, rm + 1, ?_, ?_⟩
      · rw [stF_9]
        exact k2
      · show rm + 1 + neg + (tlL hO hA).length + 0 ≤ i + 1
        omega
  | false =>
    rw [w, if_neg Bool.false_ne_true] at nx
    have go8 : f_X12_go (nI c) M = (f_X12_goBehind (nI c) M).bind fun ((r14, M15) : (Bool × Mem)) => some (r14, M15) := by
      unfold f_X12_go
      rw [m_dg c hc, Option.bind_some, s0, if_neg (show ¬ nI 8 = 0 by decide), if_neg (show ¬ nI 8 = 1 by decide), if_neg (show ¬ nI 8 = 2 by decide), if_neg (show ¬ nI 8 = 3 by decide), if_neg (show ¬ nI 8 = 4 by decide), if_neg (show ¬ nI 8 = 5 by decide), if_neg (show ¬ nI 8 = 6 by decide), if_neg (show ¬ nI 8 = 7 by decide), if_pos (show nI 8 = 8 from rfl), w, if_neg Bool.false_ne_true]
    by_cases q : c = 38 ∨ c = 124
    · rw [if_pos q] at nx
      obtain ⟨M1, k1, k2, k3, k4, k5⟩ := m_endN (l := l) (g := g) (v := v) sk (by omega) x6 x7 y6 y7 y8
      obtain ⟨M2, g1, g2, g3⟩ := m_after (M := M) (way := way) (num := num) (m := m) (st := 8) k2 (show rm + 1 + neg + (tlL hO hA).length ≤ i by omega) hi a0 o0 q k5 ⟨(s1 (by decide)).1, (k4 15 (by decide) (by decide)).trans (s1 (by decide)).2⟩ ⟨(s3 (by decide)).1, (k4 16 (by decide) (by decide)).trans (s3 (by decide)).2⟩ (by rw [s0, if_pos (show nI 8 = 8 from rfl), k1, Option.bind_some]) nx
      refine ⟨fun _ => ⟨M2, ?_, ?_, g3⟩, fun y => absurd (nx.symm.trans y) (by decide)⟩
      · rw [go8, g1, Option.bind_some]
      · show RelM (if dgB c = true then (nxN 8 c, (way, num), m, neg, (hO, hA), (l, g, 10 * v + (c - 48)), (O, A)) else aE (nxN 8 c) way num m neg hO hA l g v O A c) (i + 1) _
        rw [w, if_neg Bool.false_ne_true]
        exact g2
    · rw [if_neg q] at nx
      refine ⟨fun y => absurd nx y, fun _ => ⟨M, ?_, KmL.rf⟩⟩
      rw [go8, m_noBehind hc q, Option.bind_some]
theorem m_go9 {way num m neg i c l g v : Nat} {hO hA : Bool} {O A : CdT} {M : Mem} (h : RelM (9, (way, num), m, neg, (hO, hA), (l, g, v), (O, A)) i M) (hc : c < 127) (hi : i < 50) : GoR (9, (way, num), m, neg, (hO, hA), (l, g, v), (O, A)) c i M := by
  obtain ⟨⟨s0, s1, s3, s3', s6, s7, s8, s8'⟩, a0, o0, rm, sk, hb⟩ := h
  have nx : nxN 9 c = if c = 38 ∨ c = 124 then 5 else 10 := rfl
  have hb' : rm + neg + (tlL hO hA).length + 0 ≤ i := hb
  rw [stF_9] at sk
  have go9 : f_X12_go (nI c) M = (f_X12_goBehind (nI c) M).bind fun ((r14, M15) : (Bool × Mem)) => some (r14, M15) := by
    unfold f_X12_go
    rw [m_dg c hc, Option.bind_some, s0, if_neg (show ¬ nI 9 = 0 by decide), if_neg (show ¬ nI 9 = 1 by decide), if_neg (show ¬ nI 9 = 2 by decide), if_neg (show ¬ nI 9 = 3 by decide), if_neg (show ¬ nI 9 = 4 by decide), if_neg (show ¬ nI 9 = 5 by decide), if_neg (show ¬ nI 9 = 6 by decide), if_neg (show ¬ nI 9 = 7 by decide), if_neg (show ¬ nI 9 = 8 by decide)]
  by_cases q : c = 38 ∨ c = 124
  · rw [if_pos q] at nx
    obtain ⟨M2, g1, g2, g3⟩ := m_after (M := M) (way := way) (num := num) (m := m) (st := 9) sk (by omega) hi a0 o0 q KmL.rf (s1 (by decide)) (s3 (by decide)) (by rw [s0, if_neg (show ¬ nI 9 = 8 by decide)]) nx
    refine ⟨fun _ => ⟨M2, ?_, g2, g3⟩, fun y => absurd (nx.symm.trans y) (by decide)⟩
    rw [go9, g1, Option.bind_some]
  · rw [if_neg q] at nx
    refine ⟨fun y => absurd nx y, fun _ => ⟨M, ?_, KmL.rf⟩⟩
    rw [go9, m_noBehind hc q, Option.bind_some]
theorem m_go {s : AVt} {c i : Nat} {M : Mem} (h : RelM s i M) (hs : s.1 < 10) (hc : c < 127) (hi : i < 50) : GoR s c i M := by
  obtain ⟨st, ⟨way, num⟩, m, neg, ⟨hO, hA⟩, ⟨l, g, v⟩, O, A⟩ := s
  have hs' : st < 10 := hs
  rcases (show st = 0 ∨ st = 1 ∨ st = 2 ∨ st = 3 ∨ st = 4 ∨ st = 5 ∨ st = 6 ∨ st = 7 ∨ st = 8 ∨ st = 9 by omega) with rfl | rfl | rfl | rfl | rfl | rfl | rfl | rfl | rfl | rfl
  · exact m_go0 h hc hi
  · exact m_go1 h hc hi
  · exact m_go2 h hc hi
  · exact m_go3 h hc hi
  · exact m_go4 h hc hi
  · exact m_go5 h hc hi
  · exact m_go6 h hc hi
  · exact m_go7 h hc hi
  · exact m_go8 h hc hi
  · exact m_go9 h hc hi
