def pc1 (m : Nat) : Nat := m - (m / 2 &&& 1431655765)
def pc2 (x : Nat) : Nat := (x &&& 858993459) + (x / 4 &&& 858993459)
def pc3 (x : Nat) : Nat := x + x / 16 &&& 252645135
def pc4 (x : Nat) : Nat := x + x / 256
def pc5 (x : Nat) : Nat := x + x / 65536
def pcN (m : Nat) : Nat := pc5 (pc4 (pc3 (pc2 (pc1 m)))) &&& 63
theorem pc_I {m : Nat} (hm : m < 65536) : f_J6_bitCount_0f7a4 (nI m) = some (nI (pcN m)) := by
  have a1 : m / 2 &&& 1431655765 ≤ m / 2 := Nat.and_le_left
  have s1 : jushr (nI m) 1 = nI (m / 2) := vb_ushr (k := 1) (by omega) (by decide)
  have s2 : nI (m / 2) &&& 1431655765 = nI (m / 2 &&& 1431655765) := vb_and (b := 1431655765) (by omega) (by decide)
  have s3 : nI m - nI (m / 2 &&& 1431655765) = nI (pc1 m) := pk_sub (by omega)
  have b1 : pc1 m < 65536 := by unfold pc1; omega
  revert b1
  simp only [f_J6_bitCount_0f7a4, s1, s2, s3, pcN]
  generalize pc1 m = x
  intro hx
  have t1 : jushr (nI x) 2 = nI (x / 4) := vb_ushr (k := 2) (by omega) (by decide)
  have t2 : nI (x / 4) &&& 858993459 = nI (x / 4 &&& 858993459) := vb_and (b := 858993459) (by omega) (by decide)
  have t3 : nI x &&& 858993459 = nI (x &&& 858993459) := vb_and (b := 858993459) (by omega) (by decide)
  have t4 : nI (x &&& 858993459) + nI (x / 4 &&& 858993459) = nI (pc2 x) := nI_add _ _
  have c1 : x / 4 &&& 858993459 ≤ x / 4 := Nat.and_le_left
  have c2 : x &&& 858993459 ≤ x := Nat.and_le_left
  have b2 : pc2 x < 131072 := by unfold pc2; omega
  revert b2
  simp only [t1, t2, t3, t4]
  generalize pc2 x = y
  intro hy
  have u1 : jushr (nI y) 4 = nI (y / 16) := vb_ushr (k := 4) (by omega) (by decide)
  have u2 : nI y + nI (y / 16) = nI (y + y / 16) := nI_add _ _
  have u3 : nI (y + y / 16) &&& 252645135 = nI (pc3 y) := vb_and (b := 252645135) (by omega) (by decide)
  have c3 : pc3 y ≤ y + y / 16 := Nat.and_le_left
  revert c3
  simp only [u1, u2, u3]
  generalize pc3 y = z
  intro hz
  have v1 : jushr (nI z) 8 = nI (z / 256) := vb_ushr (k := 8) (by omega) (by decide)
  have v2 : nI z + nI (z / 256) = nI (pc4 z) := nI_add _ _
  have b4 : pc4 z < 1000000 := by unfold pc4; omega
  revert b4
  simp only [v1, v2]
  generalize pc4 z = w
  intro hw
  have w1 : jushr (nI w) 16 = nI (w / 65536) := vb_ushr (k := 16) (by omega) (by decide)
  have w2 : nI w + nI (w / 65536) = nI (pc5 w) := nI_add _ _
  have b5 : pc5 w < 2000000 := by unfold pc5; omega
  have w3 : nI (pc5 w) &&& 63 = nI (pc5 w &&& 63) := vb_and (b := 63) (by omega) (by decide)
  simp only [w1, w2, w3]
theorem pc_two : ∀ h, h < 256 → ∀ l, l < 256 → pcN (256 * h + l) = pcN h + pcN l := by decide +kernel
