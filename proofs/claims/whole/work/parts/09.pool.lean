theorem tb_k0 {w : Cond} (i : Nat) (h : (k2_sels lw_privs)[i]? = some w) (ho : okw w = true) : w ∈ TB := List.mem_filter.mpr ⟨List.mem_append_left _ (List.mem_of_getElem? h), ho⟩
theorem tb_k1 {w : Cond} (i : Nat) (h : tables_1_1[i]? = some w) (ho : okw w = true) : w ∈ TB := List.mem_filter.mpr ⟨List.mem_append_right _ (List.mem_append_left _ (List.mem_of_getElem? h)), ho⟩
theorem tb_k2 {w : Cond} (i : Nat) (h : tables_1_2[i]? = some w) (ho : okw w = true) : w ∈ TB := List.mem_filter.mpr ⟨List.mem_append_right _ (List.mem_append_right _ (List.mem_append_left _ (List.mem_of_getElem? h))), ho⟩
theorem tb_k3 {w : Cond} (i : Nat) (h : tables_1_3[i]? = some w) (ho : okw w = true) : w ∈ TB := List.mem_filter.mpr ⟨List.mem_append_right _ (List.mem_append_right _ (List.mem_append_right _ (List.mem_append_left _ (List.mem_of_getElem? h)))), ho⟩
theorem tb_k4 {w : Cond} (i : Nat) (h : tables_1_4[i]? = some w) (ho : okw w = true) : w ∈ TB := List.mem_filter.mpr ⟨List.mem_append_right _ (List.mem_append_right _ (List.mem_append_right _ (List.mem_append_right _ (List.mem_append_left _ (List.mem_of_getElem? h))))), ho⟩
theorem tb_k5 {w : Cond} (i : Nat) (h : tables_1_5[i]? = some w) (ho : okw w = true) : w ∈ TB := List.mem_filter.mpr ⟨List.mem_append_right _ (List.mem_append_right _ (List.mem_append_right _ (List.mem_append_right _ (List.mem_append_right _ (List.mem_append_left _ (List.mem_of_getElem? h)))))), ho⟩
theorem tb_k6 {w : Cond} (i : Nat) (h : tables_1_6[i]? = some w) (ho : okw w = true) : w ∈ TB := List.mem_filter.mpr ⟨List.mem_append_right _ (List.mem_append_right _ (List.mem_append_right _ (List.mem_append_right _ (List.mem_append_right _ (List.mem_append_right _ (List.mem_append_left _ (List.mem_of_getElem? h))))))), ho⟩
theorem tb_k7 {w : Cond} (i : Nat) (h : tables_1_7[i]? = some w) (ho : okw w = true) : w ∈ TB := List.mem_filter.mpr ⟨List.mem_append_right _ (List.mem_append_right _ (List.mem_append_right _ (List.mem_append_right _ (List.mem_append_right _ (List.mem_append_right _ (List.mem_append_right _ (List.mem_of_getElem? h))))))), ho⟩
theorem sh0 : shp[0]? = some (.inl (11, [some (some 1), some (some 5), some (some 9), some (some 10), some (some 12), some (some 63), some (some 114), some (some 117), some (some 120), some (some 129), some (some 131)])) := rfl
theorem sh1 : shp[1]? = some (.inl (2, [some (some 2), some (some 3), some (some 4)])) := rfl
theorem sh2 : shp[2]? = some (.inr (0, 128, 0)) := rfl
theorem sh3 : shp[3]? = some (.inr (0, 48, 0)) := rfl
theorem sh4 : shp[4]? = some (.inr (0, 36, 0)) := rfl
theorem sh5 : shp[5]? = some (.inl (5, [some (some 1), some (some 6), some (some 7), some (some 8), none])) := rfl
theorem sh6 : shp[6]? = some (.inr (0, 40, 0)) := rfl
theorem sh7 : shp[7]? = some (.inr (0, 40, 0)) := rfl
theorem sh8 : shp[8]? = some (.inr (0, 40, 0)) := rfl
theorem sh9 : shp[9]? = some (.inl (1, [some (some 1), none, none, none, none, none, none, none, none])) := rfl
theorem sh10 : shp[10]? = some (.inl (6, [some (some 11), none])) := rfl
theorem sh11 : shp[11]? = some (.inr (0, 50, 0)) := rfl
theorem sh114 : shp[114]? = some (.inl (0, [some (some 115), some (some 116), none])) := rfl
theorem sh115 : shp[115]? = some (.inr (0, 8, 0)) := rfl
theorem sh116 : shp[116]? = some (.inr (0, 8, 0)) := rfl
theorem sh117 : shp[117]? = some (.inl (8, [some (some 1), some (some 114), some (some 118), some (some 119), none, none])) := rfl
theorem sh118 : shp[118]? = some (.inr (0, 36, 0)) := rfl
theorem sh119 : shp[119]? = some (.inr (0, 6, 0)) := rfl
theorem sh120 : shp[120]? = some (.inl (9, [some (some 9), some (some 121), some (some 122), some (some 123), some (some 124), some (some 125), none, none, some (some 126), some (some 127), some (some 128)])) := rfl
theorem sh121 : shp[121]? = some (.inr (0, 12, 0)) := rfl
theorem sh122 : shp[122]? = some (.inr (0, 12, 0)) := rfl
theorem sh123 : shp[123]? = some (.inr (0, 12, 0)) := rfl
theorem sh124 : shp[124]? = some (.inr (1, 12, 0)) := rfl
theorem sh125 : shp[125]? = some (.inr (0, 12, 0)) := rfl
theorem sh126 : shp[126]? = some (.inr (0, 160, 0)) := rfl
theorem sh127 : shp[127]? = some (.inr (0, 160, 0)) := rfl
theorem sh128 : shp[128]? = some (.inr (0, 10, 0)) := rfl
theorem sh129 : shp[129]? = some (.inl (7, [some (some 5), some (some 130), none, none, none])) := rfl
theorem sh130 : shp[130]? = some (.inr (0, 128, 0)) := rfl
theorem sh131 : shp[131]? = some (.inl (10, [none])) := rfl
theorem sh132 : shp[132]? = some (.inl (12, [some (some 133), none, some (some 134), some (some 135), some (some 136), some (some 137), some (some 138), none, some (some 139), some (some 140), some (some 141), some (some 142), some (some 143), some (some 144), none, none, none, none, none, none, some (some 145), some (some 146), none, some (some 147), none, some (some 148), none, some (some 149), some (some 150), none, some (some 151), none, none, none, none, some (some 152), some (some 153), some (some 154), some (some 155), some (some 156), some (some 157), none, some none])) := rfl
theorem sh133 : shp[133]? = some (.inr (0, 128, 0)) := rfl
theorem sh134 : shp[134]? = some (.inr (0, 40, 0)) := rfl
theorem sh135 : shp[135]? = some (.inr (0, 40, 0)) := rfl
theorem sh136 : shp[136]? = some (.inr (0, 40, 0)) := rfl
theorem sh137 : shp[137]? = some (.inr (0, 128, 0)) := rfl
theorem sh138 : shp[138]? = some (.inr (0, 50, 0)) := rfl
theorem sh139 : shp[139]? = some (.inr (0, 2, 0)) := rfl
theorem sh140 : shp[140]? = some (.inr (0, 16, 0)) := rfl
theorem sh141 : shp[141]? = some (.inr (0, 16, 0)) := rfl
theorem sh142 : shp[142]? = some (.inr (0, 16, 0)) := rfl
theorem sh143 : shp[143]? = some (.inr (0, 800, 0)) := rfl
theorem sh144 : shp[144]? = some (.inr (0, 800, 0)) := rfl
theorem sh145 : shp[145]? = some (.inr (0, 50, 0)) := rfl
theorem sh146 : shp[146]? = some (.inr (0, 50, 0)) := rfl
theorem sh147 : shp[147]? = some (.inr (0, 50, 0)) := rfl
theorem sh148 : shp[148]? = some (.inr (1, 51, 0)) := rfl
theorem sh149 : shp[149]? = some (.inr (0, 8, 0)) := rfl
theorem sh150 : shp[150]? = some (.inr (0, 8, 0)) := rfl
theorem sh151 : shp[151]? = some (.inr (0, 36, 0)) := rfl
theorem sh152 : shp[152]? = some (.inr (0, 12, 0)) := rfl
theorem sh153 : shp[153]? = some (.inr (0, 12, 0)) := rfl
theorem sh154 : shp[154]? = some (.inr (0, 12, 0)) := rfl
theorem sh155 : shp[155]? = some (.inr (1, 12, 0)) := rfl
theorem sh156 : shp[156]? = some (.inr (0, 12, 0)) := rfl
theorem sh157 : shp[157]? = some (.inr (0, 160, 0)) := rfl
def isHolder (P : Nat) : Prop := P = 12 ∨ P = 63
def isLaw (Q : Nat) : Prop := ∃ P i, isHolder P ∧ i < 8 ∧ Q = P + 3 + 6 * i
theorem sh_H {P : Nat} (hP : isHolder P) : shp[P]? = some (.inl (3, [some (some (P + 1)), some (some (P + 2)), none, none, none])) := by rcases hP with rfl | rfl <;> rfl
theorem sh_H1 {P : Nat} (hP : isHolder P) : shp[P + 1]? = some (.inr (2, 8, P + 3)) := by rcases hP with rfl | rfl <;> rfl
theorem sh_H2 {P : Nat} (hP : isHolder P) : shp[P + 2]? = some (.inr (0, 4, 0)) := by rcases hP with rfl | rfl <;> rfl
theorem sh_L {Q : Nat} (hQ : isLaw Q) : shp[Q]? = some (.inl (4, [none, none, none, none, none, some (some (Q + 1)), some (some (Q + 2)), some (some (Q + 3)), some (some (Q + 4)), some (some (Q + 5))])) := by
  obtain ⟨P, i, hP, hi, rfl⟩ := hQ
  have h8 : i = 0 ∨ i = 1 ∨ i = 2 ∨ i = 3 ∨ i = 4 ∨ i = 5 ∨ i = 6 ∨ i = 7 := by omega
  rcases hP with rfl | rfl <;> rcases h8 with rfl | rfl | rfl | rfl | rfl | rfl | rfl | rfl <;> rfl
theorem sh_L1 {Q : Nat} (hQ : isLaw Q) : shp[Q + 1]? = some (.inr (0, 12, 0)) := by
  obtain ⟨P, i, hP, hi, rfl⟩ := hQ
  have h8 : i = 0 ∨ i = 1 ∨ i = 2 ∨ i = 3 ∨ i = 4 ∨ i = 5 ∨ i = 6 ∨ i = 7 := by omega
  rcases hP with rfl | rfl <;> rcases h8 with rfl | rfl | rfl | rfl | rfl | rfl | rfl | rfl <;> rfl
theorem sh_L2 {Q : Nat} (hQ : isLaw Q) : shp[Q + 2]? = some (.inr (0, 12, 0)) := by
  obtain ⟨P, i, hP, hi, rfl⟩ := hQ
  have h8 : i = 0 ∨ i = 1 ∨ i = 2 ∨ i = 3 ∨ i = 4 ∨ i = 5 ∨ i = 6 ∨ i = 7 := by omega
  rcases hP with rfl | rfl <;> rcases h8 with rfl | rfl | rfl | rfl | rfl | rfl | rfl | rfl <;> rfl
theorem sh_L3 {Q : Nat} (hQ : isLaw Q) : shp[Q + 3]? = some (.inr (0, 12, 0)) := by
  obtain ⟨P, i, hP, hi, rfl⟩ := hQ
  have h8 : i = 0 ∨ i = 1 ∨ i = 2 ∨ i = 3 ∨ i = 4 ∨ i = 5 ∨ i = 6 ∨ i = 7 := by omega
  rcases hP with rfl | rfl <;> rcases h8 with rfl | rfl | rfl | rfl | rfl | rfl | rfl | rfl <;> rfl
theorem sh_L4 {Q : Nat} (hQ : isLaw Q) : shp[Q + 4]? = some (.inr (1, 12, 0)) := by
  obtain ⟨P, i, hP, hi, rfl⟩ := hQ
  have h8 : i = 0 ∨ i = 1 ∨ i = 2 ∨ i = 3 ∨ i = 4 ∨ i = 5 ∨ i = 6 ∨ i = 7 := by omega
  rcases hP with rfl | rfl <;> rcases h8 with rfl | rfl | rfl | rfl | rfl | rfl | rfl | rfl <;> rfl
theorem sh_L5 {Q : Nat} (hQ : isLaw Q) : shp[Q + 5]? = some (.inr (1, 12, 0)) := by
  obtain ⟨P, i, hP, hi, rfl⟩ := hQ
  have h8 : i = 0 ∨ i = 1 ∨ i = 2 ∨ i = 3 ∨ i = 4 ∨ i = 5 ∨ i = 6 ∨ i = 7 := by omega
  rcases hP with rfl | rfl <;> rcases h8 with rfl | rfl | rfl | rfl | rfl | rfl | rfl | rfl <;> rfl
theorem law_ok {P : Nat} {i : Int32} (hP : isHolder P) (hi : inb i 8 = true) : isLaw (P + 3 + 6 * i.toNatClampNeg) := ⟨P, _, hP, inb_lt hi, rfl⟩
def hq (x : Int32) : Nat := if x = 0 then 12 else 63
theorem hq_ok (x : Int32) : isHolder (hq x) := by
  unfold hq
  by_cases h : x = 0
  · rw [if_pos h]; exact Or.inl rfl
  · rw [if_neg h]; exact Or.inr rfl
theorem isH0 : isHolder 12 := Or.inl rfl
theorem isH1 : isHolder 63 := Or.inr rfl
theorem tb_all {ws : List Cond} (is : List Nat) (h : ws = is.filterMap (fun i => lw_tbl[i]?)) (ho : ws.all okw = true) : ∀ w ∈ ws, w ∈ TB := by
  intro w hw
  have h1 := List.all_eq_true.mp ho w hw
  rw [h] at hw
  obtain ⟨i, -, hi⟩ := List.mem_filterMap.mp hw
  exact tb_in i hi h1
set_option maxRecDepth 20000 in
theorem hinX0 : ∀ w ∈ u_ws RX0 TX0 3, w ∈ TB := tb_all [265, 267, 269] (by rfl) (by rfl)
set_option maxRecDepth 20000 in
theorem hinX1 : ∀ w ∈ u_ws RX1 TX1 9, w ∈ TB := tb_all [158, 160, 162, 164, 166, 168, 170, 172, 174] (by rfl) (by rfl)
set_option maxRecDepth 20000 in
theorem hinX2 : ∀ w ∈ u_ws RX2 TX2 3, w ∈ TB := tb_all [104, 106, 108] (by rfl) (by rfl)
set_option maxRecDepth 20000 in
theorem hinX3 : ∀ w ∈ u_ws RX3 TX3 5, w ∈ TB := tb_all [245, 247, 249, 251, 253] (by rfl) (by rfl)
set_option maxRecDepth 20000 in
theorem hinX4 : ∀ w ∈ u_ws RX4 TX4 10, w ∈ TB := tb_all [215, 217, 219, 221, 223, 225, 227, 229, 231, 233] (by rfl) (by rfl)
set_option maxRecDepth 20000 in
theorem hinX5 : ∀ w ∈ u_ws RX5 TX5 5, w ∈ TB := tb_all [123, 125, 127, 129, 131] (by rfl) (by rfl)
set_option maxRecDepth 20000 in
theorem hinX6 : ∀ w ∈ u_ws RX6 TX6 2, w ∈ TB := tb_all [185, 187] (by rfl) (by rfl)
set_option maxRecDepth 20000 in
theorem hinX7 : ∀ w ∈ u_ws RX7 TX7 5, w ∈ TB := tb_all [353, 355, 357, 359, 361] (by rfl) (by rfl)
set_option maxRecDepth 20000 in
theorem hinX8 : ∀ w ∈ u_ws RX8 TX8 6, w ∈ TB := tb_all [286, 288, 290, 292, 294, 296] (by rfl) (by rfl)
set_option maxRecDepth 20000 in
theorem hinX9 : ∀ w ∈ u_ws RX9 TX9 11, w ∈ TB := tb_all [316, 318, 320, 322, 324, 326, 328, 330, 332, 334, 336] (by rfl) (by rfl)
set_option maxRecDepth 20000 in
theorem hinX10 : ∀ w ∈ u_ws RX10 TX10 1, w ∈ TB := tb_all [371] (by rfl) (by rfl)
set_option maxRecDepth 20000 in
theorem hinX11 : ∀ w ∈ u_ws RX11 TX11 11, w ∈ TB := tb_all [385, 387, 389, 391, 393, 395, 397, 399, 401, 403, 405] (by rfl) (by rfl)
set_option maxRecDepth 20000 in
theorem hinX12 : ∀ w ∈ u_ws RX12 TX12 43, w ∈ TB := tb_all [1186, 1188, 1190, 1192, 1194, 1196, 1198, 1200, 1202, 1204, 1206, 1208, 1210, 1212, 1214, 1216, 1218, 1220, 1222, 1224, 1226, 1228, 1230, 1232, 1234, 1236, 1238, 1240, 1242, 1244, 1246, 1248, 1250, 1252, 1254, 1256, 1258, 1260, 1262, 1264, 1266, 1268, 1270] (by rfl) (by rfl)
set_option maxRecDepth 20000 in
theorem ykX0_size : YV yX0_size cX0_size 1 (some .int) 0 := ⟨(tb_k4 96 rfl rfl), (tb_k4 94 rfl rfl), (tb_k4 95 rfl rfl), (tb_k1 9 rfl rfl), ⟨by decide +kernel, by decide +kernel⟩, by decide +kernel⟩
set_option maxRecDepth 20000 in
theorem ykX0_isFull : YV yX0_isFull cX0_isFull 1 (some .boolean) 0 := ⟨(tb_k4 84 rfl rfl), (tb_k4 82 rfl rfl), (tb_k4 83 rfl rfl), (tb_k1 9 rfl rfl), ⟨by decide +kernel, by decide +kernel⟩, by decide +kernel⟩
set_option maxRecDepth 20000 in
theorem ykX0_add : YV yX0_add cX0_add 3 (some .int) 2 := ⟨(tb_k4 88 rfl rfl), (tb_k4 86 rfl rfl), (tb_k4 87 rfl rfl), (tb_k1 9 rfl rfl), ⟨by decide +kernel, by decide +kernel⟩, by decide +kernel⟩
set_option maxRecDepth 20000 in
theorem ykX0_landsOf : YV yX0_landsOf cX0_landsOf 2 (some .int) 1 := ⟨(tb_k4 138 rfl rfl), (tb_k4 136 rfl rfl), (tb_k4 137 rfl rfl), (tb_k1 9 rfl rfl), ⟨by decide +kernel, by decide +kernel⟩, by decide +kernel⟩
set_option maxRecDepth 20000 in
theorem ykX0_ageOf : YV yX0_ageOf cX0_ageOf 2 (some .int) 1 := ⟨(tb_k4 100 rfl rfl), (tb_k4 98 rfl rfl), (tb_k4 99 rfl rfl), (tb_k1 9 rfl rfl), ⟨by decide +kernel, by decide +kernel⟩, by decide +kernel⟩
set_option maxRecDepth 20000 in
theorem ykX0_howManyLands : YV yX0_howManyLands cX0_howManyLands 2 (some .int) 1 := ⟨(tb_k4 104 rfl rfl), (tb_k4 102 rfl rfl), (tb_k4 103 rfl rfl), (tb_k1 9 rfl rfl), ⟨by decide +kernel, by decide +kernel⟩, by decide +kernel⟩
set_option maxRecDepth 20000 in
theorem ykX1_look : YV yX1_look cX1_look 8 none 4 := ⟨(tb_k3 42 rfl rfl), (tb_k3 40 rfl rfl), (tb_k3 41 rfl rfl), (tb_k1 5 rfl rfl), ⟨by decide +kernel, by decide +kernel⟩, by decide +kernel⟩
set_option maxRecDepth 20000 in
theorem ykX1_lookAtRow : YV yX1_lookAtRow cX1_lookAtRow 8 none 2 := ⟨(tb_k3 55 rfl rfl), (tb_k3 54 rfl rfl), (tb_k0 1 rfl rfl), (tb_k1 5 rfl rfl), ⟨by decide +kernel, by decide +kernel⟩, by decide +kernel⟩
set_option maxRecDepth 20000 in
theorem ykX1_price : YV yX1_price cX1_price 1 (some .int) 0 := ⟨(tb_k3 61 rfl rfl), (tb_k3 59 rfl rfl), (tb_k3 60 rfl rfl), (tb_k1 5 rfl rfl), ⟨by decide +kernel, by decide +kernel⟩, by decide +kernel⟩
set_option maxRecDepth 20000 in
theorem ykX1_isCounted : YV yX1_isCounted cX1_isCounted 1 (some .boolean) 0 := ⟨(tb_k3 65 rfl rfl), (tb_k3 63 rfl rfl), (tb_k3 64 rfl rfl), (tb_k1 5 rfl rfl), ⟨by decide +kernel, by decide +kernel⟩, by decide +kernel⟩
set_option maxRecDepth 20000 in
theorem ykX1_survey : YV yX1_survey cX1_survey 5 none 3 := ⟨(tb_k3 73 rfl rfl), (tb_k3 71 rfl rfl), (tb_k3 72 rfl rfl), (tb_k1 5 rfl rfl), ⟨by decide +kernel, by decide +kernel⟩, by decide +kernel⟩
set_option maxRecDepth 20000 in
theorem ykX1_surveyRing : YV yX1_surveyRing cX1_surveyRing 6 none 4 := ⟨(tb_k3 78 rfl rfl), (tb_k3 77 rfl rfl), (tb_k0 2 rfl rfl), (tb_k1 5 rfl rfl), ⟨by decide +kernel, by decide +kernel⟩, by decide +kernel⟩
set_option maxRecDepth 20000 in
theorem ykX1_take : YV yX1_take cX1_take 5 none 3 := ⟨(tb_k3 84 rfl rfl), (tb_k3 83 rfl rfl), (tb_k0 3 rfl rfl), (tb_k1 5 rfl rfl), ⟨by decide +kernel, by decide +kernel⟩, by decide +kernel⟩
set_option maxRecDepth 20000 in
theorem ykX2_ownerOf : YV yX2_ownerOf cX2_ownerOf 2 (some .int) 1 := ⟨(tb_k2 123 rfl rfl), (tb_k2 121 rfl rfl), (tb_k2 122 rfl rfl), (tb_k1 2 rfl rfl), ⟨by decide +kernel, by decide +kernel⟩, by decide +kernel⟩
set_option maxRecDepth 20000 in
theorem ykX2_maskOf : YV yX2_maskOf cX2_maskOf 3 (some .int) 2 := ⟨(tb_k2 151 rfl rfl), (tb_k2 149 rfl rfl), (tb_k2 150 rfl rfl), (tb_k1 2 rfl rfl), ⟨by decide +kernel, by decide +kernel⟩, by decide +kernel⟩
set_option maxRecDepth 20000 in
theorem ykX2_give : YV yX2_give cX2_give 5 none 2 := ⟨(tb_k2 127 rfl rfl), (tb_k2 125 rfl rfl), (tb_k2 126 rfl rfl), (tb_k1 2 rfl rfl), ⟨by decide +kernel, by decide +kernel⟩, by decide +kernel⟩
set_option maxRecDepth 20000 in
theorem ykX2_giveRun : YV yX2_giveRun cX2_giveRun 8 (some .int) 4 := ⟨(tb_k2 135 rfl rfl), (tb_k2 133 rfl rfl), (tb_k2 134 rfl rfl), (tb_k1 2 rfl rfl), ⟨by decide +kernel, by decide +kernel⟩, by decide +kernel⟩
set_option maxRecDepth 20000 in
theorem ykX2_sizeOf : YV yX2_sizeOf cX2_sizeOf 4 (some .int) 1 := ⟨(tb_k2 147 rfl rfl), (tb_k2 145 rfl rfl), (tb_k2 146 rfl rfl), (tb_k1 2 rfl rfl), ⟨by decide +kernel, by decide +kernel⟩, by decide +kernel⟩
set_option maxRecDepth 20000 in
theorem ykX2_sizeOfAll : YV yX2_sizeOfAll cX2_sizeOfAll 3 (some .int) 0 := ⟨(tb_k5 61 rfl rfl), (tb_k5 59 rfl rfl), (tb_k5 60 rfl rfl), (tb_k1 2 rfl rfl), ⟨by decide +kernel, by decide +kernel⟩, by decide +kernel⟩
set_option maxRecDepth 20000 in
theorem ykX2_leastCellOf : YV yX2_leastCellOf cX2_leastCellOf 4 (some .int) 1 := ⟨(tb_k2 161 rfl rfl), (tb_k2 159 rfl rfl), (tb_k2 160 rfl rfl), (tb_k1 2 rfl rfl), ⟨by decide +kernel, by decide +kernel⟩, by decide +kernel⟩
set_option maxRecDepth 20000 in
theorem ykX2_staysInRows : YV yX2_staysInRows cX2_staysInRows 4 (some .boolean) 2 := ⟨(tb_k3 15 rfl rfl), (tb_k3 13 rfl rfl), (tb_k3 14 rfl rfl), (tb_k1 2 rfl rfl), ⟨by decide +kernel, by decide +kernel⟩, by decide +kernel⟩
set_option maxRecDepth 20000 in
theorem ykX2_turned : YS yX2_turned cX2_turned 2 (some .int) 2 := ⟨(tb_k3 50 rfl rfl), (tb_k3 49 rfl rfl), (tb_k1 2 rfl rfl), ⟨by decide +kernel, by decide +kernel⟩, by decide +kernel⟩
set_option maxRecDepth 20000 in
theorem ykX2_apart : YV yX2_apart cX2_apart 4 (some .int) 2 := ⟨(tb_k4 66 rfl rfl), (tb_k4 64 rfl rfl), (tb_k4 65 rfl rfl), (tb_k1 2 rfl rfl), ⟨by decide +kernel, by decide +kernel⟩, by decide +kernel⟩
set_option maxRecDepth 20000 in
theorem ykX2_measure : YV yX2_measure cX2_measure 8 (some .int) 2 := ⟨(tb_k4 72 rfl rfl), (tb_k4 71 rfl rfl), (tb_k0 9 rfl rfl), (tb_k1 2 rfl rfl), ⟨by decide +kernel, by decide +kernel⟩, by decide +kernel⟩
set_option maxRecDepth 20000 in
theorem ykX2_columnsApart : YS yX2_columnsApart cX2_columnsApart 4 (some .int) 2 := ⟨(tb_k4 76 rfl rfl), (tb_k4 75 rfl rfl), (tb_k1 2 rfl rfl), ⟨by decide +kernel, by decide +kernel⟩, by decide +kernel⟩
set_option maxRecDepth 20000 in
theorem ykX2_toldCells : YV yX2_toldCells cX2_toldCells 4 (some .long) 1 := ⟨(tb_k5 76 rfl rfl), (tb_k5 74 rfl rfl), (tb_k5 75 rfl rfl), (tb_k1 2 rfl rfl), ⟨by decide +kernel, by decide +kernel⟩, by decide +kernel⟩
set_option maxRecDepth 20000 in
theorem ykX2_toldDistances : YV yX2_toldDistances cX2_toldDistances 5 (some .long) 1 := ⟨(tb_k5 89 rfl rfl), (tb_k5 87 rfl rfl), (tb_k5 88 rfl rfl), (tb_k1 2 rfl rfl), ⟨by decide +kernel, by decide +kernel⟩, by decide +kernel⟩
set_option maxRecDepth 20000 in
theorem ykX3_size : YV yX3_size cX3_size 1 (some .int) 0 := ⟨(tb_k4 54 rfl rfl), (tb_k4 52 rfl rfl), (tb_k4 53 rfl rfl), (tb_k1 7 rfl rfl), ⟨by decide +kernel, by decide +kernel⟩, by decide +kernel⟩
set_option maxRecDepth 20000 in
theorem ykX3_isFull : YV yX3_isFull cX3_isFull 1 (some .boolean) 0 := ⟨(tb_k4 15 rfl rfl), (tb_k4 13 rfl rfl), (tb_k4 14 rfl rfl), (tb_k1 7 rfl rfl), ⟨by decide +kernel, by decide +kernel⟩, by decide +kernel⟩
set_option maxRecDepth 20000 in
theorem ykX3_read : YV yX3_read cX3_read 2 (some .int) 1 := ⟨(tb_k4 19 rfl rfl), (tb_k4 17 rfl rfl), (tb_k4 18 rfl rfl), (tb_k1 7 rfl rfl), ⟨by decide +kernel, by decide +kernel⟩, by decide +kernel⟩
set_option maxRecDepth 20000 in
theorem ykX3_removeLast : YV yX3_removeLast cX3_removeLast 1 (some .int) 0 := ⟨(tb_k4 58 rfl rfl), (tb_k4 56 rfl rfl), (tb_k4 57 rfl rfl), (tb_k1 7 rfl rfl), ⟨by decide +kernel, by decide +kernel⟩, by decide +kernel⟩
set_option maxRecDepth 20000 in
theorem ykX3_choose : YV yX3_choose cX3_choose 6 none 3 := ⟨(tb_k4 109 rfl rfl), (tb_k4 107 rfl rfl), (tb_k4 108 rfl rfl), (tb_k1 7 rfl rfl), ⟨by decide +kernel, by decide +kernel⟩, by decide +kernel⟩
set_option maxRecDepth 20000 in
theorem ykX4_read : YV yX4_read cX4_read 4 none 1 := ⟨(tb_k4 23 rfl rfl), (tb_k4 21 rfl rfl), (tb_k4 22 rfl rfl), (tb_k1 8 rfl rfl), ⟨by decide +kernel, by decide +kernel⟩, by decide +kernel⟩
set_option maxRecDepth 20000 in
theorem ykX4_take : YV yX4_take cX4_take 3 none 2 := ⟨(tb_k4 36 rfl rfl), (tb_k4 35 rfl rfl), (tb_k0 6 rfl rfl), (tb_k1 8 rfl rfl), ⟨by decide +kernel, by decide +kernel⟩, by decide +kernel⟩
set_option maxRecDepth 20000 in
theorem ykX4_takeAheadOfFactor : YV yX4_takeAheadOfFactor cX4_takeAheadOfFactor 2 none 1 := ⟨(tb_k4 42 rfl rfl), (tb_k4 41 rfl rfl), (tb_k0 7 rfl rfl), (tb_k1 8 rfl rfl), ⟨by decide +kernel, by decide +kernel⟩, by decide +kernel⟩
set_option maxRecDepth 20000 in
theorem ykX4_takeSecondDigit : YV yX4_takeSecondDigit cX4_takeSecondDigit 3 none 1 := ⟨(tb_k4 46 rfl rfl), (tb_k4 45 rfl rfl), (tb_k0 8 rfl rfl), (tb_k1 8 rfl rfl), ⟨by decide +kernel, by decide +kernel⟩, by decide +kernel⟩
set_option maxRecDepth 20000 in
theorem ykX4_holds : YV yX4_holds cX4_holds 6 (some .boolean) 3 := ⟨(tb_k4 114 rfl rfl), (tb_k4 112 rfl rfl), (tb_k4 113 rfl rfl), (tb_k1 8 rfl rfl), ⟨by decide +kernel, by decide +kernel⟩, by decide +kernel⟩
set_option maxRecDepth 20000 in
theorem ykX4_factorHolds : YV yX4_factorHolds cX4_factorHolds 7 (some .boolean) 4 := ⟨(tb_k4 118 rfl rfl), (tb_k4 117 rfl rfl), (tb_k0 10 rfl rfl), (tb_k1 8 rfl rfl), ⟨by decide +kernel, by decide +kernel⟩, by decide +kernel⟩
set_option maxRecDepth 20000 in
theorem ykX5_size : YV yX5_size cX5_size 1 (some .int) 0 := ⟨(tb_k2 194 rfl rfl), (tb_k2 192 rfl rfl), (tb_k2 193 rfl rfl), (tb_k1 4 rfl rfl), ⟨by decide +kernel, by decide +kernel⟩, by decide +kernel⟩
set_option maxRecDepth 20000 in
theorem ykX5_isFull : YV yX5_isFull cX5_isFull 1 (some .boolean) 0 := ⟨(tb_k2 182 rfl rfl), (tb_k2 180 rfl rfl), (tb_k2 181 rfl rfl), (tb_k1 4 rfl rfl), ⟨by decide +kernel, by decide +kernel⟩, by decide +kernel⟩
set_option maxRecDepth 20000 in
theorem ykX5_add : YV yX5_add cX5_add 4 (some .int) 3 := ⟨(tb_k2 186 rfl rfl), (tb_k2 184 rfl rfl), (tb_k2 185 rfl rfl), (tb_k1 4 rfl rfl), ⟨by decide +kernel, by decide +kernel⟩, by decide +kernel⟩
set_option maxRecDepth 20000 in
theorem ykX5_removeLast : YV yX5_removeLast cX5_removeLast 1 (some .int) 0 := ⟨(tb_k2 239 rfl rfl), (tb_k2 237 rfl rfl), (tb_k2 238 rfl rfl), (tb_k1 4 rfl rfl), ⟨by decide +kernel, by decide +kernel⟩, by decide +kernel⟩
set_option maxRecDepth 20000 in
theorem ykX5_kindOf : YV yX5_kindOf cX5_kindOf 2 (some .int) 1 := ⟨(tb_k2 206 rfl rfl), (tb_k2 204 rfl rfl), (tb_k2 205 rfl rfl), (tb_k1 4 rfl rfl), ⟨by decide +kernel, by decide +kernel⟩, by decide +kernel⟩
set_option maxRecDepth 20000 in
theorem ykX5_cellOf : YV yX5_cellOf cX5_cellOf 2 (some .int) 1 := ⟨(tb_k2 210 rfl rfl), (tb_k2 208 rfl rfl), (tb_k2 209 rfl rfl), (tb_k1 4 rfl rfl), ⟨by decide +kernel, by decide +kernel⟩, by decide +kernel⟩
set_option maxRecDepth 20000 in
theorem ykX5_numberOf : YV yX5_numberOf cX5_numberOf 2 (some .int) 1 := ⟨(tb_k2 214 rfl rfl), (tb_k2 212 rfl rfl), (tb_k2 213 rfl rfl), (tb_k1 4 rfl rfl), ⟨by decide +kernel, by decide +kernel⟩, by decide +kernel⟩
set_option maxRecDepth 20000 in
theorem ykX5_weightOf : YV yX5_weightOf cX5_weightOf 2 (some .int) 1 := ⟨(tb_k2 218 rfl rfl), (tb_k2 216 rfl rfl), (tb_k2 217 rfl rfl), (tb_k1 4 rfl rfl), ⟨by decide +kernel, by decide +kernel⟩, by decide +kernel⟩
set_option maxRecDepth 20000 in
theorem ykX5_landOf : YV yX5_landOf cX5_landOf 2 (some .int) 1 := ⟨(tb_k2 173 rfl rfl), (tb_k2 171 rfl rfl), (tb_k2 172 rfl rfl), (tb_k1 4 rfl rfl), ⟨by decide +kernel, by decide +kernel⟩, by decide +kernel⟩
set_option maxRecDepth 20000 in
theorem ykX5_isNeedle : YV yX5_isNeedle cX5_isNeedle 2 (some .boolean) 1 := ⟨(tb_k5 8 rfl rfl), (tb_k5 6 rfl rfl), (tb_k5 7 rfl rfl), (tb_k1 4 rfl rfl), ⟨by decide +kernel, by decide +kernel⟩, by decide +kernel⟩
set_option maxRecDepth 20000 in
theorem ykX5_isOf : YV yX5_isOf cX5_isOf 3 (some .boolean) 2 := ⟨(tb_k2 198 rfl rfl), (tb_k2 196 rfl rfl), (tb_k2 197 rfl rfl), (tb_k1 4 rfl rfl), ⟨by decide +kernel, by decide +kernel⟩, by decide +kernel⟩
set_option maxRecDepth 20000 in
theorem ykX5_anyOn : YV yX5_anyOn cX5_anyOn 3 (some .boolean) 1 := ⟨(tb_k2 119 rfl rfl), (tb_k2 117 rfl rfl), (tb_k2 118 rfl rfl), (tb_k1 4 rfl rfl), ⟨by decide +kernel, by decide +kernel⟩, by decide +kernel⟩
set_option maxRecDepth 20000 in
theorem ykX5_howManyOn : YV yX5_howManyOn cX5_howManyOn 4 (some .int) 1 := ⟨(tb_k2 169 rfl rfl), (tb_k2 167 rfl rfl), (tb_k2 168 rfl rfl), (tb_k1 4 rfl rfl), ⟨by decide +kernel, by decide +kernel⟩, by decide +kernel⟩
set_option maxRecDepth 20000 in
theorem ykX5_leadsInto : YV yX5_leadsInto cX5_leadsInto 3 (some .boolean) 2 := ⟨(tb_k2 228 rfl rfl), (tb_k2 226 rfl rfl), (tb_k2 227 rfl rfl), (tb_k1 4 rfl rfl), ⟨by decide +kernel, by decide +kernel⟩, by decide +kernel⟩
set_option maxRecDepth 20000 in
theorem ykX5_goingOn : YV yX5_goingOn cX5_goingOn 7 (some .int) 4 := ⟨(tb_k3 21 rfl rfl), (tb_k3 19 rfl rfl), (tb_k3 20 rfl rfl), (tb_k1 4 rfl rfl), ⟨by decide +kernel, by decide +kernel⟩, by decide +kernel⟩
set_option maxRecDepth 20000 in
theorem ykX5_goingOnFrom : YV yX5_goingOnFrom cX5_goingOnFrom 7 (some .int) 4 := ⟨(tb_k3 25 rfl rfl), (tb_k3 24 rfl rfl), (tb_k0 0 rfl rfl), (tb_k1 4 rfl rfl), ⟨by decide +kernel, by decide +kernel⟩, by decide +kernel⟩
set_option maxRecDepth 20000 in
theorem ykX5_isNextTo : YS yX5_isNextTo cX5_isNextTo 4 (some .boolean) 4 := ⟨(tb_k3 28 rfl rfl), (tb_k3 27 rfl rfl), (tb_k1 4 rfl rfl), ⟨by decide +kernel, by decide +kernel⟩, by decide +kernel⟩
set_option maxRecDepth 20000 in
theorem ykX5_told : YV yX5_told cX5_told 4 (some .long) 1 := ⟨(tb_k5 84 rfl rfl), (tb_k5 82 rfl rfl), (tb_k5 83 rfl rfl), (tb_k1 4 rfl rfl), ⟨by decide +kernel, by decide +kernel⟩, by decide +kernel⟩
set_option maxRecDepth 20000 in
theorem ykX6_size : YV yX6_size cX6_size 1 (some .int) 0 := ⟨(tb_k4 27 rfl rfl), (tb_k4 25 rfl rfl), (tb_k4 26 rfl rfl), (tb_k1 6 rfl rfl), ⟨by decide +kernel, by decide +kernel⟩, by decide +kernel⟩
set_option maxRecDepth 20000 in
theorem ykX6_letterAt : YV yX6_letterAt cX6_letterAt 2 (some .int) 1 := ⟨(tb_k4 31 rfl rfl), (tb_k4 29 rfl rfl), (tb_k4 30 rfl rfl), (tb_k1 6 rfl rfl), ⟨by decide +kernel, by decide +kernel⟩, by decide +kernel⟩
set_option maxRecDepth 20000 in
theorem ykX6_byteOf : YS yX6_byteOf cX6_byteOf 3 (some .int) 2 := ⟨(tb_k3 110 rfl rfl), (tb_k3 109 rfl rfl), (tb_k1 6 rfl rfl), ⟨by decide +kernel, by decide +kernel⟩, by decide +kernel⟩
set_option maxRecDepth 20000 in
theorem ykX6_isTold : YS yX6_isTold cX6_isTold 5 (some .boolean) 1 := ⟨(tb_k3 107 rfl rfl), (tb_k3 106 rfl rfl), (tb_k1 6 rfl rfl), ⟨by decide +kernel, by decide +kernel⟩, by decide +kernel⟩
set_option maxRecDepth 20000 in
theorem ykX6_howManyIn : YS yX6_howManyIn cX6_howManyIn 4 (some .int) 1 := ⟨(tb_k3 118 rfl rfl), (tb_k3 117 rfl rfl), (tb_k1 6 rfl rfl), ⟨by decide +kernel, by decide +kernel⟩, by decide +kernel⟩
set_option maxRecDepth 20000 in
theorem ykX6_hasRoomFor : YV yX6_hasRoomFor cX6_hasRoomFor 3 (some .boolean) 1 := ⟨(tb_k3 115 rfl rfl), (tb_k3 113 rfl rfl), (tb_k3 114 rfl rfl), (tb_k1 6 rfl rfl), ⟨by decide +kernel, by decide +kernel⟩, by decide +kernel⟩
set_option maxRecDepth 20000 in
theorem ykX6_write : YV yX6_write cX6_write 5 (some .int) 1 := ⟨(tb_k3 122 rfl rfl), (tb_k3 120 rfl rfl), (tb_k3 121 rfl rfl), (tb_k1 6 rfl rfl), ⟨by decide +kernel, by decide +kernel⟩, by decide +kernel⟩
set_option maxRecDepth 20000 in
theorem ykX6_wipe : YV yX6_wipe cX6_wipe 2 (some .int) 0 := ⟨(tb_k3 130 rfl rfl), (tb_k3 128 rfl rfl), (tb_k3 129 rfl rfl), (tb_k1 6 rfl rfl), ⟨by decide +kernel, by decide +kernel⟩, by decide +kernel⟩
set_option maxRecDepth 20000 in
theorem ykX6_faultPlace : YV yX6_faultPlace cX6_faultPlace 3 (some .int) 0 := ⟨(tb_k3 138 rfl rfl), (tb_k3 136 rfl rfl), (tb_k3 137 rfl rfl), (tb_k1 6 rfl rfl), ⟨by decide +kernel, by decide +kernel⟩, by decide +kernel⟩
set_option maxRecDepth 20000 in
theorem ykX6_isLaw : YV yX6_isLaw cX6_isLaw 3 (some .boolean) 0 := ⟨(tb_k4 7 rfl rfl), (tb_k4 5 rfl rfl), (tb_k4 6 rfl rfl), (tb_k1 6 rfl rfl), ⟨by decide +kernel, by decide +kernel⟩, by decide +kernel⟩
set_option maxRecDepth 20000 in
theorem ykX6_next : YS yX6_next cX6_next 2 (some .int) 2 := ⟨(tb_k3 141 rfl rfl), (tb_k3 140 rfl rfl), (tb_k1 6 rfl rfl), ⟨by decide +kernel, by decide +kernel⟩, by decide +kernel⟩
set_option maxRecDepth 20000 in
theorem ykX6_behindNumber : YS yX6_behindNumber cX6_behindNumber 1 (some .int) 1 := ⟨(tb_k3 233 rfl rfl), (tb_k3 232 rfl rfl), (tb_k1 6 rfl rfl), ⟨by decide +kernel, by decide +kernel⟩, by decide +kernel⟩
set_option maxRecDepth 20000 in
theorem ykX6_behindFactor : YS yX6_behindFactor cX6_behindFactor 1 (some .int) 1 := ⟨(tb_k3 238 rfl rfl), (tb_k3 237 rfl rfl), (tb_k1 6 rfl rfl), ⟨by decide +kernel, by decide +kernel⟩, by decide +kernel⟩
set_option maxRecDepth 20000 in
theorem ykX6_isOneOf : YS yX6_isOneOf cX6_isOneOf 2 (some .boolean) 2 := ⟨(tb_k3 145 rfl rfl), (tb_k3 144 rfl rfl), (tb_k1 6 rfl rfl), ⟨by decide +kernel, by decide +kernel⟩, by decide +kernel⟩
set_option maxRecDepth 20000 in
theorem ykX6_isDigit : YS yX6_isDigit cX6_isDigit 1 (some .boolean) 1 := ⟨(tb_k3 230 rfl rfl), (tb_k3 229 rfl rfl), (tb_k1 6 rfl rfl), ⟨by decide +kernel, by decide +kernel⟩, by decide +kernel⟩
set_option maxRecDepth 20000 in
theorem ykX6_told : YV yX6_told cX6_told 4 (some .long) 1 := ⟨(tb_k5 111 rfl rfl), (tb_k5 109 rfl rfl), (tb_k5 110 rfl rfl), (tb_k1 6 rfl rfl), ⟨by decide +kernel, by decide +kernel⟩, by decide +kernel⟩
set_option maxRecDepth 20000 in
theorem ykX7_seek : YV yX7_seek cX7_seek 6 none 3 := ⟨(tb_k5 2 rfl rfl), (tb_k5 0 rfl rfl), (tb_k5 1 rfl rfl), (tb_k1 12 rfl rfl), ⟨by decide +kernel, by decide +kernel⟩, by decide +kernel⟩
set_option maxRecDepth 20000 in
theorem ykX7_ask : YV yX7_ask cX7_ask 6 none 2 := ⟨(tb_k5 13 rfl rfl), (tb_k5 12 rfl rfl), (tb_k0 20 rfl rfl), (tb_k1 12 rfl rfl), ⟨by decide +kernel, by decide +kernel⟩, by decide +kernel⟩
set_option maxRecDepth 20000 in
theorem ykX7_take : YV yX7_take cX7_take 2 none 1 := ⟨(tb_k5 25 rfl rfl), (tb_k5 24 rfl rfl), (tb_k0 21 rfl rfl), (tb_k1 12 rfl rfl), ⟨by decide +kernel, by decide +kernel⟩, by decide +kernel⟩
set_option maxRecDepth 20000 in
theorem ykX8_solve : YV yX8_solve cX8_solve 5 (some .int) 2 := ⟨(tb_k4 126 rfl rfl), (tb_k4 124 rfl rfl), (tb_k4 125 rfl rfl), (tb_k1 10 rfl rfl), ⟨by decide +kernel, by decide +kernel⟩, by decide +kernel⟩
set_option maxRecDepth 20000 in
theorem ykX8_take : YV yX8_take cX8_take 4 none 2 := ⟨(tb_k4 157 rfl rfl), (tb_k4 156 rfl rfl), (tb_k0 15 rfl rfl), (tb_k1 10 rfl rfl), ⟨by decide +kernel, by decide +kernel⟩, by decide +kernel⟩
set_option maxRecDepth 20000 in
theorem ykX8_ask : YV yX8_ask cX8_ask 7 none 2 := ⟨(tb_k4 130 rfl rfl), (tb_k4 129 rfl rfl), (tb_k0 11 rfl rfl), (tb_k1 10 rfl rfl), ⟨by decide +kernel, by decide +kernel⟩, by decide +kernel⟩
set_option maxRecDepth 20000 in
theorem ykX8_priceOfTree : YV yX8_priceOfTree cX8_priceOfTree 6 (some .int) 1 := ⟨(tb_k4 142 rfl rfl), (tb_k4 141 rfl rfl), (tb_k0 12 rfl rfl), (tb_k1 10 rfl rfl), ⟨by decide +kernel, by decide +kernel⟩, by decide +kernel⟩
set_option maxRecDepth 20000 in
theorem ykX8_reachFrom : YV yX8_reachFrom cX8_reachFrom 4 none 1 := ⟨(tb_k4 149 rfl rfl), (tb_k4 148 rfl rfl), (tb_k0 13 rfl rfl), (tb_k1 10 rfl rfl), ⟨by decide +kernel, by decide +kernel⟩, by decide +kernel⟩
set_option maxRecDepth 20000 in
theorem ykX8_nearest : YV yX8_nearest cX8_nearest 5 (some .int) 1 := ⟨(tb_k4 153 rfl rfl), (tb_k4 152 rfl rfl), (tb_k0 14 rfl rfl), (tb_k1 10 rfl rfl), ⟨by decide +kernel, by decide +kernel⟩, by decide +kernel⟩
set_option maxRecDepth 20000 in
theorem ykX8_differenceOf : YV yX8_differenceOf cX8_differenceOf 6 (some .int) 3 := ⟨(tb_k4 165 rfl rfl), (tb_k4 163 rfl rfl), (tb_k4 164 rfl rfl), (tb_k1 10 rfl rfl), ⟨by decide +kernel, by decide +kernel⟩, by decide +kernel⟩
set_option maxRecDepth 20000 in
theorem ykX8_told : YV yX8_told cX8_told 6 (some .long) 3 := ⟨(tb_k5 94 rfl rfl), (tb_k5 92 rfl rfl), (tb_k5 93 rfl rfl), (tb_k1 10 rfl rfl), ⟨by decide +kernel, by decide +kernel⟩, by decide +kernel⟩
set_option maxRecDepth 20000 in
theorem ykX9_size : YV yX9_size cX9_size 1 (some .int) 0 := ⟨(tb_k5 66 rfl rfl), (tb_k5 64 rfl rfl), (tb_k5 65 rfl rfl), (tb_k1 11 rfl rfl), ⟨by decide +kernel, by decide +kernel⟩, by decide +kernel⟩
set_option maxRecDepth 20000 in
theorem ykX9_isFull : YV yX9_isFull cX9_isFull 1 (some .boolean) 0 := ⟨(tb_k4 183 rfl rfl), (tb_k4 181 rfl rfl), (tb_k4 182 rfl rfl), (tb_k1 11 rfl rfl), ⟨by decide +kernel, by decide +kernel⟩, by decide +kernel⟩
set_option maxRecDepth 20000 in
theorem ykX9_changeSpeed : YV yX9_changeSpeed cX9_changeSpeed 3 (some .int) 1 := ⟨(tb_k4 175 rfl rfl), (tb_k4 173 rfl rfl), (tb_k4 174 rfl rfl), (tb_k1 11 rfl rfl), ⟨by decide +kernel, by decide +kernel⟩, by decide +kernel⟩
set_option maxRecDepth 20000 in
theorem ykX9_add : YV yX9_add cX9_add 6 (some .int) 5 := ⟨(tb_k4 187 rfl rfl), (tb_k4 185 rfl rfl), (tb_k4 186 rfl rfl), (tb_k1 11 rfl rfl), ⟨by decide +kernel, by decide +kernel⟩, by decide +kernel⟩
set_option maxRecDepth 20000 in
theorem ykX9_oweAll : YV yX9_oweAll cX9_oweAll 3 none 1 := ⟨(tb_k4 199 rfl rfl), (tb_k4 198 rfl rfl), (tb_k0 16 rfl rfl), (tb_k1 11 rfl rfl), ⟨by decide +kernel, by decide +kernel⟩, by decide +kernel⟩
set_option maxRecDepth 20000 in
theorem ykX9_owe : YV yX9_owe cX9_owe 4 none 1 := ⟨(tb_k4 204 rfl rfl), (tb_k4 203 rfl rfl), (tb_k0 17 rfl rfl), (tb_k1 11 rfl rfl), ⟨by decide +kernel, by decide +kernel⟩, by decide +kernel⟩
set_option maxRecDepth 20000 in
theorem ykX9_tell : YV yX9_tell cX9_tell 5 none 1 := ⟨(tb_k4 195 rfl rfl), (tb_k4 193 rfl rfl), (tb_k4 194 rfl rfl), (tb_k1 11 rfl rfl), ⟨by decide +kernel, by decide +kernel⟩, by decide +kernel⟩
set_option maxRecDepth 20000 in
theorem ykX9_priceVia : YV yX9_priceVia cX9_priceVia 4 (some .int) 3 := ⟨(tb_k4 213 rfl rfl), (tb_k4 212 rfl rfl), (tb_k0 19 rfl rfl), (tb_k1 11 rfl rfl), ⟨by decide +kernel, by decide +kernel⟩, by decide +kernel⟩
set_option maxRecDepth 20000 in
theorem ykX9_bestNext : YV yX9_bestNext cX9_bestNext 8 (some .int) 2 := ⟨(tb_k4 209 rfl rfl), (tb_k4 208 rfl rfl), (tb_k0 18 rfl rfl), (tb_k1 11 rfl rfl), ⟨by decide +kernel, by decide +kernel⟩, by decide +kernel⟩
set_option maxRecDepth 20000 in
theorem ykX9_leastPrice : YV yX9_leastPrice cX9_leastPrice 1 (some .int) 0 := ⟨(tb_k4 218 rfl rfl), (tb_k4 216 rfl rfl), (tb_k4 217 rfl rfl), (tb_k1 11 rfl rfl), ⟨by decide +kernel, by decide +kernel⟩, by decide +kernel⟩
set_option maxRecDepth 20000 in
theorem ykX9_placeAt : YV yX9_placeAt cX9_placeAt 2 (some .int) 1 := ⟨(tb_k4 222 rfl rfl), (tb_k4 220 rfl rfl), (tb_k4 221 rfl rfl), (tb_k1 11 rfl rfl), ⟨by decide +kernel, by decide +kernel⟩, by decide +kernel⟩
set_option maxRecDepth 20000 in
theorem ykX9_figureOf : YS yX9_figureOf cX9_figureOf 3 (some .int) 2 := ⟨(tb_k4 233 rfl rfl), (tb_k4 232 rfl rfl), (tb_k1 11 rfl rfl), ⟨by decide +kernel, by decide +kernel⟩, by decide +kernel⟩
set_option maxRecDepth 20000 in
theorem ykX9_priceOf : YV yX9_priceOf cX9_priceOf 8 (some .int) 2 := ⟨(tb_k4 230 rfl rfl), (tb_k4 228 rfl rfl), (tb_k4 229 rfl rfl), (tb_k1 11 rfl rfl), ⟨by decide +kernel, by decide +kernel⟩, by decide +kernel⟩
set_option maxRecDepth 20000 in
theorem ykX9_told : YV yX9_told cX9_told 4 (some .long) 1 := ⟨(tb_k5 100 rfl rfl), (tb_k5 98 rfl rfl), (tb_k5 99 rfl rfl), (tb_k1 11 rfl rfl), ⟨by decide +kernel, by decide +kernel⟩, by decide +kernel⟩
set_option maxRecDepth 20000 in
theorem ykX10_change : YV yX10_change cX10_change 3 (some .int) 1 := ⟨(tb_k5 34 rfl rfl), (tb_k5 32 rfl rfl), (tb_k5 33 rfl rfl), (tb_k1 13 rfl rfl), ⟨by decide +kernel, by decide +kernel⟩, by decide +kernel⟩
set_option maxRecDepth 20000 in
theorem ykX10_sameAbout : YV yX10_sameAbout cX10_sameAbout 4 (some .int) 1 := ⟨(tb_k5 42 rfl rfl), (tb_k5 40 rfl rfl), (tb_k5 41 rfl rfl), (tb_k1 13 rfl rfl), ⟨by decide +kernel, by decide +kernel⟩, by decide +kernel⟩
set_option maxRecDepth 20000 in
theorem ykX10_bestPlace : YV yX10_bestPlace cX10_bestPlace 6 (some .int) 0 := ⟨(tb_k5 51 rfl rfl), (tb_k5 49 rfl rfl), (tb_k5 50 rfl rfl), (tb_k1 13 rfl rfl), ⟨by decide +kernel, by decide +kernel⟩, by decide +kernel⟩
set_option maxRecDepth 20000 in
theorem ykX10_told : YV yX10_told cX10_told 3 (some .long) 1 := ⟨(tb_k5 105 rfl rfl), (tb_k5 103 rfl rfl), (tb_k5 104 rfl rfl), (tb_k1 13 rfl rfl), ⟨by decide +kernel, by decide +kernel⟩, by decide +kernel⟩
set_option maxRecDepth 20000 in
theorem ykX11_cell : YV yX11_cell cX11_cell 4 (some .int) 2 := ⟨(tb_k2 109 rfl rfl), (tb_k2 107 rfl rfl), (tb_k2 108 rfl rfl), (tb_k1 1 rfl rfl), ⟨by decide +kernel, by decide +kernel⟩, by decide +kernel⟩
set_option maxRecDepth 20000 in
theorem ykX11_run : YV yX11_run cX11_run 5 (some .int) 4 := ⟨(tb_k2 131 rfl rfl), (tb_k2 129 rfl rfl), (tb_k2 130 rfl rfl), (tb_k1 1 rfl rfl), ⟨by decide +kernel, by decide +kernel⟩, by decide +kernel⟩
set_option maxRecDepth 20000 in
theorem ykX11_land : YV yX11_land cX11_land 3 (some .int) 2 := ⟨(tb_k2 143 rfl rfl), (tb_k2 141 rfl rfl), (tb_k2 142 rfl rfl), (tb_k1 1 rfl rfl), ⟨by decide +kernel, by decide +kernel⟩, by decide +kernel⟩
set_option maxRecDepth 20000 in
theorem ykX11_mark : YV yX11_mark cX11_mark 4 (some .int) 3 := ⟨(tb_k2 178 rfl rfl), (tb_k2 176 rfl rfl), (tb_k2 177 rfl rfl), (tb_k1 1 rfl rfl), ⟨by decide +kernel, by decide +kernel⟩, by decide +kernel⟩
set_option maxRecDepth 20000 in
theorem ykX11_as : YV yX11_as cX11_as 3 (some .int) 2 := ⟨(tb_k2 190 rfl rfl), (tb_k2 188 rfl rfl), (tb_k2 189 rfl rfl), (tb_k1 1 rfl rfl), ⟨by decide +kernel, by decide +kernel⟩, by decide +kernel⟩
set_option maxRecDepth 20000 in
theorem ykX11_about : YV yX11_about cX11_about 3 (some .int) 2 := ⟨(tb_k2 202 rfl rfl), (tb_k2 200 rfl rfl), (tb_k2 201 rfl rfl), (tb_k1 1 rfl rfl), ⟨by decide +kernel, by decide +kernel⟩, by decide +kernel⟩
set_option maxRecDepth 20000 in
theorem ykX11_goesOn : YV yX11_goesOn cX11_goesOn 3 (some .int) 2 := ⟨(tb_k2 224 rfl rfl), (tb_k2 222 rfl rfl), (tb_k2 223 rfl rfl), (tb_k1 1 rfl rfl), ⟨by decide +kernel, by decide +kernel⟩, by decide +kernel⟩
set_option maxRecDepth 20000 in
theorem ykX11_drop : YV yX11_drop cX11_drop 1 (some .int) 0 := ⟨(tb_k2 235 rfl rfl), (tb_k2 233 rfl rfl), (tb_k2 234 rfl rfl), (tb_k1 1 rfl rfl), ⟨by decide +kernel, by decide +kernel⟩, by decide +kernel⟩
set_option maxRecDepth 20000 in
theorem ykX11_put : YV yX11_put cX11_put 6 (some .int) 5 := ⟨(tb_k3 3 rfl rfl), (tb_k3 1 rfl rfl), (tb_k3 2 rfl rfl), (tb_k1 1 rfl rfl), ⟨by decide +kernel, by decide +kernel⟩, by decide +kernel⟩
set_option maxRecDepth 20000 in
theorem ykX11_fit : YV yX11_fit cX11_fit 4 (some .int) 3 := ⟨(tb_k3 69 rfl rfl), (tb_k3 67 rfl rfl), (tb_k3 68 rfl rfl), (tb_k1 1 rfl rfl), ⟨by decide +kernel, by decide +kernel⟩, by decide +kernel⟩
set_option maxRecDepth 20000 in
theorem ykX11_chance : YV yX11_chance cX11_chance 6 (some .int) 5 := ⟨(tb_k3 89 rfl rfl), (tb_k3 87 rfl rfl), (tb_k3 88 rfl rfl), (tb_k1 1 rfl rfl), ⟨by decide +kernel, by decide +kernel⟩, by decide +kernel⟩
set_option maxRecDepth 20000 in
theorem ykX11_beside : YV yX11_beside cX11_beside 6 (some .int) 4 := ⟨(tb_k3 96 rfl rfl), (tb_k3 94 rfl rfl), (tb_k3 95 rfl rfl), (tb_k1 1 rfl rfl), ⟨by decide +kernel, by decide +kernel⟩, by decide +kernel⟩
set_option maxRecDepth 20000 in
theorem ykX11_asGreat : YV yX11_asGreat cX11_asGreat 6 (some .int) 5 := ⟨(tb_k3 100 rfl rfl), (tb_k3 99 rfl rfl), (tb_k0 4 rfl rfl), (tb_k1 1 rfl rfl), ⟨by decide +kernel, by decide +kernel⟩, by decide +kernel⟩
set_option maxRecDepth 20000 in
theorem ykX11_letters : YV yX11_letters cX11_letters 3 (some .int) 1 := ⟨(tb_k3 104 rfl rfl), (tb_k3 102 rfl rfl), (tb_k3 103 rfl rfl), (tb_k1 1 rfl rfl), ⟨by decide +kernel, by decide +kernel⟩, by decide +kernel⟩
set_option maxRecDepth 20000 in
theorem ykX11_blank : YV yX11_blank cX11_blank 1 (some .int) 0 := ⟨(tb_k3 126 rfl rfl), (tb_k3 124 rfl rfl), (tb_k3 125 rfl rfl), (tb_k1 1 rfl rfl), ⟨by decide +kernel, by decide +kernel⟩, by decide +kernel⟩
set_option maxRecDepth 20000 in
theorem ykX11_fault : YV yX11_fault cX11_fault 1 (some .int) 0 := ⟨(tb_k3 134 rfl rfl), (tb_k3 132 rfl rfl), (tb_k3 133 rfl rfl), (tb_k1 1 rfl rfl), ⟨by decide +kernel, by decide +kernel⟩, by decide +kernel⟩
set_option maxRecDepth 20000 in
theorem ykX11_law : YV yX11_law cX11_law 4 (some .int) 1 := ⟨(tb_k4 3 rfl rfl), (tb_k4 1 rfl rfl), (tb_k4 2 rfl rfl), (tb_k1 1 rfl rfl), ⟨by decide +kernel, by decide +kernel⟩, by decide +kernel⟩
set_option maxRecDepth 20000 in
theorem ykX11_strike : YV yX11_strike cX11_strike 3 (some .int) 1 := ⟨(tb_k4 50 rfl rfl), (tb_k4 48 rfl rfl), (tb_k4 49 rfl rfl), (tb_k1 1 rfl rfl), ⟨by decide +kernel, by decide +kernel⟩, by decide +kernel⟩
set_option maxRecDepth 20000 in
theorem ykX11_distance : YV yX11_distance cX11_distance 3 (some .int) 2 := ⟨(tb_k4 62 rfl rfl), (tb_k4 60 rfl rfl), (tb_k4 61 rfl rfl), (tb_k1 1 rfl rfl), ⟨by decide +kernel, by decide +kernel⟩, by decide +kernel⟩
set_option maxRecDepth 20000 in
theorem ykX11_beast : YV yX11_beast cX11_beast 3 (some .int) 2 := ⟨(tb_k4 80 rfl rfl), (tb_k4 78 rfl rfl), (tb_k4 79 rfl rfl), (tb_k1 1 rfl rfl), ⟨by decide +kernel, by decide +kernel⟩, by decide +kernel⟩
set_option maxRecDepth 20000 in
theorem ykX11_crossing : YV yX11_crossing cX11_crossing 7 (some .int) 5 := ⟨(tb_k4 92 rfl rfl), (tb_k4 90 rfl rfl), (tb_k4 91 rfl rfl), (tb_k1 1 rfl rfl), ⟨by decide +kernel, by decide +kernel⟩, by decide +kernel⟩
set_option maxRecDepth 20000 in
theorem ykX11_spread : YV yX11_spread cX11_spread 4 (some .int) 3 := ⟨(tb_k4 122 rfl rfl), (tb_k4 120 rfl rfl), (tb_k4 121 rfl rfl), (tb_k1 1 rfl rfl), ⟨by decide +kernel, by decide +kernel⟩, by decide +kernel⟩
set_option maxRecDepth 20000 in
theorem ykX11_unlike : YV yX11_unlike cX11_unlike 7 (some .int) 1 := ⟨(tb_k4 161 rfl rfl), (tb_k4 159 rfl rfl), (tb_k4 160 rfl rfl), (tb_k1 1 rfl rfl), ⟨by decide +kernel, by decide +kernel⟩, by decide +kernel⟩
set_option maxRecDepth 20000 in
theorem ykX11_holderOf : YV yX11_holderOf cX11_holderOf 2 (some (.object "EdgesFit$Holder")) 1 := ⟨(tb_k4 11 rfl rfl), (tb_k4 10 rfl rfl), (tb_k0 5 rfl rfl), (tb_k1 1 rfl rfl), ⟨by decide +kernel, by decide +kernel⟩, by decide +kernel⟩
set_option maxRecDepth 20000 in
theorem ykX11_speed : YV yX11_speed cX11_speed 2 (some .int) 1 := ⟨(tb_k4 171 rfl rfl), (tb_k4 169 rfl rfl), (tb_k4 170 rfl rfl), (tb_k1 1 rfl rfl), ⟨by decide +kernel, by decide +kernel⟩, by decide +kernel⟩
set_option maxRecDepth 20000 in
theorem ykX11_claim : YV yX11_claim cX11_claim 6 (some .int) 5 := ⟨(tb_k4 179 rfl rfl), (tb_k4 177 rfl rfl), (tb_k4 178 rfl rfl), (tb_k1 1 rfl rfl), ⟨by decide +kernel, by decide +kernel⟩, by decide +kernel⟩
set_option maxRecDepth 20000 in
theorem ykX11_story : YV yX11_story cX11_story 3 (some .int) 2 := ⟨(tb_k4 191 rfl rfl), (tb_k4 189 rfl rfl), (tb_k4 190 rfl rfl), (tb_k1 1 rfl rfl), ⟨by decide +kernel, by decide +kernel⟩, by decide +kernel⟩
set_option maxRecDepth 20000 in
theorem ykX11_judge : YV yX11_judge cX11_judge 4 (some .int) 2 := ⟨(tb_k4 226 rfl rfl), (tb_k4 224 rfl rfl), (tb_k4 225 rfl rfl), (tb_k1 1 rfl rfl), ⟨by decide +kernel, by decide +kernel⟩, by decide +kernel⟩
set_option maxRecDepth 20000 in
theorem ykX11_pole : YV yX11_pole cX11_pole 5 (some .int) 4 := ⟨(tb_k4 238 rfl rfl), (tb_k4 236 rfl rfl), (tb_k4 237 rfl rfl), (tb_k1 1 rfl rfl), ⟨by decide +kernel, by decide +kernel⟩, by decide +kernel⟩
set_option maxRecDepth 20000 in
theorem ykX11_floor : YV yX11_floor cX11_floor 2 (some .int) 1 := ⟨(tb_k5 29 rfl rfl), (tb_k5 27 rfl rfl), (tb_k5 28 rfl rfl), (tb_k1 1 rfl rfl), ⟨by decide +kernel, by decide +kernel⟩, by decide +kernel⟩
set_option maxRecDepth 20000 in
theorem ykX11_mirror : YV yX11_mirror cX11_mirror 2 (some .int) 1 := ⟨(tb_k5 38 rfl rfl), (tb_k5 36 rfl rfl), (tb_k5 37 rfl rfl), (tb_k1 1 rfl rfl), ⟨by decide +kernel, by decide +kernel⟩, by decide +kernel⟩
set_option maxRecDepth 20000 in
theorem ykX11_ridge : YV yX11_ridge cX11_ridge 1 (some .int) 0 := ⟨(tb_k5 47 rfl rfl), (tb_k5 45 rfl rfl), (tb_k5 46 rfl rfl), (tb_k1 1 rfl rfl), ⟨by decide +kernel, by decide +kernel⟩, by decide +kernel⟩
set_option maxRecDepth 20000 in
theorem ykX11_count : YV yX11_count cX11_count 2 (some .int) 1 := ⟨(tb_k5 57 rfl rfl), (tb_k5 55 rfl rfl), (tb_k5 56 rfl rfl), (tb_k1 1 rfl rfl), ⟨by decide +kernel, by decide +kernel⟩, by decide +kernel⟩
set_option maxRecDepth 20000 in
theorem ykX11_digest : YV yX11_digest cX11_digest 4 (some .long) 0 := ⟨(tb_k5 71 rfl rfl), (tb_k5 69 rfl rfl), (tb_k5 70 rfl rfl), (tb_k1 1 rfl rfl), ⟨by decide +kernel, by decide +kernel⟩, by decide +kernel⟩
set_option maxRecDepth 20000 in
theorem ykX11_then : YS yX11_then cX11_then 4 (some .long) 2 := ⟨(tb_k5 79 rfl rfl), (tb_k5 78 rfl rfl), (tb_k1 1 rfl rfl), ⟨by decide +kernel, by decide +kernel⟩, by decide +kernel⟩
set_option maxRecDepth 20000 in
theorem ykX11_within : YS yX11_within cX11_within 2 (some .boolean) 2 := ⟨(tb_k2 115 rfl rfl), (tb_k2 114 rfl rfl), (tb_k1 1 rfl rfl), ⟨by decide +kernel, by decide +kernel⟩, by decide +kernel⟩
set_option maxRecDepth 20000 in
theorem ykX11_isLand : YS yX11_isLand cX11_isLand 1 (some .boolean) 1 := ⟨(tb_k2 112 rfl rfl), (tb_k2 111 rfl rfl), (tb_k1 1 rfl rfl), ⟨by decide +kernel, by decide +kernel⟩, by decide +kernel⟩
set_option maxRecDepth 20000 in
theorem ykX11_areTwoLands : YS yX11_areTwoLands cX11_areTwoLands 2 (some .boolean) 2 := ⟨(tb_k3 6 rfl rfl), (tb_k3 5 rfl rfl), (tb_k1 1 rfl rfl), ⟨by decide +kernel, by decide +kernel⟩, by decide +kernel⟩
set_option maxRecDepth 20000 in
theorem ykX11_isPlace : YS yX11_isPlace cX11_isPlace 2 (some .boolean) 2 := ⟨(tb_k3 10 rfl rfl), (tb_k3 9 rfl rfl), (tb_k1 1 rfl rfl), ⟨by decide +kernel, by decide +kernel⟩, by decide +kernel⟩
set_option maxRecDepth 20000 in
theorem ykX11_eastOf : YS yX11_eastOf cX11_eastOf 2 (some .int) 2 := ⟨(tb_k2 138 rfl rfl), (tb_k2 137 rfl rfl), (tb_k1 1 rfl rfl), ⟨by decide +kernel, by decide +kernel⟩, by decide +kernel⟩
set_option maxRecDepth 20000 in
theorem ykX11_ringDistance : YS yX11_ringDistance cX11_ringDistance 3 (some .int) 2 := ⟨(tb_k3 32 rfl rfl), (tb_k3 31 rfl rfl), (tb_k1 1 rfl rfl), ⟨by decide +kernel, by decide +kernel⟩, by decide +kernel⟩
set_option maxRecDepth 20000 in
theorem ykX11_stepsBetween : YS yX11_stepsBetween cX11_stepsBetween 2 (some .int) 2 := ⟨(tb_k5 18 rfl rfl), (tb_k5 17 rfl rfl), (tb_k1 1 rfl rfl), ⟨by decide +kernel, by decide +kernel⟩, by decide +kernel⟩
set_option maxRecDepth 20000 in
theorem ykX11_reduced : YS yX11_reduced cX11_reduced 3 (some .int) 2 := ⟨(tb_k3 92 rfl rfl), (tb_k3 91 rfl rfl), (tb_k1 1 rfl rfl), ⟨by decide +kernel, by decide +kernel⟩, by decide +kernel⟩
set_option maxRecDepth 20000 in
theorem ykX12_in : YS yX12_in cX12_in 6 (some .boolean) 3 := ⟨(tb_k6 21 rfl rfl), (tb_k6 20 rfl rfl), (tb_k1 14 rfl rfl), ⟨by decide +kernel, by decide +kernel⟩, by decide +kernel⟩
set_option maxRecDepth 20000 in
theorem ykX12_off : YS yX12_off cX12_off 2 (some .int) 2 := ⟨(tb_k6 85 rfl rfl), (tb_k6 84 rfl rfl), (tb_k1 14 rfl rfl), ⟨by decide +kernel, by decide +kernel⟩, by decide +kernel⟩
set_option maxRecDepth 20000 in
theorem ykX12_bitsOf : YS yX12_bitsOf cX12_bitsOf 3 (some .int) 1 := ⟨(tb_k7 9 rfl rfl), (tb_k7 8 rfl rfl), (tb_k1 14 rfl rfl), ⟨by decide +kernel, by decide +kernel⟩, by decide +kernel⟩
set_option maxRecDepth 20000 in
theorem ykX12_isLand : YS yX12_isLand cX12_isLand 1 (some .boolean) 1 := ⟨(tb_k6 17 rfl rfl), (tb_k6 16 rfl rfl), (tb_k1 14 rfl rfl), ⟨by decide +kernel, by decide +kernel⟩, by decide +kernel⟩
set_option maxRecDepth 20000 in
theorem ykX12_isCell : YS yX12_isCell cX12_isCell 1 (some .boolean) 1 := ⟨(tb_k6 24 rfl rfl), (tb_k6 23 rfl rfl), (tb_k1 14 rfl rfl), ⟨by decide +kernel, by decide +kernel⟩, by decide +kernel⟩
set_option maxRecDepth 20000 in
theorem ykX12_marksOn : YV yX12_marksOn cX12_marksOn 4 (some .int) 1 := ⟨(tb_k6 29 rfl rfl), (tb_k6 28 rfl rfl), (tb_k0 22 rfl rfl), (tb_k1 14 rfl rfl), ⟨by decide +kernel, by decide +kernel⟩, by decide +kernel⟩
set_option maxRecDepth 20000 in
theorem ykX12_cell : YV yX12_cell cX12_cell 4 (some .int) 2 := ⟨(tb_k6 14 rfl rfl), (tb_k6 12 rfl rfl), (tb_k6 13 rfl rfl), (tb_k1 14 rfl rfl), ⟨by decide +kernel, by decide +kernel⟩, by decide +kernel⟩
set_option maxRecDepth 20000 in
theorem ykX12_run : YV yX12_run cX12_run 8 (some .int) 4 := ⟨(tb_k6 33 rfl rfl), (tb_k6 31 rfl rfl), (tb_k6 32 rfl rfl), (tb_k1 14 rfl rfl), ⟨by decide +kernel, by decide +kernel⟩, by decide +kernel⟩
set_option maxRecDepth 20000 in
theorem ykX12_cellsOf : YV yX12_cellsOf cX12_cellsOf 4 (some .int) 1 := ⟨(tb_k6 45 rfl rfl), (tb_k6 44 rfl rfl), (tb_k0 23 rfl rfl), (tb_k1 14 rfl rfl), ⟨by decide +kernel, by decide +kernel⟩, by decide +kernel⟩
set_option maxRecDepth 20000 in
theorem ykX12_leastCell : YV yX12_leastCell cX12_leastCell 3 (some .int) 1 := ⟨(tb_k6 49 rfl rfl), (tb_k6 48 rfl rfl), (tb_k0 24 rfl rfl), (tb_k1 14 rfl rfl), ⟨by decide +kernel, by decide +kernel⟩, by decide +kernel⟩
set_option maxRecDepth 20000 in
theorem ykX12_marksOf : YV yX12_marksOf cX12_marksOf 4 (some .int) 1 := ⟨(tb_k6 53 rfl rfl), (tb_k6 52 rfl rfl), (tb_k0 25 rfl rfl), (tb_k1 14 rfl rfl), ⟨by decide +kernel, by decide +kernel⟩, by decide +kernel⟩
set_option maxRecDepth 20000 in
theorem ykX12_land : YV yX12_land cX12_land 3 (some .int) 2 := ⟨(tb_k6 40 rfl rfl), (tb_k6 38 rfl rfl), (tb_k6 39 rfl rfl), (tb_k1 14 rfl rfl), ⟨by decide +kernel, by decide +kernel⟩, by decide +kernel⟩
set_option maxRecDepth 20000 in
theorem ykX12_mark : YV yX12_mark cX12_mark 4 (some .int) 3 := ⟨(tb_k6 57 rfl rfl), (tb_k6 55 rfl rfl), (tb_k6 56 rfl rfl), (tb_k1 14 rfl rfl), ⟨by decide +kernel, by decide +kernel⟩, by decide +kernel⟩
set_option maxRecDepth 20000 in
theorem ykX12_isMark : YV yX12_isMark cX12_isMark 2 (some .boolean) 1 := ⟨(tb_k6 65 rfl rfl), (tb_k6 64 rfl rfl), (tb_k0 26 rfl rfl), (tb_k1 14 rfl rfl), ⟨by decide +kernel, by decide +kernel⟩, by decide +kernel⟩
set_option maxRecDepth 20000 in
theorem ykX12_as : YV yX12_as cX12_as 4 (some .int) 2 := ⟨(tb_k6 61 rfl rfl), (tb_k6 59 rfl rfl), (tb_k6 60 rfl rfl), (tb_k1 14 rfl rfl), ⟨by decide +kernel, by decide +kernel⟩, by decide +kernel⟩
set_option maxRecDepth 20000 in
theorem ykX12_weight : YV yX12_weight cX12_weight 2 (some .int) 1 := ⟨(tb_k6 74 rfl rfl), (tb_k6 73 rfl rfl), (tb_k0 27 rfl rfl), (tb_k1 14 rfl rfl), ⟨by decide +kernel, by decide +kernel⟩, by decide +kernel⟩
set_option maxRecDepth 20000 in
theorem ykX12_about : YV yX12_about cX12_about 3 (some .int) 2 := ⟨(tb_k6 69 rfl rfl), (tb_k6 67 rfl rfl), (tb_k6 68 rfl rfl), (tb_k1 14 rfl rfl), ⟨by decide +kernel, by decide +kernel⟩, by decide +kernel⟩
set_option maxRecDepth 20000 in
theorem ykX12_goes : YV yX12_goes cX12_goes 4 (some .boolean) 2 := ⟨(tb_k6 82 rfl rfl), (tb_k6 81 rfl rfl), (tb_k0 28 rfl rfl), (tb_k1 14 rfl rfl), ⟨by decide +kernel, by decide +kernel⟩, by decide +kernel⟩
set_option maxRecDepth 20000 in
theorem ykX12_goesOn : YV yX12_goesOn cX12_goesOn 3 (some .int) 2 := ⟨(tb_k6 78 rfl rfl), (tb_k6 76 rfl rfl), (tb_k6 77 rfl rfl), (tb_k1 14 rfl rfl), ⟨by decide +kernel, by decide +kernel⟩, by decide +kernel⟩
set_option maxRecDepth 20000 in
theorem ykX12_drop : YV yX12_drop cX12_drop 1 (some .int) 0 := ⟨(tb_k6 89 rfl rfl), (tb_k6 87 rfl rfl), (tb_k6 88 rfl rfl), (tb_k1 14 rfl rfl), ⟨by decide +kernel, by decide +kernel⟩, by decide +kernel⟩
set_option maxRecDepth 20000 in
theorem ykX12_lay : YV yX12_lay cX12_lay 8 (some .boolean) 4 := ⟨(tb_k6 110 rfl rfl), (tb_k6 109 rfl rfl), (tb_k0 30 rfl rfl), (tb_k1 14 rfl rfl), ⟨by decide +kernel, by decide +kernel⟩, by decide +kernel⟩
set_option maxRecDepth 20000 in
theorem ykX12_east : YS yX12_east cX12_east 2 (some .int) 2 := ⟨(tb_k6 117 rfl rfl), (tb_k6 116 rfl rfl), (tb_k1 14 rfl rfl), ⟨by decide +kernel, by decide +kernel⟩, by decide +kernel⟩
set_option maxRecDepth 20000 in
theorem ykX12_overlap : YV yX12_overlap cX12_overlap 3 (some .int) 0 := ⟨(tb_k6 121 rfl rfl), (tb_k6 120 rfl rfl), (tb_k0 32 rfl rfl), (tb_k1 14 rfl rfl), ⟨by decide +kernel, by decide +kernel⟩, by decide +kernel⟩
set_option maxRecDepth 20000 in
theorem ykX12_touch : YV yX12_touch cX12_touch 3 (some .int) 0 := ⟨(tb_k6 114 rfl rfl), (tb_k6 113 rfl rfl), (tb_k0 31 rfl rfl), (tb_k1 14 rfl rfl), ⟨by decide +kernel, by decide +kernel⟩, by decide +kernel⟩
set_option maxRecDepth 20000 in
theorem ykX12_gapBehind : YV yX12_gapBehind cX12_gapBehind 5 (some .int) 1 := ⟨(tb_k6 130 rfl rfl), (tb_k6 129 rfl rfl), (tb_k0 34 rfl rfl), (tb_k1 14 rfl rfl), ⟨by decide +kernel, by decide +kernel⟩, by decide +kernel⟩
set_option maxRecDepth 20000 in
theorem ykX12_gap : YV yX12_gap cX12_gap 3 (some .int) 0 := ⟨(tb_k6 126 rfl rfl), (tb_k6 125 rfl rfl), (tb_k0 33 rfl rfl), (tb_k1 14 rfl rfl), ⟨by decide +kernel, by decide +kernel⟩, by decide +kernel⟩
set_option maxRecDepth 20000 in
theorem ykX12_cost : YV yX12_cost cX12_cost 1 (some .int) 0 := ⟨(tb_k6 134 rfl rfl), (tb_k6 133 rfl rfl), (tb_k0 35 rfl rfl), (tb_k1 14 rfl rfl), ⟨by decide +kernel, by decide +kernel⟩, by decide +kernel⟩
set_option maxRecDepth 20000 in
theorem ykX12_isCounted : YV yX12_isCounted cX12_isCounted 5 (some .boolean) 4 := ⟨(tb_k6 106 rfl rfl), (tb_k6 105 rfl rfl), (tb_k0 29 rfl rfl), (tb_k1 14 rfl rfl), ⟨by decide +kernel, by decide +kernel⟩, by decide +kernel⟩
set_option maxRecDepth 20000 in
theorem ykX12_onOf : YV yX12_onOf cX12_onOf 12 (some .int) 4 := ⟨(tb_k6 138 rfl rfl), (tb_k6 137 rfl rfl), (tb_k0 36 rfl rfl), (tb_k1 14 rfl rfl), ⟨by decide +kernel, by decide +kernel⟩, by decide +kernel⟩
set_option maxRecDepth 20000 in
theorem ykX12_isPair : YS yX12_isPair cX12_isPair 2 (some .boolean) 2 := ⟨(tb_k6 96 rfl rfl), (tb_k6 95 rfl rfl), (tb_k1 14 rfl rfl), ⟨by decide +kernel, by decide +kernel⟩, by decide +kernel⟩
set_option maxRecDepth 20000 in
theorem ykX12_isPlace : YS yX12_isPlace cX12_isPlace 2 (some .boolean) 2 := ⟨(tb_k6 100 rfl rfl), (tb_k6 99 rfl rfl), (tb_k1 14 rfl rfl), ⟨by decide +kernel, by decide +kernel⟩, by decide +kernel⟩
set_option maxRecDepth 20000 in
theorem ykX12_put : YV yX12_put cX12_put 6 (some .int) 5 := ⟨(tb_k6 93 rfl rfl), (tb_k6 91 rfl rfl), (tb_k6 92 rfl rfl), (tb_k1 14 rfl rfl), ⟨by decide +kernel, by decide +kernel⟩, by decide +kernel⟩
set_option maxRecDepth 20000 in
theorem ykX12_fit : YV yX12_fit cX12_fit 11 (some .int) 3 := ⟨(tb_k6 142 rfl rfl), (tb_k6 140 rfl rfl), (tb_k6 141 rfl rfl), (tb_k1 14 rfl rfl), ⟨by decide +kernel, by decide +kernel⟩, by decide +kernel⟩
set_option maxRecDepth 20000 in
theorem ykX12_common : YS yX12_common cX12_common 5 (some .int) 2 := ⟨(tb_k6 149 rfl rfl), (tb_k6 148 rfl rfl), (tb_k1 14 rfl rfl), ⟨by decide +kernel, by decide +kernel⟩, by decide +kernel⟩
set_option maxRecDepth 20000 in
theorem ykX12_chance : YV yX12_chance cX12_chance 12 (some .int) 5 := ⟨(tb_k6 146 rfl rfl), (tb_k6 144 rfl rfl), (tb_k6 145 rfl rfl), (tb_k1 14 rfl rfl), ⟨by decide +kernel, by decide +kernel⟩, by decide +kernel⟩
set_option maxRecDepth 20000 in
theorem ykX12_asGreat : YV yX12_asGreat cX12_asGreat 7 (some .int) 5 := ⟨(tb_k6 157 rfl rfl), (tb_k6 156 rfl rfl), (tb_k0 37 rfl rfl), (tb_k1 14 rfl rfl), ⟨by decide +kernel, by decide +kernel⟩, by decide +kernel⟩
set_option maxRecDepth 20000 in
theorem ykX12_beside : YV yX12_beside cX12_beside 6 (some .int) 4 := ⟨(tb_k6 153 rfl rfl), (tb_k6 151 rfl rfl), (tb_k6 152 rfl rfl), (tb_k1 14 rfl rfl), ⟨by decide +kernel, by decide +kernel⟩, by decide +kernel⟩
set_option maxRecDepth 20000 in
theorem ykX12_letters : YV yX12_letters cX12_letters 9 (some .int) 1 := ⟨(tb_k6 161 rfl rfl), (tb_k6 159 rfl rfl), (tb_k6 160 rfl rfl), (tb_k1 14 rfl rfl), ⟨by decide +kernel, by decide +kernel⟩, by decide +kernel⟩
set_option maxRecDepth 20000 in
theorem ykX12_blank : YV yX12_blank cX12_blank 2 (some .int) 0 := ⟨(tb_k6 166 rfl rfl), (tb_k6 164 rfl rfl), (tb_k6 165 rfl rfl), (tb_k1 14 rfl rfl), ⟨by decide +kernel, by decide +kernel⟩, by decide +kernel⟩
set_option maxRecDepth 20000 in
theorem ykX12_wayOf : YS yX12_wayOf cX12_wayOf 1 (some .int) 1 := ⟨(tb_k6 183 rfl rfl), (tb_k6 182 rfl rfl), (tb_k1 14 rfl rfl), ⟨by decide +kernel, by decide +kernel⟩, by decide +kernel⟩
set_option maxRecDepth 20000 in
theorem ykX12_letterOf : YS yX12_letterOf cX12_letterOf 1 (some .int) 1 := ⟨(tb_k6 186 rfl rfl), (tb_k6 185 rfl rfl), (tb_k1 14 rfl rfl), ⟨by decide +kernel, by decide +kernel⟩, by decide +kernel⟩
set_option maxRecDepth 20000 in
theorem ykX12_layMark : YV yX12_layMark cX12_layMark 3 none 2 := ⟨(tb_k6 194 rfl rfl), (tb_k6 193 rfl rfl), (tb_k0 41 rfl rfl), (tb_k1 14 rfl rfl), ⟨by decide +kernel, by decide +kernel⟩, by decide +kernel⟩
set_option maxRecDepth 20000 in
theorem ykX12_layDown : YV yX12_layDown cX12_layDown 2 none 1 := ⟨(tb_k6 202 rfl rfl), (tb_k6 201 rfl rfl), (tb_k0 43 rfl rfl), (tb_k1 14 rfl rfl), ⟨by decide +kernel, by decide +kernel⟩, by decide +kernel⟩
set_option maxRecDepth 20000 in
theorem ykX12_endNumber : YV yX12_endNumber cX12_endNumber 1 none 0 := ⟨(tb_k6 190 rfl rfl), (tb_k6 189 rfl rfl), (tb_k0 40 rfl rfl), (tb_k1 14 rfl rfl), ⟨by decide +kernel, by decide +kernel⟩, by decide +kernel⟩
set_option maxRecDepth 20000 in
theorem ykX12_goBehind : YV yX12_goBehind cX12_goBehind 2 (some .boolean) 1 := ⟨(tb_k6 198 rfl rfl), (tb_k6 197 rfl rfl), (tb_k0 42 rfl rfl), (tb_k1 14 rfl rfl), ⟨by decide +kernel, by decide +kernel⟩, by decide +kernel⟩
set_option maxRecDepth 20000 in
theorem ykX12_go : YV yX12_go cX12_go 3 (some .boolean) 1 := ⟨(tb_k6 178 rfl rfl), (tb_k6 177 rfl rfl), (tb_k0 39 rfl rfl), (tb_k1 14 rfl rfl), ⟨by decide +kernel, by decide +kernel⟩, by decide +kernel⟩
set_option maxRecDepth 20000 in
theorem ykX12_faultOf : YV yX12_faultOf cX12_faultOf 2 (some .int) 0 := ⟨(tb_k6 174 rfl rfl), (tb_k6 173 rfl rfl), (tb_k0 38 rfl rfl), (tb_k1 14 rfl rfl), ⟨by decide +kernel, by decide +kernel⟩, by decide +kernel⟩
set_option maxRecDepth 20000 in
theorem ykX12_fault : YV yX12_fault cX12_fault 1 (some .int) 0 := ⟨(tb_k6 170 rfl rfl), (tb_k6 168 rfl rfl), (tb_k6 169 rfl rfl), (tb_k1 14 rfl rfl), ⟨by decide +kernel, by decide +kernel⟩, by decide +kernel⟩
set_option maxRecDepth 20000 in
theorem ykX12_isHolder : YS yX12_isHolder cX12_isHolder 1 (some .boolean) 1 := ⟨(tb_k6 209 rfl rfl), (tb_k6 208 rfl rfl), (tb_k1 14 rfl rfl), ⟨by decide +kernel, by decide +kernel⟩, by decide +kernel⟩
set_option maxRecDepth 20000 in
theorem ykX12_law : YV yX12_law cX12_law 4 (some .int) 1 := ⟨(tb_k6 206 rfl rfl), (tb_k6 204 rfl rfl), (tb_k6 205 rfl rfl), (tb_k1 14 rfl rfl), ⟨by decide +kernel, by decide +kernel⟩, by decide +kernel⟩
set_option maxRecDepth 20000 in
theorem ykX12_strike : YV yX12_strike cX12_strike 2 (some .int) 1 := ⟨(tb_k6 213 rfl rfl), (tb_k6 211 rfl rfl), (tb_k6 212 rfl rfl), (tb_k1 14 rfl rfl), ⟨by decide +kernel, by decide +kernel⟩, by decide +kernel⟩
set_option maxRecDepth 20000 in
theorem ykX12_holdsFor : YV yX12_holdsFor cX12_holdsFor 10 (some .boolean) 4 := ⟨(tb_k7 13 rfl rfl), (tb_k7 12 rfl rfl), (tb_k0 48 rfl rfl), (tb_k1 14 rfl rfl), ⟨by decide +kernel, by decide +kernel⟩, by decide +kernel⟩
set_option maxRecDepth 20000 in
theorem ykX12_apart : YS yX12_apart cX12_apart 3 (some .int) 2 := ⟨(tb_k6 224 rfl rfl), (tb_k6 223 rfl rfl), (tb_k1 14 rfl rfl), ⟨by decide +kernel, by decide +kernel⟩, by decide +kernel⟩
set_option maxRecDepth 20000 in
theorem ykX12_distanceOf : YV yX12_distanceOf cX12_distanceOf 7 (some .int) 2 := ⟨(tb_k6 221 rfl rfl), (tb_k6 220 rfl rfl), (tb_k0 44 rfl rfl), (tb_k1 14 rfl rfl), ⟨by decide +kernel, by decide +kernel⟩, by decide +kernel⟩
set_option maxRecDepth 20000 in
theorem ykX12_distance : YV yX12_distance cX12_distance 3 (some .int) 2 := ⟨(tb_k6 217 rfl rfl), (tb_k6 215 rfl rfl), (tb_k6 216 rfl rfl), (tb_k1 14 rfl rfl), ⟨by decide +kernel, by decide +kernel⟩, by decide +kernel⟩
set_option maxRecDepth 20000 in
theorem ykX12_beast : YV yX12_beast cX12_beast 3 (some .int) 2 := ⟨(tb_k6 228 rfl rfl), (tb_k6 226 rfl rfl), (tb_k6 227 rfl rfl), (tb_k1 14 rfl rfl), ⟨by decide +kernel, by decide +kernel⟩, by decide +kernel⟩
set_option maxRecDepth 20000 in
theorem ykX12_wayCost : YV yX12_wayCost cX12_wayCost 8 (some .int) 4 := ⟨(tb_k7 6 rfl rfl), (tb_k7 5 rfl rfl), (tb_k0 47 rfl rfl), (tb_k1 14 rfl rfl), ⟨by decide +kernel, by decide +kernel⟩, by decide +kernel⟩
set_option maxRecDepth 20000 in
theorem ykX12_crossingOf : YV yX12_crossingOf cX12_crossingOf 9 (some .int) 4 := ⟨(tb_k7 2 rfl rfl), (tb_k7 1 rfl rfl), (tb_k0 46 rfl rfl), (tb_k1 14 rfl rfl), ⟨by decide +kernel, by decide +kernel⟩, by decide +kernel⟩
set_option maxRecDepth 20000 in
theorem ykX12_isBeast : YV yX12_isBeast cX12_isBeast 2 (some .boolean) 1 := ⟨(tb_k6 238 rfl rfl), (tb_k6 237 rfl rfl), (tb_k0 45 rfl rfl), (tb_k1 14 rfl rfl), ⟨by decide +kernel, by decide +kernel⟩, by decide +kernel⟩
set_option maxRecDepth 20000 in
theorem ykX12_crossing : YV yX12_crossing cX12_crossing 7 (some .int) 5 := ⟨(tb_k6 234 rfl rfl), (tb_k6 232 rfl rfl), (tb_k6 233 rfl rfl), (tb_k1 14 rfl rfl), ⟨by decide +kernel, by decide +kernel⟩, by decide +kernel⟩
set_option maxRecDepth 20000 in
theorem ykX12_layBetween : YV yX12_layBetween cX12_layBetween 6 none 2 := ⟨(tb_k7 25 rfl rfl), (tb_k7 24 rfl rfl), (tb_k0 50 rfl rfl), (tb_k1 14 rfl rfl), ⟨by decide +kernel, by decide +kernel⟩, by decide +kernel⟩
set_option maxRecDepth 20000 in
theorem ykX12_joined : YV yX12_joined cX12_joined 9 (some .int) 1 := ⟨(tb_k7 30 rfl rfl), (tb_k7 29 rfl rfl), (tb_k0 51 rfl rfl), (tb_k1 14 rfl rfl), ⟨by decide +kernel, by decide +kernel⟩, by decide +kernel⟩
set_option maxRecDepth 20000 in
theorem ykX12_findSpread : YV yX12_findSpread cX12_findSpread 7 none 2 := ⟨(tb_k7 21 rfl rfl), (tb_k7 20 rfl rfl), (tb_k0 49 rfl rfl), (tb_k1 14 rfl rfl), ⟨by decide +kernel, by decide +kernel⟩, by decide +kernel⟩
set_option maxRecDepth 20000 in
theorem ykX12_spreadOf : YV yX12_spreadOf cX12_spreadOf 3 (some .int) 2 := ⟨(tb_k7 38 rfl rfl), (tb_k7 37 rfl rfl), (tb_k0 52 rfl rfl), (tb_k1 14 rfl rfl), ⟨by decide +kernel, by decide +kernel⟩, by decide +kernel⟩
set_option maxRecDepth 20000 in
theorem ykX12_spread : YV yX12_spread cX12_spread 4 (some .int) 3 := ⟨(tb_k7 17 rfl rfl), (tb_k7 15 rfl rfl), (tb_k7 16 rfl rfl), (tb_k1 14 rfl rfl), ⟨by decide +kernel, by decide +kernel⟩, by decide +kernel⟩
set_option maxRecDepth 20000 in
theorem ykX12_unlike : YV yX12_unlike cX12_unlike 9 (some .int) 1 := ⟨(tb_k7 34 rfl rfl), (tb_k7 32 rfl rfl), (tb_k7 33 rfl rfl), (tb_k1 14 rfl rfl), ⟨by decide +kernel, by decide +kernel⟩, by decide +kernel⟩
set_option maxRecDepth 20000 in
theorem ykX12_speed : YV yX12_speed cX12_speed 3 (some .int) 1 := ⟨(tb_k7 42 rfl rfl), (tb_k7 40 rfl rfl), (tb_k7 41 rfl rfl), (tb_k1 14 rfl rfl), ⟨by decide +kernel, by decide +kernel⟩, by decide +kernel⟩
set_option maxRecDepth 20000 in
theorem ykX12_claim : YV yX12_claim cX12_claim 6 (some .int) 5 := ⟨(tb_k7 46 rfl rfl), (tb_k7 44 rfl rfl), (tb_k7 45 rfl rfl), (tb_k1 14 rfl rfl), ⟨by decide +kernel, by decide +kernel⟩, by decide +kernel⟩
set_option maxRecDepth 20000 in
theorem ykX12_broken : YV yX12_broken cX12_broken 7 (some .int) 3 := ⟨(tb_k7 64 rfl rfl), (tb_k7 63 rfl rfl), (tb_k0 54 rfl rfl), (tb_k1 14 rfl rfl), ⟨by decide +kernel, by decide +kernel⟩, by decide +kernel⟩
set_option maxRecDepth 20000 in
theorem ykX12_gone : YS yX12_gone cX12_gone 3 (some .int) 2 := ⟨(tb_k7 60 rfl rfl), (tb_k7 59 rfl rfl), (tb_k1 14 rfl rfl), ⟨by decide +kernel, by decide +kernel⟩, by decide +kernel⟩
set_option maxRecDepth 20000 in
theorem ykX12_layOnward : YV yX12_layOnward cX12_layOnward 7 none 1 := ⟨(tb_k7 57 rfl rfl), (tb_k7 56 rfl rfl), (tb_k0 53 rfl rfl), (tb_k1 14 rfl rfl), ⟨by decide +kernel, by decide +kernel⟩, by decide +kernel⟩
set_option maxRecDepth 20000 in
theorem ykX12_storyAt : YV yX12_storyAt cX12_storyAt 7 (some .int) 2 := ⟨(tb_k7 68 rfl rfl), (tb_k7 67 rfl rfl), (tb_k0 55 rfl rfl), (tb_k1 14 rfl rfl), ⟨by decide +kernel, by decide +kernel⟩, by decide +kernel⟩
set_option maxRecDepth 20000 in
theorem ykX12_story : YV yX12_story cX12_story 3 (some .int) 2 := ⟨(tb_k7 51 rfl rfl), (tb_k7 49 rfl rfl), (tb_k7 50 rfl rfl), (tb_k1 14 rfl rfl), ⟨by decide +kernel, by decide +kernel⟩, by decide +kernel⟩
set_option maxRecDepth 20000 in
theorem ykX12_judge : YV yX12_judge cX12_judge 9 (some .int) 2 := ⟨(tb_k7 72 rfl rfl), (tb_k7 70 rfl rfl), (tb_k7 71 rfl rfl), (tb_k1 14 rfl rfl), ⟨by decide +kernel, by decide +kernel⟩, by decide +kernel⟩
set_option maxRecDepth 20000 in
theorem ykX12_agreeAt : YV yX12_agreeAt cX12_agreeAt 10 (some .int) 4 := ⟨(tb_k7 85 rfl rfl), (tb_k7 84 rfl rfl), (tb_k0 57 rfl rfl), (tb_k1 14 rfl rfl), ⟨by decide +kernel, by decide +kernel⟩, by decide +kernel⟩
set_option maxRecDepth 20000 in
theorem ykX12_hasNeedle : YV yX12_hasNeedle cX12_hasNeedle 4 (some .boolean) 1 := ⟨(tb_k7 81 rfl rfl), (tb_k7 80 rfl rfl), (tb_k0 56 rfl rfl), (tb_k1 14 rfl rfl), ⟨by decide +kernel, by decide +kernel⟩, by decide +kernel⟩
set_option maxRecDepth 20000 in
theorem ykX12_pole : YV yX12_pole cX12_pole 10 (some .int) 4 := ⟨(tb_k7 77 rfl rfl), (tb_k7 75 rfl rfl), (tb_k7 76 rfl rfl), (tb_k1 14 rfl rfl), ⟨by decide +kernel, by decide +kernel⟩, by decide +kernel⟩
set_option maxRecDepth 20000 in
theorem ykX12_floor : YV yX12_floor cX12_floor 3 (some .int) 1 := ⟨(tb_k7 89 rfl rfl), (tb_k7 87 rfl rfl), (tb_k7 88 rfl rfl), (tb_k1 14 rfl rfl), ⟨by decide +kernel, by decide +kernel⟩, by decide +kernel⟩
set_option maxRecDepth 20000 in
theorem ykX12_mirrorOf : YV yX12_mirrorOf cX12_mirrorOf 3 (some .int) 1 := ⟨(tb_k7 99 rfl rfl), (tb_k7 98 rfl rfl), (tb_k0 58 rfl rfl), (tb_k1 14 rfl rfl), ⟨by decide +kernel, by decide +kernel⟩, by decide +kernel⟩
set_option maxRecDepth 20000 in
theorem ykX12_mirror : YV yX12_mirror cX12_mirror 2 (some .int) 1 := ⟨(tb_k7 94 rfl rfl), (tb_k7 92 rfl rfl), (tb_k7 93 rfl rfl), (tb_k1 14 rfl rfl), ⟨by decide +kernel, by decide +kernel⟩, by decide +kernel⟩
set_option maxRecDepth 20000 in
theorem ykX12_ridgeOf : YV yX12_ridgeOf cX12_ridgeOf 4 (some .int) 0 := ⟨(tb_k7 107 rfl rfl), (tb_k7 106 rfl rfl), (tb_k0 59 rfl rfl), (tb_k1 14 rfl rfl), ⟨by decide +kernel, by decide +kernel⟩, by decide +kernel⟩
set_option maxRecDepth 20000 in
theorem ykX12_ridge : YV yX12_ridge cX12_ridge 1 (some .int) 0 := ⟨(tb_k7 103 rfl rfl), (tb_k7 101 rfl rfl), (tb_k7 102 rfl rfl), (tb_k1 14 rfl rfl), ⟨by decide +kernel, by decide +kernel⟩, by decide +kernel⟩
set_option maxRecDepth 20000 in
theorem ykX12_countOf : YV yX12_countOf cX12_countOf 2 (some .int) 1 := ⟨(tb_k7 115 rfl rfl), (tb_k7 114 rfl rfl), (tb_k0 60 rfl rfl), (tb_k1 14 rfl rfl), ⟨by decide +kernel, by decide +kernel⟩, by decide +kernel⟩
set_option maxRecDepth 20000 in
theorem ykX12_count : YV yX12_count cX12_count 2 (some .int) 1 := ⟨(tb_k7 111 rfl rfl), (tb_k7 109 rfl rfl), (tb_k7 110 rfl rfl), (tb_k1 14 rfl rfl), ⟨by decide +kernel, by decide +kernel⟩, by decide +kernel⟩
set_option maxRecDepth 20000 in
theorem ykX12_tell : YV yX12_tell cX12_tell 3 none 1 := ⟨(tb_k7 124 rfl rfl), (tb_k7 123 rfl rfl), (tb_k0 61 rfl rfl), (tb_k1 14 rfl rfl), ⟨by decide +kernel, by decide +kernel⟩, by decide +kernel⟩
set_option maxRecDepth 20000 in
theorem ykX12_digest : YV yX12_digest cX12_digest 3 (some .long) 0 := ⟨(tb_k7 119 rfl rfl), (tb_k7 117 rfl rfl), (tb_k7 118 rfl rfl), (tb_k1 14 rfl rfl), ⟨by decide +kernel, by decide +kernel⟩, by decide +kernel⟩
set_option maxRecDepth 20000 in
theorem ykJ6_numberOfTrailingZeros_0f7a4 : YS yJ6_numberOfTrailingZeros_0f7a4 cJ6_numberOfTrailingZeros_0f7a4 2 (some .int) 1 := ⟨(tb_k2 164 rfl rfl), (tb_k2 163 rfl rfl), (tb_k1 15 rfl rfl), ⟨by decide +kernel, by decide +kernel⟩, by decide +kernel⟩
set_option maxRecDepth 20000 in
theorem ykJ6_bitCount_0f7a4 : YS yJ6_bitCount_0f7a4 cJ6_bitCount_0f7a4 1 (some .int) 1 := ⟨(tb_k2 154 rfl rfl), (tb_k2 153 rfl rfl), (tb_k1 15 rfl rfl), ⟨by decide +kernel, by decide +kernel⟩, by decide +kernel⟩
set_option maxRecDepth 20000 in
theorem ykJ9_abs_0f7a4 : YS yJ9_abs_0f7a4 cJ9_abs_0f7a4 1 (some .int) 1 := ⟨(tb_k2 231 rfl rfl), (tb_k2 230 rfl rfl), (tb_k1 16 rfl rfl), ⟨by decide +kernel, by decide +kernel⟩, by decide +kernel⟩
set_option maxRecDepth 20000 in
theorem ykJ9_max_7cf53 : YS yJ9_max_7cf53 cJ9_max_7cf53 2 (some .int) 2 := ⟨(tb_k3 45 rfl rfl), (tb_k3 44 rfl rfl), (tb_k1 16 rfl rfl), ⟨by decide +kernel, by decide +kernel⟩, by decide +kernel⟩
set_option maxRecDepth 20000 in
theorem ykJ9_min_7cf53 : YS yJ9_min_7cf53 cJ9_min_7cf53 2 (some .int) 2 := ⟨(tb_k3 36 rfl rfl), (tb_k3 35 rfl rfl), (tb_k1 16 rfl rfl), ⟨by decide +kernel, by decide +kernel⟩, by decide +kernel⟩
set_option maxRecDepth 20000 in
theorem ykJ0_length_8abf5 : YV yJ0_length_8abf5 cJ0_length_8abf5 1 (some .int) 0 := ⟨(tb_k3 163 rfl rfl), (tb_k3 161 rfl rfl), (tb_k3 162 rfl rfl), (tb_k1 17 rfl rfl), ⟨by decide +kernel, by decide +kernel⟩, by decide +kernel⟩
set_option maxRecDepth 20000 in
theorem ykJ0_indexOf_0f7a4 : YV yJ0_indexOf_0f7a4 cJ0_indexOf_0f7a4 2 (some .int) 1 := ⟨(tb_k3 149 rfl rfl), (tb_k3 147 rfl rfl), (tb_k3 148 rfl rfl), (tb_k1 17 rfl rfl), ⟨by decide +kernel, by decide +kernel⟩, by decide +kernel⟩
set_option maxRecDepth 20000 in
theorem ykJ0_indexOf_7cf53 : YV yJ0_indexOf_7cf53 cJ0_indexOf_7cf53 3 (some .int) 2 := ⟨(tb_k3 153 rfl rfl), (tb_k3 151 rfl rfl), (tb_k3 152 rfl rfl), (tb_k1 17 rfl rfl), ⟨by decide +kernel, by decide +kernel⟩, by decide +kernel⟩
set_option maxRecDepth 20000 in
theorem ykJ0_coder_7d493 : YV yJ0_coder_7d493 cJ0_coder_7d493 1 (some .byte) 0 := ⟨(tb_k3 167 rfl rfl), (tb_k3 165 rfl rfl), (tb_k3 166 rfl rfl), (tb_k1 17 rfl rfl), ⟨by decide +kernel, by decide +kernel⟩, by decide +kernel⟩
set_option maxRecDepth 20000 in
theorem ykJ0_isLatin1_aae02 : YV yJ0_isLatin1_aae02 cJ0_isLatin1_aae02 1 (some .boolean) 0 := ⟨(tb_k3 157 rfl rfl), (tb_k3 155 rfl rfl), (tb_k3 156 rfl rfl), (tb_k1 17 rfl rfl), ⟨by decide +kernel, by decide +kernel⟩, by decide +kernel⟩
set_option maxRecDepth 20000 in
theorem ykJ1_canEncode_9a6ad : YS yJ1_canEncode_9a6ad cJ1_canEncode_9a6ad 1 (some .boolean) 1 := ⟨(tb_k3 173 rfl rfl), (tb_k3 172 rfl rfl), (tb_k1 18 rfl rfl), ⟨by decide +kernel, by decide +kernel⟩, by decide +kernel⟩
set_option maxRecDepth 20000 in
theorem ykJ1_indexOf_4cfef : YS yJ1_indexOf_4cfef cJ1_indexOf_4cfef 4 (some .int) 4 := ⟨(tb_k3 170 rfl rfl), (tb_k3 169 rfl rfl), (tb_k1 18 rfl rfl), ⟨by decide +kernel, by decide +kernel⟩, by decide +kernel⟩
set_option maxRecDepth 20000 in
theorem ykJ1_indexOfChar_4cfef : YS yJ1_indexOfChar_4cfef cJ1_indexOfChar_4cfef 6 (some .int) 4 := ⟨(tb_k3 178 rfl rfl), (tb_k3 177 rfl rfl), (tb_k1 18 rfl rfl), ⟨by decide +kernel, by decide +kernel⟩, by decide +kernel⟩
set_option maxRecDepth 20000 in
theorem ykJ2_indexOf_4cfef : YS yJ2_indexOf_4cfef cJ2_indexOf_4cfef 4 (some .int) 4 := ⟨(tb_k3 181 rfl rfl), (tb_k3 180 rfl rfl), (tb_k1 19 rfl rfl), ⟨by decide +kernel, by decide +kernel⟩, by decide +kernel⟩
set_option maxRecDepth 20000 in
theorem ykJ7_fill_53178 : YS yJ7_fill_53178 cJ7_fill_53178 4 none 2 := ⟨(tb_k1 38 rfl rfl), (tb_k1 37 rfl rfl), (tb_k1 3 rfl rfl), ⟨by decide +kernel, by decide +kernel⟩, by decide +kernel⟩
set_option maxRecDepth 20000 in
theorem ykJ3_checkFromToIndex_8c36e : YS yJ3_checkFromToIndex_8c36e cJ3_checkFromToIndex_8c36e 4 (some .int) 4 := ⟨(tb_k3 201 rfl rfl), (tb_k3 200 rfl rfl), (tb_k1 20 rfl rfl), ⟨by decide +kernel, by decide +kernel⟩, by decide +kernel⟩
set_option maxRecDepth 20000 in
theorem lkX11_90 : Cond.methodLink RX11 90 yX11_isLand ∈ TB := (tb_k2 110 rfl rfl)
set_option maxRecDepth 20000 in
theorem lkX11_94 : Cond.methodLink RX11 94 yX11_within ∈ TB := (tb_k2 113 rfl rfl)
set_option maxRecDepth 20000 in
theorem lkX11_98 : Cond.methodLink RX11 98 yX5_anyOn ∈ TB := (tb_k2 116 rfl rfl)
set_option maxRecDepth 20000 in
theorem lkX11_101 : Cond.methodLink RX11 101 yX2_ownerOf ∈ TB := (tb_k2 120 rfl rfl)
set_option maxRecDepth 20000 in
theorem lkX11_105 : Cond.methodLink RX11 105 yX2_give ∈ TB := (tb_k2 124 rfl rfl)
set_option maxRecDepth 20000 in
theorem lkX11_109 : Cond.methodLink RX11 109 yX2_giveRun ∈ TB := (tb_k2 132 rfl rfl)
set_option maxRecDepth 20000 in
theorem lkX11_113 : Cond.methodLink RX11 113 yX2_sizeOf ∈ TB := (tb_k2 144 rfl rfl)
set_option maxRecDepth 20000 in
theorem lkX11_116 : Cond.methodLink RX11 116 yX2_leastCellOf ∈ TB := (tb_k2 158 rfl rfl)
set_option maxRecDepth 20000 in
theorem lkX11_119 : Cond.methodLink RX11 119 yX5_howManyOn ∈ TB := (tb_k2 166 rfl rfl)
set_option maxRecDepth 20000 in
theorem lkX11_122 : Cond.methodLink RX11 122 yX5_isFull ∈ TB := (tb_k2 179 rfl rfl)
set_option maxRecDepth 20000 in
theorem lkX11_126 : Cond.methodLink RX11 126 yX5_add ∈ TB := (tb_k2 183 rfl rfl)
set_option maxRecDepth 20000 in
theorem lkX11_130 : Cond.methodLink RX11 130 yX5_size ∈ TB := (tb_k2 191 rfl rfl)
set_option maxRecDepth 20000 in
theorem lkX11_134 : Cond.methodLink RX11 134 yX5_isOf ∈ TB := (tb_k2 195 rfl rfl)
set_option maxRecDepth 20000 in
theorem lkX11_137 : Cond.methodLink RX11 137 yX5_kindOf ∈ TB := (tb_k2 203 rfl rfl)
set_option maxRecDepth 20000 in
theorem lkX11_140 : Cond.methodLink RX11 140 yX5_cellOf ∈ TB := (tb_k2 207 rfl rfl)
set_option maxRecDepth 20000 in
theorem lkX11_143 : Cond.methodLink RX11 143 yX5_numberOf ∈ TB := (tb_k2 211 rfl rfl)
set_option maxRecDepth 20000 in
theorem lkX11_146 : Cond.methodLink RX11 146 yX5_weightOf ∈ TB := (tb_k2 215 rfl rfl)
set_option maxRecDepth 20000 in
theorem lkX11_149 : Cond.methodLink RX11 149 yX5_leadsInto ∈ TB := (tb_k2 225 rfl rfl)
set_option maxRecDepth 20000 in
theorem lkX11_152 : Cond.methodLink RX11 152 yX5_removeLast ∈ TB := (tb_k2 236 rfl rfl)
set_option maxRecDepth 20000 in
theorem lkX11_155 : Cond.methodLink RX11 155 yX11_areTwoLands ∈ TB := (tb_k3 4 rfl rfl)
set_option maxRecDepth 20000 in
theorem ckX11_158 : Cond.constant RX11 158 (-1000002) ∈ TB := (tb_k3 7 rfl rfl)
set_option maxRecDepth 20000 in
theorem lkX11_159 : Cond.methodLink RX11 159 yX11_isPlace ∈ TB := (tb_k3 8 rfl rfl)
set_option maxRecDepth 20000 in
theorem ckX11_162 : Cond.constant RX11 162 (-1000003) ∈ TB := (tb_k3 11 rfl rfl)
set_option maxRecDepth 20000 in
theorem lkX11_163 : Cond.methodLink RX11 163 yX2_staysInRows ∈ TB := (tb_k3 12 rfl rfl)
set_option maxRecDepth 20000 in
theorem ckX11_166 : Cond.constant RX11 166 (-1000001) ∈ TB := (tb_k3 17 rfl rfl)
set_option maxRecDepth 20000 in
theorem lkX11_167 : Cond.methodLink RX11 167 yX5_goingOn ∈ TB := (tb_k3 18 rfl rfl)
set_option maxRecDepth 20000 in
theorem lkX11_170 : Cond.methodLink RX11 170 yX1_look ∈ TB := (tb_k3 39 rfl rfl)
set_option maxRecDepth 20000 in
theorem lkX11_184 : Cond.methodLink RX11 184 yX1_price ∈ TB := (tb_k3 58 rfl rfl)
set_option maxRecDepth 20000 in
theorem lkX11_187 : Cond.methodLink RX11 187 yX1_isCounted ∈ TB := (tb_k3 62 rfl rfl)
set_option maxRecDepth 20000 in
theorem lkX11_190 : Cond.methodLink RX11 190 yX1_survey ∈ TB := (tb_k3 70 rfl rfl)
set_option maxRecDepth 20000 in
theorem lkX11_206 : Cond.methodLink RX11 206 yX11_reduced ∈ TB := (tb_k3 90 rfl rfl)
set_option maxRecDepth 20000 in
theorem lkX11_210 : Cond.methodLink RX11 210 yX11_asGreat ∈ TB := (tb_k3 97 rfl rfl)
set_option maxRecDepth 20000 in
theorem lkX11_214 : Cond.methodLink RX11 214 yX11_eastOf ∈ TB := (tb_k3 33 rfl rfl)
set_option maxRecDepth 20000 in
theorem lkX11_217 : Cond.methodLink RX11 217 yX6_isTold ∈ TB := (tb_k3 105 rfl rfl)
set_option maxRecDepth 20000 in
theorem lkX11_221 : Cond.methodLink RX11 221 yX6_hasRoomFor ∈ TB := (tb_k3 112 rfl rfl)
set_option maxRecDepth 20000 in
theorem lkX11_224 : Cond.methodLink RX11 224 yX6_write ∈ TB := (tb_k3 119 rfl rfl)
set_option maxRecDepth 20000 in
theorem lkX11_228 : Cond.methodLink RX11 228 yX6_wipe ∈ TB := (tb_k3 127 rfl rfl)
set_option maxRecDepth 20000 in
theorem lkX11_231 : Cond.methodLink RX11 231 yX6_faultPlace ∈ TB := (tb_k3 135 rfl rfl)
set_option maxRecDepth 20000 in
theorem lkX11_234 : Cond.methodLink RX11 234 yX6_isLaw ∈ TB := (tb_k4 4 rfl rfl)
set_option maxRecDepth 20000 in
theorem lkX11_237 : Cond.methodLink RX11 237 yX11_holderOf ∈ TB := (tb_k4 8 rfl rfl)
set_option maxRecDepth 20000 in
theorem lkX11_241 : Cond.methodLink RX11 241 yX3_isFull ∈ TB := (tb_k4 12 rfl rfl)
set_option maxRecDepth 20000 in
theorem lkX11_242 : Cond.methodLink RX11 242 yX3_read ∈ TB := (tb_k4 16 rfl rfl)
set_option maxRecDepth 20000 in
theorem lkX11_246 : Cond.methodLink RX11 246 yX3_size ∈ TB := (tb_k4 51 rfl rfl)
set_option maxRecDepth 20000 in
theorem lkX11_247 : Cond.methodLink RX11 247 yX3_removeLast ∈ TB := (tb_k4 55 rfl rfl)
set_option maxRecDepth 20000 in
theorem lkX11_248 : Cond.methodLink RX11 248 yX2_apart ∈ TB := (tb_k4 63 rfl rfl)
set_option maxRecDepth 20000 in
theorem lkX11_251 : Cond.methodLink RX11 251 yX0_isFull ∈ TB := (tb_k4 81 rfl rfl)
set_option maxRecDepth 20000 in
theorem lkX11_252 : Cond.methodLink RX11 252 yX0_add ∈ TB := (tb_k4 85 rfl rfl)
set_option maxRecDepth 20000 in
theorem lkX11_254 : Cond.methodLink RX11 254 yX0_size ∈ TB := (tb_k4 93 rfl rfl)
set_option maxRecDepth 20000 in
theorem lkX11_255 : Cond.methodLink RX11 255 yX0_ageOf ∈ TB := (tb_k4 97 rfl rfl)
set_option maxRecDepth 20000 in
theorem lkX11_258 : Cond.methodLink RX11 258 yX0_howManyLands ∈ TB := (tb_k4 101 rfl rfl)
set_option maxRecDepth 20000 in
theorem lkX11_261 : Cond.methodLink RX11 261 yX3_choose ∈ TB := (tb_k4 106 rfl rfl)
set_option maxRecDepth 20000 in
theorem lkX11_269 : Cond.methodLink RX11 269 yX8_solve ∈ TB := (tb_k4 123 rfl rfl)
set_option maxRecDepth 20000 in
theorem lkX11_277 : Cond.methodLink RX11 277 yX8_differenceOf ∈ TB := (tb_k4 162 rfl rfl)
set_option maxRecDepth 20000 in
theorem lkX11_281 : Cond.methodLink RX11 281 yX9_changeSpeed ∈ TB := (tb_k4 172 rfl rfl)
set_option maxRecDepth 20000 in
theorem lkX11_284 : Cond.methodLink RX11 284 yX9_isFull ∈ TB := (tb_k4 180 rfl rfl)
set_option maxRecDepth 20000 in
theorem lkX11_285 : Cond.methodLink RX11 285 yX9_add ∈ TB := (tb_k4 184 rfl rfl)
set_option maxRecDepth 20000 in
theorem lkX11_288 : Cond.methodLink RX11 288 yX9_tell ∈ TB := (tb_k4 192 rfl rfl)
set_option maxRecDepth 20000 in
theorem lkX11_292 : Cond.methodLink RX11 292 yX9_leastPrice ∈ TB := (tb_k4 215 rfl rfl)
set_option maxRecDepth 20000 in
theorem lkX11_295 : Cond.methodLink RX11 295 yX9_placeAt ∈ TB := (tb_k4 219 rfl rfl)
set_option maxRecDepth 20000 in
theorem lkX11_298 : Cond.methodLink RX11 298 yX9_priceOf ∈ TB := (tb_k4 227 rfl rfl)
set_option maxRecDepth 20000 in
theorem lkX11_302 : Cond.methodLink RX11 302 yX7_seek ∈ TB := (tb_k4 239 rfl rfl)
set_option maxRecDepth 20000 in
theorem ckX11_314 : Cond.constant RX11 314 (16777215) ∈ TB := (tb_k5 30 rfl rfl)
set_option maxRecDepth 20000 in
theorem lkX11_315 : Cond.methodLink RX11 315 yX10_change ∈ TB := (tb_k5 31 rfl rfl)
set_option maxRecDepth 20000 in
theorem lkX11_318 : Cond.methodLink RX11 318 yX10_sameAbout ∈ TB := (tb_k5 39 rfl rfl)
set_option maxRecDepth 20000 in
theorem lkX11_321 : Cond.methodLink RX11 321 yX10_bestPlace ∈ TB := (tb_k5 48 rfl rfl)
set_option maxRecDepth 20000 in
theorem lkX11_324 : Cond.methodLink RX11 324 yX2_sizeOfAll ∈ TB := (tb_k5 58 rfl rfl)
set_option maxRecDepth 20000 in
theorem lkX11_327 : Cond.methodLink RX11 327 yX9_size ∈ TB := (tb_k5 63 rfl rfl)
set_option maxRecDepth 20000 in
theorem lkX11_328 : Cond.methodLink RX11 328 yX6_size ∈ TB := (tb_k5 67 rfl rfl)
set_option maxRecDepth 20000 in
theorem ckX11_329 : Cond.constantLong RX11 329 (313) ∈ TB := (tb_k5 72 rfl rfl)
set_option maxRecDepth 20000 in
theorem lkX11_331 : Cond.methodLink RX11 331 yX2_toldCells ∈ TB := (tb_k5 73 rfl rfl)
set_option maxRecDepth 20000 in
theorem lkX11_335 : Cond.methodLink RX11 335 yX5_told ∈ TB := (tb_k5 81 rfl rfl)
set_option maxRecDepth 20000 in
theorem lkX11_338 : Cond.methodLink RX11 338 yX2_toldDistances ∈ TB := (tb_k5 86 rfl rfl)
set_option maxRecDepth 20000 in
theorem lkX11_341 : Cond.methodLink RX11 341 yX8_told ∈ TB := (tb_k5 91 rfl rfl)
set_option maxRecDepth 20000 in
theorem lkX11_344 : Cond.methodLink RX11 344 yX9_told ∈ TB := (tb_k5 97 rfl rfl)
set_option maxRecDepth 20000 in
theorem lkX11_345 : Cond.methodLink RX11 345 yX10_told ∈ TB := (tb_k5 102 rfl rfl)
set_option maxRecDepth 20000 in
theorem lkX11_346 : Cond.methodLink RX11 346 yX6_told ∈ TB := (tb_k5 108 rfl rfl)
set_option maxRecDepth 20000 in
theorem lkX11_347 : Cond.methodLink RX11 347 yX11_count ∈ TB := (tb_k5 113 rfl rfl)
set_option maxRecDepth 20000 in
theorem lkX11_350 : Cond.methodLink RX11 350 yX11_then ∈ TB := (tb_k5 114 rfl rfl)
set_option maxRecDepth 20000 in
theorem ckX11_354 : Cond.constantLong RX11 354 (31) ∈ TB := (tb_k5 80 rfl rfl)
set_option maxRecDepth 20000 in
theorem lkX11_356 : Cond.methodLink RX11 356 yJ9_min_7cf53 ∈ TB := (tb_k3 34 rfl rfl)
set_option maxRecDepth 20000 in
theorem lkX11_361 : Cond.methodLink RX11 361 yJ9_abs_0f7a4 ∈ TB := (tb_k5 19 rfl rfl)
set_option maxRecDepth 20000 in
theorem lkX11_364 : Cond.methodLink RX11 364 yX11_ringDistance ∈ TB := (tb_k5 20 rfl rfl)
set_option maxRecDepth 20000 in
theorem lkX0_20 : Cond.methodLink RX0 20 yJ6_bitCount_0f7a4 ∈ TB := (tb_k4 105 rfl rfl)
set_option maxRecDepth 20000 in
theorem lkX1_25 : Cond.methodLink RX1 25 yJ9_max_7cf53 ∈ TB := (tb_k3 43 rfl rfl)
set_option maxRecDepth 20000 in
theorem lkX1_31 : Cond.methodLink RX1 31 yJ9_min_7cf53 ∈ TB := (tb_k3 46 rfl rfl)
set_option maxRecDepth 20000 in
theorem lkX1_34 : Cond.methodLink RX1 34 yX2_maskOf ∈ TB := (tb_k3 47 rfl rfl)
set_option maxRecDepth 20000 in
theorem lkX1_39 : Cond.methodLink RX1 39 yX2_turned ∈ TB := (tb_k3 48 rfl rfl)
set_option maxRecDepth 20000 in
theorem lkX1_42 : Cond.methodLink RX1 42 yX1_lookAtRow ∈ TB := (tb_k3 52 rfl rfl)
set_option maxRecDepth 20000 in
theorem lkX1_46 : Cond.methodLink RX1 46 yJ6_bitCount_0f7a4 ∈ TB := (tb_k3 56 rfl rfl)
set_option maxRecDepth 20000 in
theorem ckX1_52 : Cond.constant RX1 52 (65535) ∈ TB := (tb_k3 57 rfl rfl)
set_option maxRecDepth 20000 in
theorem lkX1_59 : Cond.methodLink RX1 59 yX2_staysInRows ∈ TB := (tb_k3 74 rfl rfl)
set_option maxRecDepth 20000 in
theorem lkX1_63 : Cond.methodLink RX1 63 yX1_surveyRing ∈ TB := (tb_k3 75 rfl rfl)
set_option maxRecDepth 20000 in
theorem lkX1_67 : Cond.methodLink RX1 67 yX1_look ∈ TB := (tb_k3 79 rfl rfl)
set_option maxRecDepth 20000 in
theorem lkX1_70 : Cond.methodLink RX1 70 yX1_isCounted ∈ TB := (tb_k3 80 rfl rfl)
set_option maxRecDepth 20000 in
theorem lkX1_74 : Cond.methodLink RX1 74 yX1_take ∈ TB := (tb_k3 81 rfl rfl)
set_option maxRecDepth 20000 in
theorem lkX1_78 : Cond.methodLink RX1 78 yX1_price ∈ TB := (tb_k3 85 rfl rfl)
set_option maxRecDepth 20000 in
theorem lkX2_21 : Cond.methodLink RX2 21 yJ7_fill_53178 ∈ TB := (tb_k1 36 rfl rfl)
set_option maxRecDepth 20000 in
theorem lkX2_27 : Cond.methodLinkNest RX2 27 yX11_eastOf "EdgesFit" ∈ TB := (tb_k2 136 rfl rfl)
set_option maxRecDepth 20000 in
theorem lkX2_31 : Cond.methodLink RX2 31 yX2_give ∈ TB := (tb_k2 139 rfl rfl)
set_option maxRecDepth 20000 in
theorem lkX2_35 : Cond.methodLink RX2 35 yX2_maskOf ∈ TB := (tb_k2 148 rfl rfl)
set_option maxRecDepth 20000 in
theorem lkX2_38 : Cond.methodLink RX2 38 yJ6_bitCount_0f7a4 ∈ TB := (tb_k2 152 rfl rfl)
set_option maxRecDepth 20000 in
theorem lkX2_44 : Cond.methodLink RX2 44 yX2_sizeOf ∈ TB := (tb_k5 62 rfl rfl)
set_option maxRecDepth 20000 in
theorem lkX2_47 : Cond.methodLink RX2 47 yJ6_numberOfTrailingZeros_0f7a4 ∈ TB := (tb_k2 162 rfl rfl)
set_option maxRecDepth 20000 in
theorem lkX2_50 : Cond.methodLinkNest RX2 50 yX11_within "EdgesFit" ∈ TB := (tb_k3 16 rfl rfl)
set_option maxRecDepth 20000 in
theorem ckX2_54 : Cond.constant RX2 54 (65535) ∈ TB := (tb_k3 51 rfl rfl)
set_option maxRecDepth 20000 in
theorem lkX2_55 : Cond.methodLink RX2 55 yJ9_min_7cf53 ∈ TB := (tb_k4 67 rfl rfl)
set_option maxRecDepth 20000 in
theorem lkX2_60 : Cond.methodLink RX2 60 yJ9_max_7cf53 ∈ TB := (tb_k4 68 rfl rfl)
set_option maxRecDepth 20000 in
theorem lkX2_63 : Cond.methodLink RX2 63 yX2_measure ∈ TB := (tb_k4 69 rfl rfl)
set_option maxRecDepth 20000 in
theorem lkX2_66 : Cond.methodLink RX2 66 yJ9_abs_0f7a4 ∈ TB := (tb_k4 73 rfl rfl)
set_option maxRecDepth 20000 in
theorem lkX2_69 : Cond.methodLink RX2 69 yX2_columnsApart ∈ TB := (tb_k4 74 rfl rfl)
set_option maxRecDepth 20000 in
theorem lkX2_72 : Cond.methodLinkNest RX2 72 yX11_then "EdgesFit" ∈ TB := (tb_k5 77 rfl rfl)
set_option maxRecDepth 20000 in
theorem lkX2_76 : Cond.methodLink RX2 76 yX2_apart ∈ TB := (tb_k5 90 rfl rfl)
set_option maxRecDepth 20000 in
theorem lkX3_26 : Cond.methodLink RX3 26 yX4_read ∈ TB := (tb_k4 20 rfl rfl)
set_option maxRecDepth 20000 in
theorem lkX3_30 : Cond.methodLink RX3 30 yJ7_fill_53178 ∈ TB := (tb_k4 110 rfl rfl)
set_option maxRecDepth 20000 in
theorem lkX3_39 : Cond.methodLink RX3 39 yX4_holds ∈ TB := (tb_k4 111 rfl rfl)
set_option maxRecDepth 20000 in
theorem lkX4_35 : Cond.methodLink RX4 35 yX6_size ∈ TB := (tb_k4 24 rfl rfl)
set_option maxRecDepth 20000 in
theorem lkX4_39 : Cond.methodLink RX4 39 yX6_letterAt ∈ TB := (tb_k4 28 rfl rfl)
set_option maxRecDepth 20000 in
theorem lkX4_43 : Cond.methodLink RX4 43 yX6_next ∈ TB := (tb_k4 32 rfl rfl)
set_option maxRecDepth 20000 in
theorem lkX4_47 : Cond.methodLink RX4 47 yX4_take ∈ TB := (tb_k4 33 rfl rfl)
set_option maxRecDepth 20000 in
theorem lkX4_53 : Cond.methodLink RX4 53 yJ0_indexOf_0f7a4 ∈ TB := (tb_k4 38 rfl rfl)
set_option maxRecDepth 20000 in
theorem lkX4_61 : Cond.methodLink RX4 61 yX4_takeAheadOfFactor ∈ TB := (tb_k4 39 rfl rfl)
set_option maxRecDepth 20000 in
theorem lkX4_72 : Cond.methodLink RX4 72 yX4_takeSecondDigit ∈ TB := (tb_k4 43 rfl rfl)
set_option maxRecDepth 20000 in
theorem lkX4_75 : Cond.methodLink RX4 75 yX4_factorHolds ∈ TB := (tb_k4 115 rfl rfl)
set_option maxRecDepth 20000 in
theorem lkX5_32 : Cond.methodLink RX5 32 yX2_ownerOf ∈ TB := (tb_k2 174 rfl rfl)
set_option maxRecDepth 20000 in
theorem lkX5_38 : Cond.methodLink RX5 38 yX5_landOf ∈ TB := (tb_k2 170 rfl rfl)
set_option maxRecDepth 20000 in
theorem lkX5_41 : Cond.methodLink RX5 41 yJ9_abs_0f7a4 ∈ TB := (tb_k2 229 rfl rfl)
set_option maxRecDepth 20000 in
theorem lkX5_46 : Cond.methodLink RX5 46 yX5_goingOnFrom ∈ TB := (tb_k3 22 rfl rfl)
set_option maxRecDepth 20000 in
theorem lkX5_50 : Cond.methodLink RX5 50 yX5_isNextTo ∈ TB := (tb_k3 26 rfl rfl)
set_option maxRecDepth 20000 in
theorem lkX5_54 : Cond.methodLink RX5 54 yX5_leadsInto ∈ TB := (tb_k3 37 rfl rfl)
set_option maxRecDepth 20000 in
theorem lkX5_58 : Cond.methodLink RX5 58 yX5_weightOf ∈ TB := (tb_k3 38 rfl rfl)
set_option maxRecDepth 20000 in
theorem lkX5_61 : Cond.methodLinkNest RX5 61 yX11_eastOf "EdgesFit" ∈ TB := (tb_k3 29 rfl rfl)
set_option maxRecDepth 20000 in
theorem lkX5_65 : Cond.methodLinkNest RX5 65 yX11_ringDistance "EdgesFit" ∈ TB := (tb_k3 30 rfl rfl)
set_option maxRecDepth 20000 in
theorem lkX5_68 : Cond.methodLinkNest RX5 68 yX11_then "EdgesFit" ∈ TB := (tb_k5 85 rfl rfl)
set_option maxRecDepth 20000 in
theorem ckX6_19 : Cond.constantLong RX6 19 (255) ∈ TB := (tb_k3 111 rfl rfl)
set_option maxRecDepth 20000 in
theorem lkX6_21 : Cond.methodLink RX6 21 yX6_byteOf ∈ TB := (tb_k3 108 rfl rfl)
set_option maxRecDepth 20000 in
theorem lkX6_25 : Cond.methodLink RX6 25 yX6_howManyIn ∈ TB := (tb_k3 116 rfl rfl)
set_option maxRecDepth 20000 in
theorem lkX6_29 : Cond.methodLink RX6 29 yX6_next ∈ TB := (tb_k3 139 rfl rfl)
set_option maxRecDepth 20000 in
theorem lkX6_37 : Cond.methodLink RX6 37 yX6_isOneOf ∈ TB := (tb_k3 143 rfl rfl)
set_option maxRecDepth 20000 in
theorem lkX6_41 : Cond.methodLink RX6 41 yX6_isDigit ∈ TB := (tb_k3 228 rfl rfl)
set_option maxRecDepth 20000 in
theorem lkX6_45 : Cond.methodLink RX6 45 yX6_behindNumber ∈ TB := (tb_k3 231 rfl rfl)
set_option maxRecDepth 20000 in
theorem lkX6_53 : Cond.methodLink RX6 53 yX6_behindFactor ∈ TB := (tb_k3 236 rfl rfl)
set_option maxRecDepth 20000 in
theorem lkX6_56 : Cond.methodLink RX6 56 yJ0_indexOf_0f7a4 ∈ TB := (tb_k3 146 rfl rfl)
set_option maxRecDepth 20000 in
theorem lkX6_61 : Cond.methodLinkNest RX6 61 yX11_then "EdgesFit" ∈ TB := (tb_k5 112 rfl rfl)
set_option maxRecDepth 20000 in
theorem lkX7_19 : Cond.methodLink RX7 19 yJ7_fill_53178 ∈ TB := (tb_k5 3 rfl rfl)
set_option maxRecDepth 20000 in
theorem lkX7_25 : Cond.methodLink RX7 25 yX5_size ∈ TB := (tb_k5 4 rfl rfl)
set_option maxRecDepth 20000 in
theorem lkX7_31 : Cond.methodLink RX7 31 yX5_isNeedle ∈ TB := (tb_k5 5 rfl rfl)
set_option maxRecDepth 20000 in
theorem lkX7_35 : Cond.methodLink RX7 35 yX5_landOf ∈ TB := (tb_k5 9 rfl rfl)
set_option maxRecDepth 20000 in
theorem lkX7_39 : Cond.methodLink RX7 39 yX7_ask ∈ TB := (tb_k5 10 rfl rfl)
set_option maxRecDepth 20000 in
theorem lkX7_53 : Cond.methodLink RX7 53 yX7_take ∈ TB := (tb_k5 22 rfl rfl)
set_option maxRecDepth 20000 in
theorem lkX7_57 : Cond.methodLink RX7 57 yX5_cellOf ∈ TB := (tb_k5 14 rfl rfl)
set_option maxRecDepth 20000 in
theorem lkX7_60 : Cond.methodLinkNest RX7 60 yX11_eastOf "EdgesFit" ∈ TB := (tb_k5 15 rfl rfl)
set_option maxRecDepth 20000 in
theorem lkX7_64 : Cond.methodLinkNest RX7 64 yX11_stepsBetween "EdgesFit" ∈ TB := (tb_k5 16 rfl rfl)
set_option maxRecDepth 20000 in
theorem lkX7_67 : Cond.methodLink RX7 67 yX5_numberOf ∈ TB := (tb_k5 21 rfl rfl)
set_option maxRecDepth 20000 in
theorem lkX8_26 : Cond.methodLink RX8 26 yX8_ask ∈ TB := (tb_k4 127 rfl rfl)
set_option maxRecDepth 20000 in
theorem lkX8_30 : Cond.methodLink RX8 30 yX0_landsOf ∈ TB := (tb_k4 135 rfl rfl)
set_option maxRecDepth 20000 in
theorem lkX8_43 : Cond.methodLink RX8 43 yX8_priceOfTree ∈ TB := (tb_k4 139 rfl rfl)
set_option maxRecDepth 20000 in
theorem lkX8_46 : Cond.methodLink RX8 46 yX8_take ∈ TB := (tb_k4 154 rfl rfl)
set_option maxRecDepth 20000 in
theorem lkX8_50 : Cond.methodLink RX8 50 yJ6_bitCount_0f7a4 ∈ TB := (tb_k4 145 rfl rfl)
set_option maxRecDepth 20000 in
theorem lkX8_55 : Cond.methodLink RX8 55 yX0_ageOf ∈ TB := (tb_k4 131 rfl rfl)
set_option maxRecDepth 20000 in
theorem lkX8_58 : Cond.methodLink RX8 58 yX0_howManyLands ∈ TB := (tb_k4 132 rfl rfl)
set_option maxRecDepth 20000 in
theorem lkX8_61 : Cond.methodLink RX8 61 yX2_apart ∈ TB := (tb_k4 133 rfl rfl)
set_option maxRecDepth 20000 in
theorem lkX8_67 : Cond.methodLink RX8 67 yX3_choose ∈ TB := (tb_k4 134 rfl rfl)
set_option maxRecDepth 20000 in
theorem lkX8_74 : Cond.methodLink RX8 74 yJ7_fill_53178 ∈ TB := (tb_k4 143 rfl rfl)
set_option maxRecDepth 20000 in
theorem lkX8_80 : Cond.methodLink RX8 80 yJ6_numberOfTrailingZeros_0f7a4 ∈ TB := (tb_k4 144 rfl rfl)
set_option maxRecDepth 20000 in
theorem lkX8_83 : Cond.methodLink RX8 83 yX8_reachFrom ∈ TB := (tb_k4 146 rfl rfl)
set_option maxRecDepth 20000 in
theorem lkX8_87 : Cond.methodLink RX8 87 yX8_nearest ∈ TB := (tb_k4 150 rfl rfl)
set_option maxRecDepth 20000 in
theorem lkX8_90 : Cond.methodLink RX8 90 yX8_solve ∈ TB := (tb_k4 166 rfl rfl)
set_option maxRecDepth 20000 in
theorem lkX8_94 : Cond.methodLink RX8 94 yJ9_abs_0f7a4 ∈ TB := (tb_k4 167 rfl rfl)
set_option maxRecDepth 20000 in
theorem lkX8_99 : Cond.methodLink RX8 99 yX0_size ∈ TB := (tb_k5 95 rfl rfl)
set_option maxRecDepth 20000 in
theorem lkX8_103 : Cond.methodLinkNest RX8 103 yX11_then "EdgesFit" ∈ TB := (tb_k5 96 rfl rfl)
set_option maxRecDepth 20000 in
theorem lkX9_48 : Cond.methodLink RX9 48 yJ7_fill_53178 ∈ TB := (tb_k4 200 rfl rfl)
set_option maxRecDepth 20000 in
theorem lkX9_54 : Cond.methodLink RX9 54 yX9_owe ∈ TB := (tb_k4 201 rfl rfl)
set_option maxRecDepth 20000 in
theorem lkX9_58 : Cond.methodLink RX9 58 yX1_look ∈ TB := (tb_k4 205 rfl rfl)
set_option maxRecDepth 20000 in
theorem lkX9_70 : Cond.methodLink RX9 70 yX9_oweAll ∈ TB := (tb_k4 196 rfl rfl)
set_option maxRecDepth 20000 in
theorem lkX9_73 : Cond.methodLink RX9 73 yX9_bestNext ∈ TB := (tb_k4 206 rfl rfl)
set_option maxRecDepth 20000 in
theorem lkX9_77 : Cond.methodLink RX9 77 yX9_priceVia ∈ TB := (tb_k4 210 rfl rfl)
set_option maxRecDepth 20000 in
theorem lkX9_81 : Cond.methodLinkNest RX9 81 yX11_ringDistance "EdgesFit" ∈ TB := (tb_k4 214 rfl rfl)
set_option maxRecDepth 20000 in
theorem ckX9_84 : Cond.constantLong RX9 84 (15) ∈ TB := (tb_k4 234 rfl rfl)
set_option maxRecDepth 20000 in
theorem lkX9_86 : Cond.methodLink RX9 86 yX9_figureOf ∈ TB := (tb_k4 231 rfl rfl)
set_option maxRecDepth 20000 in
theorem lkX9_90 : Cond.methodLinkNest RX9 90 yX11_then "EdgesFit" ∈ TB := (tb_k5 101 rfl rfl)
set_option maxRecDepth 20000 in
theorem lkX10_13 : Cond.methodLink RX10 13 yJ9_min_7cf53 ∈ TB := (tb_k5 43 rfl rfl)
set_option maxRecDepth 20000 in
theorem lkX10_19 : Cond.methodLink RX10 19 yX10_sameAbout ∈ TB := (tb_k5 52 rfl rfl)
set_option maxRecDepth 20000 in
theorem lkX10_23 : Cond.methodLink RX10 23 yJ9_abs_0f7a4 ∈ TB := (tb_k5 53 rfl rfl)
set_option maxRecDepth 20000 in
theorem lkX10_26 : Cond.methodLinkNest RX10 26 yX11_then "EdgesFit" ∈ TB := (tb_k5 106 rfl rfl)
set_option maxRecDepth 20000 in
theorem lkX10_32 : Cond.methodLink RX10 32 yX10_bestPlace ∈ TB := (tb_k5 107 rfl rfl)
set_option maxRecDepth 20000 in
theorem lkL_13 : Cond.methodLink RL 13 yX11_cell ∈ TB := (tb_k2 106 rfl rfl)
set_option maxRecDepth 20000 in
theorem lkL_17 : Cond.methodLink RL 17 yX12_cell ∈ TB := (tb_k6 11 rfl rfl)
set_option maxRecDepth 20000 in
theorem lkL_18 : Cond.methodLink RL 18 yX11_run ∈ TB := (tb_k2 128 rfl rfl)
set_option maxRecDepth 20000 in
theorem lkL_22 : Cond.methodLink RL 22 yX12_run ∈ TB := (tb_k6 30 rfl rfl)
set_option maxRecDepth 20000 in
theorem lkL_23 : Cond.methodLink RL 23 yX11_land ∈ TB := (tb_k2 140 rfl rfl)
set_option maxRecDepth 20000 in
theorem lkL_26 : Cond.methodLink RL 26 yX12_land ∈ TB := (tb_k6 37 rfl rfl)
set_option maxRecDepth 20000 in
theorem lkL_27 : Cond.methodLink RL 27 yX11_mark ∈ TB := (tb_k2 175 rfl rfl)
set_option maxRecDepth 20000 in
theorem lkL_31 : Cond.methodLink RL 31 yX12_mark ∈ TB := (tb_k6 54 rfl rfl)
set_option maxRecDepth 20000 in
theorem lkL_32 : Cond.methodLink RL 32 yX11_as ∈ TB := (tb_k2 187 rfl rfl)
set_option maxRecDepth 20000 in
theorem lkL_35 : Cond.methodLink RL 35 yX12_as ∈ TB := (tb_k6 58 rfl rfl)
set_option maxRecDepth 20000 in
theorem lkL_36 : Cond.methodLink RL 36 yX11_about ∈ TB := (tb_k2 199 rfl rfl)
set_option maxRecDepth 20000 in
theorem lkL_39 : Cond.methodLink RL 39 yX12_about ∈ TB := (tb_k6 66 rfl rfl)
set_option maxRecDepth 20000 in
theorem lkL_40 : Cond.methodLink RL 40 yX11_goesOn ∈ TB := (tb_k2 221 rfl rfl)
set_option maxRecDepth 20000 in
theorem lkL_43 : Cond.methodLink RL 43 yX12_goesOn ∈ TB := (tb_k6 75 rfl rfl)
set_option maxRecDepth 20000 in
theorem lkL_44 : Cond.methodLink RL 44 yX11_drop ∈ TB := (tb_k2 232 rfl rfl)
set_option maxRecDepth 20000 in
theorem lkL_48 : Cond.methodLink RL 48 yX12_drop ∈ TB := (tb_k6 86 rfl rfl)
set_option maxRecDepth 20000 in
theorem lkL_49 : Cond.methodLink RL 49 yX11_put ∈ TB := (tb_k3 0 rfl rfl)
set_option maxRecDepth 20000 in
theorem lkL_53 : Cond.methodLink RL 53 yX12_put ∈ TB := (tb_k6 90 rfl rfl)
set_option maxRecDepth 20000 in
theorem lkL_54 : Cond.methodLink RL 54 yX11_fit ∈ TB := (tb_k3 66 rfl rfl)
set_option maxRecDepth 20000 in
theorem lkL_57 : Cond.methodLink RL 57 yX12_fit ∈ TB := (tb_k6 139 rfl rfl)
set_option maxRecDepth 20000 in
theorem lkL_58 : Cond.methodLink RL 58 yX11_chance ∈ TB := (tb_k3 86 rfl rfl)
set_option maxRecDepth 20000 in
theorem lkL_61 : Cond.methodLink RL 61 yX12_chance ∈ TB := (tb_k6 143 rfl rfl)
set_option maxRecDepth 20000 in
theorem lkL_62 : Cond.methodLink RL 62 yX11_beside ∈ TB := (tb_k3 93 rfl rfl)
set_option maxRecDepth 20000 in
theorem lkL_65 : Cond.methodLink RL 65 yX12_beside ∈ TB := (tb_k6 150 rfl rfl)
set_option maxRecDepth 20000 in
theorem ckL_66 : Cond.constantLong RL 66 (4294967295) ∈ TB := (tb_k7 126 rfl rfl)
set_option maxRecDepth 20000 in
theorem lkL_68 : Cond.methodLink RL 68 yX11_letters ∈ TB := (tb_k3 101 rfl rfl)
set_option maxRecDepth 20000 in
theorem lkL_72 : Cond.methodLink RL 72 yX12_letters ∈ TB := (tb_k6 158 rfl rfl)
set_option maxRecDepth 20000 in
theorem lkL_73 : Cond.methodLink RL 73 yX11_blank ∈ TB := (tb_k3 123 rfl rfl)
set_option maxRecDepth 20000 in
theorem lkL_76 : Cond.methodLink RL 76 yX12_blank ∈ TB := (tb_k6 163 rfl rfl)
set_option maxRecDepth 20000 in
theorem lkL_77 : Cond.methodLink RL 77 yX11_fault ∈ TB := (tb_k3 131 rfl rfl)
set_option maxRecDepth 20000 in
theorem lkL_80 : Cond.methodLink RL 80 yX12_fault ∈ TB := (tb_k6 167 rfl rfl)
set_option maxRecDepth 20000 in
theorem lkL_81 : Cond.methodLink RL 81 yX11_law ∈ TB := (tb_k4 0 rfl rfl)
set_option maxRecDepth 20000 in
theorem lkL_85 : Cond.methodLink RL 85 yX12_law ∈ TB := (tb_k6 203 rfl rfl)
set_option maxRecDepth 20000 in
theorem lkL_86 : Cond.methodLink RL 86 yX11_strike ∈ TB := (tb_k4 47 rfl rfl)
set_option maxRecDepth 20000 in
theorem lkL_89 : Cond.methodLink RL 89 yX12_strike ∈ TB := (tb_k6 210 rfl rfl)
set_option maxRecDepth 20000 in
theorem lkL_90 : Cond.methodLink RL 90 yX11_distance ∈ TB := (tb_k4 59 rfl rfl)
set_option maxRecDepth 20000 in
theorem lkL_93 : Cond.methodLink RL 93 yX12_distance ∈ TB := (tb_k6 214 rfl rfl)
set_option maxRecDepth 20000 in
theorem lkL_94 : Cond.methodLink RL 94 yX11_beast ∈ TB := (tb_k4 77 rfl rfl)
set_option maxRecDepth 20000 in
theorem lkL_97 : Cond.methodLink RL 97 yX12_beast ∈ TB := (tb_k6 225 rfl rfl)
set_option maxRecDepth 20000 in
theorem lkL_98 : Cond.methodLink RL 98 yX11_crossing ∈ TB := (tb_k4 89 rfl rfl)
set_option maxRecDepth 20000 in
theorem lkL_101 : Cond.methodLink RL 101 yX12_crossing ∈ TB := (tb_k6 231 rfl rfl)
set_option maxRecDepth 20000 in
theorem lkL_102 : Cond.methodLink RL 102 yX11_spread ∈ TB := (tb_k4 119 rfl rfl)
set_option maxRecDepth 20000 in
theorem lkL_105 : Cond.methodLink RL 105 yX12_spread ∈ TB := (tb_k7 14 rfl rfl)
set_option maxRecDepth 20000 in
theorem lkL_106 : Cond.methodLink RL 106 yX11_unlike ∈ TB := (tb_k4 158 rfl rfl)
set_option maxRecDepth 20000 in
theorem lkL_109 : Cond.methodLink RL 109 yX12_unlike ∈ TB := (tb_k7 31 rfl rfl)
set_option maxRecDepth 20000 in
theorem lkL_110 : Cond.methodLink RL 110 yX11_speed ∈ TB := (tb_k4 168 rfl rfl)
set_option maxRecDepth 20000 in
theorem lkL_113 : Cond.methodLink RL 113 yX12_speed ∈ TB := (tb_k7 39 rfl rfl)
set_option maxRecDepth 20000 in
theorem lkL_114 : Cond.methodLink RL 114 yX11_claim ∈ TB := (tb_k4 176 rfl rfl)
set_option maxRecDepth 20000 in
theorem lkL_118 : Cond.methodLink RL 118 yX12_claim ∈ TB := (tb_k7 43 rfl rfl)
set_option maxRecDepth 20000 in
theorem lkL_119 : Cond.methodLink RL 119 yX11_story ∈ TB := (tb_k4 188 rfl rfl)
set_option maxRecDepth 20000 in
theorem lkL_122 : Cond.methodLink RL 122 yX12_story ∈ TB := (tb_k7 48 rfl rfl)
set_option maxRecDepth 20000 in
theorem lkL_123 : Cond.methodLink RL 123 yX11_judge ∈ TB := (tb_k4 223 rfl rfl)
set_option maxRecDepth 20000 in
theorem lkL_127 : Cond.methodLink RL 127 yX12_judge ∈ TB := (tb_k7 69 rfl rfl)
set_option maxRecDepth 20000 in
theorem lkL_128 : Cond.methodLink RL 128 yX11_pole ∈ TB := (tb_k4 235 rfl rfl)
set_option maxRecDepth 20000 in
theorem lkL_131 : Cond.methodLink RL 131 yX12_pole ∈ TB := (tb_k7 74 rfl rfl)
set_option maxRecDepth 20000 in
theorem lkL_132 : Cond.methodLink RL 132 yX11_floor ∈ TB := (tb_k5 26 rfl rfl)
set_option maxRecDepth 20000 in
theorem lkL_135 : Cond.methodLink RL 135 yX12_floor ∈ TB := (tb_k7 86 rfl rfl)
set_option maxRecDepth 20000 in
theorem lkL_136 : Cond.methodLink RL 136 yX11_mirror ∈ TB := (tb_k5 35 rfl rfl)
set_option maxRecDepth 20000 in
theorem lkL_139 : Cond.methodLink RL 139 yX12_mirror ∈ TB := (tb_k7 91 rfl rfl)
set_option maxRecDepth 20000 in
theorem lkL_140 : Cond.methodLink RL 140 yX11_ridge ∈ TB := (tb_k5 44 rfl rfl)
set_option maxRecDepth 20000 in
theorem lkL_143 : Cond.methodLink RL 143 yX12_ridge ∈ TB := (tb_k7 100 rfl rfl)
set_option maxRecDepth 20000 in
theorem lkL_144 : Cond.methodLink RL 144 yX11_count ∈ TB := (tb_k5 54 rfl rfl)
set_option maxRecDepth 20000 in
theorem lkL_147 : Cond.methodLink RL 147 yX12_count ∈ TB := (tb_k7 108 rfl rfl)
set_option maxRecDepth 20000 in
theorem lkL_148 : Cond.methodLink RL 148 yX11_digest ∈ TB := (tb_k5 68 rfl rfl)
set_option maxRecDepth 20000 in
theorem lkL_152 : Cond.methodLink RL 152 yX12_digest ∈ TB := (tb_k7 116 rfl rfl)
set_option maxRecDepth 20000 in
theorem ckX12_90 : Cond.constantLong RX12 90 (5) ∈ TB := (tb_k6 18 rfl rfl)
set_option maxRecDepth 20000 in
theorem lkX12_92 : Cond.methodLink RX12 92 yX12_in ∈ TB := (tb_k6 19 rfl rfl)
set_option maxRecDepth 20000 in
theorem ckX12_96 : Cond.constantLong RX12 96 (127) ∈ TB := (tb_k6 25 rfl rfl)
set_option maxRecDepth 20000 in
theorem lkX12_101 : Cond.methodLink RX12 101 yX12_isLand ∈ TB := (tb_k6 15 rfl rfl)
set_option maxRecDepth 20000 in
theorem lkX12_105 : Cond.methodLink RX12 105 yX12_isCell ∈ TB := (tb_k6 22 rfl rfl)
set_option maxRecDepth 20000 in
theorem lkX12_108 : Cond.methodLink RX12 108 yX12_marksOn ∈ TB := (tb_k6 26 rfl rfl)
set_option maxRecDepth 20000 in
theorem ckX12_112 : Cond.constantLong RX12 112 (7) ∈ TB := (tb_k6 34 rfl rfl)
set_option maxRecDepth 20000 in
theorem ckX12_114 : Cond.constantLong RX12 114 (15) ∈ TB := (tb_k6 35 rfl rfl)
set_option maxRecDepth 20000 in
theorem ckX12_116 : Cond.constantLong RX12 116 (16) ∈ TB := (tb_k6 36 rfl rfl)
set_option maxRecDepth 20000 in
theorem ckX12_118 : Cond.constantLong RX12 118 (2) ∈ TB := (tb_k6 41 rfl rfl)
set_option maxRecDepth 20000 in
theorem lkX12_120 : Cond.methodLink RX12 120 yX12_cellsOf ∈ TB := (tb_k6 42 rfl rfl)
set_option maxRecDepth 20000 in
theorem lkX12_123 : Cond.methodLink RX12 123 yX12_leastCell ∈ TB := (tb_k6 46 rfl rfl)
set_option maxRecDepth 20000 in
theorem lkX12_126 : Cond.methodLink RX12 126 yX12_marksOf ∈ TB := (tb_k6 50 rfl rfl)
set_option maxRecDepth 20000 in
theorem lkX12_129 : Cond.methodLink RX12 129 yX12_isMark ∈ TB := (tb_k6 62 rfl rfl)
set_option maxRecDepth 20000 in
theorem ckX12_132 : Cond.constantLong RX12 132 (3) ∈ TB := (tb_k6 70 rfl rfl)
set_option maxRecDepth 20000 in
theorem lkX12_134 : Cond.methodLink RX12 134 yX12_weight ∈ TB := (tb_k6 71 rfl rfl)
set_option maxRecDepth 20000 in
theorem lkX12_137 : Cond.methodLink RX12 137 yX12_off ∈ TB := (tb_k6 83 rfl rfl)
set_option maxRecDepth 20000 in
theorem lkX12_141 : Cond.methodLink RX12 141 yX12_goes ∈ TB := (tb_k6 79 rfl rfl)
set_option maxRecDepth 20000 in
theorem lkX12_145 : Cond.methodLink RX12 145 yX12_east ∈ TB := (tb_k6 115 rfl rfl)
set_option maxRecDepth 20000 in
theorem lkX12_148 : Cond.methodLink RX12 148 yX12_gapBehind ∈ TB := (tb_k6 127 rfl rfl)
set_option maxRecDepth 20000 in
theorem lkX12_151 : Cond.methodLink RX12 151 yX12_overlap ∈ TB := (tb_k6 118 rfl rfl)
set_option maxRecDepth 20000 in
theorem lkX12_155 : Cond.methodLink RX12 155 yX12_gap ∈ TB := (tb_k6 123 rfl rfl)
set_option maxRecDepth 20000 in
theorem lkX12_158 : Cond.methodLink RX12 158 yX12_touch ∈ TB := (tb_k6 111 rfl rfl)
set_option maxRecDepth 20000 in
theorem lkX12_161 : Cond.methodLink RX12 161 yX12_lay ∈ TB := (tb_k6 107 rfl rfl)
set_option maxRecDepth 20000 in
theorem ckX12_165 : Cond.constantLong RX12 165 (-7) ∈ TB := (tb_k6 101 rfl rfl)
set_option maxRecDepth 20000 in
theorem lkX12_167 : Cond.methodLink RX12 167 yX12_isPair ∈ TB := (tb_k6 94 rfl rfl)
set_option maxRecDepth 20000 in
theorem ckX12_170 : Cond.constant RX12 170 (-1000002) ∈ TB := (tb_k6 97 rfl rfl)
set_option maxRecDepth 20000 in
theorem lkX12_171 : Cond.methodLink RX12 171 yX12_isPlace ∈ TB := (tb_k6 98 rfl rfl)
set_option maxRecDepth 20000 in
theorem ckX12_174 : Cond.constant RX12 174 (-1000003) ∈ TB := (tb_k6 102 rfl rfl)
set_option maxRecDepth 20000 in
theorem lkX12_175 : Cond.methodLink RX12 175 yX12_isCounted ∈ TB := (tb_k6 103 rfl rfl)
set_option maxRecDepth 20000 in
theorem ckX12_178 : Cond.constant RX12 178 (-1000001) ∈ TB := (tb_k6 122 rfl rfl)
set_option maxRecDepth 20000 in
theorem lkX12_179 : Cond.methodLink RX12 179 yX12_cost ∈ TB := (tb_k6 131 rfl rfl)
set_option maxRecDepth 20000 in
theorem lkX12_182 : Cond.methodLink RX12 182 yX12_onOf ∈ TB := (tb_k6 135 rfl rfl)
set_option maxRecDepth 20000 in
theorem lkX12_186 : Cond.methodLink RX12 186 yX12_common ∈ TB := (tb_k6 147 rfl rfl)
set_option maxRecDepth 20000 in
theorem lkX12_189 : Cond.methodLink RX12 189 yX12_asGreat ∈ TB := (tb_k6 154 rfl rfl)
set_option maxRecDepth 20000 in
theorem ckX12_193 : Cond.constantLong RX12 193 (255) ∈ TB := (tb_k6 162 rfl rfl)
set_option maxRecDepth 20000 in
theorem lkX12_204 : Cond.methodLink RX12 204 yX12_layMark ∈ TB := (tb_k6 191 rfl rfl)
set_option maxRecDepth 20000 in
theorem lkX12_220 : Cond.methodLink RX12 220 yX12_endNumber ∈ TB := (tb_k6 187 rfl rfl)
set_option maxRecDepth 20000 in
theorem lkX12_223 : Cond.methodLink RX12 223 yX12_layDown ∈ TB := (tb_k6 199 rfl rfl)
set_option maxRecDepth 20000 in
theorem ckX12_227 : Cond.constantLong RX12 227 (48) ∈ TB := (tb_k6 179 rfl rfl)
set_option maxRecDepth 20000 in
theorem ckX12_229 : Cond.constantLong RX12 229 (57) ∈ TB := (tb_k6 180 rfl rfl)
set_option maxRecDepth 20000 in
theorem lkX12_231 : Cond.methodLink RX12 231 yX12_wayOf ∈ TB := (tb_k6 181 rfl rfl)
set_option maxRecDepth 20000 in
theorem lkX12_240 : Cond.methodLink RX12 240 yX12_letterOf ∈ TB := (tb_k6 184 rfl rfl)
set_option maxRecDepth 20000 in
theorem lkX12_243 : Cond.methodLink RX12 243 yX12_goBehind ∈ TB := (tb_k6 195 rfl rfl)
set_option maxRecDepth 20000 in
theorem lkX12_246 : Cond.methodLink RX12 246 yX12_go ∈ TB := (tb_k6 175 rfl rfl)
set_option maxRecDepth 20000 in
theorem lkX12_249 : Cond.methodLink RX12 249 yX12_faultOf ∈ TB := (tb_k6 171 rfl rfl)
set_option maxRecDepth 20000 in
theorem lkX12_252 : Cond.methodLink RX12 252 yX12_isHolder ∈ TB := (tb_k6 207 rfl rfl)
set_option maxRecDepth 20000 in
theorem lkX12_255 : Cond.methodLink RX12 255 yX12_apart ∈ TB := (tb_k6 222 rfl rfl)
set_option maxRecDepth 20000 in
theorem lkX12_258 : Cond.methodLink RX12 258 yX12_distanceOf ∈ TB := (tb_k6 218 rfl rfl)
set_option maxRecDepth 20000 in
theorem ckX12_261 : Cond.constantLong RX12 261 (63) ∈ TB := (tb_k6 229 rfl rfl)
set_option maxRecDepth 20000 in
theorem ckX12_263 : Cond.constantLong RX12 263 (9) ∈ TB := (tb_k6 230 rfl rfl)
set_option maxRecDepth 20000 in
theorem lkX12_268 : Cond.methodLink RX12 268 yX12_bitsOf ∈ TB := (tb_k7 7 rfl rfl)
set_option maxRecDepth 20000 in
theorem lkX12_271 : Cond.methodLink RX12 271 yX12_holdsFor ∈ TB := (tb_k7 10 rfl rfl)
set_option maxRecDepth 20000 in
theorem lkX12_277 : Cond.methodLink RX12 277 yX12_wayCost ∈ TB := (tb_k7 3 rfl rfl)
set_option maxRecDepth 20000 in
theorem lkX12_280 : Cond.methodLink RX12 280 yX12_isBeast ∈ TB := (tb_k6 235 rfl rfl)
set_option maxRecDepth 20000 in
theorem lkX12_283 : Cond.methodLink RX12 283 yX12_crossingOf ∈ TB := (tb_k6 239 rfl rfl)
set_option maxRecDepth 20000 in
theorem ckX12_286 : Cond.constant RX12 286 (100000) ∈ TB := (tb_k7 26 rfl rfl)
set_option maxRecDepth 20000 in
theorem lkX12_287 : Cond.methodLink RX12 287 yX12_layBetween ∈ TB := (tb_k7 22 rfl rfl)
set_option maxRecDepth 20000 in
theorem lkX12_296 : Cond.methodLink RX12 296 yX12_joined ∈ TB := (tb_k7 27 rfl rfl)
set_option maxRecDepth 20000 in
theorem lkX12_299 : Cond.methodLink RX12 299 yX12_findSpread ∈ TB := (tb_k7 18 rfl rfl)
set_option maxRecDepth 20000 in
theorem lkX12_302 : Cond.methodLink RX12 302 yX12_spreadOf ∈ TB := (tb_k7 35 rfl rfl)
set_option maxRecDepth 20000 in
theorem ckX12_305 : Cond.constantLong RX12 305 (99) ∈ TB := (tb_k7 47 rfl rfl)
set_option maxRecDepth 20000 in
theorem lkX12_310 : Cond.methodLink RX12 310 yX12_gone ∈ TB := (tb_k7 58 rfl rfl)
set_option maxRecDepth 20000 in
theorem lkX12_313 : Cond.methodLink RX12 313 yX12_broken ∈ TB := (tb_k7 61 rfl rfl)
set_option maxRecDepth 20000 in
theorem ckX12_317 : Cond.constantLong RX12 317 (10) ∈ TB := (tb_k7 52 rfl rfl)
set_option maxRecDepth 20000 in
theorem ckX12_319 : Cond.constantLong RX12 319 (19) ∈ TB := (tb_k7 53 rfl rfl)
set_option maxRecDepth 20000 in
theorem lkX12_321 : Cond.methodLink RX12 321 yX12_layOnward ∈ TB := (tb_k7 54 rfl rfl)
set_option maxRecDepth 20000 in
theorem lkX12_324 : Cond.methodLink RX12 324 yX12_storyAt ∈ TB := (tb_k7 65 rfl rfl)
set_option maxRecDepth 20000 in
theorem ckX12_327 : Cond.constantLong RX12 327 (1099511627775) ∈ TB := (tb_k7 73 rfl rfl)
set_option maxRecDepth 20000 in
theorem lkX12_329 : Cond.methodLink RX12 329 yX12_hasNeedle ∈ TB := (tb_k7 78 rfl rfl)
set_option maxRecDepth 20000 in
theorem lkX12_332 : Cond.methodLink RX12 332 yX12_agreeAt ∈ TB := (tb_k7 82 rfl rfl)
set_option maxRecDepth 20000 in
theorem ckX12_335 : Cond.constantLong RX12 335 (16777215) ∈ TB := (tb_k7 90 rfl rfl)
set_option maxRecDepth 20000 in
theorem ckX12_340 : Cond.constantLong RX12 340 (23) ∈ TB := (tb_k7 95 rfl rfl)
set_option maxRecDepth 20000 in
theorem lkX12_342 : Cond.methodLink RX12 342 yX12_mirrorOf ∈ TB := (tb_k7 96 rfl rfl)
set_option maxRecDepth 20000 in
theorem lkX12_345 : Cond.methodLink RX12 345 yX12_ridgeOf ∈ TB := (tb_k7 104 rfl rfl)
set_option maxRecDepth 20000 in
theorem lkX12_348 : Cond.methodLink RX12 348 yX12_countOf ∈ TB := (tb_k7 112 rfl rfl)
set_option maxRecDepth 20000 in
theorem ckX12_351 : Cond.constantLong RX12 351 (31) ∈ TB := (tb_k7 125 rfl rfl)
set_option maxRecDepth 20000 in
theorem ckX12_357 : Cond.constantLong RX12 357 (313) ∈ TB := (tb_k7 120 rfl rfl)
set_option maxRecDepth 20000 in
theorem lkX12_359 : Cond.methodLink RX12 359 yX12_tell ∈ TB := (tb_k7 121 rfl rfl)
set_option maxRecDepth 20000 in
theorem ckJ11_76 : Cond.constant RJ11 76 (56320) ∈ TB := (tb_k3 227 rfl rfl)
set_option maxRecDepth 20000 in
theorem ckJ11_110 : Cond.constant RJ11 110 (55232) ∈ TB := (tb_k3 223 rfl rfl)
set_option maxRecDepth 20000 in
theorem ckJ6_264 : Cond.constant RJ6 264 (65536) ∈ TB := (tb_k2 165 rfl rfl)
set_option maxRecDepth 20000 in
theorem ckJ6_265 : Cond.constant RJ6 265 (1431655765) ∈ TB := (tb_k2 155 rfl rfl)
set_option maxRecDepth 20000 in
theorem ckJ6_266 : Cond.constant RJ6 266 (858993459) ∈ TB := (tb_k2 156 rfl rfl)
set_option maxRecDepth 20000 in
theorem ckJ6_267 : Cond.constant RJ6 267 (252645135) ∈ TB := (tb_k2 157 rfl rfl)
set_option maxRecDepth 20000 in
theorem lkJ0_335 : Cond.methodLink RJ0 335 yJ0_coder_7d493 ∈ TB := (tb_k3 164 rfl rfl)
set_option maxRecDepth 20000 in
theorem lkJ0_492 : Cond.methodLink RJ0 492 yJ0_isLatin1_aae02 ∈ TB := (tb_k3 154 rfl rfl)
set_option maxRecDepth 20000 in
theorem lkJ0_505 : Cond.methodLink RJ0 505 yJ0_length_8abf5 ∈ TB := (tb_k3 160 rfl rfl)
set_option maxRecDepth 20000 in
theorem lkJ0_633 : Cond.methodLink RJ0 633 yJ0_indexOf_7cf53 ∈ TB := (tb_k3 150 rfl rfl)
set_option maxRecDepth 20000 in
theorem lkJ0_637 : Cond.methodLink RJ0 637 yJ1_indexOf_4cfef ∈ TB := (tb_k3 168 rfl rfl)
set_option maxRecDepth 20000 in
theorem lkJ0_640 : Cond.methodLink RJ0 640 yJ2_indexOf_4cfef ∈ TB := (tb_k3 179 rfl rfl)
set_option maxRecDepth 20000 in
theorem lkJ0_1062 : Cond.methodLink RJ0 1062 yJ3_checkFromToIndex_8c36e ∈ TB := (tb_k3 199 rfl rfl)
set_option maxRecDepth 20000 in
theorem lkJ1_38 : Cond.methodLink RJ1 38 yJ9_min_7cf53 ∈ TB := (tb_k3 175 rfl rfl)
set_option maxRecDepth 20000 in
theorem lkJ1_88 : Cond.methodLink RJ1 88 yJ1_canEncode_9a6ad ∈ TB := (tb_k3 171 rfl rfl)
set_option maxRecDepth 20000 in
theorem lkJ1_92 : Cond.methodLink RJ1 92 yJ9_max_7cf53 ∈ TB := (tb_k3 174 rfl rfl)
set_option maxRecDepth 20000 in
theorem lkJ1_95 : Cond.methodLink RJ1 95 yJ1_indexOfChar_4cfef ∈ TB := (tb_k3 176 rfl rfl)
set_option maxRecDepth 20000 in
theorem ckJ2_227 : Cond.constant RJ2 227 (65536) ∈ TB := (tb_k3 184 rfl rfl)
set_option maxRecDepth 20000 in
theorem ykM_max : Cond.static Lib.Math.max.name ∈ TB ∧ Cond.initialized "java/lang/Math" ∈ TB ∧ Cond.code Lib.Math.max.name Lib.Math.max.code 2 (some .int) ∈ TB := ⟨(tb_k3 44 rfl rfl), (tb_k1 16 rfl rfl), (tb_k3 45 rfl rfl)⟩
set_option maxRecDepth 20000 in
theorem ykM_min : Cond.static Lib.Math.min.name ∈ TB ∧ Cond.initialized "java/lang/Math" ∈ TB ∧ Cond.code Lib.Math.min.name Lib.Math.min.code 2 (some .int) ∈ TB := ⟨(tb_k3 35 rfl rfl), (tb_k1 16 rfl rfl), (tb_k3 36 rfl rfl)⟩
set_option maxRecDepth 20000 in
theorem ykM_abs : Cond.static Lib.Math.abs.name ∈ TB ∧ Cond.initialized "java/lang/Math" ∈ TB ∧ Cond.code Lib.Math.abs.name Lib.Math.abs.code 1 (some .int) ∈ TB := ⟨(tb_k2 230 rfl rfl), (tb_k1 16 rfl rfl), (tb_k2 231 rfl rfl)⟩
