/-! what the words of the tables say, one by one -/
theorem inT0 {w : Cond} (i : Nat) (h : (k2_sels lw_privs)[i]? = some w) (hg : goodWord w = true) : w ∈ ALLG := List.mem_filter.mpr ⟨List.mem_append_left _ (List.mem_of_getElem? h), hg⟩
theorem inT1 {w : Cond} (i : Nat) (h : tables_1_1[i]? = some w) (hg : goodWord w = true) : w ∈ ALLG := List.mem_filter.mpr ⟨List.mem_append_right _ (List.mem_append_left _ (List.mem_of_getElem? h)), hg⟩
theorem inT2 {w : Cond} (i : Nat) (h : tables_1_2[i]? = some w) (hg : goodWord w = true) : w ∈ ALLG := List.mem_filter.mpr ⟨List.mem_append_right _ (List.mem_append_right _ (List.mem_append_left _ (List.mem_of_getElem? h))), hg⟩
theorem inT3 {w : Cond} (i : Nat) (h : tables_1_3[i]? = some w) (hg : goodWord w = true) : w ∈ ALLG := List.mem_filter.mpr ⟨List.mem_append_right _ (List.mem_append_right _ (List.mem_append_right _ (List.mem_append_left _ (List.mem_of_getElem? h)))), hg⟩
theorem inT4 {w : Cond} (i : Nat) (h : tables_1_4[i]? = some w) (hg : goodWord w = true) : w ∈ ALLG := List.mem_filter.mpr ⟨List.mem_append_right _ (List.mem_append_right _ (List.mem_append_right _ (List.mem_append_right _ (List.mem_append_left _ (List.mem_of_getElem? h))))), hg⟩
theorem inT5 {w : Cond} (i : Nat) (h : tables_1_5[i]? = some w) (hg : goodWord w = true) : w ∈ ALLG := List.mem_filter.mpr ⟨List.mem_append_right _ (List.mem_append_right _ (List.mem_append_right _ (List.mem_append_right _ (List.mem_append_right _ (List.mem_append_left _ (List.mem_of_getElem? h)))))), hg⟩
theorem inT6 {w : Cond} (i : Nat) (h : tables_1_6[i]? = some w) (hg : goodWord w = true) : w ∈ ALLG := List.mem_filter.mpr ⟨List.mem_append_right _ (List.mem_append_right _ (List.mem_append_right _ (List.mem_append_right _ (List.mem_append_right _ (List.mem_append_right _ (List.mem_append_left _ (List.mem_of_getElem? h))))))), hg⟩
theorem inT7 {w : Cond} (i : Nat) (h : tables_1_7[i]? = some w) (hg : goodWord w = true) : w ∈ ALLG := List.mem_filter.mpr ⟨List.mem_append_right _ (List.mem_append_right _ (List.mem_append_right _ (List.mem_append_right _ (List.mem_append_right _ (List.mem_append_right _ (List.mem_append_right _ (List.mem_append_left _ (List.mem_of_getElem? h)))))))), hg⟩
theorem inT8 {w : Cond} (i : Nat) (h : tables_1_8[i]? = some w) (hg : goodWord w = true) : w ∈ ALLG := List.mem_filter.mpr ⟨List.mem_append_right _ (List.mem_append_right _ (List.mem_append_right _ (List.mem_append_right _ (List.mem_append_right _ (List.mem_append_right _ (List.mem_append_right _ (List.mem_append_right _ (List.mem_of_getElem? h)))))))), hg⟩
def NT (ci : Nat) : Prop := ci = 4 ∨ ci = 6
set_option maxRecDepth 100000 in
theorem ck0 : ClsOK 0 := ⟨inGs [239, 241, 243, 245, 247] (by decide +kernel) (by decide +kernel), by decide +kernel, by decide +kernel, inT1 108 rfl rfl, inT1 6 rfl rfl⟩
set_option maxRecDepth 100000 in
theorem rk0 : ∀ j, j < clN 0 → fk 0 j = 2 → isRT (tyTab 0 j) = true := by decide +kernel
set_option maxRecDepth 100000 in
theorem ck1 : ClsOK 1 := ⟨inGs [147, 149, 151, 153, 155] (by decide +kernel) (by decide +kernel), by decide +kernel, by decide +kernel, inT1 30 rfl rfl, inT1 2 rfl rfl⟩
set_option maxRecDepth 100000 in
theorem rk1 : ∀ j, j < clN 1 → fk 1 j = 2 → isRT (tyTab 1 j) = true := by decide +kernel
set_option maxRecDepth 100000 in
theorem ck2 : ClsOK 2 := ⟨inGs [391, 393, 395, 397, 399, 401, 403] (by decide +kernel) (by decide +kernel), by decide +kernel, by decide +kernel, inT1 102 rfl rfl, inT1 5 rfl rfl⟩
set_option maxRecDepth 100000 in
theorem rk2 : ∀ j, j < clN 2 → fk 2 j = 2 → isRT (tyTab 2 j) = true := by decide +kernel
set_option maxRecDepth 100000 in
theorem ck3 : ClsOK 3 := ⟨inGs [187, 189, 191, 193, 195] (by decide +kernel) (by decide +kernel), by decide +kernel, by decide +kernel, inT1 79 rfl rfl, inT1 4 rfl rfl⟩
set_option maxRecDepth 100000 in
theorem rk3 : ∀ j, j < clN 3 → fk 3 j = 2 → isRT (tyTab 3 j) = true := by decide +kernel
set_option maxRecDepth 100000 in
theorem ck4 : ClsOK 4 := ⟨inGs [339, 341, 343, 345, 347, 349, 351, 325, 327, 329, 331, 333, 335, 337] (by decide +kernel) (by decide +kernel), by decide +kernel, by decide +kernel, inT1 153 rfl rfl, inT1 9 rfl rfl⟩
set_option maxRecDepth 100000 in
theorem rk4 : ∀ j, j < clN 4 → fk 4 j = 2 → isRT (tyTab 4 j) = true := by decide +kernel
set_option maxRecDepth 100000 in
theorem ck5 : ClsOK 5 := ⟨inGs [169, 171, 173] (by decide +kernel) (by decide +kernel), by decide +kernel, by decide +kernel, inT1 62 rfl rfl, inT1 3 rfl rfl⟩
set_option maxRecDepth 100000 in
theorem rk5 : ∀ j, j < clN 5 → fk 5 j = 2 → isRT (tyTab 5 j) = true := by decide +kernel
set_option maxRecDepth 100000 in
theorem ck6 : ClsOK 6 := ⟨inGs [370, 371, 372, 373, 374, 375, 376, 364, 366, 368] (by decide +kernel) (by decide +kernel), by decide +kernel, by decide +kernel, inT2 17 rfl rfl, inT1 11 rfl rfl⟩
set_option maxRecDepth 100000 in
theorem rk6 : ∀ j, j < clN 6 → fk 6 j = 2 → isRT (tyTab 6 j) = true := by decide +kernel
set_option maxRecDepth 100000 in
theorem ck7 : ClsOK 7 := ⟨inGs [271, 273] (by decide +kernel) (by decide +kernel), by decide +kernel, by decide +kernel, inT1 162 rfl rfl, inT1 10 rfl rfl⟩
set_option maxRecDepth 100000 in
theorem rk7 : ∀ j, j < clN 7 → fk 7 j = 2 → isRT (tyTab 7 j) = true := by decide +kernel
set_option maxRecDepth 100000 in
theorem ck8 : ClsOK 8 := ⟨inGs [220, 222] (by decide +kernel) (by decide +kernel), by decide +kernel, by decide +kernel, inT1 114 rfl rfl, inT1 7 rfl rfl⟩
set_option maxRecDepth 100000 in
theorem rk8 : ∀ j, j < clN 8 → fk 8 j = 2 → isRT (tyTab 8 j) = true := by decide +kernel
set_option maxRecDepth 100000 in
theorem ck9 : ClsOK 9 := ⟨inGs [509, 511, 513, 515, 517, 519, 521, 523, 525, 527, 529] (by decide +kernel) (by decide +kernel), by decide +kernel, by decide +kernel, inT1 22 rfl rfl, inT1 1 rfl rfl⟩
set_option maxRecDepth 100000 in
theorem rk9 : ∀ j, j < clN 9 → fk 9 j = 2 → isRT (tyTab 9 j) = true := by decide +kernel
set_option maxRecDepth 100000 in
theorem ck10 : ClsOK 10 := ⟨inGs [1366, 1368, 1370, 1372, 1374, 1376, 1378, 1380, 1382, 1384, 1386, 1388, 1390, 1392, 1394, 1396, 1398, 1400, 1402, 1404, 1406, 1408, 1410, 1412, 1414, 1416, 1418, 1420, 1422, 1424, 1426, 1428, 1430, 1432, 1434, 1436, 1438, 1440, 1442, 1444, 1446, 1448, 1450, 1452, 1454, 1456, 1458, 1460, 1462, 1464, 1466] (by decide +kernel) (by decide +kernel), by decide +kernel, by decide +kernel, inT5 168 rfl rfl, inT1 14 rfl rfl⟩
set_option maxRecDepth 100000 in
theorem rk10 : ∀ j, j < clN 10 → fk 10 j = 2 → isRT (tyTab 10 j) = true := by decide +kernel
set_option maxRecDepth 100000 in
theorem ckN {ci : Nat} (h : NT ci) : ClsOK ci := by
  rcases h with rfl | rfl
  · exact ck4
  · exact ck6
set_option maxRecDepth 100000 in
theorem ac_int : Cond.arrayClass .int ∈ ALLG := inT1 60 rfl rfl
set_option maxRecDepth 100000 in
theorem ac_long : Cond.arrayClass .long ∈ ALLG := inT1 100 rfl rfl
set_option maxRecDepth 100000 in
theorem ac_boolean : Cond.arrayClass .boolean ∈ ALLG := inT6 171 rfl rfl
abbrev mdX0_init : MD := (RX0, yX0_init, cX0_init, 2, none, none)
set_option maxRecDepth 100000 in
theorem moX0_init : MOK mdX0_init 1 := ⟨inT1 111 rfl rfl, inT1 6 rfl rfl, ⟨by decide +kernel, by decide +kernel, by decide +kernel⟩, by decide, by decide +kernel, rfl, rfl⟩
set_option maxRecDepth 100000 in
theorem imX0_init : Cond.instanceMethod yX0_init ∈ ALLG := inT1 110 rfl rfl
abbrev mdX0_charge : MD := (RX0, yX0_charge, cX0_charge, 3, none, none)
set_option maxRecDepth 100000 in
theorem moX0_charge : MOK mdX0_charge 2 := ⟨inT3 148 rfl rfl, inT1 6 rfl rfl, ⟨by decide +kernel, by decide +kernel, by decide +kernel⟩, by decide, by decide +kernel, rfl, rfl⟩
set_option maxRecDepth 100000 in
theorem imX0_charge : Cond.instanceMethod yX0_charge ∈ ALLG := inT3 146 rfl rfl
set_option maxRecDepth 100000 in
theorem seX0_charge : Cond.selects RX0 yX0_charge yX0_charge ∈ ALLG := inT3 147 rfl rfl
abbrev mdX0_forget : MD := (RX0, yX0_forget, cX0_forget, 1, none, none)
set_option maxRecDepth 100000 in
theorem moX0_forget : MOK mdX0_forget 0 := ⟨inT2 79 rfl rfl, inT1 6 rfl rfl, ⟨by decide +kernel, by decide +kernel, by decide +kernel⟩, by decide, by decide +kernel, rfl, rfl⟩
set_option maxRecDepth 100000 in
theorem imX0_forget : Cond.instanceMethod yX0_forget ∈ ALLG := inT2 77 rfl rfl
set_option maxRecDepth 100000 in
theorem seX0_forget : Cond.selects RX0 yX0_forget yX0_forget ∈ ALLG := inT2 78 rfl rfl
abbrev mdX0_ask : MD := (RX0, yX0_ask, cX0_ask, 3, some .int, none)
set_option maxRecDepth 100000 in
theorem moX0_ask : MOK mdX0_ask 1 := ⟨inT2 126 rfl rfl, inT1 6 rfl rfl, ⟨by decide +kernel, by decide +kernel, by decide +kernel⟩, by decide, by decide +kernel, rfl, rfl⟩
set_option maxRecDepth 100000 in
theorem imX0_ask : Cond.instanceMethod yX0_ask ∈ ALLG := inT2 124 rfl rfl
set_option maxRecDepth 100000 in
theorem seX0_ask : Cond.selects RX0 yX0_ask yX0_ask ∈ ALLG := inT2 125 rfl rfl
abbrev mdX1_measure : MD := (RX1, yX1_measure, cX1_measure, 6, some .int, none)
set_option maxRecDepth 100000 in
theorem moX1_measure : MOK mdX1_measure 2 := ⟨inT3 100 rfl rfl, inT1 13 rfl rfl, ⟨by decide +kernel, by decide +kernel, by decide +kernel⟩, by decide, by decide +kernel, rfl, rfl⟩
set_option maxRecDepth 100000 in
theorem saX1_measure : Cond.static yX1_measure ∈ ALLG := inT3 99 rfl rfl
abbrev mdX1_length : MD := (RX1, yX1_length, cX1_length, 5, some .int, none)
set_option maxRecDepth 100000 in
theorem moX1_length : MOK mdX1_length 1 := ⟨inT2 142 rfl rfl, inT1 13 rfl rfl, ⟨by decide +kernel, by decide +kernel, by decide +kernel⟩, by decide, by decide +kernel, rfl, rfl⟩
set_option maxRecDepth 100000 in
theorem saX1_length : Cond.static yX1_length ∈ ALLG := inT2 141 rfl rfl
abbrev mdX1_at : MD := (RX1, yX1_at, cX1_at, 4, some .int, none)
set_option maxRecDepth 100000 in
theorem moX1_at : MOK mdX1_at 2 := ⟨inT3 119 rfl rfl, inT1 13 rfl rfl, ⟨by decide +kernel, by decide +kernel, by decide +kernel⟩, by decide, by decide +kernel, rfl, rfl⟩
set_option maxRecDepth 100000 in
theorem saX1_at : Cond.static yX1_at ∈ ALLG := inT3 118 rfl rfl
abbrev mdX1_then : MD := (RX1, yX1_then, cX1_then, 3, some .long, none)
set_option maxRecDepth 100000 in
theorem moX1_then : MOK mdX1_then 2 := ⟨inT3 75 rfl rfl, inT1 13 rfl rfl, ⟨by decide +kernel, by decide +kernel, by decide +kernel⟩, by decide, by decide +kernel, rfl, rfl⟩
set_option maxRecDepth 100000 in
theorem saX1_then : Cond.static yX1_then ∈ ALLG := inT3 74 rfl rfl
abbrev mdX1_join : MD := (RX1, yX1_join, cX1_join, 7, some .long, none)
set_option maxRecDepth 100000 in
theorem moX1_join : MOK mdX1_join 2 := ⟨inT3 110 rfl rfl, inT1 13 rfl rfl, ⟨by decide +kernel, by decide +kernel, by decide +kernel⟩, by decide, by decide +kernel, rfl, rfl⟩
set_option maxRecDepth 100000 in
theorem saX1_join : Cond.static yX1_join ∈ ALLG := inT3 109 rfl rfl
abbrev mdX1_first : MD := (RX1, yX1_first, cX1_first, 4, some .long, none)
set_option maxRecDepth 100000 in
theorem moX1_first : MOK mdX1_first 2 := ⟨inT3 129 rfl rfl, inT1 13 rfl rfl, ⟨by decide +kernel, by decide +kernel, by decide +kernel⟩, by decide, by decide +kernel, rfl, rfl⟩
set_option maxRecDepth 100000 in
theorem saX1_first : Cond.static yX1_first ∈ ALLG := inT3 128 rfl rfl
abbrev mdX1_behind : MD := (RX1, yX1_behind, cX1_behind, 6, some .long, none)
set_option maxRecDepth 100000 in
theorem moX1_behind : MOK mdX1_behind 2 := ⟨inT3 126 rfl rfl, inT1 13 rfl rfl, ⟨by decide +kernel, by decide +kernel, by decide +kernel⟩, by decide, by decide +kernel, rfl, rfl⟩
set_option maxRecDepth 100000 in
theorem saX1_behind : Cond.static yX1_behind ∈ ALLG := inT3 125 rfl rfl
abbrev mdX1_countUpTo : MD := (RX1, yX1_countUpTo, cX1_countUpTo, 5, some .int, none)
set_option maxRecDepth 100000 in
theorem moX1_countUpTo : MOK mdX1_countUpTo 2 := ⟨inT5 16 rfl rfl, inT1 13 rfl rfl, ⟨by decide +kernel, by decide +kernel, by decide +kernel⟩, by decide, by decide +kernel, rfl, rfl⟩
set_option maxRecDepth 100000 in
theorem saX1_countUpTo : Cond.static yX1_countUpTo ∈ ALLG := inT5 15 rfl rfl
abbrev mdX1_kth : MD := (RX1, yX1_kth, cX1_kth, 7, some .long, none)
set_option maxRecDepth 100000 in
theorem moX1_kth : MOK mdX1_kth 2 := ⟨inT3 137 rfl rfl, inT1 13 rfl rfl, ⟨by decide +kernel, by decide +kernel, by decide +kernel⟩, by decide, by decide +kernel, rfl, rfl⟩
set_option maxRecDepth 100000 in
theorem saX1_kth : Cond.static yX1_kth ∈ ALLG := inT3 136 rfl rfl
abbrev mdX1_numbered : MD := (RX1, yX1_numbered, cX1_numbered, 9, some .long, none)
set_option maxRecDepth 100000 in
theorem moX1_numbered : MOK mdX1_numbered 3 := ⟨inT3 140 rfl rfl, inT1 13 rfl rfl, ⟨by decide +kernel, by decide +kernel, by decide +kernel⟩, by decide, by decide +kernel, rfl, rfl⟩
set_option maxRecDepth 100000 in
theorem saX1_numbered : Cond.static yX1_numbered ∈ ALLG := inT3 139 rfl rfl
abbrev mdX2_init : MD := (RX2, yX2_init, cX2_init, 1, none, none)
set_option maxRecDepth 100000 in
theorem moX2_init : MOK mdX2_init 0 := ⟨inT1 33 rfl rfl, inT1 2 rfl rfl, ⟨by decide +kernel, by decide +kernel, by decide +kernel⟩, by decide, by decide +kernel, rfl, rfl⟩
set_option maxRecDepth 100000 in
theorem imX2_init : Cond.instanceMethod yX2_init ∈ ALLG := inT1 32 rfl rfl
abbrev mdX2_shape : MD := (RX2, yX2_shape, cX2_shape, 3, none, none)
set_option maxRecDepth 100000 in
theorem moX2_shape : MOK mdX2_shape 2 := ⟨inT2 110 rfl rfl, inT1 2 rfl rfl, ⟨by decide +kernel, by decide +kernel, by decide +kernel⟩, by decide, by decide +kernel, rfl, rfl⟩
set_option maxRecDepth 100000 in
theorem imX2_shape : Cond.instanceMethod yX2_shape ∈ ALLG := inT2 108 rfl rfl
set_option maxRecDepth 100000 in
theorem seX2_shape : Cond.selects RX2 yX2_shape yX2_shape ∈ ALLG := inT2 109 rfl rfl
abbrev mdX2_setOutput : MD := (RX2, yX2_setOutput, cX2_setOutput, 3, none, none)
set_option maxRecDepth 100000 in
theorem moX2_setOutput : MOK mdX2_setOutput 2 := ⟨inT2 233 rfl rfl, inT1 2 rfl rfl, ⟨by decide +kernel, by decide +kernel, by decide +kernel⟩, by decide, by decide +kernel, rfl, rfl⟩
set_option maxRecDepth 100000 in
theorem imX2_setOutput : Cond.instanceMethod yX2_setOutput ∈ ALLG := inT2 231 rfl rfl
set_option maxRecDepth 100000 in
theorem seX2_setOutput : Cond.selects RX2 yX2_setOutput yX2_setOutput ∈ ALLG := inT2 232 rfl rfl
abbrev mdX2_setNext : MD := (RX2, yX2_setNext, cX2_setNext, 5, none, none)
set_option maxRecDepth 100000 in
theorem moX2_setNext : MOK mdX2_setNext 3 := ⟨inT3 1 rfl rfl, inT1 2 rfl rfl, ⟨by decide +kernel, by decide +kernel, by decide +kernel⟩, by decide, by decide +kernel, rfl, rfl⟩
set_option maxRecDepth 100000 in
theorem imX2_setNext : Cond.instanceMethod yX2_setNext ∈ ALLG := inT2 239 rfl rfl
set_option maxRecDepth 100000 in
theorem seX2_setNext : Cond.selects RX2 yX2_setNext yX2_setNext ∈ ALLG := inT3 0 rfl rfl
abbrev mdX2_outputOf : MD := (RX2, yX2_outputOf, cX2_outputOf, 2, some .int, none)
set_option maxRecDepth 100000 in
theorem moX2_outputOf : MOK mdX2_outputOf 1 := ⟨inT2 155 rfl rfl, inT1 2 rfl rfl, ⟨by decide +kernel, by decide +kernel, by decide +kernel⟩, by decide, by decide +kernel, rfl, rfl⟩
set_option maxRecDepth 100000 in
theorem imX2_outputOf : Cond.instanceMethod yX2_outputOf ∈ ALLG := inT2 153 rfl rfl
set_option maxRecDepth 100000 in
theorem seX2_outputOf : Cond.selects RX2 yX2_outputOf yX2_outputOf ∈ ALLG := inT2 154 rfl rfl
abbrev mdX2_nextOf : MD := (RX2, yX2_nextOf, cX2_nextOf, 4, some .int, none)
set_option maxRecDepth 100000 in
theorem moX2_nextOf : MOK mdX2_nextOf 2 := ⟨inT2 151 rfl rfl, inT1 2 rfl rfl, ⟨by decide +kernel, by decide +kernel, by decide +kernel⟩, by decide, by decide +kernel, rfl, rfl⟩
set_option maxRecDepth 100000 in
theorem imX2_nextOf : Cond.instanceMethod yX2_nextOf ∈ ALLG := inT2 149 rfl rfl
set_option maxRecDepth 100000 in
theorem seX2_nextOf : Cond.selects RX2 yX2_nextOf yX2_nextOf ∈ ALLG := inT2 150 rfl rfl
abbrev mdX2_look : MD := (RX2, yX2_look, cX2_look, 3, some .int, none)
set_option maxRecDepth 100000 in
theorem moX2_look : MOK mdX2_look 2 := ⟨inT3 89 rfl rfl, inT1 2 rfl rfl, ⟨by decide +kernel, by decide +kernel, by decide +kernel⟩, by decide, by decide +kernel, rfl, rfl⟩
set_option maxRecDepth 100000 in
theorem imX2_look : Cond.instanceMethod yX2_look ∈ ALLG := inT3 87 rfl rfl
set_option maxRecDepth 100000 in
theorem seX2_look : Cond.selects RX2 yX2_look yX2_look ∈ ALLG := inT3 88 rfl rfl
abbrev mdX2_endFrom : MD := (RX2, yX2_endFrom, cX2_endFrom, 6, some .int, none)
set_option maxRecDepth 100000 in
theorem moX2_endFrom : MOK mdX2_endFrom 2 := ⟨inT2 146 rfl rfl, inT1 2 rfl rfl, ⟨by decide +kernel, by decide +kernel, by decide +kernel⟩, by decide, by decide +kernel, rfl, rfl⟩
set_option maxRecDepth 100000 in
theorem imX2_endFrom : Cond.instanceMethod yX2_endFrom ∈ ALLG := inT2 144 rfl rfl
set_option maxRecDepth 100000 in
theorem seX2_endFrom : Cond.selects RX2 yX2_endFrom yX2_endFrom ∈ ALLG := inT2 145 rfl rfl
abbrev mdX2_answer : MD := (RX2, yX2_answer, cX2_answer, 3, some .int, none)
set_option maxRecDepth 100000 in
theorem moX2_answer : MOK mdX2_answer 1 := ⟨inT4 90 rfl rfl, inT1 2 rfl rfl, ⟨by decide +kernel, by decide +kernel, by decide +kernel⟩, by decide, by decide +kernel, rfl, rfl⟩
set_option maxRecDepth 100000 in
theorem imX2_answer : Cond.instanceMethod yX2_answer ∈ ALLG := inT4 88 rfl rfl
set_option maxRecDepth 100000 in
theorem seX2_answer : Cond.selects RX2 yX2_answer yX2_answer ∈ ALLG := inT4 89 rfl rfl
abbrev mdX2_isClosed : MD := (RX2, yX2_isClosed, cX2_isClosed, 3, some .boolean, none)
set_option maxRecDepth 100000 in
theorem moX2_isClosed : MOK mdX2_isClosed 0 := ⟨inT3 6 rfl rfl, inT1 2 rfl rfl, ⟨by decide +kernel, by decide +kernel, by decide +kernel⟩, by decide, by decide +kernel, rfl, rfl⟩
set_option maxRecDepth 100000 in
theorem imX2_isClosed : Cond.instanceMethod yX2_isClosed ∈ ALLG := inT3 4 rfl rfl
set_option maxRecDepth 100000 in
theorem seX2_isClosed : Cond.selects RX2 yX2_isClosed yX2_isClosed ∈ ALLG := inT3 5 rfl rfl
abbrev mdX2_become : MD := (RX2, yX2_become, cX2_become, 4, none, none)
set_option maxRecDepth 100000 in
theorem moX2_become : MOK mdX2_become 1 := ⟨inT3 10 rfl rfl, inT1 2 rfl rfl, ⟨by decide +kernel, by decide +kernel, by decide +kernel⟩, by decide, by decide +kernel, rfl, rfl⟩
set_option maxRecDepth 100000 in
theorem imX2_become : Cond.instanceMethod yX2_become ∈ ALLG := inT3 8 rfl rfl
set_option maxRecDepth 100000 in
theorem seX2_become : Cond.selects RX2 yX2_become yX2_become ∈ ALLG := inT3 9 rfl rfl
abbrev mdX2_draw : MD := (RX2, yX2_draw, cX2_draw, 8, none, none)
set_option maxRecDepth 100000 in
theorem moX2_draw : MOK mdX2_draw 4 := ⟨inT3 22 rfl rfl, inT1 2 rfl rfl, ⟨by decide +kernel, by decide +kernel, by decide +kernel⟩, by decide, by decide +kernel, rfl, rfl⟩
set_option maxRecDepth 100000 in
theorem imX2_draw : Cond.instanceMethod yX2_draw ∈ ALLG := inT3 20 rfl rfl
set_option maxRecDepth 100000 in
theorem seX2_draw : Cond.selects RX2 yX2_draw yX2_draw ∈ ALLG := inT3 21 rfl rfl
abbrev mdX2_stir : MD := (RX2, yX2_stir, cX2_stir, 1, some .int, none)
set_option maxRecDepth 100000 in
theorem moX2_stir : MOK mdX2_stir 1 := ⟨inT3 25 rfl rfl, inT1 2 rfl rfl, ⟨by decide +kernel, by decide +kernel, by decide +kernel⟩, by decide, by decide +kernel, rfl, rfl⟩
set_option maxRecDepth 100000 in
theorem saX2_stir : Cond.static yX2_stir ∈ ALLG := inT3 24 rfl rfl
abbrev mdX2_drawn : MD := (RX2, yX2_drawn, cX2_drawn, 2, some .int, none)
set_option maxRecDepth 100000 in
theorem moX2_drawn : MOK mdX2_drawn 2 := ⟨inT3 29 rfl rfl, inT1 2 rfl rfl, ⟨by decide +kernel, by decide +kernel, by decide +kernel⟩, by decide, by decide +kernel, rfl, rfl⟩
set_option maxRecDepth 100000 in
theorem saX2_drawn : Cond.static yX2_drawn ∈ ALLG := inT3 28 rfl rfl
abbrev mdX2_part : MD := (RX2, yX2_part, cX2_part, 5, some .int, none)
set_option maxRecDepth 100000 in
theorem moX2_part : MOK mdX2_part 2 := ⟨inT3 37 rfl rfl, inT1 2 rfl rfl, ⟨by decide +kernel, by decide +kernel, by decide +kernel⟩, by decide, by decide +kernel, rfl, rfl⟩
set_option maxRecDepth 100000 in
theorem imX2_part : Cond.instanceMethod yX2_part ∈ ALLG := inT3 35 rfl rfl
set_option maxRecDepth 100000 in
theorem seX2_part : Cond.selects RX2 yX2_part yX2_part ∈ ALLG := inT3 36 rfl rfl
abbrev mdX2_leastAlike : MD := (RX2, yX2_leastAlike, cX2_leastAlike, 4, some .int, none)
set_option maxRecDepth 100000 in
theorem moX2_leastAlike : MOK mdX2_leastAlike 2 := ⟨inT3 41 rfl rfl, inT1 2 rfl rfl, ⟨by decide +kernel, by decide +kernel, by decide +kernel⟩, by decide, by decide +kernel, rfl, rfl⟩
set_option maxRecDepth 100000 in
theorem imX2_leastAlike : Cond.instanceMethod yX2_leastAlike ∈ ALLG := inT3 40 rfl rfl
set_option maxRecDepth 100000 in
theorem seX2_leastAlike : Cond.selects RX2 yX2_leastAlike yX2_leastAlike ∈ ALLG := inT0 7 rfl rfl
abbrev mdX2_nextsAlike : MD := (RX2, yX2_nextsAlike, cX2_nextsAlike, 4, some .boolean, none)
set_option maxRecDepth 100000 in
theorem moX2_nextsAlike : MOK mdX2_nextsAlike 2 := ⟨inT3 45 rfl rfl, inT1 2 rfl rfl, ⟨by decide +kernel, by decide +kernel, by decide +kernel⟩, by decide, by decide +kernel, rfl, rfl⟩
set_option maxRecDepth 100000 in
theorem imX2_nextsAlike : Cond.instanceMethod yX2_nextsAlike ∈ ALLG := inT3 44 rfl rfl
set_option maxRecDepth 100000 in
theorem seX2_nextsAlike : Cond.selects RX2 yX2_nextsAlike yX2_nextsAlike ∈ ALLG := inT0 8 rfl rfl
abbrev mdX2_groupBefore : MD := (RX2, yX2_groupBefore, cX2_groupBefore, 2, some .int, none)
set_option maxRecDepth 100000 in
theorem moX2_groupBefore : MOK mdX2_groupBefore 1 := ⟨inT3 49 rfl rfl, inT1 2 rfl rfl, ⟨by decide +kernel, by decide +kernel, by decide +kernel⟩, by decide, by decide +kernel, rfl, rfl⟩
set_option maxRecDepth 100000 in
theorem imX2_groupBefore : Cond.instanceMethod yX2_groupBefore ∈ ALLG := inT3 48 rfl rfl
set_option maxRecDepth 100000 in
theorem seX2_groupBefore : Cond.selects RX2 yX2_groupBefore yX2_groupBefore ∈ ALLG := inT0 9 rfl rfl
abbrev mdX3_init : MD := (RX3, yX3_init, cX3_init, 2, none, none)
set_option maxRecDepth 100000 in
theorem moX3_init : MOK mdX3_init 1 := ⟨inT1 159 rfl rfl, inT1 8 rfl rfl, ⟨by decide +kernel, by decide +kernel, by decide +kernel⟩, by decide, by decide +kernel, rfl, rfl⟩
set_option maxRecDepth 100000 in
theorem imX3_init : Cond.instanceMethod yX3_init ∈ ALLG := inT1 158 rfl rfl
abbrev mdX3_renew : MD := (RX3, yX3_renew, cX3_renew, 2, none, none)
set_option maxRecDepth 100000 in
theorem moX3_renew : MOK mdX3_renew 1 := ⟨inT2 92 rfl rfl, inT1 8 rfl rfl, ⟨by decide +kernel, by decide +kernel, by decide +kernel⟩, by decide, by decide +kernel, rfl, rfl⟩
set_option maxRecDepth 100000 in
theorem imX3_renew : Cond.instanceMethod yX3_renew ∈ ALLG := inT2 88 rfl rfl
abbrev mdX3_hasGuess : MD := (RX3, yX3_hasGuess, cX3_hasGuess, 1, some .boolean, none)
set_option maxRecDepth 100000 in
theorem moX3_hasGuess : MOK mdX3_hasGuess 0 := ⟨inT3 179 rfl rfl, inT1 8 rfl rfl, ⟨by decide +kernel, by decide +kernel, by decide +kernel⟩, by decide, by decide +kernel, rfl, rfl⟩
set_option maxRecDepth 100000 in
theorem imX3_hasGuess : Cond.instanceMethod yX3_hasGuess ∈ ALLG := inT3 175 rfl rfl
abbrev mdX3_dropGuess : MD := (RX3, yX3_dropGuess, cX3_dropGuess, 1, none, none)
set_option maxRecDepth 100000 in
theorem moX3_dropGuess : MOK mdX3_dropGuess 0 := ⟨inT2 106 rfl rfl, inT1 8 rfl rfl, ⟨by decide +kernel, by decide +kernel, by decide +kernel⟩, by decide, by decide +kernel, rfl, rfl⟩
set_option maxRecDepth 100000 in
theorem imX3_dropGuess : Cond.instanceMethod yX3_dropGuess ∈ ALLG := inT2 102 rfl rfl
abbrev mdX3_settle : MD := (RX3, yX3_settle, cX3_settle, 2, none, none)
set_option maxRecDepth 100000 in
theorem moX3_settle : MOK mdX3_settle 0 := ⟨inT4 39 rfl rfl, inT1 8 rfl rfl, ⟨by decide +kernel, by decide +kernel, by decide +kernel⟩, by decide, by decide +kernel, rfl, rfl⟩
set_option maxRecDepth 100000 in
theorem imX3_settle : Cond.instanceMethod yX3_settle ∈ ALLG := inT4 38 rfl rfl
abbrev mdX3_accessBy : MD := (RX3, yX3_accessBy, cX3_accessBy, 3, some .long, none)
set_option maxRecDepth 100000 in
theorem moX3_accessBy : MOK mdX3_accessBy 1 := ⟨inT4 127 rfl rfl, inT1 8 rfl rfl, ⟨by decide +kernel, by decide +kernel, by decide +kernel⟩, by decide, by decide +kernel, rfl, rfl⟩
set_option maxRecDepth 100000 in
theorem imX3_accessBy : Cond.instanceMethod yX3_accessBy ∈ ALLG := inT4 123 rfl rfl
abbrev mdX3_partingAt : MD := (RX3, yX3_partingAt, cX3_partingAt, 10, some .int, none)
set_option maxRecDepth 100000 in
theorem moX3_partingAt : MOK mdX3_partingAt 2 := ⟨inT4 119 rfl rfl, inT1 8 rfl rfl, ⟨by decide +kernel, by decide +kernel, by decide +kernel⟩, by decide, by decide +kernel, rfl, rfl⟩
set_option maxRecDepth 100000 in
theorem imX3_partingAt : Cond.instanceMethod yX3_partingAt ∈ ALLG := inT4 118 rfl rfl
abbrev mdX4_init : MD := (RX4, yX4_init, cX4_init, 3, none, none)
set_option maxRecDepth 100000 in
theorem moX4_init : MOK mdX4_init 2 := ⟨inT1 105 rfl rfl, inT1 5 rfl rfl, ⟨by decide +kernel, by decide +kernel, by decide +kernel⟩, by decide, by decide +kernel, rfl, rfl⟩
set_option maxRecDepth 100000 in
theorem imX4_init : Cond.instanceMethod yX4_init ∈ ALLG := inT1 104 rfl rfl
abbrev mdX4_renew : MD := (RX4, yX4_renew, cX4_renew, 2, none, none)
set_option maxRecDepth 100000 in
theorem moX4_renew : MOK mdX4_renew 1 := ⟨inT2 75 rfl rfl, inT1 5 rfl rfl, ⟨by decide +kernel, by decide +kernel, by decide +kernel⟩, by decide, by decide +kernel, rfl, rfl⟩
set_option maxRecDepth 100000 in
theorem imX4_renew : Cond.instanceMethod yX4_renew ∈ ALLG := inT2 73 rfl rfl
set_option maxRecDepth 100000 in
theorem seX4_renew : Cond.selects RX4 yX4_renew yX4_renew ∈ ALLG := inT2 74 rfl rfl
abbrev mdX4_learn : MD := (RX4, yX4_learn, cX4_learn, 4, none, none)
set_option maxRecDepth 100000 in
theorem moX4_learn : MOK mdX4_learn 0 := ⟨inT4 163 rfl rfl, inT1 5 rfl rfl, ⟨by decide +kernel, by decide +kernel, by decide +kernel⟩, by decide, by decide +kernel, rfl, rfl⟩
set_option maxRecDepth 100000 in
theorem imX4_learn : Cond.instanceMethod yX4_learn ∈ ALLG := inT4 161 rfl rfl
set_option maxRecDepth 100000 in
theorem seX4_learn : Cond.selects RX4 yX4_learn yX4_learn ∈ ALLG := inT4 162 rfl rfl
abbrev mdX5_init : MD := (RX5, yX5_init, cX5_init, 1, none, none)
set_option maxRecDepth 100000 in
theorem moX5_init : MOK mdX5_init 0 := ⟨inT1 82 rfl rfl, inT1 4 rfl rfl, ⟨by decide +kernel, by decide +kernel, by decide +kernel⟩, by decide, by decide +kernel, rfl, rfl⟩
set_option maxRecDepth 100000 in
theorem imX5_init : Cond.instanceMethod yX5_init ∈ ALLG := inT1 81 rfl rfl
abbrev mdX5_firstUnlike : MD := (RX5, yX5_firstUnlike, cX5_firstUnlike, 12, some .long, none)
set_option maxRecDepth 100000 in
theorem moX5_firstUnlike : MOK mdX5_firstUnlike 4 := ⟨inT3 57 rfl rfl, inT1 4 rfl rfl, ⟨by decide +kernel, by decide +kernel, by decide +kernel⟩, by decide, by decide +kernel, rfl, rfl⟩
set_option maxRecDepth 100000 in
theorem imX5_firstUnlike : Cond.instanceMethod yX5_firstUnlike ∈ ALLG := inT3 55 rfl rfl
set_option maxRecDepth 100000 in
theorem seX5_firstUnlike : Cond.selects RX5 yX5_firstUnlike yX5_firstUnlike ∈ ALLG := inT3 56 rfl rfl
abbrev mdX5_walk : MD := (RX5, yX5_walk, cX5_walk, 2, none, none)
set_option maxRecDepth 100000 in
theorem moX5_walk : MOK mdX5_walk 1 := ⟨inT3 53 rfl rfl, inT1 4 rfl rfl, ⟨by decide +kernel, by decide +kernel, by decide +kernel⟩, by decide, by decide +kernel, rfl, rfl⟩
set_option maxRecDepth 100000 in
theorem imX5_walk : Cond.instanceMethod yX5_walk ∈ ALLG := inT3 51 rfl rfl
set_option maxRecDepth 100000 in
theorem seX5_walk : Cond.selects RX5 yX5_walk yX5_walk ∈ ALLG := inT3 52 rfl rfl
abbrev mdX5_firstTo : MD := (RX5, yX5_firstTo, cX5_firstTo, 4, some .long, none)
set_option maxRecDepth 100000 in
theorem moX5_firstTo : MOK mdX5_firstTo 2 := ⟨inT3 69 rfl rfl, inT1 4 rfl rfl, ⟨by decide +kernel, by decide +kernel, by decide +kernel⟩, by decide, by decide +kernel, rfl, rfl⟩
set_option maxRecDepth 100000 in
theorem imX5_firstTo : Cond.instanceMethod yX5_firstTo ∈ ALLG := inT3 67 rfl rfl
set_option maxRecDepth 100000 in
theorem seX5_firstTo : Cond.selects RX5 yX5_firstTo yX5_firstTo ∈ ALLG := inT3 68 rfl rfl
abbrev mdX5_comeTo : MD := (RX5, yX5_comeTo, cX5_comeTo, 6, none, none)
set_option maxRecDepth 100000 in
theorem moX5_comeTo : MOK mdX5_comeTo 3 := ⟨inT3 62 rfl rfl, inT1 4 rfl rfl, ⟨by decide +kernel, by decide +kernel, by decide +kernel⟩, by decide, by decide +kernel, rfl, rfl⟩
set_option maxRecDepth 100000 in
theorem imX5_comeTo : Cond.instanceMethod yX5_comeTo ∈ ALLG := inT3 61 rfl rfl
set_option maxRecDepth 100000 in
theorem seX5_comeTo : Cond.selects RX5 yX5_comeTo yX5_comeTo ∈ ALLG := inT0 10 rfl rfl
abbrev mdX5_pairOf : MD := (RX5, yX5_pairOf, cX5_pairOf, 2, some .int, none)
set_option maxRecDepth 100000 in
theorem moX5_pairOf : MOK mdX5_pairOf 2 := ⟨inT3 65 rfl rfl, inT1 4 rfl rfl, ⟨by decide +kernel, by decide +kernel, by decide +kernel⟩, by decide, by decide +kernel, rfl, rfl⟩
set_option maxRecDepth 100000 in
theorem saX5_pairOf : Cond.static yX5_pairOf ∈ ALLG := inT3 64 rfl rfl
abbrev mdX5_countUnlike : MD := (RX5, yX5_countUnlike, cX5_countUnlike, 6, some .int, none)
set_option maxRecDepth 100000 in
theorem moX5_countUnlike : MOK mdX5_countUnlike 3 := ⟨inT5 4 rfl rfl, inT1 4 rfl rfl, ⟨by decide +kernel, by decide +kernel, by decide +kernel⟩, by decide, by decide +kernel, rfl, rfl⟩
set_option maxRecDepth 100000 in
theorem imX5_countUnlike : Cond.instanceMethod yX5_countUnlike ∈ ALLG := inT5 2 rfl rfl
set_option maxRecDepth 100000 in
theorem seX5_countUnlike : Cond.selects RX5 yX5_countUnlike yX5_countUnlike ∈ ALLG := inT5 3 rfl rfl
abbrev mdX5_unlikeWays : MD := (RX5, yX5_unlikeWays, cX5_unlikeWays, 5, some .int, none)
set_option maxRecDepth 100000 in
theorem moX5_unlikeWays : MOK mdX5_unlikeWays 2 := ⟨inT5 8 rfl rfl, inT1 4 rfl rfl, ⟨by decide +kernel, by decide +kernel, by decide +kernel⟩, by decide, by decide +kernel, rfl, rfl⟩
set_option maxRecDepth 100000 in
theorem imX5_unlikeWays : Cond.instanceMethod yX5_unlikeWays ∈ ALLG := inT5 7 rfl rfl
set_option maxRecDepth 100000 in
theorem seX5_unlikeWays : Cond.selects RX5 yX5_unlikeWays yX5_unlikeWays ∈ ALLG := inT0 36 rfl rfl
abbrev mdX5_goOn : MD := (RX5, yX5_goOn, cX5_goOn, 6, none, none)
set_option maxRecDepth 100000 in
theorem moX5_goOn : MOK mdX5_goOn 2 := ⟨inT5 12 rfl rfl, inT1 4 rfl rfl, ⟨by decide +kernel, by decide +kernel, by decide +kernel⟩, by decide, by decide +kernel, rfl, rfl⟩
set_option maxRecDepth 100000 in
theorem imX5_goOn : Cond.instanceMethod yX5_goOn ∈ ALLG := inT5 11 rfl rfl
set_option maxRecDepth 100000 in
theorem seX5_goOn : Cond.selects RX5 yX5_goOn yX5_goOn ∈ ALLG := inT0 37 rfl rfl
abbrev mdX6_init : MD := (RX6, yX6_init, cX6_init, 2, none, none)
set_option maxRecDepth 100000 in
theorem moX6_init : MOK mdX6_init 1 := ⟨inT1 156 rfl rfl, inT1 9 rfl rfl, ⟨by decide +kernel, by decide +kernel, by decide +kernel⟩, by decide, by decide +kernel, rfl, rfl⟩
set_option maxRecDepth 100000 in
theorem imX6_init : Cond.instanceMethod yX6_init ∈ ALLG := inT1 155 rfl rfl
abbrev mdX6_begin : MD := (RX6, yX6_begin, cX6_begin, 1, none, none)
set_option maxRecDepth 100000 in
theorem moX6_begin : MOK mdX6_begin 0 := ⟨inT2 116 rfl rfl, inT1 9 rfl rfl, ⟨by decide +kernel, by decide +kernel, by decide +kernel⟩, by decide, by decide +kernel, rfl, rfl⟩
set_option maxRecDepth 100000 in
theorem imX6_begin : Cond.instanceMethod yX6_begin ∈ ALLG := inT2 115 rfl rfl
abbrev mdX6_advance : MD := (RX6, yX6_advance, cX6_advance, 1, some .int, none)
set_option maxRecDepth 100000 in
theorem moX6_advance : MOK mdX6_advance 0 := ⟨inT3 185 rfl rfl, inT1 9 rfl rfl, ⟨by decide +kernel, by decide +kernel, by decide +kernel⟩, by decide, by decide +kernel, rfl, rfl⟩
set_option maxRecDepth 100000 in
theorem imX6_advance : Cond.instanceMethod yX6_advance ∈ ALLG := inT3 184 rfl rfl
abbrev mdX6_lesson : MD := (RX6, yX6_lesson, cX6_lesson, 5, some .int, none)
set_option maxRecDepth 100000 in
theorem moX6_lesson : MOK mdX6_lesson 1 := ⟨inT4 97 rfl rfl, inT1 9 rfl rfl, ⟨by decide +kernel, by decide +kernel, by decide +kernel⟩, by decide, by decide +kernel, rfl, rfl⟩
set_option maxRecDepth 100000 in
theorem imX6_lesson : Cond.instanceMethod yX6_lesson ∈ ALLG := inT4 96 rfl rfl
abbrev mdX6_noteBeginnings : MD := (RX6, yX6_noteBeginnings, cX6_noteBeginnings, 7, none, none)
set_option maxRecDepth 100000 in
theorem moX6_noteBeginnings : MOK mdX6_noteBeginnings 1 := ⟨inT4 101 rfl rfl, inT1 9 rfl rfl, ⟨by decide +kernel, by decide +kernel, by decide +kernel⟩, by decide, by decide +kernel, rfl, rfl⟩
set_option maxRecDepth 100000 in
theorem imX6_noteBeginnings : Cond.instanceMethod yX6_noteBeginnings ∈ ALLG := inT4 100 rfl rfl
set_option maxRecDepth 100000 in
theorem seX6_noteBeginnings : Cond.selects RX6 yX6_noteBeginnings yX6_noteBeginnings ∈ ALLG := inT0 31 rfl rfl
abbrev mdX6_noteEnds : MD := (RX6, yX6_noteEnds, cX6_noteEnds, 6, none, none)
set_option maxRecDepth 100000 in
theorem moX6_noteEnds : MOK mdX6_noteEnds 1 := ⟨inT4 112 rfl rfl, inT1 9 rfl rfl, ⟨by decide +kernel, by decide +kernel, by decide +kernel⟩, by decide, by decide +kernel, rfl, rfl⟩
set_option maxRecDepth 100000 in
theorem imX6_noteEnds : Cond.instanceMethod yX6_noteEnds ∈ ALLG := inT4 111 rfl rfl
set_option maxRecDepth 100000 in
theorem seX6_noteEnds : Cond.selects RX6 yX6_noteEnds yX6_noteEnds ∈ ALLG := inT0 32 rfl rfl
abbrev mdX6_askAll : MD := (RX6, yX6_askAll, cX6_askAll, 6, none, none)
set_option maxRecDepth 100000 in
theorem moX6_askAll : MOK mdX6_askAll 0 := ⟨inT3 189 rfl rfl, inT1 9 rfl rfl, ⟨by decide +kernel, by decide +kernel, by decide +kernel⟩, by decide, by decide +kernel, rfl, rfl⟩
set_option maxRecDepth 100000 in
theorem imX6_askAll : Cond.instanceMethod yX6_askAll ∈ ALLG := inT3 188 rfl rfl
set_option maxRecDepth 100000 in
theorem seX6_askAll : Cond.selects RX6 yX6_askAll yX6_askAll ∈ ALLG := inT0 13 rfl rfl
abbrev mdX6_isFull : MD := (RX6, yX6_isFull, cX6_isFull, 3, some .boolean, none)
set_option maxRecDepth 100000 in
theorem moX6_isFull : MOK mdX6_isFull 0 := ⟨inT4 189 rfl rfl, inT1 9 rfl rfl, ⟨by decide +kernel, by decide +kernel, by decide +kernel⟩, by decide, by decide +kernel, rfl, rfl⟩
set_option maxRecDepth 100000 in
theorem imX6_isFull : Cond.instanceMethod yX6_isFull ∈ ALLG := inT4 187 rfl rfl
set_option maxRecDepth 100000 in
theorem seX6_isFull : Cond.selects RX6 yX6_isFull yX6_isFull ∈ ALLG := inT4 188 rfl rfl
abbrev mdX6_isAsked : MD := (RX6, yX6_isAsked, cX6_isAsked, 5, some .boolean, none)
set_option maxRecDepth 100000 in
theorem moX6_isAsked : MOK mdX6_isAsked 2 := ⟨inT4 193 rfl rfl, inT1 9 rfl rfl, ⟨by decide +kernel, by decide +kernel, by decide +kernel⟩, by decide, by decide +kernel, rfl, rfl⟩
set_option maxRecDepth 100000 in
theorem imX6_isAsked : Cond.instanceMethod yX6_isAsked ∈ ALLG := inT4 192 rfl rfl
set_option maxRecDepth 100000 in
theorem seX6_isAsked : Cond.selects RX6 yX6_isAsked yX6_isAsked ∈ ALLG := inT0 34 rfl rfl
abbrev mdX6_rowWord : MD := (RX6, yX6_rowWord, cX6_rowWord, 3, some .long, none)
set_option maxRecDepth 100000 in
theorem moX6_rowWord : MOK mdX6_rowWord 2 := ⟨inT3 193 rfl rfl, inT1 9 rfl rfl, ⟨by decide +kernel, by decide +kernel, by decide +kernel⟩, by decide, by decide +kernel, rfl, rfl⟩
set_option maxRecDepth 100000 in
theorem imX6_rowWord : Cond.instanceMethod yX6_rowWord ∈ ALLG := inT3 192 rfl rfl
set_option maxRecDepth 100000 in
theorem seX6_rowWord : Cond.selects RX6 yX6_rowWord yX6_rowWord ∈ ALLG := inT0 14 rfl rfl
abbrev mdX6_firstUnfilled : MD := (RX6, yX6_firstUnfilled, cX6_firstUnfilled, 2, some .int, none)
set_option maxRecDepth 100000 in
theorem moX6_firstUnfilled : MOK mdX6_firstUnfilled 1 := ⟨inT3 203 rfl rfl, inT1 9 rfl rfl, ⟨by decide +kernel, by decide +kernel, by decide +kernel⟩, by decide, by decide +kernel, rfl, rfl⟩
set_option maxRecDepth 100000 in
theorem imX6_firstUnfilled : Cond.instanceMethod yX6_firstUnfilled ∈ ALLG := inT3 202 rfl rfl
set_option maxRecDepth 100000 in
theorem seX6_firstUnfilled : Cond.selects RX6 yX6_firstUnfilled yX6_firstUnfilled ∈ ALLG := inT0 15 rfl rfl
abbrev mdX6_findLines : MD := (RX6, yX6_findLines, cX6_findLines, 2, none, none)
set_option maxRecDepth 100000 in
theorem moX6_findLines : MOK mdX6_findLines 0 := ⟨inT3 209 rfl rfl, inT1 9 rfl rfl, ⟨by decide +kernel, by decide +kernel, by decide +kernel⟩, by decide, by decide +kernel, rfl, rfl⟩
set_option maxRecDepth 100000 in
theorem imX6_findLines : Cond.instanceMethod yX6_findLines ∈ ALLG := inT3 207 rfl rfl
set_option maxRecDepth 100000 in
theorem seX6_findLines : Cond.selects RX6 yX6_findLines yX6_findLines ∈ ALLG := inT3 208 rfl rfl
abbrev mdX6_splitLines : MD := (RX6, yX6_splitLines, cX6_splitLines, 4, none, none)
set_option maxRecDepth 100000 in
theorem moX6_splitLines : MOK mdX6_splitLines 1 := ⟨inT3 214 rfl rfl, inT1 9 rfl rfl, ⟨by decide +kernel, by decide +kernel, by decide +kernel⟩, by decide, by decide +kernel, rfl, rfl⟩
set_option maxRecDepth 100000 in
theorem imX6_splitLines : Cond.instanceMethod yX6_splitLines ∈ ALLG := inT3 213 rfl rfl
set_option maxRecDepth 100000 in
theorem seX6_splitLines : Cond.selects RX6 yX6_splitLines yX6_splitLines ∈ ALLG := inT0 16 rfl rfl
abbrev mdX6_leastAlike : MD := (RX6, yX6_leastAlike, cX6_leastAlike, 3, some .int, none)
set_option maxRecDepth 100000 in
theorem moX6_leastAlike : MOK mdX6_leastAlike 1 := ⟨inT3 226 rfl rfl, inT1 9 rfl rfl, ⟨by decide +kernel, by decide +kernel, by decide +kernel⟩, by decide, by decide +kernel, rfl, rfl⟩
set_option maxRecDepth 100000 in
theorem imX6_leastAlike : Cond.instanceMethod yX6_leastAlike ∈ ALLG := inT3 225 rfl rfl
set_option maxRecDepth 100000 in
theorem seX6_leastAlike : Cond.selects RX6 yX6_leastAlike yX6_leastAlike ∈ ALLG := inT0 17 rfl rfl
abbrev mdX6_setFirstHead : MD := (RX6, yX6_setFirstHead, cX6_setFirstHead, 4, none, none)
set_option maxRecDepth 100000 in
theorem moX6_setFirstHead : MOK mdX6_setFirstHead 2 := ⟨inT3 234 rfl rfl, inT1 9 rfl rfl, ⟨by decide +kernel, by decide +kernel, by decide +kernel⟩, by decide, by decide +kernel, rfl, rfl⟩
set_option maxRecDepth 100000 in
theorem imX6_setFirstHead : Cond.instanceMethod yX6_setFirstHead ∈ ALLG := inT3 233 rfl rfl
set_option maxRecDepth 100000 in
theorem seX6_setFirstHead : Cond.selects RX6 yX6_setFirstHead yX6_setFirstHead ∈ ALLG := inT0 19 rfl rfl
abbrev mdX6_lineOf : MD := (RX6, yX6_lineOf, cX6_lineOf, 2, some .int, none)
set_option maxRecDepth 100000 in
theorem moX6_lineOf : MOK mdX6_lineOf 1 := ⟨inT3 230 rfl rfl, inT1 9 rfl rfl, ⟨by decide +kernel, by decide +kernel, by decide +kernel⟩, by decide, by decide +kernel, rfl, rfl⟩
set_option maxRecDepth 100000 in
theorem imX6_lineOf : Cond.instanceMethod yX6_lineOf ∈ ALLG := inT3 229 rfl rfl
set_option maxRecDepth 100000 in
theorem seX6_lineOf : Cond.selects RX6 yX6_lineOf yX6_lineOf ∈ ALLG := inT0 18 rfl rfl
abbrev mdX6_endOf : MD := (RX6, yX6_endOf, cX6_endOf, 2, some .int, none)
set_option maxRecDepth 100000 in
theorem moX6_endOf : MOK mdX6_endOf 1 := ⟨inT4 6 rfl rfl, inT1 9 rfl rfl, ⟨by decide +kernel, by decide +kernel, by decide +kernel⟩, by decide, by decide +kernel, rfl, rfl⟩
set_option maxRecDepth 100000 in
theorem imX6_endOf : Cond.instanceMethod yX6_endOf ∈ ALLG := inT4 5 rfl rfl
set_option maxRecDepth 100000 in
theorem seX6_endOf : Cond.selects RX6 yX6_endOf yX6_endOf ∈ ALLG := inT0 22 rfl rfl
abbrev mdX6_headLike : MD := (RX6, yX6_headLike, cX6_headLike, 2, some .int, none)
set_option maxRecDepth 100000 in
theorem moX6_headLike : MOK mdX6_headLike 1 := ⟨inT4 11 rfl rfl, inT1 9 rfl rfl, ⟨by decide +kernel, by decide +kernel, by decide +kernel⟩, by decide, by decide +kernel, rfl, rfl⟩
set_option maxRecDepth 100000 in
theorem imX6_headLike : Cond.instanceMethod yX6_headLike ∈ ALLG := inT4 10 rfl rfl
set_option maxRecDepth 100000 in
theorem seX6_headLike : Cond.selects RX6 yX6_headLike yX6_headLike ∈ ALLG := inT0 23 rfl rfl
abbrev mdX6_isFirstOfLine : MD := (RX6, yX6_isFirstOfLine, cX6_isFirstOfLine, 2, some .boolean, none)
set_option maxRecDepth 100000 in
theorem moX6_isFirstOfLine : MOK mdX6_isFirstOfLine 1 := ⟨inT4 28 rfl rfl, inT1 9 rfl rfl, ⟨by decide +kernel, by decide +kernel, by decide +kernel⟩, by decide, by decide +kernel, rfl, rfl⟩
set_option maxRecDepth 100000 in
theorem imX6_isFirstOfLine : Cond.instanceMethod yX6_isFirstOfLine ∈ ALLG := inT4 27 rfl rfl
set_option maxRecDepth 100000 in
theorem seX6_isFirstOfLine : Cond.selects RX6 yX6_isFirstOfLine yX6_isFirstOfLine ∈ ALLG := inT0 27 rfl rfl
abbrev mdX6_headBehind : MD := (RX6, yX6_headBehind, cX6_headBehind, 3, some .int, none)
set_option maxRecDepth 100000 in
theorem moX6_headBehind : MOK mdX6_headBehind 2 := ⟨inT4 2 rfl rfl, inT1 9 rfl rfl, ⟨by decide +kernel, by decide +kernel, by decide +kernel⟩, by decide, by decide +kernel, rfl, rfl⟩
set_option maxRecDepth 100000 in
theorem imX6_headBehind : Cond.instanceMethod yX6_headBehind ∈ ALLG := inT4 1 rfl rfl
set_option maxRecDepth 100000 in
theorem seX6_headBehind : Cond.selects RX6 yX6_headBehind yX6_headBehind ∈ ALLG := inT0 21 rfl rfl
abbrev mdX6_unlikeLines : MD := (RX6, yX6_unlikeLines, cX6_unlikeLines, 3, some .int, none)
set_option maxRecDepth 100000 in
theorem moX6_unlikeLines : MOK mdX6_unlikeLines 0 := ⟨inT4 199 rfl rfl, inT1 9 rfl rfl, ⟨by decide +kernel, by decide +kernel, by decide +kernel⟩, by decide, by decide +kernel, rfl, rfl⟩
set_option maxRecDepth 100000 in
theorem imX6_unlikeLines : Cond.instanceMethod yX6_unlikeLines ∈ ALLG := inT4 197 rfl rfl
set_option maxRecDepth 100000 in
theorem seX6_unlikeLines : Cond.selects RX6 yX6_unlikeLines yX6_unlikeLines ∈ ALLG := inT4 198 rfl rfl
abbrev mdX6_openWords : MD := (RX6, yX6_openWords, cX6_openWords, 4, some .int, none)
set_option maxRecDepth 100000 in
theorem moX6_openWords : MOK mdX6_openWords 0 := ⟨inT4 203 rfl rfl, inT1 9 rfl rfl, ⟨by decide +kernel, by decide +kernel, by decide +kernel⟩, by decide, by decide +kernel, rfl, rfl⟩
set_option maxRecDepth 100000 in
theorem imX6_openWords : Cond.instanceMethod yX6_openWords ∈ ALLG := inT4 201 rfl rfl
set_option maxRecDepth 100000 in
theorem seX6_openWords : Cond.selects RX6 yX6_openWords yX6_openWords ∈ ALLG := inT4 202 rfl rfl
abbrev mdX6_headComes : MD := (RX6, yX6_headComes, cX6_headComes, 3, some .boolean, none)
set_option maxRecDepth 100000 in
theorem moX6_headComes : MOK mdX6_headComes 0 := ⟨inT3 238 rfl rfl, inT1 9 rfl rfl, ⟨by decide +kernel, by decide +kernel, by decide +kernel⟩, by decide, by decide +kernel, rfl, rfl⟩
set_option maxRecDepth 100000 in
theorem imX6_headComes : Cond.instanceMethod yX6_headComes ∈ ALLG := inT3 237 rfl rfl
set_option maxRecDepth 100000 in
theorem seX6_headComes : Cond.selects RX6 yX6_headComes yX6_headComes ∈ ALLG := inT0 20 rfl rfl
abbrev mdX6_tailComes : MD := (RX6, yX6_tailComes, cX6_tailComes, 6, some .boolean, none)
set_option maxRecDepth 100000 in
theorem moX6_tailComes : MOK mdX6_tailComes 0 := ⟨inT4 16 rfl rfl, inT1 9 rfl rfl, ⟨by decide +kernel, by decide +kernel, by decide +kernel⟩, by decide, by decide +kernel, rfl, rfl⟩
set_option maxRecDepth 100000 in
theorem imX6_tailComes : Cond.instanceMethod yX6_tailComes ∈ ALLG := inT4 15 rfl rfl
set_option maxRecDepth 100000 in
theorem seX6_tailComes : Cond.selects RX6 yX6_tailComes yX6_tailComes ∈ ALLG := inT0 24 rfl rfl
abbrev mdX6_firstParting : MD := (RX6, yX6_firstParting, cX6_firstParting, 7, some .long, none)
set_option maxRecDepth 100000 in
theorem moX6_firstParting : MOK mdX6_firstParting 2 := ⟨inT4 20 rfl rfl, inT1 9 rfl rfl, ⟨by decide +kernel, by decide +kernel, by decide +kernel⟩, by decide, by decide +kernel, rfl, rfl⟩
set_option maxRecDepth 100000 in
theorem imX6_firstParting : Cond.instanceMethod yX6_firstParting ∈ ALLG := inT4 19 rfl rfl
set_option maxRecDepth 100000 in
theorem seX6_firstParting : Cond.selects RX6 yX6_firstParting yX6_firstParting ∈ ALLG := inT0 25 rfl rfl
abbrev mdX6_joinStates : MD := (RX6, yX6_joinStates, cX6_joinStates, 4, none, none)
set_option maxRecDepth 100000 in
theorem moX6_joinStates : MOK mdX6_joinStates 0 := ⟨inT4 24 rfl rfl, inT1 9 rfl rfl, ⟨by decide +kernel, by decide +kernel, by decide +kernel⟩, by decide, by decide +kernel, rfl, rfl⟩
set_option maxRecDepth 100000 in
theorem imX6_joinStates : Cond.instanceMethod yX6_joinStates ∈ ALLG := inT4 23 rfl rfl
set_option maxRecDepth 100000 in
theorem seX6_joinStates : Cond.selects RX6 yX6_joinStates yX6_joinStates ∈ ALLG := inT0 26 rfl rfl
abbrev mdX7_init : MD := (RX7, yX7_init, cX7_init, 1, none, none)
set_option maxRecDepth 100000 in
theorem moX7_init : MOK mdX7_init 0 := ⟨inT1 65 rfl rfl, inT1 3 rfl rfl, ⟨by decide +kernel, by decide +kernel, by decide +kernel⟩, by decide, by decide +kernel, rfl, rfl⟩
set_option maxRecDepth 100000 in
theorem imX7_init : Cond.instanceMethod yX7_init ∈ ALLG := inT1 64 rfl rfl
abbrev mdX7_append : MD := (RX7, yX7_append, cX7_append, 3, some .int, none)
set_option maxRecDepth 100000 in
theorem moX7_append : MOK mdX7_append 1 := ⟨inT2 201 rfl rfl, inT1 3 rfl rfl, ⟨by decide +kernel, by decide +kernel, by decide +kernel⟩, by decide, by decide +kernel, rfl, rfl⟩
set_option maxRecDepth 100000 in
theorem imX7_append : Cond.instanceMethod yX7_append ∈ ALLG := inT2 199 rfl rfl
set_option maxRecDepth 100000 in
theorem seX7_append : Cond.selects RX7 yX7_append yX7_append ∈ ALLG := inT2 200 rfl rfl
abbrev mdX7_shorten : MD := (RX7, yX7_shorten, cX7_shorten, 2, some .boolean, none)
set_option maxRecDepth 100000 in
theorem moX7_shorten : MOK mdX7_shorten 1 := ⟨inT2 209 rfl rfl, inT1 3 rfl rfl, ⟨by decide +kernel, by decide +kernel, by decide +kernel⟩, by decide, by decide +kernel, rfl, rfl⟩
set_option maxRecDepth 100000 in
theorem imX7_shorten : Cond.instanceMethod yX7_shorten ∈ ALLG := inT2 207 rfl rfl
set_option maxRecDepth 100000 in
theorem seX7_shorten : Cond.selects RX7 yX7_shorten yX7_shorten ∈ ALLG := inT2 208 rfl rfl
abbrev mdX7_read : MD := (RX7, yX7_read, cX7_read, 3, some .int, none)
set_option maxRecDepth 100000 in
theorem moX7_read : MOK mdX7_read 1 := ⟨inT2 217 rfl rfl, inT1 3 rfl rfl, ⟨by decide +kernel, by decide +kernel, by decide +kernel⟩, by decide, by decide +kernel, rfl, rfl⟩
set_option maxRecDepth 100000 in
theorem imX7_read : Cond.instanceMethod yX7_read ∈ ALLG := inT2 215 rfl rfl
set_option maxRecDepth 100000 in
theorem seX7_read : Cond.selects RX7 yX7_read yX7_read ∈ ALLG := inT2 216 rfl rfl
abbrev mdX7_readState : MD := (RX7, yX7_readState, cX7_readState, 7, some .boolean, none)
set_option maxRecDepth 100000 in
theorem moX7_readState : MOK mdX7_readState 2 := ⟨inT2 221 rfl rfl, inT1 3 rfl rfl, ⟨by decide +kernel, by decide +kernel, by decide +kernel⟩, by decide, by decide +kernel, rfl, rfl⟩
set_option maxRecDepth 100000 in
theorem imX7_readState : Cond.instanceMethod yX7_readState ∈ ALLG := inT2 220 rfl rfl
set_option maxRecDepth 100000 in
theorem seX7_readState : Cond.selects RX7 yX7_readState yX7_readState ∈ ALLG := inT0 2 rfl rfl
abbrev mdX7_signHere : MD := (RX7, yX7_signHere, cX7_signHere, 1, some .int, none)
set_option maxRecDepth 100000 in
theorem moX7_signHere : MOK mdX7_signHere 0 := ⟨inT2 229 rfl rfl, inT1 3 rfl rfl, ⟨by decide +kernel, by decide +kernel, by decide +kernel⟩, by decide, by decide +kernel, rfl, rfl⟩
set_option maxRecDepth 100000 in
theorem imX7_signHere : Cond.instanceMethod yX7_signHere ∈ ALLG := inT2 228 rfl rfl
set_option maxRecDepth 100000 in
theorem seX7_signHere : Cond.selects RX7 yX7_signHere yX7_signHere ∈ ALLG := inT0 4 rfl rfl
abbrev mdX7_takes : MD := (RX7, yX7_takes, cX7_takes, 2, some .boolean, none)
set_option maxRecDepth 100000 in
theorem moX7_takes : MOK mdX7_takes 1 := ⟨inT2 237 rfl rfl, inT1 3 rfl rfl, ⟨by decide +kernel, by decide +kernel, by decide +kernel⟩, by decide, by decide +kernel, rfl, rfl⟩
set_option maxRecDepth 100000 in
theorem imX7_takes : Cond.instanceMethod yX7_takes ∈ ALLG := inT2 236 rfl rfl
set_option maxRecDepth 100000 in
theorem seX7_takes : Cond.selects RX7 yX7_takes yX7_takes ∈ ALLG := inT0 5 rfl rfl
abbrev mdX7_digitBelow : MD := (RX7, yX7_digitBelow, cX7_digitBelow, 3, some .int, none)
set_option maxRecDepth 100000 in
theorem moX7_digitBelow : MOK mdX7_digitBelow 1 := ⟨inT2 225 rfl rfl, inT1 3 rfl rfl, ⟨by decide +kernel, by decide +kernel, by decide +kernel⟩, by decide, by decide +kernel, rfl, rfl⟩
set_option maxRecDepth 100000 in
theorem imX7_digitBelow : Cond.instanceMethod yX7_digitBelow ∈ ALLG := inT2 224 rfl rfl
set_option maxRecDepth 100000 in
theorem seX7_digitBelow : Cond.selects RX7 yX7_digitBelow yX7_digitBelow ∈ ALLG := inT0 3 rfl rfl
abbrev mdX8_init : MD := (RX8, yX8_init, cX8_init, 2, none, none)
set_option maxRecDepth 100000 in
theorem moX8_init : MOK mdX8_init 1 := ⟨inT2 20 rfl rfl, inT1 11 rfl rfl, ⟨by decide +kernel, by decide +kernel, by decide +kernel⟩, by decide, by decide +kernel, rfl, rfl⟩
set_option maxRecDepth 100000 in
theorem imX8_init : Cond.instanceMethod yX8_init ∈ ALLG := inT2 19 rfl rfl
abbrev mdX8_begin : MD := (RX8, yX8_begin, cX8_begin, 1, none, none)
set_option maxRecDepth 100000 in
theorem moX8_begin : MOK mdX8_begin 0 := ⟨inT2 119 rfl rfl, inT1 11 rfl rfl, ⟨by decide +kernel, by decide +kernel, by decide +kernel⟩, by decide, by decide +kernel, rfl, rfl⟩
set_option maxRecDepth 100000 in
theorem imX8_begin : Cond.instanceMethod yX8_begin ∈ ALLG := inT2 118 rfl rfl
abbrev mdX8_advance : MD := (RX8, yX8_advance, cX8_advance, 7, some .int, none)
set_option maxRecDepth 100000 in
theorem moX8_advance : MOK mdX8_advance 0 := ⟨inT4 45 rfl rfl, inT1 11 rfl rfl, ⟨by decide +kernel, by decide +kernel, by decide +kernel⟩, by decide, by decide +kernel, rfl, rfl⟩
set_option maxRecDepth 100000 in
theorem imX8_advance : Cond.instanceMethod yX8_advance ∈ ALLG := inT4 44 rfl rfl
abbrev mdX8_lesson : MD := (RX8, yX8_lesson, cX8_lesson, 9, some .int, none)
set_option maxRecDepth 100000 in
theorem moX8_lesson : MOK mdX8_lesson 1 := ⟨inT4 137 rfl rfl, inT1 11 rfl rfl, ⟨by decide +kernel, by decide +kernel, by decide +kernel⟩, by decide, by decide +kernel, rfl, rfl⟩
set_option maxRecDepth 100000 in
theorem imX8_lesson : Cond.instanceMethod yX8_lesson ∈ ALLG := inT4 136 rfl rfl
abbrev mdX8_putKnot : MD := (RX8, yX8_putKnot, cX8_putKnot, 8, none, none)
set_option maxRecDepth 100000 in
theorem moX8_putKnot : MOK mdX8_putKnot 3 := ⟨inT4 155 rfl rfl, inT1 11 rfl rfl, ⟨by decide +kernel, by decide +kernel, by decide +kernel⟩, by decide, by decide +kernel, rfl, rfl⟩
set_option maxRecDepth 100000 in
theorem imX8_putKnot : Cond.instanceMethod yX8_putKnot ∈ ALLG := inT4 154 rfl rfl
set_option maxRecDepth 100000 in
theorem seX8_putKnot : Cond.selects RX8 yX8_putKnot yX8_putKnot ∈ ALLG := inT0 33 rfl rfl
abbrev mdX8_addLeaf : MD := (RX8, yX8_addLeaf, cX8_addLeaf, 4, none, none)
set_option maxRecDepth 100000 in
theorem moX8_addLeaf : MOK mdX8_addLeaf 2 := ⟨inT4 60 rfl rfl, inT1 11 rfl rfl, ⟨by decide +kernel, by decide +kernel, by decide +kernel⟩, by decide, by decide +kernel, rfl, rfl⟩
set_option maxRecDepth 100000 in
theorem imX8_addLeaf : Cond.instanceMethod yX8_addLeaf ∈ ALLG := inT4 59 rfl rfl
set_option maxRecDepth 100000 in
theorem seX8_addLeaf : Cond.selects RX8 yX8_addLeaf yX8_addLeaf ∈ ALLG := inT0 28 rfl rfl
abbrev mdX8_link : MD := (RX8, yX8_link, cX8_link, 3, none, none)
set_option maxRecDepth 100000 in
theorem moX8_link : MOK mdX8_link 2 := ⟨inT2 159 rfl rfl, inT1 11 rfl rfl, ⟨by decide +kernel, by decide +kernel, by decide +kernel⟩, by decide, by decide +kernel, rfl, rfl⟩
set_option maxRecDepth 100000 in
theorem imX8_link : Cond.instanceMethod yX8_link ∈ ALLG := inT2 158 rfl rfl
set_option maxRecDepth 100000 in
theorem seX8_link : Cond.selects RX8 yX8_link yX8_link ∈ ALLG := inT0 1 rfl rfl
abbrev mdX8_linkAt : MD := (RX8, yX8_linkAt, cX8_linkAt, 2, some .int, none)
set_option maxRecDepth 100000 in
theorem moX8_linkAt : MOK mdX8_linkAt 1 := ⟨inT4 56 rfl rfl, inT1 11 rfl rfl, ⟨by decide +kernel, by decide +kernel, by decide +kernel⟩, by decide, by decide +kernel, rfl, rfl⟩
set_option maxRecDepth 100000 in
theorem imX8_linkAt : Cond.instanceMethod yX8_linkAt ∈ ALLG := inT4 54 rfl rfl
set_option maxRecDepth 100000 in
theorem seX8_linkAt : Cond.selects RX8 yX8_linkAt yX8_linkAt ∈ ALLG := inT4 55 rfl rfl
abbrev mdX8_descend : MD := (RX8, yX8_descend, cX8_descend, 5, some .int, none)
set_option maxRecDepth 100000 in
theorem moX8_descend : MOK mdX8_descend 1 := ⟨inT4 51 rfl rfl, inT1 11 rfl rfl, ⟨by decide +kernel, by decide +kernel, by decide +kernel⟩, by decide, by decide +kernel, rfl, rfl⟩
set_option maxRecDepth 100000 in
theorem imX8_descend : Cond.instanceMethod yX8_descend ∈ ALLG := inT4 49 rfl rfl
set_option maxRecDepth 100000 in
theorem seX8_descend : Cond.selects RX8 yX8_descend yX8_descend ∈ ALLG := inT4 50 rfl rfl
abbrev mdX9_init : MD := (RX9, yX9_init, cX9_init, 2, none, none)
set_option maxRecDepth 100000 in
theorem moX9_init : MOK mdX9_init 1 := ⟨inT1 165 rfl rfl, inT1 10 rfl rfl, ⟨by decide +kernel, by decide +kernel, by decide +kernel⟩, by decide, by decide +kernel, rfl, rfl⟩
set_option maxRecDepth 100000 in
theorem imX9_init : Cond.instanceMethod yX9_init ∈ ALLG := inT1 164 rfl rfl
abbrev mdX9_clear : MD := (RX9, yX9_clear, cX9_clear, 1, none, none)
set_option maxRecDepth 100000 in
theorem moX9_clear : MOK mdX9_clear 0 := ⟨inT2 96 rfl rfl, inT1 10 rfl rfl, ⟨by decide +kernel, by decide +kernel, by decide +kernel⟩, by decide, by decide +kernel, rfl, rfl⟩
set_option maxRecDepth 100000 in
theorem imX9_clear : Cond.instanceMethod yX9_clear ∈ ALLG := inT2 94 rfl rfl
set_option maxRecDepth 100000 in
theorem seX9_clear : Cond.selects RX9 yX9_clear yX9_clear ∈ ALLG := inT2 95 rfl rfl
abbrev mdX9_add : MD := (RX9, yX9_add, cX9_add, 3, none, none)
set_option maxRecDepth 100000 in
theorem moX9_add : MOK mdX9_add 1 := ⟨inT2 100 rfl rfl, inT1 10 rfl rfl, ⟨by decide +kernel, by decide +kernel, by decide +kernel⟩, by decide, by decide +kernel, rfl, rfl⟩
set_option maxRecDepth 100000 in
theorem imX9_add : Cond.instanceMethod yX9_add ∈ ALLG := inT2 98 rfl rfl
set_option maxRecDepth 100000 in
theorem seX9_add : Cond.selects RX9 yX9_add yX9_add ∈ ALLG := inT2 99 rfl rfl
abbrev mdX9_get : MD := (RX9, yX9_get, cX9_get, 2, some .long, none)
set_option maxRecDepth 100000 in
theorem moX9_get : MOK mdX9_get 1 := ⟨inT3 197 rfl rfl, inT1 10 rfl rfl, ⟨by decide +kernel, by decide +kernel, by decide +kernel⟩, by decide, by decide +kernel, rfl, rfl⟩
set_option maxRecDepth 100000 in
theorem imX9_get : Cond.instanceMethod yX9_get ∈ ALLG := inT3 195 rfl rfl
set_option maxRecDepth 100000 in
theorem seX9_get : Cond.selects RX9 yX9_get yX9_get ∈ ALLG := inT3 196 rfl rfl
abbrev mdX9_last : MD := (RX9, yX9_last, cX9_last, 1, some .long, none)
set_option maxRecDepth 100000 in
theorem moX9_last : MOK mdX9_last 0 := ⟨inT4 77 rfl rfl, inT1 10 rfl rfl, ⟨by decide +kernel, by decide +kernel, by decide +kernel⟩, by decide, by decide +kernel, rfl, rfl⟩
set_option maxRecDepth 100000 in
theorem imX9_last : Cond.instanceMethod yX9_last ∈ ALLG := inT4 75 rfl rfl
set_option maxRecDepth 100000 in
theorem seX9_last : Cond.selects RX9 yX9_last yX9_last ∈ ALLG := inT4 76 rfl rfl
abbrev mdX9_indexOf : MD := (RX9, yX9_indexOf, cX9_indexOf, 4, some .int, none)
set_option maxRecDepth 100000 in
theorem moX9_indexOf : MOK mdX9_indexOf 1 := ⟨inT4 32 rfl rfl, inT1 10 rfl rfl, ⟨by decide +kernel, by decide +kernel, by decide +kernel⟩, by decide, by decide +kernel, rfl, rfl⟩
set_option maxRecDepth 100000 in
theorem imX9_indexOf : Cond.instanceMethod yX9_indexOf ∈ ALLG := inT4 30 rfl rfl
set_option maxRecDepth 100000 in
theorem seX9_indexOf : Cond.selects RX9 yX9_indexOf yX9_indexOf ∈ ALLG := inT4 31 rfl rfl
abbrev mdX9_has : MD := (RX9, yX9_has, cX9_has, 3, some .boolean, none)
set_option maxRecDepth 100000 in
theorem moX9_has : MOK mdX9_has 1 := ⟨inT4 107 rfl rfl, inT1 10 rfl rfl, ⟨by decide +kernel, by decide +kernel, by decide +kernel⟩, by decide, by decide +kernel, rfl, rfl⟩
set_option maxRecDepth 100000 in
theorem imX9_has : Cond.instanceMethod yX9_has ∈ ALLG := inT4 105 rfl rfl
set_option maxRecDepth 100000 in
theorem seX9_has : Cond.selects RX9 yX9_has yX9_has ∈ ALLG := inT4 106 rfl rfl
abbrev mdX10_init : MD := (RX10, yX10_init, cX10_init, 1, none, none)
set_option maxRecDepth 100000 in
theorem moX10_init : MOK mdX10_init 0 := ⟨inT1 117 rfl rfl, inT1 7 rfl rfl, ⟨by decide +kernel, by decide +kernel, by decide +kernel⟩, by decide, by decide +kernel, rfl, rfl⟩
set_option maxRecDepth 100000 in
theorem imX10_init : Cond.instanceMethod yX10_init ∈ ALLG := inT1 116 rfl rfl
abbrev mdX10_clear : MD := (RX10, yX10_clear, cX10_clear, 1, none, none)
set_option maxRecDepth 100000 in
theorem moX10_clear : MOK mdX10_clear 0 := ⟨inT2 83 rfl rfl, inT1 7 rfl rfl, ⟨by decide +kernel, by decide +kernel, by decide +kernel⟩, by decide, by decide +kernel, rfl, rfl⟩
set_option maxRecDepth 100000 in
theorem imX10_clear : Cond.instanceMethod yX10_clear ∈ ALLG := inT2 81 rfl rfl
set_option maxRecDepth 100000 in
theorem seX10_clear : Cond.selects RX10 yX10_clear yX10_clear ∈ ALLG := inT2 82 rfl rfl
abbrev mdX10_places : MD := (RX10, yX10_places, cX10_places, 1, some .int, none)
set_option maxRecDepth 100000 in
theorem moX10_places : MOK mdX10_places 0 := ⟨inT5 42 rfl rfl, inT1 7 rfl rfl, ⟨by decide +kernel, by decide +kernel, by decide +kernel⟩, by decide, by decide +kernel, rfl, rfl⟩
set_option maxRecDepth 100000 in
theorem imX10_places : Cond.instanceMethod yX10_places ∈ ALLG := inT5 40 rfl rfl
set_option maxRecDepth 100000 in
theorem seX10_places : Cond.selects RX10 yX10_places yX10_places ∈ ALLG := inT5 41 rfl rfl
abbrev mdX10_at : MD := (RX10, yX10_at, cX10_at, 2, some .long, none)
set_option maxRecDepth 100000 in
theorem moX10_at : MOK mdX10_at 1 := ⟨inT3 169 rfl rfl, inT1 7 rfl rfl, ⟨by decide +kernel, by decide +kernel, by decide +kernel⟩, by decide, by decide +kernel, rfl, rfl⟩
set_option maxRecDepth 100000 in
theorem imX10_at : Cond.instanceMethod yX10_at ∈ ALLG := inT3 167 rfl rfl
set_option maxRecDepth 100000 in
theorem seX10_at : Cond.selects RX10 yX10_at yX10_at ∈ ALLG := inT3 168 rfl rfl
abbrev mdX10_has : MD := (RX10, yX10_has, cX10_has, 3, some .boolean, none)
set_option maxRecDepth 100000 in
theorem moX10_has : MOK mdX10_has 1 := ⟨inT3 165 rfl rfl, inT1 7 rfl rfl, ⟨by decide +kernel, by decide +kernel, by decide +kernel⟩, by decide, by decide +kernel, rfl, rfl⟩
set_option maxRecDepth 100000 in
theorem imX10_has : Cond.instanceMethod yX10_has ∈ ALLG := inT3 163 rfl rfl
set_option maxRecDepth 100000 in
theorem seX10_has : Cond.selects RX10 yX10_has yX10_has ∈ ALLG := inT3 164 rfl rfl
abbrev mdX10_add : MD := (RX10, yX10_add, cX10_add, 4, some .boolean, none)
set_option maxRecDepth 100000 in
theorem moX10_add : MOK mdX10_add 1 := ⟨inT2 139 rfl rfl, inT1 7 rfl rfl, ⟨by decide +kernel, by decide +kernel, by decide +kernel⟩, by decide, by decide +kernel, rfl, rfl⟩
set_option maxRecDepth 100000 in
theorem imX10_add : Cond.instanceMethod yX10_add ∈ ALLG := inT2 137 rfl rfl
set_option maxRecDepth 100000 in
theorem seX10_add : Cond.selects RX10 yX10_add yX10_add ∈ ALLG := inT2 138 rfl rfl
abbrev mdX10_makeRoom : MD := (RX10, yX10_makeRoom, cX10_makeRoom, 4, none, none)
set_option maxRecDepth 100000 in
theorem moX10_makeRoom : MOK mdX10_makeRoom 0 := ⟨inT2 130 rfl rfl, inT1 7 rfl rfl, ⟨by decide +kernel, by decide +kernel, by decide +kernel⟩, by decide, by decide +kernel, rfl, rfl⟩
set_option maxRecDepth 100000 in
theorem imX10_makeRoom : Cond.instanceMethod yX10_makeRoom ∈ ALLG := inT2 128 rfl rfl
set_option maxRecDepth 100000 in
theorem seX10_makeRoom : Cond.selects RX10 yX10_makeRoom yX10_makeRoom ∈ ALLG := inT2 129 rfl rfl
abbrev mdX10_placeOf : MD := (RX10, yX10_placeOf, cX10_placeOf, 6, some .int, none)
set_option maxRecDepth 100000 in
theorem moX10_placeOf : MOK mdX10_placeOf 1 := ⟨inT2 134 rfl rfl, inT1 7 rfl rfl, ⟨by decide +kernel, by decide +kernel, by decide +kernel⟩, by decide, by decide +kernel, rfl, rfl⟩
set_option maxRecDepth 100000 in
theorem imX10_placeOf : Cond.instanceMethod yX10_placeOf ∈ ALLG := inT2 133 rfl rfl
set_option maxRecDepth 100000 in
theorem seX10_placeOf : Cond.selects RX10 yX10_placeOf yX10_placeOf ∈ ALLG := inT0 0 rfl rfl
abbrev mdX11_init : MD := (RX11, yX11_init, cX11_init, 1, none, none)
set_option maxRecDepth 100000 in
theorem moX11_init : MOK mdX11_init 0 := ⟨inT1 25 rfl rfl, inT1 1 rfl rfl, ⟨by decide +kernel, by decide +kernel, by decide +kernel⟩, by decide, by decide +kernel, rfl, rfl⟩
set_option maxRecDepth 100000 in
theorem imX11_init : Cond.instanceMethod yX11_init ∈ ALLG := inT1 24 rfl rfl
abbrev mdX11_sign : MD := (RX11, yX11_sign, cX11_sign, 2, some .int, none)
set_option maxRecDepth 100000 in
theorem moX11_sign : MOK mdX11_sign 1 := ⟨inT2 197 rfl rfl, inT1 1 rfl rfl, ⟨by decide +kernel, by decide +kernel, by decide +kernel⟩, by decide, by decide +kernel, rfl, rfl⟩
set_option maxRecDepth 100000 in
theorem imX11_sign : Cond.instanceMethod yX11_sign ∈ ALLG := inT2 195 rfl rfl
set_option maxRecDepth 100000 in
theorem seX11_sign : Cond.selects RX11 yX11_sign yX11_sign ∈ ALLG := inT2 196 rfl rfl
abbrev mdX11_end : MD := (RX11, yX11_end, cX11_end, 2, some .boolean, none)
set_option maxRecDepth 100000 in
theorem moX11_end : MOK mdX11_end 1 := ⟨inT2 205 rfl rfl, inT1 1 rfl rfl, ⟨by decide +kernel, by decide +kernel, by decide +kernel⟩, by decide, by decide +kernel, rfl, rfl⟩
set_option maxRecDepth 100000 in
theorem imX11_end : Cond.instanceMethod yX11_end ∈ ALLG := inT2 203 rfl rfl
set_option maxRecDepth 100000 in
theorem seX11_end : Cond.selects RX11 yX11_end yX11_end ∈ ALLG := inT2 204 rfl rfl
abbrev mdX11_machine : MD := (RX11, yX11_machine, cX11_machine, 2, some .int, none)
set_option maxRecDepth 100000 in
theorem moX11_machine : MOK mdX11_machine 0 := ⟨inT2 213 rfl rfl, inT1 1 rfl rfl, ⟨by decide +kernel, by decide +kernel, by decide +kernel⟩, by decide, by decide +kernel, rfl, rfl⟩
set_option maxRecDepth 100000 in
theorem imX11_machine : Cond.instanceMethod yX11_machine ∈ ALLG := inT2 211 rfl rfl
set_option maxRecDepth 100000 in
theorem seX11_machine : Cond.selects RX11 yX11_machine yX11_machine ∈ ALLG := inT2 212 rfl rfl
abbrev mdX11_draws : MD := (RX11, yX11_draws, cX11_draws, 5, some .int, none)
set_option maxRecDepth 100000 in
theorem moX11_draws : MOK mdX11_draws 4 := ⟨inT3 18 rfl rfl, inT1 1 rfl rfl, ⟨by decide +kernel, by decide +kernel, by decide +kernel⟩, by decide, by decide +kernel, rfl, rfl⟩
set_option maxRecDepth 100000 in
theorem imX11_draws : Cond.instanceMethod yX11_draws ∈ ALLG := inT3 16 rfl rfl
set_option maxRecDepth 100000 in
theorem seX11_draws : Cond.selects RX11 yX11_draws yX11_draws ∈ ALLG := inT3 17 rfl rfl
abbrev mdX11_state : MD := (RX11, yX11_state, cX11_state, 3, some .int, none)
set_option maxRecDepth 100000 in
theorem moX11_state : MOK mdX11_state 2 := ⟨inT3 85 rfl rfl, inT1 1 rfl rfl, ⟨by decide +kernel, by decide +kernel, by decide +kernel⟩, by decide, by decide +kernel, rfl, rfl⟩
set_option maxRecDepth 100000 in
theorem imX11_state : Cond.instanceMethod yX11_state ∈ ALLG := inT3 83 rfl rfl
set_option maxRecDepth 100000 in
theorem seX11_state : Cond.selects RX11 yX11_state yX11_state ∈ ALLG := inT3 84 rfl rfl
abbrev mdX11_run : MD := (RX11, yX11_run, cX11_run, 3, some .int, none)
set_option maxRecDepth 100000 in
theorem moX11_run : MOK mdX11_run 1 := ⟨inT3 93 rfl rfl, inT1 1 rfl rfl, ⟨by decide +kernel, by decide +kernel, by decide +kernel⟩, by decide, by decide +kernel, rfl, rfl⟩
set_option maxRecDepth 100000 in
theorem imX11_run : Cond.instanceMethod yX11_run ∈ ALLG := inT3 91 rfl rfl
set_option maxRecDepth 100000 in
theorem seX11_run : Cond.selects RX11 yX11_run yX11_run ∈ ALLG := inT3 92 rfl rfl
abbrev mdX11_joins : MD := (RX11, yX11_joins, cX11_joins, 5, some .long, none)
set_option maxRecDepth 100000 in
theorem moX11_joins : MOK mdX11_joins 2 := ⟨inT3 106 rfl rfl, inT1 1 rfl rfl, ⟨by decide +kernel, by decide +kernel, by decide +kernel⟩, by decide, by decide +kernel, rfl, rfl⟩
set_option maxRecDepth 100000 in
theorem imX11_joins : Cond.instanceMethod yX11_joins ∈ ALLG := inT3 104 rfl rfl
set_option maxRecDepth 100000 in
theorem seX11_joins : Cond.selects RX11 yX11_joins yX11_joins ∈ ALLG := inT3 105 rfl rfl
abbrev mdX11_letter : MD := (RX11, yX11_letter, cX11_letter, 5, some .int, none)
set_option maxRecDepth 100000 in
theorem moX11_letter : MOK mdX11_letter 2 := ⟨inT3 116 rfl rfl, inT1 1 rfl rfl, ⟨by decide +kernel, by decide +kernel, by decide +kernel⟩, by decide, by decide +kernel, rfl, rfl⟩
set_option maxRecDepth 100000 in
theorem imX11_letter : Cond.instanceMethod yX11_letter ∈ ALLG := inT3 114 rfl rfl
set_option maxRecDepth 100000 in
theorem seX11_letter : Cond.selects RX11 yX11_letter yX11_letter ∈ ALLG := inT3 115 rfl rfl
abbrev mdX11_cut : MD := (RX11, yX11_cut, cX11_cut, 5, some .long, none)
set_option maxRecDepth 100000 in
theorem moX11_cut : MOK mdX11_cut 2 := ⟨inT3 123 rfl rfl, inT1 1 rfl rfl, ⟨by decide +kernel, by decide +kernel, by decide +kernel⟩, by decide, by decide +kernel, rfl, rfl⟩
set_option maxRecDepth 100000 in
theorem imX11_cut : Cond.instanceMethod yX11_cut ∈ ALLG := inT3 121 rfl rfl
set_option maxRecDepth 100000 in
theorem seX11_cut : Cond.selects RX11 yX11_cut yX11_cut ∈ ALLG := inT3 122 rfl rfl
abbrev mdX11_word : MD := (RX11, yX11_word, cX11_word, 2, some .long, none)
set_option maxRecDepth 100000 in
theorem moX11_word : MOK mdX11_word 1 := ⟨inT3 133 rfl rfl, inT1 1 rfl rfl, ⟨by decide +kernel, by decide +kernel, by decide +kernel⟩, by decide, by decide +kernel, rfl, rfl⟩
set_option maxRecDepth 100000 in
theorem imX11_word : Cond.instanceMethod yX11_word ∈ ALLG := inT3 131 rfl rfl
set_option maxRecDepth 100000 in
theorem seX11_word : Cond.selects RX11 yX11_word yX11_word ∈ ALLG := inT3 132 rfl rfl
abbrev mdX11_prices : MD := (RX11, yX11_prices, cX11_prices, 3, some .boolean, none)
set_option maxRecDepth 100000 in
theorem moX11_prices : MOK mdX11_prices 2 := ⟨inT3 144 rfl rfl, inT1 1 rfl rfl, ⟨by decide +kernel, by decide +kernel, by decide +kernel⟩, by decide, by decide +kernel, rfl, rfl⟩
set_option maxRecDepth 100000 in
theorem imX11_prices : Cond.instanceMethod yX11_prices ∈ ALLG := inT3 142 rfl rfl
set_option maxRecDepth 100000 in
theorem seX11_prices : Cond.selects RX11 yX11_prices yX11_prices ∈ ALLG := inT3 143 rfl rfl
abbrev mdX11_method : MD := (RX11, yX11_method, cX11_method, 3, some .int, none)
set_option maxRecDepth 100000 in
theorem moX11_method : MOK mdX11_method 1 := ⟨inT3 152 rfl rfl, inT1 1 rfl rfl, ⟨by decide +kernel, by decide +kernel, by decide +kernel⟩, by decide, by decide +kernel, rfl, rfl⟩
set_option maxRecDepth 100000 in
theorem imX11_method : Cond.instanceMethod yX11_method ∈ ALLG := inT3 150 rfl rfl
set_option maxRecDepth 100000 in
theorem seX11_method : Cond.selects RX11 yX11_method yX11_method ∈ ALLG := inT3 151 rfl rfl
abbrev mdX11_asks : MD := (RX11, yX11_asks, cX11_asks, 3, some .int, none)
set_option maxRecDepth 100000 in
theorem moX11_asks : MOK mdX11_asks 1 := ⟨inT3 156 rfl rfl, inT1 1 rfl rfl, ⟨by decide +kernel, by decide +kernel, by decide +kernel⟩, by decide, by decide +kernel, rfl, rfl⟩
set_option maxRecDepth 100000 in
theorem imX11_asks : Cond.instanceMethod yX11_asks ∈ ALLG := inT3 154 rfl rfl
set_option maxRecDepth 100000 in
theorem seX11_asks : Cond.selects RX11 yX11_asks yX11_asks ∈ ALLG := inT3 155 rfl rfl
abbrev mdX11_known : MD := (RX11, yX11_known, cX11_known, 3, some .int, none)
set_option maxRecDepth 100000 in
theorem moX11_known : MOK mdX11_known 1 := ⟨inT3 161 rfl rfl, inT1 1 rfl rfl, ⟨by decide +kernel, by decide +kernel, by decide +kernel⟩, by decide, by decide +kernel, rfl, rfl⟩
set_option maxRecDepth 100000 in
theorem imX11_known : Cond.instanceMethod yX11_known ∈ ALLG := inT3 159 rfl rfl
set_option maxRecDepth 100000 in
theorem seX11_known : Cond.selects RX11 yX11_known yX11_known ∈ ALLG := inT3 160 rfl rfl
abbrev mdX11_step : MD := (RX11, yX11_step, cX11_step, 4, some .int, none)
set_option maxRecDepth 100000 in
theorem moX11_step : MOK mdX11_step 0 := ⟨inT3 173 rfl rfl, inT1 1 rfl rfl, ⟨by decide +kernel, by decide +kernel, by decide +kernel⟩, by decide, by decide +kernel, rfl, rfl⟩
set_option maxRecDepth 100000 in
theorem imX11_step : Cond.instanceMethod yX11_step ∈ ALLG := inT3 171 rfl rfl
set_option maxRecDepth 100000 in
theorem seX11_step : Cond.selects RX11 yX11_step yX11_step ∈ ALLG := inT3 172 rfl rfl
abbrev mdX11_guess : MD := (RX11, yX11_guess, cX11_guess, 3, some .int, none)
set_option maxRecDepth 100000 in
theorem moX11_guess : MOK mdX11_guess 0 := ⟨inT4 82 rfl rfl, inT1 1 rfl rfl, ⟨by decide +kernel, by decide +kernel, by decide +kernel⟩, by decide, by decide +kernel, rfl, rfl⟩
set_option maxRecDepth 100000 in
theorem imX11_guess : Cond.instanceMethod yX11_guess ∈ ALLG := inT4 80 rfl rfl
set_option maxRecDepth 100000 in
theorem seX11_guess : Cond.selects RX11 yX11_guess yX11_guess ∈ ALLG := inT4 81 rfl rfl
abbrev mdX11_tells : MD := (RX11, yX11_tells, cX11_tells, 5, some .int, none)
set_option maxRecDepth 100000 in
theorem moX11_tells : MOK mdX11_tells 1 := ⟨inT4 86 rfl rfl, inT1 1 rfl rfl, ⟨by decide +kernel, by decide +kernel, by decide +kernel⟩, by decide, by decide +kernel, rfl, rfl⟩
set_option maxRecDepth 100000 in
theorem imX11_tells : Cond.instanceMethod yX11_tells ∈ ALLG := inT4 84 rfl rfl
set_option maxRecDepth 100000 in
theorem seX11_tells : Cond.selects RX11 yX11_tells yX11_tells ∈ ALLG := inT4 85 rfl rfl
abbrev mdX11_learns : MD := (RX11, yX11_learns, cX11_learns, 1, some .int, none)
set_option maxRecDepth 100000 in
theorem moX11_learns : MOK mdX11_learns 0 := ⟨inT4 159 rfl rfl, inT1 1 rfl rfl, ⟨by decide +kernel, by decide +kernel, by decide +kernel⟩, by decide, by decide +kernel, rfl, rfl⟩
set_option maxRecDepth 100000 in
theorem imX11_learns : Cond.instanceMethod yX11_learns ∈ ALLG := inT4 157 rfl rfl
set_option maxRecDepth 100000 in
theorem seX11_learns : Cond.selects RX11 yX11_learns yX11_learns ∈ ALLG := inT4 158 rfl rfl
abbrev mdX11_head : MD := (RX11, yX11_head, cX11_head, 2, some .long, none)
set_option maxRecDepth 100000 in
theorem moX11_head : MOK mdX11_head 1 := ⟨inT4 171 rfl rfl, inT1 1 rfl rfl, ⟨by decide +kernel, by decide +kernel, by decide +kernel⟩, by decide, by decide +kernel, rfl, rfl⟩
set_option maxRecDepth 100000 in
theorem imX11_head : Cond.instanceMethod yX11_head ∈ ALLG := inT4 169 rfl rfl
set_option maxRecDepth 100000 in
theorem seX11_head : Cond.selects RX11 yX11_head yX11_head ∈ ALLG := inT4 170 rfl rfl
abbrev mdX11_tail : MD := (RX11, yX11_tail, cX11_tail, 2, some .long, none)
set_option maxRecDepth 100000 in
theorem moX11_tail : MOK mdX11_tail 1 := ⟨inT4 176 rfl rfl, inT1 1 rfl rfl, ⟨by decide +kernel, by decide +kernel, by decide +kernel⟩, by decide, by decide +kernel, rfl, rfl⟩
set_option maxRecDepth 100000 in
theorem imX11_tail : Cond.instanceMethod yX11_tail ∈ ALLG := inT4 174 rfl rfl
set_option maxRecDepth 100000 in
theorem seX11_tail : Cond.selects RX11 yX11_tail yX11_tail ∈ ALLG := inT4 175 rfl rfl
abbrev mdX11_cell : MD := (RX11, yX11_cell, cX11_cell, 10, some .int, none)
set_option maxRecDepth 100000 in
theorem moX11_cell : MOK mdX11_cell 3 := ⟨inT4 180 rfl rfl, inT1 1 rfl rfl, ⟨by decide +kernel, by decide +kernel, by decide +kernel⟩, by decide, by decide +kernel, rfl, rfl⟩
set_option maxRecDepth 100000 in
theorem imX11_cell : Cond.instanceMethod yX11_cell ∈ ALLG := inT4 178 rfl rfl
set_option maxRecDepth 100000 in
theorem seX11_cell : Cond.selects RX11 yX11_cell yX11_cell ∈ ALLG := inT4 179 rfl rfl
abbrev mdX11_lines : MD := (RX11, yX11_lines, cX11_lines, 3, some .int, none)
set_option maxRecDepth 100000 in
theorem moX11_lines : MOK mdX11_lines 0 := ⟨inT4 185 rfl rfl, inT1 1 rfl rfl, ⟨by decide +kernel, by decide +kernel, by decide +kernel⟩, by decide, by decide +kernel, rfl, rfl⟩
set_option maxRecDepth 100000 in
theorem imX11_lines : Cond.instanceMethod yX11_lines ∈ ALLG := inT4 183 rfl rfl
set_option maxRecDepth 100000 in
theorem seX11_lines : Cond.selects RX11 yX11_lines yX11_lines ∈ ALLG := inT4 184 rfl rfl
abbrev mdX11_knot : MD := (RX11, yX11_knot, cX11_knot, 4, some .int, none)
set_option maxRecDepth 100000 in
theorem moX11_knot : MOK mdX11_knot 2 := ⟨inT4 207 rfl rfl, inT1 1 rfl rfl, ⟨by decide +kernel, by decide +kernel, by decide +kernel⟩, by decide, by decide +kernel, rfl, rfl⟩
set_option maxRecDepth 100000 in
theorem imX11_knot : Cond.instanceMethod yX11_knot ∈ ALLG := inT4 205 rfl rfl
set_option maxRecDepth 100000 in
theorem seX11_knot : Cond.selects RX11 yX11_knot yX11_knot ∈ ALLG := inT4 206 rfl rfl
abbrev mdX11_sift : MD := (RX11, yX11_sift, cX11_sift, 5, some .int, none)
set_option maxRecDepth 100000 in
theorem moX11_sift : MOK mdX11_sift 1 := ⟨inT4 212 rfl rfl, inT1 1 rfl rfl, ⟨by decide +kernel, by decide +kernel, by decide +kernel⟩, by decide, by decide +kernel, rfl, rfl⟩
set_option maxRecDepth 100000 in
theorem imX11_sift : Cond.instanceMethod yX11_sift ∈ ALLG := inT4 210 rfl rfl
set_option maxRecDepth 100000 in
theorem seX11_sift : Cond.selects RX11 yX11_sift yX11_sift ∈ ALLG := inT4 211 rfl rfl
abbrev mdX11_guessed : MD := (RX11, yX11_guessed, cX11_guessed, 4, some .int, none)
set_option maxRecDepth 100000 in
theorem moX11_guessed : MOK mdX11_guessed 2 := ⟨inT4 217 rfl rfl, inT1 1 rfl rfl, ⟨by decide +kernel, by decide +kernel, by decide +kernel⟩, by decide, by decide +kernel, rfl, rfl⟩
set_option maxRecDepth 100000 in
theorem imX11_guessed : Cond.instanceMethod yX11_guessed ∈ ALLG := inT4 215 rfl rfl
set_option maxRecDepth 100000 in
theorem seX11_guessed : Cond.selects RX11 yX11_guessed yX11_guessed ∈ ALLG := inT4 216 rfl rfl
abbrev mdX11_access : MD := (RX11, yX11_access, cX11_access, 3, some .long, none)
set_option maxRecDepth 100000 in
theorem moX11_access : MOK mdX11_access 1 := ⟨inT4 225 rfl rfl, inT1 1 rfl rfl, ⟨by decide +kernel, by decide +kernel, by decide +kernel⟩, by decide, by decide +kernel, rfl, rfl⟩
set_option maxRecDepth 100000 in
theorem imX11_access : Cond.instanceMethod yX11_access ∈ ALLG := inT4 223 rfl rfl
set_option maxRecDepth 100000 in
theorem seX11_access : Cond.selects RX11 yX11_access yX11_access ∈ ALLG := inT4 224 rfl rfl
abbrev mdX11_reads : MD := (RX11, yX11_reads, cX11_reads, 5, some .int, none)
set_option maxRecDepth 100000 in
theorem moX11_reads : MOK mdX11_reads 1 := ⟨inT4 229 rfl rfl, inT1 1 rfl rfl, ⟨by decide +kernel, by decide +kernel, by decide +kernel⟩, by decide, by decide +kernel, rfl, rfl⟩
set_option maxRecDepth 100000 in
theorem imX11_reads : Cond.instanceMethod yX11_reads ∈ ALLG := inT4 227 rfl rfl
set_option maxRecDepth 100000 in
theorem seX11_reads : Cond.selects RX11 yX11_reads yX11_reads ∈ ALLG := inT4 228 rfl rfl
abbrev mdX11_errs : MD := (RX11, yX11_errs, cX11_errs, 2, some .long, none)
set_option maxRecDepth 100000 in
theorem moX11_errs : MOK mdX11_errs 0 := ⟨inT4 234 rfl rfl, inT1 1 rfl rfl, ⟨by decide +kernel, by decide +kernel, by decide +kernel⟩, by decide, by decide +kernel, rfl, rfl⟩
set_option maxRecDepth 100000 in
theorem imX11_errs : Cond.instanceMethod yX11_errs ∈ ALLG := inT4 232 rfl rfl
set_option maxRecDepth 100000 in
theorem seX11_errs : Cond.selects RX11 yX11_errs yX11_errs ∈ ALLG := inT4 233 rfl rfl
abbrev mdX11_wrong : MD := (RX11, yX11_wrong, cX11_wrong, 4, some .int, none)
set_option maxRecDepth 100000 in
theorem moX11_wrong : MOK mdX11_wrong 1 := ⟨inT5 0 rfl rfl, inT1 1 rfl rfl, ⟨by decide +kernel, by decide +kernel, by decide +kernel⟩, by decide, by decide +kernel, rfl, rfl⟩
set_option maxRecDepth 100000 in
theorem imX11_wrong : Cond.instanceMethod yX11_wrong ∈ ALLG := inT4 238 rfl rfl
set_option maxRecDepth 100000 in
theorem seX11_wrong : Cond.selects RX11 yX11_wrong yX11_wrong ∈ ALLG := inT4 239 rfl rfl
abbrev mdX11_tests : MD := (RX11, yX11_tests, cX11_tests, 9, some .int, none)
set_option maxRecDepth 100000 in
theorem moX11_tests : MOK mdX11_tests 1 := ⟨inT5 20 rfl rfl, inT1 1 rfl rfl, ⟨by decide +kernel, by decide +kernel, by decide +kernel⟩, by decide, by decide +kernel, rfl, rfl⟩
set_option maxRecDepth 100000 in
theorem imX11_tests : Cond.instanceMethod yX11_tests ∈ ALLG := inT5 18 rfl rfl
set_option maxRecDepth 100000 in
theorem seX11_tests : Cond.selects RX11 yX11_tests yX11_tests ∈ ALLG := inT5 19 rfl rfl
abbrev mdX11_passes : MD := (RX11, yX11_passes, cX11_passes, 8, some .long, none)
set_option maxRecDepth 100000 in
theorem moX11_passes : MOK mdX11_passes 1 := ⟨inT5 51 rfl rfl, inT1 1 rfl rfl, ⟨by decide +kernel, by decide +kernel, by decide +kernel⟩, by decide, by decide +kernel, rfl, rfl⟩
set_option maxRecDepth 100000 in
theorem imX11_passes : Cond.instanceMethod yX11_passes ∈ ALLG := inT5 49 rfl rfl
set_option maxRecDepth 100000 in
theorem seX11_passes : Cond.selects RX11 yX11_passes yX11_passes ∈ ALLG := inT5 50 rfl rfl
abbrev mdX11_parted : MD := (RX11, yX11_parted, cX11_parted, 5, some .long, none)
set_option maxRecDepth 100000 in
theorem moX11_parted : MOK mdX11_parted 2 := ⟨inT5 55 rfl rfl, inT1 1 rfl rfl, ⟨by decide +kernel, by decide +kernel, by decide +kernel⟩, by decide, by decide +kernel, rfl, rfl⟩
set_option maxRecDepth 100000 in
theorem imX11_parted : Cond.instanceMethod yX11_parted ∈ ALLG := inT5 53 rfl rfl
set_option maxRecDepth 100000 in
theorem seX11_parted : Cond.selects RX11 yX11_parted yX11_parted ∈ ALLG := inT5 54 rfl rfl
abbrev mdX11_like : MD := (RX11, yX11_like, cX11_like, 3, some .long, none)
set_option maxRecDepth 100000 in
theorem moX11_like : MOK mdX11_like 2 := ⟨inT5 59 rfl rfl, inT1 1 rfl rfl, ⟨by decide +kernel, by decide +kernel, by decide +kernel⟩, by decide, by decide +kernel, rfl, rfl⟩
set_option maxRecDepth 100000 in
theorem imX11_like : Cond.instanceMethod yX11_like ∈ ALLG := inT5 57 rfl rfl
set_option maxRecDepth 100000 in
theorem seX11_like : Cond.selects RX11 yX11_like yX11_like ∈ ALLG := inT5 58 rfl rfl
abbrev mdX11_least : MD := (RX11, yX11_least, cX11_least, 2, some .int, none)
set_option maxRecDepth 100000 in
theorem moX11_least : MOK mdX11_least 0 := ⟨inT5 63 rfl rfl, inT1 1 rfl rfl, ⟨by decide +kernel, by decide +kernel, by decide +kernel⟩, by decide, by decide +kernel, rfl, rfl⟩
set_option maxRecDepth 100000 in
theorem imX11_least : Cond.instanceMethod yX11_least ∈ ALLG := inT5 61 rfl rfl
set_option maxRecDepth 100000 in
theorem seX11_least : Cond.selects RX11 yX11_least yX11_least ∈ ALLG := inT5 62 rfl rfl
abbrev mdX11_reach : MD := (RX11, yX11_reach, cX11_reach, 2, some .long, none)
set_option maxRecDepth 100000 in
theorem moX11_reach : MOK mdX11_reach 1 := ⟨inT5 71 rfl rfl, inT1 1 rfl rfl, ⟨by decide +kernel, by decide +kernel, by decide +kernel⟩, by decide, by decide +kernel, rfl, rfl⟩
set_option maxRecDepth 100000 in
theorem imX11_reach : Cond.instanceMethod yX11_reach ∈ ALLG := inT5 69 rfl rfl
set_option maxRecDepth 100000 in
theorem seX11_reach : Cond.selects RX11 yX11_reach yX11_reach ∈ ALLG := inT5 70 rfl rfl
abbrev mdX11_groups : MD := (RX11, yX11_groups, cX11_groups, 3, some .int, none)
set_option maxRecDepth 100000 in
theorem moX11_groups : MOK mdX11_groups 1 := ⟨inT5 75 rfl rfl, inT1 1 rfl rfl, ⟨by decide +kernel, by decide +kernel, by decide +kernel⟩, by decide, by decide +kernel, rfl, rfl⟩
set_option maxRecDepth 100000 in
theorem imX11_groups : Cond.instanceMethod yX11_groups ∈ ALLG := inT5 73 rfl rfl
set_option maxRecDepth 100000 in
theorem seX11_groups : Cond.selects RX11 yX11_groups yX11_groups ∈ ALLG := inT5 74 rfl rfl
abbrev mdX11_costs : MD := (RX11, yX11_costs, cX11_costs, 2, some .int, none)
set_option maxRecDepth 100000 in
theorem moX11_costs : MOK mdX11_costs 1 := ⟨inT5 79 rfl rfl, inT1 1 rfl rfl, ⟨by decide +kernel, by decide +kernel, by decide +kernel⟩, by decide, by decide +kernel, rfl, rfl⟩
set_option maxRecDepth 100000 in
theorem imX11_costs : Cond.instanceMethod yX11_costs ∈ ALLG := inT5 77 rfl rfl
set_option maxRecDepth 100000 in
theorem seX11_costs : Cond.selects RX11 yX11_costs yX11_costs ∈ ALLG := inT5 78 rfl rfl
abbrev mdX11_cheapest : MD := (RX11, yX11_cheapest, cX11_cheapest, 5, some .int, none)
set_option maxRecDepth 100000 in
theorem moX11_cheapest : MOK mdX11_cheapest 0 := ⟨inT5 83 rfl rfl, inT1 1 rfl rfl, ⟨by decide +kernel, by decide +kernel, by decide +kernel⟩, by decide, by decide +kernel, rfl, rfl⟩
set_option maxRecDepth 100000 in
theorem imX11_cheapest : Cond.instanceMethod yX11_cheapest ∈ ALLG := inT5 81 rfl rfl
set_option maxRecDepth 100000 in
theorem seX11_cheapest : Cond.selects RX11 yX11_cheapest yX11_cheapest ∈ ALLG := inT5 82 rfl rfl
abbrev mdX11_count : MD := (RX11, yX11_count, cX11_count, 2, some .int, none)
set_option maxRecDepth 100000 in
theorem moX11_count : MOK mdX11_count 1 := ⟨inT5 87 rfl rfl, inT1 1 rfl rfl, ⟨by decide +kernel, by decide +kernel, by decide +kernel⟩, by decide, by decide +kernel, rfl, rfl⟩
set_option maxRecDepth 100000 in
theorem imX11_count : Cond.instanceMethod yX11_count ∈ ALLG := inT5 85 rfl rfl
set_option maxRecDepth 100000 in
theorem seX11_count : Cond.selects RX11 yX11_count yX11_count ∈ ALLG := inT5 86 rfl rfl
abbrev mdX11_row : MD := (RX11, yX11_row, cX11_row, 2, some .long, none)
set_option maxRecDepth 100000 in
theorem moX11_row : MOK mdX11_row 1 := ⟨inT5 95 rfl rfl, inT1 1 rfl rfl, ⟨by decide +kernel, by decide +kernel, by decide +kernel⟩, by decide, by decide +kernel, rfl, rfl⟩
set_option maxRecDepth 100000 in
theorem imX11_row : Cond.instanceMethod yX11_row ∈ ALLG := inT5 93 rfl rfl
set_option maxRecDepth 100000 in
theorem seX11_row : Cond.selects RX11 yX11_row yX11_row ∈ ALLG := inT5 94 rfl rfl
abbrev mdX11_clearNumbers : MD := (RX11, yX11_clearNumbers, cX11_clearNumbers, 1, none, none)
set_option maxRecDepth 100000 in
theorem moX11_clearNumbers : MOK mdX11_clearNumbers 0 := ⟨inT4 69 rfl rfl, inT1 1 rfl rfl, ⟨by decide +kernel, by decide +kernel, by decide +kernel⟩, by decide, by decide +kernel, rfl, rfl⟩
set_option maxRecDepth 100000 in
theorem imX11_clearNumbers : Cond.instanceMethod yX11_clearNumbers ∈ ALLG := inT4 68 rfl rfl
set_option maxRecDepth 100000 in
theorem seX11_clearNumbers : Cond.selects RX11 yX11_clearNumbers yX11_clearNumbers ∈ ALLG := inT0 29 rfl rfl
abbrev mdX11_put : MD := (RX11, yX11_put, cX11_put, 3, none, none)
set_option maxRecDepth 100000 in
theorem moX11_put : MOK mdX11_put 1 := ⟨inT4 73 rfl rfl, inT1 1 rfl rfl, ⟨by decide +kernel, by decide +kernel, by decide +kernel⟩, by decide, by decide +kernel, rfl, rfl⟩
set_option maxRecDepth 100000 in
theorem imX11_put : Cond.instanceMethod yX11_put ∈ ALLG := inT4 72 rfl rfl
set_option maxRecDepth 100000 in
theorem seX11_put : Cond.selects RX11 yX11_put yX11_put ∈ ALLG := inT0 30 rfl rfl
abbrev mdX11_putGroups : MD := (RX11, yX11_putGroups, cX11_putGroups, 2, none, none)
set_option maxRecDepth 100000 in
theorem moX11_putGroups : MOK mdX11_putGroups 0 := ⟨inT5 67 rfl rfl, inT1 1 rfl rfl, ⟨by decide +kernel, by decide +kernel, by decide +kernel⟩, by decide, by decide +kernel, rfl, rfl⟩
set_option maxRecDepth 100000 in
theorem imX11_putGroups : Cond.instanceMethod yX11_putGroups ∈ ALLG := inT5 66 rfl rfl
set_option maxRecDepth 100000 in
theorem seX11_putGroups : Cond.selects RX11 yX11_putGroups yX11_putGroups ∈ ALLG := inT0 41 rfl rfl
abbrev mdX11_isNoWord : MD := (RX11, yX11_isNoWord, cX11_isNoWord, 3, some .boolean, none)
set_option maxRecDepth 100000 in
theorem moX11_isNoWord : MOK mdX11_isNoWord 1 := ⟨inT3 97 rfl rfl, inT1 1 rfl rfl, ⟨by decide +kernel, by decide +kernel, by decide +kernel⟩, by decide, by decide +kernel, rfl, rfl⟩
set_option maxRecDepth 100000 in
theorem imX11_isNoWord : Cond.instanceMethod yX11_isNoWord ∈ ALLG := inT3 96 rfl rfl
set_option maxRecDepth 100000 in
theorem seX11_isNoWord : Cond.selects RX11 yX11_isNoWord yX11_isNoWord ∈ ALLG := inT0 12 rfl rfl
abbrev mdX11_refuseGuessed : MD := (RX11, yX11_refuseGuessed, cX11_refuseGuessed, 2, some .int, none)
set_option maxRecDepth 100000 in
theorem moX11_refuseGuessed : MOK mdX11_refuseGuessed 1 := ⟨inT4 221 rfl rfl, inT1 1 rfl rfl, ⟨by decide +kernel, by decide +kernel, by decide +kernel⟩, by decide, by decide +kernel, rfl, rfl⟩
set_option maxRecDepth 100000 in
theorem imX11_refuseGuessed : Cond.instanceMethod yX11_refuseGuessed ∈ ALLG := inT4 220 rfl rfl
set_option maxRecDepth 100000 in
theorem seX11_refuseGuessed : Cond.selects RX11 yX11_refuseGuessed yX11_refuseGuessed ∈ ALLG := inT0 35 rfl rfl
abbrev mdX11_unlikeReached : MD := (RX11, yX11_unlikeReached, cX11_unlikeReached, 3, some .int, none)
set_option maxRecDepth 100000 in
theorem moX11_unlikeReached : MOK mdX11_unlikeReached 0 := ⟨inT3 33 rfl rfl, inT1 1 rfl rfl, ⟨by decide +kernel, by decide +kernel, by decide +kernel⟩, by decide, by decide +kernel, rfl, rfl⟩
set_option maxRecDepth 100000 in
theorem imX11_unlikeReached : Cond.instanceMethod yX11_unlikeReached ∈ ALLG := inT3 32 rfl rfl
set_option maxRecDepth 100000 in
theorem seX11_unlikeReached : Cond.selects RX11 yX11_unlikeReached yX11_unlikeReached ∈ ALLG := inT0 6 rfl rfl
abbrev mdX11_isGroupReached : MD := (RX11, yX11_isGroupReached, cX11_isGroupReached, 3, some .boolean, none)
set_option maxRecDepth 100000 in
theorem moX11_isGroupReached : MOK mdX11_isGroupReached 1 := ⟨inT3 80 rfl rfl, inT1 1 rfl rfl, ⟨by decide +kernel, by decide +kernel, by decide +kernel⟩, by decide, by decide +kernel, rfl, rfl⟩
set_option maxRecDepth 100000 in
theorem imX11_isGroupReached : Cond.instanceMethod yX11_isGroupReached ∈ ALLG := inT3 79 rfl rfl
set_option maxRecDepth 100000 in
theorem seX11_isGroupReached : Cond.selects RX11 yX11_isGroupReached yX11_isGroupReached ∈ ALLG := inT0 11 rfl rfl
abbrev mdX11_gatherTrials : MD := (RX11, yX11_gatherTrials, cX11_gatherTrials, 8, none, none)
set_option maxRecDepth 100000 in
theorem moX11_gatherTrials : MOK mdX11_gatherTrials 1 := ⟨inT5 24 rfl rfl, inT1 1 rfl rfl, ⟨by decide +kernel, by decide +kernel, by decide +kernel⟩, by decide, by decide +kernel, rfl, rfl⟩
set_option maxRecDepth 100000 in
theorem imX11_gatherTrials : Cond.instanceMethod yX11_gatherTrials ∈ ALLG := inT5 23 rfl rfl
set_option maxRecDepth 100000 in
theorem seX11_gatherTrials : Cond.selects RX11 yX11_gatherTrials yX11_gatherTrials ∈ ALLG := inT0 38 rfl rfl
abbrev mdX11_addTrials : MD := (RX11, yX11_addTrials, cX11_addTrials, 4, none, none)
set_option maxRecDepth 100000 in
theorem moX11_addTrials : MOK mdX11_addTrials 1 := ⟨inT5 36 rfl rfl, inT1 1 rfl rfl, ⟨by decide +kernel, by decide +kernel, by decide +kernel⟩, by decide, by decide +kernel, rfl, rfl⟩
set_option maxRecDepth 100000 in
theorem imX11_addTrials : Cond.instanceMethod yX11_addTrials ∈ ALLG := inT5 35 rfl rfl
set_option maxRecDepth 100000 in
theorem seX11_addTrials : Cond.selects RX11 yX11_addTrials yX11_addTrials ∈ ALLG := inT0 40 rfl rfl
abbrev mdX11_gatherPartings : MD := (RX11, yX11_gatherPartings, cX11_gatherPartings, 6, none, none)
set_option maxRecDepth 100000 in
theorem moX11_gatherPartings : MOK mdX11_gatherPartings 1 := ⟨inT5 28 rfl rfl, inT1 1 rfl rfl, ⟨by decide +kernel, by decide +kernel, by decide +kernel⟩, by decide, by decide +kernel, rfl, rfl⟩
set_option maxRecDepth 100000 in
theorem imX11_gatherPartings : Cond.instanceMethod yX11_gatherPartings ∈ ALLG := inT5 27 rfl rfl
set_option maxRecDepth 100000 in
theorem seX11_gatherPartings : Cond.selects RX11 yX11_gatherPartings yX11_gatherPartings ∈ ALLG := inT0 39 rfl rfl
abbrev mdX12_thrown : MD := (RX12, yX12_thrown, cX12_thrown, 1, some .int, none)
set_option maxRecDepth 100000 in
theorem moX12_thrown : MOK mdX12_thrown 0 := ⟨inT5 160 rfl rfl, inT1 14 rfl rfl, ⟨by decide +kernel, by decide +kernel, by decide +kernel⟩, by decide, by decide +kernel, rfl, rfl⟩
set_option maxRecDepth 100000 in
theorem imX12_thrown : Cond.instanceMethod yX12_thrown ∈ ALLG := inT5 158 rfl rfl
set_option maxRecDepth 100000 in
theorem seX12_thrown : Cond.selects RX12 yX12_thrown yX12_thrown ∈ ALLG := inT5 159 rfl rfl
abbrev mdX12_in : MD := (RX12, yX12_in, cX12_in, 6, some .boolean, none)
set_option maxRecDepth 100000 in
theorem moX12_in : MOK mdX12_in 3 := ⟨inT5 199 rfl rfl, inT1 14 rfl rfl, ⟨by decide +kernel, by decide +kernel, by decide +kernel⟩, by decide, by decide +kernel, rfl, rfl⟩
set_option maxRecDepth 100000 in
theorem saX12_in : Cond.static yX12_in ∈ ALLG := inT5 198 rfl rfl
abbrev mdX12_flag : MD := (RX12, yX12_flag, cX12_flag, 1, some .int, none)
set_option maxRecDepth 100000 in
theorem moX12_flag : MOK mdX12_flag 1 := ⟨inT6 224 rfl rfl, inT1 14 rfl rfl, ⟨by decide +kernel, by decide +kernel, by decide +kernel⟩, by decide, by decide +kernel, rfl, rfl⟩
set_option maxRecDepth 100000 in
theorem saX12_flag : Cond.static yX12_flag ∈ ALLG := inT6 223 rfl rfl
abbrev mdX12_enters : MD := (RX12, yX12_enters, cX12_enters, 3, none, none)
set_option maxRecDepth 100000 in
theorem moX12_enters : MOK mdX12_enters 1 := ⟨inT7 77 rfl rfl, inT1 14 rfl rfl, ⟨by decide +kernel, by decide +kernel, by decide +kernel⟩, by decide, by decide +kernel, rfl, rfl⟩
set_option maxRecDepth 100000 in
theorem imX12_enters : Cond.instanceMethod yX12_enters ∈ ALLG := inT7 76 rfl rfl
set_option maxRecDepth 100000 in
theorem seX12_enters : Cond.selects RX12 yX12_enters yX12_enters ∈ ALLG := inT0 77 rfl rfl
abbrev mdX12_shown : MD := (RX12, yX12_shown, cX12_shown, 3, some .int, none)
set_option maxRecDepth 100000 in
theorem moX12_shown : MOK mdX12_shown 2 := ⟨inT6 16 rfl rfl, inT1 14 rfl rfl, ⟨by decide +kernel, by decide +kernel, by decide +kernel⟩, by decide, by decide +kernel, rfl, rfl⟩
set_option maxRecDepth 100000 in
theorem imX12_shown : Cond.instanceMethod yX12_shown ∈ ALLG := inT6 15 rfl rfl
set_option maxRecDepth 100000 in
theorem seX12_shown : Cond.selects RX12 yX12_shown yX12_shown ∈ ALLG := inT0 52 rfl rfl
abbrev mdX12_comes : MD := (RX12, yX12_comes, cX12_comes, 4, some .int, none)
set_option maxRecDepth 100000 in
theorem moX12_comes : MOK mdX12_comes 3 := ⟨inT5 184 rfl rfl, inT1 14 rfl rfl, ⟨by decide +kernel, by decide +kernel, by decide +kernel⟩, by decide, by decide +kernel, rfl, rfl⟩
set_option maxRecDepth 100000 in
theorem imX12_comes : Cond.instanceMethod yX12_comes ∈ ALLG := inT5 183 rfl rfl
set_option maxRecDepth 100000 in
theorem seX12_comes : Cond.selects RX12 yX12_comes yX12_comes ∈ ALLG := inT0 45 rfl rfl
abbrev mdX12_isState : MD := (RX12, yX12_isState, cX12_isState, 3, some .boolean, none)
set_option maxRecDepth 100000 in
theorem moX12_isState : MOK mdX12_isState 2 := ⟨inT6 232 rfl rfl, inT1 14 rfl rfl, ⟨by decide +kernel, by decide +kernel, by decide +kernel⟩, by decide, by decide +kernel, rfl, rfl⟩
set_option maxRecDepth 100000 in
theorem imX12_isState : Cond.instanceMethod yX12_isState ∈ ALLG := inT6 231 rfl rfl
set_option maxRecDepth 100000 in
theorem seX12_isState : Cond.selects RX12 yX12_isState yX12_isState ∈ ALLG := inT0 61 rfl rfl
abbrev mdX12_lengthOf : MD := (RX12, yX12_lengthOf, cX12_lengthOf, 5, some .int, none)
set_option maxRecDepth 100000 in
theorem moX12_lengthOf : MOK mdX12_lengthOf 1 := ⟨inT5 177 rfl rfl, inT1 14 rfl rfl, ⟨by decide +kernel, by decide +kernel, by decide +kernel⟩, by decide, by decide +kernel, rfl, rfl⟩
set_option maxRecDepth 100000 in
theorem saX12_lengthOf : Cond.static yX12_lengthOf ∈ ALLG := inT5 176 rfl rfl
abbrev mdX12_letterOf : MD := (RX12, yX12_letterOf, cX12_letterOf, 4, some .int, none)
set_option maxRecDepth 100000 in
theorem moX12_letterOf : MOK mdX12_letterOf 3 := ⟨inT5 180 rfl rfl, inT1 14 rfl rfl, ⟨by decide +kernel, by decide +kernel, by decide +kernel⟩, by decide, by decide +kernel, rfl, rfl⟩
set_option maxRecDepth 100000 in
theorem saX12_letterOf : Cond.static yX12_letterOf ∈ ALLG := inT5 179 rfl rfl
abbrev mdX12_isWord : MD := (RX12, yX12_isWord, cX12_isWord, 6, some .boolean, none)
set_option maxRecDepth 100000 in
theorem moX12_isWord : MOK mdX12_isWord 1 := ⟨inT5 169 rfl rfl, inT1 14 rfl rfl, ⟨by decide +kernel, by decide +kernel, by decide +kernel⟩, by decide, by decide +kernel, rfl, rfl⟩
set_option maxRecDepth 100000 in
theorem imX12_isWord : Cond.instanceMethod yX12_isWord ∈ ALLG := inT5 167 rfl rfl
set_option maxRecDepth 100000 in
theorem seX12_isWord : Cond.selects RX12 yX12_isWord yX12_isWord ∈ ALLG := inT0 43 rfl rfl
abbrev mdX12_both : MD := (RX12, yX12_both, cX12_both, 5, some .long, none)
set_option maxRecDepth 100000 in
theorem moX12_both : MOK mdX12_both 2 := ⟨inT5 192 rfl rfl, inT1 14 rfl rfl, ⟨by decide +kernel, by decide +kernel, by decide +kernel⟩, by decide, by decide +kernel, rfl, rfl⟩
set_option maxRecDepth 100000 in
theorem saX12_both : Cond.static yX12_both ∈ ALLG := inT5 191 rfl rfl
abbrev mdX12_longer : MD := (RX12, yX12_longer, cX12_longer, 3, some .long, none)
set_option maxRecDepth 100000 in
theorem moX12_longer : MOK mdX12_longer 2 := ⟨inT5 220 rfl rfl, inT1 14 rfl rfl, ⟨by decide +kernel, by decide +kernel, by decide +kernel⟩, by decide, by decide +kernel, rfl, rfl⟩
set_option maxRecDepth 100000 in
theorem saX12_longer : Cond.static yX12_longer ∈ ALLG := inT5 219 rfl rfl
abbrev mdX12_firstOf : MD := (RX12, yX12_firstOf, cX12_firstOf, 3, some .long, none)
set_option maxRecDepth 100000 in
theorem moX12_firstOf : MOK mdX12_firstOf 2 := ⟨inT5 209 rfl rfl, inT1 14 rfl rfl, ⟨by decide +kernel, by decide +kernel, by decide +kernel⟩, by decide, by decide +kernel, rfl, rfl⟩
set_option maxRecDepth 100000 in
theorem saX12_firstOf : Cond.static yX12_firstOf ∈ ALLG := inT5 208 rfl rfl
abbrev mdX12_behind : MD := (RX12, yX12_behind, cX12_behind, 4, some .long, none)
set_option maxRecDepth 100000 in
theorem moX12_behind : MOK mdX12_behind 2 := ⟨inT5 212 rfl rfl, inT1 14 rfl rfl, ⟨by decide +kernel, by decide +kernel, by decide +kernel⟩, by decide, by decide +kernel, rfl, rfl⟩
set_option maxRecDepth 100000 in
theorem saX12_behind : Cond.static yX12_behind ∈ ALLG := inT5 211 rfl rfl
abbrev mdX12_endFrom : MD := (RX12, yX12_endFrom, cX12_endFrom, 8, some .int, none)
set_option maxRecDepth 100000 in
theorem moX12_endFrom : MOK mdX12_endFrom 3 := ⟨inT5 174 rfl rfl, inT1 14 rfl rfl, ⟨by decide +kernel, by decide +kernel, by decide +kernel⟩, by decide, by decide +kernel, rfl, rfl⟩
set_option maxRecDepth 100000 in
theorem imX12_endFrom : Cond.instanceMethod yX12_endFrom ∈ ALLG := inT5 173 rfl rfl
set_option maxRecDepth 100000 in
theorem seX12_endFrom : Cond.selects RX12 yX12_endFrom yX12_endFrom ∈ ALLG := inT0 44 rfl rfl
abbrev mdX12_answer : MD := (RX12, yX12_answer, cX12_answer, 4, some .int, none)
set_option maxRecDepth 100000 in
theorem moX12_answer : MOK mdX12_answer 2 := ⟨inT6 12 rfl rfl, inT1 14 rfl rfl, ⟨by decide +kernel, by decide +kernel, by decide +kernel⟩, by decide, by decide +kernel, rfl, rfl⟩
set_option maxRecDepth 100000 in
theorem imX12_answer : Cond.instanceMethod yX12_answer ∈ ALLG := inT6 11 rfl rfl
set_option maxRecDepth 100000 in
theorem seX12_answer : Cond.selects RX12 yX12_answer yX12_answer ∈ ALLG := inT0 51 rfl rfl
abbrev mdX12_run : MD := (RX12, yX12_run, cX12_run, 3, some .int, none)
set_option maxRecDepth 100000 in
theorem moX12_run : MOK mdX12_run 1 := ⟨inT5 164 rfl rfl, inT1 14 rfl rfl, ⟨by decide +kernel, by decide +kernel, by decide +kernel⟩, by decide, by decide +kernel, rfl, rfl⟩
set_option maxRecDepth 100000 in
theorem imX12_run : Cond.instanceMethod yX12_run ∈ ALLG := inT5 162 rfl rfl
set_option maxRecDepth 100000 in
theorem seX12_run : Cond.selects RX12 yX12_run yX12_run ∈ ALLG := inT5 163 rfl rfl
abbrev mdX12_joins : MD := (RX12, yX12_joins, cX12_joins, 5, some .long, none)
set_option maxRecDepth 100000 in
theorem moX12_joins : MOK mdX12_joins 2 := ⟨inT5 188 rfl rfl, inT1 14 rfl rfl, ⟨by decide +kernel, by decide +kernel, by decide +kernel⟩, by decide, by decide +kernel, rfl, rfl⟩
set_option maxRecDepth 100000 in
theorem imX12_joins : Cond.instanceMethod yX12_joins ∈ ALLG := inT5 186 rfl rfl
set_option maxRecDepth 100000 in
theorem seX12_joins : Cond.selects RX12 yX12_joins yX12_joins ∈ ALLG := inT5 187 rfl rfl
abbrev mdX12_letter : MD := (RX12, yX12_letter, cX12_letter, 5, some .int, none)
set_option maxRecDepth 100000 in
theorem moX12_letter : MOK mdX12_letter 2 := ⟨inT5 196 rfl rfl, inT1 14 rfl rfl, ⟨by decide +kernel, by decide +kernel, by decide +kernel⟩, by decide, by decide +kernel, rfl, rfl⟩
set_option maxRecDepth 100000 in
theorem imX12_letter : Cond.instanceMethod yX12_letter ∈ ALLG := inT5 194 rfl rfl
set_option maxRecDepth 100000 in
theorem seX12_letter : Cond.selects RX12 yX12_letter yX12_letter ∈ ALLG := inT5 195 rfl rfl
abbrev mdX12_cut : MD := (RX12, yX12_cut, cX12_cut, 4, some .long, none)
set_option maxRecDepth 100000 in
theorem moX12_cut : MOK mdX12_cut 2 := ⟨inT5 203 rfl rfl, inT1 14 rfl rfl, ⟨by decide +kernel, by decide +kernel, by decide +kernel⟩, by decide, by decide +kernel, rfl, rfl⟩
set_option maxRecDepth 100000 in
theorem imX12_cut : Cond.instanceMethod yX12_cut ∈ ALLG := inT5 201 rfl rfl
set_option maxRecDepth 100000 in
theorem seX12_cut : Cond.selects RX12 yX12_cut yX12_cut ∈ ALLG := inT5 202 rfl rfl
abbrev mdX12_word : MD := (RX12, yX12_word, cX12_word, 9, some .long, none)
set_option maxRecDepth 100000 in
theorem moX12_word : MOK mdX12_word 1 := ⟨inT5 216 rfl rfl, inT1 14 rfl rfl, ⟨by decide +kernel, by decide +kernel, by decide +kernel⟩, by decide, by decide +kernel, rfl, rfl⟩
set_option maxRecDepth 100000 in
theorem imX12_word : Cond.instanceMethod yX12_word ∈ ALLG := inT5 214 rfl rfl
set_option maxRecDepth 100000 in
theorem seX12_word : Cond.selects RX12 yX12_word yX12_word ∈ ALLG := inT5 215 rfl rfl
abbrev mdX12_init : MD := (RX12, yX12_init, cX12_init, 1, none, none)
set_option maxRecDepth 100000 in
theorem moX12_init : MOK mdX12_init 0 := ⟨inT5 225 rfl rfl, inT1 14 rfl rfl, ⟨by decide +kernel, by decide +kernel, by decide +kernel⟩, by decide, by decide +kernel, rfl, rfl⟩
set_option maxRecDepth 100000 in
theorem imX12_init : Cond.instanceMethod yX12_init ∈ ALLG := inT5 224 rfl rfl
abbrev mdX12_slotOf : MD := (RX12, yX12_slotOf, cX12_slotOf, 7, some .int, none)
set_option maxRecDepth 100000 in
theorem moX12_slotOf : MOK mdX12_slotOf 2 := ⟨inT6 7 rfl rfl, inT1 14 rfl rfl, ⟨by decide +kernel, by decide +kernel, by decide +kernel⟩, by decide, by decide +kernel, rfl, rfl⟩
set_option maxRecDepth 100000 in
theorem imX12_slotOf : Cond.instanceMethod yX12_slotOf ∈ ALLG := inT6 6 rfl rfl
set_option maxRecDepth 100000 in
theorem seX12_slotOf : Cond.selects RX12 yX12_slotOf yX12_slotOf ∈ ALLG := inT0 50 rfl rfl
abbrev mdX12_wasAsked : MD := (RX12, yX12_wasAsked, cX12_wasAsked, 4, some .boolean, none)
set_option maxRecDepth 100000 in
theorem moX12_wasAsked : MOK mdX12_wasAsked 2 := ⟨inT7 13 rfl rfl, inT1 14 rfl rfl, ⟨by decide +kernel, by decide +kernel, by decide +kernel⟩, by decide, by decide +kernel, rfl, rfl⟩
set_option maxRecDepth 100000 in
theorem imX12_wasAsked : Cond.instanceMethod yX12_wasAsked ∈ ALLG := inT7 12 rfl rfl
set_option maxRecDepth 100000 in
theorem seX12_wasAsked : Cond.selects RX12 yX12_wasAsked yX12_wasAsked ∈ ALLG := inT0 62 rfl rfl
abbrev mdX12_ask : MD := (RX12, yX12_ask, cX12_ask, 5, some .int, none)
set_option maxRecDepth 100000 in
theorem moX12_ask : MOK mdX12_ask 2 := ⟨inT6 3 rfl rfl, inT1 14 rfl rfl, ⟨by decide +kernel, by decide +kernel, by decide +kernel⟩, by decide, by decide +kernel, rfl, rfl⟩
set_option maxRecDepth 100000 in
theorem imX12_ask : Cond.instanceMethod yX12_ask ∈ ALLG := inT6 2 rfl rfl
set_option maxRecDepth 100000 in
theorem seX12_ask : Cond.selects RX12 yX12_ask yX12_ask ∈ ALLG := inT0 49 rfl rfl
abbrev mdX12_headComes : MD := (RX12, yX12_headComes, cX12_headComes, 4, none, none)
set_option maxRecDepth 100000 in
theorem moX12_headComes : MOK mdX12_headComes 2 := ⟨inT5 235 rfl rfl, inT1 14 rfl rfl, ⟨by decide +kernel, by decide +kernel, by decide +kernel⟩, by decide, by decide +kernel, rfl, rfl⟩
set_option maxRecDepth 100000 in
theorem imX12_headComes : Cond.instanceMethod yX12_headComes ∈ ALLG := inT5 234 rfl rfl
set_option maxRecDepth 100000 in
theorem seX12_headComes : Cond.selects RX12 yX12_headComes yX12_headComes ∈ ALLG := inT0 47 rfl rfl
abbrev mdX12_tailComes : MD := (RX12, yX12_tailComes, cX12_tailComes, 5, none, none)
set_option maxRecDepth 100000 in
theorem moX12_tailComes : MOK mdX12_tailComes 2 := ⟨inT5 239 rfl rfl, inT1 14 rfl rfl, ⟨by decide +kernel, by decide +kernel, by decide +kernel⟩, by decide, by decide +kernel, rfl, rfl⟩
set_option maxRecDepth 100000 in
theorem imX12_tailComes : Cond.instanceMethod yX12_tailComes ∈ ALLG := inT5 238 rfl rfl
set_option maxRecDepth 100000 in
theorem seX12_tailComes : Cond.selects RX12 yX12_tailComes yX12_tailComes ∈ ALLG := inT0 48 rfl rfl
abbrev mdX12_headOf : MD := (RX12, yX12_headOf, cX12_headOf, 3, some .long, none)
set_option maxRecDepth 100000 in
theorem moX12_headOf : MOK mdX12_headOf 2 := ⟨inT7 29 rfl rfl, inT1 14 rfl rfl, ⟨by decide +kernel, by decide +kernel, by decide +kernel⟩, by decide, by decide +kernel, rfl, rfl⟩
set_option maxRecDepth 100000 in
theorem imX12_headOf : Cond.instanceMethod yX12_headOf ∈ ALLG := inT7 28 rfl rfl
set_option maxRecDepth 100000 in
theorem seX12_headOf : Cond.selects RX12 yX12_headOf yX12_headOf ∈ ALLG := inT0 65 rfl rfl
abbrev mdX12_tailOf : MD := (RX12, yX12_tailOf, cX12_tailOf, 3, some .long, none)
set_option maxRecDepth 100000 in
theorem moX12_tailOf : MOK mdX12_tailOf 2 := ⟨inT7 37 rfl rfl, inT1 14 rfl rfl, ⟨by decide +kernel, by decide +kernel, by decide +kernel⟩, by decide, by decide +kernel, rfl, rfl⟩
set_option maxRecDepth 100000 in
theorem imX12_tailOf : Cond.instanceMethod yX12_tailOf ∈ ALLG := inT7 36 rfl rfl
set_option maxRecDepth 100000 in
theorem seX12_tailOf : Cond.selects RX12 yX12_tailOf yX12_tailOf ∈ ALLG := inT0 67 rfl rfl
abbrev mdX12_fresh : MD := (RX12, yX12_fresh, cX12_fresh, 4, none, none)
set_option maxRecDepth 100000 in
theorem moX12_fresh : MOK mdX12_fresh 2 := ⟨inT5 231 rfl rfl, inT1 14 rfl rfl, ⟨by decide +kernel, by decide +kernel, by decide +kernel⟩, by decide, by decide +kernel, rfl, rfl⟩
set_option maxRecDepth 100000 in
theorem imX12_fresh : Cond.instanceMethod yX12_fresh ∈ ALLG := inT5 230 rfl rfl
set_option maxRecDepth 100000 in
theorem seX12_fresh : Cond.selects RX12 yX12_fresh yX12_fresh ∈ ALLG := inT0 46 rfl rfl
abbrev mdX12_areLike : MD := (RX12, yX12_areLike, cX12_areLike, 6, some .boolean, none)
set_option maxRecDepth 100000 in
theorem moX12_areLike : MOK mdX12_areLike 3 := ⟨inT7 57 rfl rfl, inT1 14 rfl rfl, ⟨by decide +kernel, by decide +kernel, by decide +kernel⟩, by decide, by decide +kernel, rfl, rfl⟩
set_option maxRecDepth 100000 in
theorem imX12_areLike : Cond.instanceMethod yX12_areLike ∈ ALLG := inT7 56 rfl rfl
set_option maxRecDepth 100000 in
theorem seX12_areLike : Cond.selects RX12 yX12_areLike yX12_areLike ∈ ALLG := inT0 72 rfl rfl
abbrev mdX12_headLike : MD := (RX12, yX12_headLike, cX12_headLike, 4, some .int, none)
set_option maxRecDepth 100000 in
theorem moX12_headLike : MOK mdX12_headLike 2 := ⟨inT7 53 rfl rfl, inT1 14 rfl rfl, ⟨by decide +kernel, by decide +kernel, by decide +kernel⟩, by decide, by decide +kernel, rfl, rfl⟩
set_option maxRecDepth 100000 in
theorem imX12_headLike : Cond.instanceMethod yX12_headLike ∈ ALLG := inT7 52 rfl rfl
set_option maxRecDepth 100000 in
theorem seX12_headLike : Cond.selects RX12 yX12_headLike yX12_headLike ∈ ALLG := inT0 71 rfl rfl
abbrev mdX12_asksAll : MD := (RX12, yX12_asksAll, cX12_asksAll, 5, none, none)
set_option maxRecDepth 100000 in
theorem moX12_asksAll : MOK mdX12_asksAll 1 := ⟨inT7 45 rfl rfl, inT1 14 rfl rfl, ⟨by decide +kernel, by decide +kernel, by decide +kernel⟩, by decide, by decide +kernel, rfl, rfl⟩
set_option maxRecDepth 100000 in
theorem imX12_asksAll : Cond.instanceMethod yX12_asksAll ∈ ALLG := inT7 44 rfl rfl
set_option maxRecDepth 100000 in
theorem seX12_asksAll : Cond.selects RX12 yX12_asksAll yX12_asksAll ∈ ALLG := inT0 69 rfl rfl
abbrev mdX12_closes : MD := (RX12, yX12_closes, cX12_closes, 4, some .boolean, none)
set_option maxRecDepth 100000 in
theorem moX12_closes : MOK mdX12_closes 1 := ⟨inT7 49 rfl rfl, inT1 14 rfl rfl, ⟨by decide +kernel, by decide +kernel, by decide +kernel⟩, by decide, by decide +kernel, rfl, rfl⟩
set_option maxRecDepth 100000 in
theorem imX12_closes : Cond.instanceMethod yX12_closes ∈ ALLG := inT7 48 rfl rfl
set_option maxRecDepth 100000 in
theorem seX12_closes : Cond.selects RX12 yX12_closes yX12_closes ∈ ALLG := inT0 70 rfl rfl
abbrev mdX12_parts : MD := (RX12, yX12_parts, cX12_parts, 8, some .boolean, none)
set_option maxRecDepth 100000 in
theorem moX12_parts : MOK mdX12_parts 3 := ⟨inT7 65 rfl rfl, inT1 14 rfl rfl, ⟨by decide +kernel, by decide +kernel, by decide +kernel⟩, by decide, by decide +kernel, rfl, rfl⟩
set_option maxRecDepth 100000 in
theorem imX12_parts : Cond.instanceMethod yX12_parts ∈ ALLG := inT7 64 rfl rfl
set_option maxRecDepth 100000 in
theorem seX12_parts : Cond.selects RX12 yX12_parts yX12_parts ∈ ALLG := inT0 74 rfl rfl
abbrev mdX12_agrees : MD := (RX12, yX12_agrees, cX12_agrees, 6, some .boolean, none)
set_option maxRecDepth 100000 in
theorem moX12_agrees : MOK mdX12_agrees 1 := ⟨inT7 61 rfl rfl, inT1 14 rfl rfl, ⟨by decide +kernel, by decide +kernel, by decide +kernel⟩, by decide, by decide +kernel, rfl, rfl⟩
set_option maxRecDepth 100000 in
theorem imX12_agrees : Cond.instanceMethod yX12_agrees ∈ ALLG := inT7 60 rfl rfl
set_option maxRecDepth 100000 in
theorem seX12_agrees : Cond.selects RX12 yX12_agrees yX12_agrees ∈ ALLG := inT0 73 rfl rfl
abbrev mdX12_stateOfHead : MD := (RX12, yX12_stateOfHead, cX12_stateOfHead, 5, some .int, none)
set_option maxRecDepth 100000 in
theorem moX12_stateOfHead : MOK mdX12_stateOfHead 2 := ⟨inT7 73 rfl rfl, inT1 14 rfl rfl, ⟨by decide +kernel, by decide +kernel, by decide +kernel⟩, by decide, by decide +kernel, rfl, rfl⟩
set_option maxRecDepth 100000 in
theorem imX12_stateOfHead : Cond.instanceMethod yX12_stateOfHead ∈ ALLG := inT7 72 rfl rfl
set_option maxRecDepth 100000 in
theorem seX12_stateOfHead : Cond.selects RX12 yX12_stateOfHead yX12_stateOfHead ∈ ALLG := inT0 76 rfl rfl
abbrev mdX12_guessesByTable : MD := (RX12, yX12_guessesByTable, cX12_guessesByTable, 6, none, none)
set_option maxRecDepth 100000 in
theorem moX12_guessesByTable : MOK mdX12_guessesByTable 1 := ⟨inT7 69 rfl rfl, inT1 14 rfl rfl, ⟨by decide +kernel, by decide +kernel, by decide +kernel⟩, by decide, by decide +kernel, rfl, rfl⟩
set_option maxRecDepth 100000 in
theorem imX12_guessesByTable : Cond.instanceMethod yX12_guessesByTable ∈ ALLG := inT7 68 rfl rfl
set_option maxRecDepth 100000 in
theorem seX12_guessesByTable : Cond.selects RX12 yX12_guessesByTable yX12_guessesByTable ∈ ALLG := inT0 75 rfl rfl
abbrev mdX12_sifts : MD := (RX12, yX12_sifts, cX12_sifts, 6, some .int, none)
set_option maxRecDepth 100000 in
theorem moX12_sifts : MOK mdX12_sifts 2 := ⟨inT7 33 rfl rfl, inT1 14 rfl rfl, ⟨by decide +kernel, by decide +kernel, by decide +kernel⟩, by decide, by decide +kernel, rfl, rfl⟩
set_option maxRecDepth 100000 in
theorem imX12_sifts : Cond.instanceMethod yX12_sifts ∈ ALLG := inT7 32 rfl rfl
set_option maxRecDepth 100000 in
theorem seX12_sifts : Cond.selects RX12 yX12_sifts yX12_sifts ∈ ALLG := inT0 66 rfl rfl
abbrev mdX12_growsLeaf : MD := (RX12, yX12_growsLeaf, cX12_growsLeaf, 6, some .boolean, none)
set_option maxRecDepth 100000 in
theorem moX12_growsLeaf : MOK mdX12_growsLeaf 1 := ⟨inT7 25 rfl rfl, inT1 14 rfl rfl, ⟨by decide +kernel, by decide +kernel, by decide +kernel⟩, by decide, by decide +kernel, rfl, rfl⟩
set_option maxRecDepth 100000 in
theorem imX12_growsLeaf : Cond.instanceMethod yX12_growsLeaf ∈ ALLG := inT7 24 rfl rfl
set_option maxRecDepth 100000 in
theorem seX12_growsLeaf : Cond.selects RX12 yX12_growsLeaf yX12_growsLeaf ∈ ALLG := inT0 64 rfl rfl
abbrev mdX12_guessesByTree : MD := (RX12, yX12_guessesByTree, cX12_guessesByTree, 5, none, none)
set_option maxRecDepth 100000 in
theorem moX12_guessesByTree : MOK mdX12_guessesByTree 1 := ⟨inT7 41 rfl rfl, inT1 14 rfl rfl, ⟨by decide +kernel, by decide +kernel, by decide +kernel⟩, by decide, by decide +kernel, rfl, rfl⟩
set_option maxRecDepth 100000 in
theorem imX12_guessesByTree : Cond.instanceMethod yX12_guessesByTree ∈ ALLG := inT7 40 rfl rfl
set_option maxRecDepth 100000 in
theorem seX12_guessesByTree : Cond.selects RX12 yX12_guessesByTree yX12_guessesByTree ∈ ALLG := inT0 68 rfl rfl
abbrev mdX12_steps : MD := (RX12, yX12_steps, cX12_steps, 2, some .int, none)
set_option maxRecDepth 100000 in
theorem moX12_steps : MOK mdX12_steps 1 := ⟨inT7 21 rfl rfl, inT1 14 rfl rfl, ⟨by decide +kernel, by decide +kernel, by decide +kernel⟩, by decide, by decide +kernel, rfl, rfl⟩
set_option maxRecDepth 100000 in
theorem imX12_steps : Cond.instanceMethod yX12_steps ∈ ALLG := inT7 20 rfl rfl
set_option maxRecDepth 100000 in
theorem seX12_steps : Cond.selects RX12 yX12_steps yX12_steps ∈ ALLG := inT0 63 rfl rfl
abbrev mdX12_stepsTillGuess : MD := (RX12, yX12_stepsTillGuess, cX12_stepsTillGuess, 3, some .int, none)
set_option maxRecDepth 100000 in
theorem moX12_stepsTillGuess : MOK mdX12_stepsTillGuess 1 := ⟨inT7 85 rfl rfl, inT1 14 rfl rfl, ⟨by decide +kernel, by decide +kernel, by decide +kernel⟩, by decide, by decide +kernel, rfl, rfl⟩
set_option maxRecDepth 100000 in
theorem imX12_stepsTillGuess : Cond.instanceMethod yX12_stepsTillGuess ∈ ALLG := inT7 84 rfl rfl
set_option maxRecDepth 100000 in
theorem seX12_stepsTillGuess : Cond.selects RX12 yX12_stepsTillGuess yX12_stepsTillGuess ∈ ALLG := inT0 78 rfl rfl
abbrev mdX12_isHead : MD := (RX12, yX12_isHead, cX12_isHead, 5, some .boolean, none)
set_option maxRecDepth 100000 in
theorem moX12_isHead : MOK mdX12_isHead 2 := ⟨inT7 97 rfl rfl, inT1 14 rfl rfl, ⟨by decide +kernel, by decide +kernel, by decide +kernel⟩, by decide, by decide +kernel, rfl, rfl⟩
set_option maxRecDepth 100000 in
theorem imX12_isHead : Cond.instanceMethod yX12_isHead ∈ ALLG := inT7 96 rfl rfl
set_option maxRecDepth 100000 in
theorem seX12_isHead : Cond.selects RX12 yX12_isHead yX12_isHead ∈ ALLG := inT0 80 rfl rfl
abbrev mdX12_isTail : MD := (RX12, yX12_isTail, cX12_isTail, 5, some .boolean, none)
set_option maxRecDepth 100000 in
theorem moX12_isTail : MOK mdX12_isTail 2 := ⟨inT7 101 rfl rfl, inT1 14 rfl rfl, ⟨by decide +kernel, by decide +kernel, by decide +kernel⟩, by decide, by decide +kernel, rfl, rfl⟩
set_option maxRecDepth 100000 in
theorem imX12_isTail : Cond.instanceMethod yX12_isTail ∈ ALLG := inT7 100 rfl rfl
set_option maxRecDepth 100000 in
theorem seX12_isTail : Cond.selects RX12 yX12_isTail yX12_isTail ∈ ALLG := inT0 81 rfl rfl
abbrev mdX12_endInGuess : MD := (RX12, yX12_endInGuess, cX12_endInGuess, 4, some .int, none)
set_option maxRecDepth 100000 in
theorem moX12_endInGuess : MOK mdX12_endInGuess 2 := ⟨inT7 109 rfl rfl, inT1 14 rfl rfl, ⟨by decide +kernel, by decide +kernel, by decide +kernel⟩, by decide, by decide +kernel, rfl, rfl⟩
set_option maxRecDepth 100000 in
theorem imX12_endInGuess : Cond.instanceMethod yX12_endInGuess ∈ ALLG := inT7 108 rfl rfl
set_option maxRecDepth 100000 in
theorem seX12_endInGuess : Cond.selects RX12 yX12_endInGuess yX12_endInGuess ∈ ALLG := inT0 83 rfl rfl
abbrev mdX12_accessOf : MD := (RX12, yX12_accessOf, cX12_accessOf, 3, some .long, none)
set_option maxRecDepth 100000 in
theorem moX12_accessOf : MOK mdX12_accessOf 2 := ⟨inT7 113 rfl rfl, inT1 14 rfl rfl, ⟨by decide +kernel, by decide +kernel, by decide +kernel⟩, by decide, by decide +kernel, rfl, rfl⟩
set_option maxRecDepth 100000 in
theorem imX12_accessOf : Cond.instanceMethod yX12_accessOf ∈ ALLG := inT7 112 rfl rfl
set_option maxRecDepth 100000 in
theorem seX12_accessOf : Cond.selects RX12 yX12_accessOf yX12_accessOf ∈ ALLG := inT0 84 rfl rfl
abbrev mdX12_lowOf : MD := (RX12, yX12_lowOf, cX12_lowOf, 10, some .int, none)
set_option maxRecDepth 100000 in
theorem moX12_lowOf : MOK mdX12_lowOf 3 := ⟨inT7 105 rfl rfl, inT1 14 rfl rfl, ⟨by decide +kernel, by decide +kernel, by decide +kernel⟩, by decide, by decide +kernel, rfl, rfl⟩
set_option maxRecDepth 100000 in
theorem imX12_lowOf : Cond.instanceMethod yX12_lowOf ∈ ALLG := inT7 104 rfl rfl
set_option maxRecDepth 100000 in
theorem seX12_lowOf : Cond.selects RX12 yX12_lowOf yX12_lowOf ∈ ALLG := inT0 82 rfl rfl
abbrev mdX12_givesWay : MD := (RX12, yX12_givesWay, cX12_givesWay, 14, none, none)
set_option maxRecDepth 100000 in
theorem moX12_givesWay : MOK mdX12_givesWay 4 := ⟨inT7 117 rfl rfl, inT1 14 rfl rfl, ⟨by decide +kernel, by decide +kernel, by decide +kernel⟩, by decide, by decide +kernel, rfl, rfl⟩
set_option maxRecDepth 100000 in
theorem imX12_givesWay : Cond.instanceMethod yX12_givesWay ∈ ALLG := inT7 116 rfl rfl
set_option maxRecDepth 100000 in
theorem seX12_givesWay : Cond.selects RX12 yX12_givesWay yX12_givesWay ∈ ALLG := inT0 85 rfl rfl
abbrev mdX12_lesson : MD := (RX12, yX12_lesson, cX12_lesson, 10, some .int, none)
set_option maxRecDepth 100000 in
theorem moX12_lesson : MOK mdX12_lesson 2 := ⟨inT7 93 rfl rfl, inT1 14 rfl rfl, ⟨by decide +kernel, by decide +kernel, by decide +kernel⟩, by decide, by decide +kernel, rfl, rfl⟩
set_option maxRecDepth 100000 in
theorem imX12_lesson : Cond.instanceMethod yX12_lesson ∈ ALLG := inT7 92 rfl rfl
set_option maxRecDepth 100000 in
theorem seX12_lesson : Cond.selects RX12 yX12_lesson yX12_lesson ∈ ALLG := inT0 79 rfl rfl
abbrev mdX12_firstUnlike : MD := (RX12, yX12_firstUnlike, cX12_firstUnlike, 11, some .long, none)
set_option maxRecDepth 100000 in
theorem moX12_firstUnlike : MOK mdX12_firstUnlike 4 := ⟨inT6 221 rfl rfl, inT1 14 rfl rfl, ⟨by decide +kernel, by decide +kernel, by decide +kernel⟩, by decide, by decide +kernel, rfl, rfl⟩
set_option maxRecDepth 100000 in
theorem imX12_firstUnlike : Cond.instanceMethod yX12_firstUnlike ∈ ALLG := inT6 220 rfl rfl
set_option maxRecDepth 100000 in
theorem seX12_firstUnlike : Cond.selects RX12 yX12_firstUnlike yX12_firstUnlike ∈ ALLG := inT0 60 rfl rfl
abbrev mdX12_wrongFirst : MD := (RX12, yX12_wrongFirst, cX12_wrongFirst, 2, some .long, none)
set_option maxRecDepth 100000 in
theorem moX12_wrongFirst : MOK mdX12_wrongFirst 1 := ⟨inT7 129 rfl rfl, inT1 14 rfl rfl, ⟨by decide +kernel, by decide +kernel, by decide +kernel⟩, by decide, by decide +kernel, rfl, rfl⟩
set_option maxRecDepth 100000 in
theorem imX12_wrongFirst : Cond.instanceMethod yX12_wrongFirst ∈ ALLG := inT7 128 rfl rfl
set_option maxRecDepth 100000 in
theorem seX12_wrongFirst : Cond.selects RX12 yX12_wrongFirst yX12_wrongFirst ∈ ALLG := inT0 87 rfl rfl
abbrev mdX12_learnsAll : MD := (RX12, yX12_learnsAll, cX12_learnsAll, 5, some .int, none)
set_option maxRecDepth 100000 in
theorem moX12_learnsAll : MOK mdX12_learnsAll 1 := ⟨inT7 125 rfl rfl, inT1 14 rfl rfl, ⟨by decide +kernel, by decide +kernel, by decide +kernel⟩, by decide, by decide +kernel, rfl, rfl⟩
set_option maxRecDepth 100000 in
theorem imX12_learnsAll : Cond.instanceMethod yX12_learnsAll ∈ ALLG := inT7 124 rfl rfl
set_option maxRecDepth 100000 in
theorem seX12_learnsAll : Cond.selects RX12 yX12_learnsAll yX12_learnsAll ∈ ALLG := inT0 86 rfl rfl
abbrev mdX12_sign : MD := (RX12, yX12_sign, cX12_sign, 3, some .int, none)
set_option maxRecDepth 100000 in
theorem moX12_sign : MOK mdX12_sign 1 := ⟨inT6 175 rfl rfl, inT1 14 rfl rfl, ⟨by decide +kernel, by decide +kernel, by decide +kernel⟩, by decide, by decide +kernel, rfl, rfl⟩
set_option maxRecDepth 100000 in
theorem imX12_sign : Cond.instanceMethod yX12_sign ∈ ALLG := inT6 173 rfl rfl
set_option maxRecDepth 100000 in
theorem seX12_sign : Cond.selects RX12 yX12_sign yX12_sign ∈ ALLG := inT6 174 rfl rfl
abbrev mdX12_end : MD := (RX12, yX12_end, cX12_end, 2, some .boolean, none)
set_option maxRecDepth 100000 in
theorem moX12_end : MOK mdX12_end 1 := ⟨inT6 179 rfl rfl, inT1 14 rfl rfl, ⟨by decide +kernel, by decide +kernel, by decide +kernel⟩, by decide, by decide +kernel, rfl, rfl⟩
set_option maxRecDepth 100000 in
theorem imX12_end : Cond.instanceMethod yX12_end ∈ ALLG := inT6 177 rfl rfl
set_option maxRecDepth 100000 in
theorem seX12_end : Cond.selects RX12 yX12_end yX12_end ∈ ALLG := inT6 178 rfl rfl
abbrev mdX12_takes : MD := (RX12, yX12_takes, cX12_takes, 2, some .boolean, none)
set_option maxRecDepth 100000 in
theorem moX12_takes : MOK mdX12_takes 1 := ⟨inT6 195 rfl rfl, inT1 14 rfl rfl, ⟨by decide +kernel, by decide +kernel, by decide +kernel⟩, by decide, by decide +kernel, rfl, rfl⟩
set_option maxRecDepth 100000 in
theorem imX12_takes : Cond.instanceMethod yX12_takes ∈ ALLG := inT6 194 rfl rfl
set_option maxRecDepth 100000 in
theorem seX12_takes : Cond.selects RX12 yX12_takes yX12_takes ∈ ALLG := inT0 55 rfl rfl
abbrev mdX12_takesDigit : MD := (RX12, yX12_takesDigit, cX12_takesDigit, 2, some .boolean, none)
set_option maxRecDepth 100000 in
theorem moX12_takesDigit : MOK mdX12_takesDigit 1 := ⟨inT6 191 rfl rfl, inT1 14 rfl rfl, ⟨by decide +kernel, by decide +kernel, by decide +kernel⟩, by decide, by decide +kernel, rfl, rfl⟩
set_option maxRecDepth 100000 in
theorem imX12_takesDigit : Cond.instanceMethod yX12_takesDigit ∈ ALLG := inT6 190 rfl rfl
set_option maxRecDepth 100000 in
theorem seX12_takesDigit : Cond.selects RX12 yX12_takesDigit yX12_takesDigit ∈ ALLG := inT0 54 rfl rfl
abbrev mdX12_readsState : MD := (RX12, yX12_readsState, cX12_readsState, 4, some .boolean, none)
set_option maxRecDepth 100000 in
theorem moX12_readsState : MOK mdX12_readsState 1 := ⟨inT6 187 rfl rfl, inT1 14 rfl rfl, ⟨by decide +kernel, by decide +kernel, by decide +kernel⟩, by decide, by decide +kernel, rfl, rfl⟩
set_option maxRecDepth 100000 in
theorem imX12_readsState : Cond.instanceMethod yX12_readsState ∈ ALLG := inT6 186 rfl rfl
set_option maxRecDepth 100000 in
theorem seX12_readsState : Cond.selects RX12 yX12_readsState yX12_readsState ∈ ALLG := inT0 53 rfl rfl
abbrev mdX12_machine : MD := (RX12, yX12_machine, cX12_machine, 5, some .int, none)
set_option maxRecDepth 100000 in
theorem moX12_machine : MOK mdX12_machine 0 := ⟨inT6 183 rfl rfl, inT1 14 rfl rfl, ⟨by decide +kernel, by decide +kernel, by decide +kernel⟩, by decide, by decide +kernel, rfl, rfl⟩
set_option maxRecDepth 100000 in
theorem imX12_machine : Cond.instanceMethod yX12_machine ∈ ALLG := inT6 181 rfl rfl
set_option maxRecDepth 100000 in
theorem seX12_machine : Cond.selects RX12 yX12_machine yX12_machine ∈ ALLG := inT6 182 rfl rfl
abbrev mdX12_draw : MD := (RX12, yX12_draw, cX12_draw, 2, some .int, none)
set_option maxRecDepth 100000 in
theorem moX12_draw : MOK mdX12_draw 1 := ⟨inT6 204 rfl rfl, inT1 14 rfl rfl, ⟨by decide +kernel, by decide +kernel, by decide +kernel⟩, by decide, by decide +kernel, rfl, rfl⟩
set_option maxRecDepth 100000 in
theorem imX12_draw : Cond.instanceMethod yX12_draw ∈ ALLG := inT6 203 rfl rfl
set_option maxRecDepth 100000 in
theorem seX12_draw : Cond.selects RX12 yX12_draw yX12_draw ∈ ALLG := inT0 56 rfl rfl
abbrev mdX12_draws : MD := (RX12, yX12_draws, cX12_draws, 7, some .int, none)
set_option maxRecDepth 100000 in
theorem moX12_draws : MOK mdX12_draws 4 := ⟨inT6 199 rfl rfl, inT1 14 rfl rfl, ⟨by decide +kernel, by decide +kernel, by decide +kernel⟩, by decide, by decide +kernel, rfl, rfl⟩
set_option maxRecDepth 100000 in
theorem imX12_draws : Cond.instanceMethod yX12_draws ∈ ALLG := inT6 197 rfl rfl
set_option maxRecDepth 100000 in
theorem seX12_draws : Cond.selects RX12 yX12_draws yX12_draws ∈ ALLG := inT6 198 rfl rfl
abbrev mdX12_state : MD := (RX12, yX12_state, cX12_state, 3, some .int, none)
set_option maxRecDepth 100000 in
theorem moX12_state : MOK mdX12_state 2 := ⟨inT6 228 rfl rfl, inT1 14 rfl rfl, ⟨by decide +kernel, by decide +kernel, by decide +kernel⟩, by decide, by decide +kernel, rfl, rfl⟩
set_option maxRecDepth 100000 in
theorem imX12_state : Cond.instanceMethod yX12_state ∈ ALLG := inT6 226 rfl rfl
set_option maxRecDepth 100000 in
theorem seX12_state : Cond.selects RX12 yX12_state yX12_state ∈ ALLG := inT6 227 rfl rfl
abbrev mdX12_prices : MD := (RX12, yX12_prices, cX12_prices, 3, some .boolean, none)
set_option maxRecDepth 100000 in
theorem moX12_prices : MOK mdX12_prices 2 := ⟨inT6 236 rfl rfl, inT1 14 rfl rfl, ⟨by decide +kernel, by decide +kernel, by decide +kernel⟩, by decide, by decide +kernel, rfl, rfl⟩
set_option maxRecDepth 100000 in
theorem imX12_prices : Cond.instanceMethod yX12_prices ∈ ALLG := inT6 234 rfl rfl
set_option maxRecDepth 100000 in
theorem seX12_prices : Cond.selects RX12 yX12_prices yX12_prices ∈ ALLG := inT6 235 rfl rfl
abbrev mdX12_method : MD := (RX12, yX12_method, cX12_method, 3, some .int, none)
set_option maxRecDepth 100000 in
theorem moX12_method : MOK mdX12_method 1 := ⟨inT7 1 rfl rfl, inT1 14 rfl rfl, ⟨by decide +kernel, by decide +kernel, by decide +kernel⟩, by decide, by decide +kernel, rfl, rfl⟩
set_option maxRecDepth 100000 in
theorem imX12_method : Cond.instanceMethod yX12_method ∈ ALLG := inT6 239 rfl rfl
set_option maxRecDepth 100000 in
theorem seX12_method : Cond.selects RX12 yX12_method yX12_method ∈ ALLG := inT7 0 rfl rfl
abbrev mdX12_asks : MD := (RX12, yX12_asks, cX12_asks, 3, some .int, none)
set_option maxRecDepth 100000 in
theorem moX12_asks : MOK mdX12_asks 1 := ⟨inT7 5 rfl rfl, inT1 14 rfl rfl, ⟨by decide +kernel, by decide +kernel, by decide +kernel⟩, by decide, by decide +kernel, rfl, rfl⟩
set_option maxRecDepth 100000 in
theorem imX12_asks : Cond.instanceMethod yX12_asks ∈ ALLG := inT7 3 rfl rfl
set_option maxRecDepth 100000 in
theorem seX12_asks : Cond.selects RX12 yX12_asks yX12_asks ∈ ALLG := inT7 4 rfl rfl
abbrev mdX12_known : MD := (RX12, yX12_known, cX12_known, 3, some .int, none)
set_option maxRecDepth 100000 in
theorem moX12_known : MOK mdX12_known 1 := ⟨inT7 9 rfl rfl, inT1 14 rfl rfl, ⟨by decide +kernel, by decide +kernel, by decide +kernel⟩, by decide, by decide +kernel, rfl, rfl⟩
set_option maxRecDepth 100000 in
theorem imX12_known : Cond.instanceMethod yX12_known ∈ ALLG := inT7 7 rfl rfl
set_option maxRecDepth 100000 in
theorem seX12_known : Cond.selects RX12 yX12_known yX12_known ∈ ALLG := inT7 8 rfl rfl
abbrev mdX12_step : MD := (RX12, yX12_step, cX12_step, 3, some .int, none)
set_option maxRecDepth 100000 in
theorem moX12_step : MOK mdX12_step 0 := ⟨inT7 17 rfl rfl, inT1 14 rfl rfl, ⟨by decide +kernel, by decide +kernel, by decide +kernel⟩, by decide, by decide +kernel, rfl, rfl⟩
set_option maxRecDepth 100000 in
theorem imX12_step : Cond.instanceMethod yX12_step ∈ ALLG := inT7 15 rfl rfl
set_option maxRecDepth 100000 in
theorem seX12_step : Cond.selects RX12 yX12_step yX12_step ∈ ALLG := inT7 16 rfl rfl
abbrev mdX12_guess : MD := (RX12, yX12_guess, cX12_guess, 2, some .int, none)
set_option maxRecDepth 100000 in
theorem moX12_guess : MOK mdX12_guess 0 := ⟨inT7 81 rfl rfl, inT1 14 rfl rfl, ⟨by decide +kernel, by decide +kernel, by decide +kernel⟩, by decide, by decide +kernel, rfl, rfl⟩
set_option maxRecDepth 100000 in
theorem imX12_guess : Cond.instanceMethod yX12_guess ∈ ALLG := inT7 79 rfl rfl
set_option maxRecDepth 100000 in
theorem seX12_guess : Cond.selects RX12 yX12_guess yX12_guess ∈ ALLG := inT7 80 rfl rfl
abbrev mdX12_tells : MD := (RX12, yX12_tells, cX12_tells, 3, some .int, none)
set_option maxRecDepth 100000 in
theorem moX12_tells : MOK mdX12_tells 1 := ⟨inT7 89 rfl rfl, inT1 14 rfl rfl, ⟨by decide +kernel, by decide +kernel, by decide +kernel⟩, by decide, by decide +kernel, rfl, rfl⟩
set_option maxRecDepth 100000 in
theorem imX12_tells : Cond.instanceMethod yX12_tells ∈ ALLG := inT7 87 rfl rfl
set_option maxRecDepth 100000 in
theorem seX12_tells : Cond.selects RX12 yX12_tells yX12_tells ∈ ALLG := inT7 88 rfl rfl
abbrev mdX12_learns : MD := (RX12, yX12_learns, cX12_learns, 2, some .int, none)
set_option maxRecDepth 100000 in
theorem moX12_learns : MOK mdX12_learns 0 := ⟨inT7 121 rfl rfl, inT1 14 rfl rfl, ⟨by decide +kernel, by decide +kernel, by decide +kernel⟩, by decide, by decide +kernel, rfl, rfl⟩
set_option maxRecDepth 100000 in
theorem imX12_learns : Cond.instanceMethod yX12_learns ∈ ALLG := inT7 119 rfl rfl
set_option maxRecDepth 100000 in
theorem seX12_learns : Cond.selects RX12 yX12_learns yX12_learns ∈ ALLG := inT7 120 rfl rfl
abbrev mdX12_head : MD := (RX12, yX12_head, cX12_head, 2, some .long, none)
set_option maxRecDepth 100000 in
theorem moX12_head : MOK mdX12_head 1 := ⟨inT7 133 rfl rfl, inT1 14 rfl rfl, ⟨by decide +kernel, by decide +kernel, by decide +kernel⟩, by decide, by decide +kernel, rfl, rfl⟩
set_option maxRecDepth 100000 in
theorem imX12_head : Cond.instanceMethod yX12_head ∈ ALLG := inT7 131 rfl rfl
set_option maxRecDepth 100000 in
theorem seX12_head : Cond.selects RX12 yX12_head yX12_head ∈ ALLG := inT7 132 rfl rfl
abbrev mdX12_tail : MD := (RX12, yX12_tail, cX12_tail, 2, some .long, none)
set_option maxRecDepth 100000 in
theorem moX12_tail : MOK mdX12_tail 1 := ⟨inT7 137 rfl rfl, inT1 14 rfl rfl, ⟨by decide +kernel, by decide +kernel, by decide +kernel⟩, by decide, by decide +kernel, rfl, rfl⟩
set_option maxRecDepth 100000 in
theorem imX12_tail : Cond.instanceMethod yX12_tail ∈ ALLG := inT7 135 rfl rfl
set_option maxRecDepth 100000 in
theorem seX12_tail : Cond.selects RX12 yX12_tail yX12_tail ∈ ALLG := inT7 136 rfl rfl
abbrev mdX12_cell : MD := (RX12, yX12_cell, cX12_cell, 8, some .int, none)
set_option maxRecDepth 100000 in
theorem moX12_cell : MOK mdX12_cell 3 := ⟨inT7 141 rfl rfl, inT1 14 rfl rfl, ⟨by decide +kernel, by decide +kernel, by decide +kernel⟩, by decide, by decide +kernel, rfl, rfl⟩
set_option maxRecDepth 100000 in
theorem imX12_cell : Cond.instanceMethod yX12_cell ∈ ALLG := inT7 139 rfl rfl
set_option maxRecDepth 100000 in
theorem seX12_cell : Cond.selects RX12 yX12_cell yX12_cell ∈ ALLG := inT7 140 rfl rfl
abbrev mdX12_areAllAsked : MD := (RX12, yX12_areAllAsked, cX12_areAllAsked, 5, some .boolean, none)
set_option maxRecDepth 100000 in
theorem moX12_areAllAsked : MOK mdX12_areAllAsked 0 := ⟨inT7 149 rfl rfl, inT1 14 rfl rfl, ⟨by decide +kernel, by decide +kernel, by decide +kernel⟩, by decide, by decide +kernel, rfl, rfl⟩
set_option maxRecDepth 100000 in
theorem imX12_areAllAsked : Cond.instanceMethod yX12_areAllAsked ∈ ALLG := inT7 148 rfl rfl
set_option maxRecDepth 100000 in
theorem seX12_areAllAsked : Cond.selects RX12 yX12_areAllAsked yX12_areAllAsked ∈ ALLG := inT0 88 rfl rfl
abbrev mdX12_lines : MD := (RX12, yX12_lines, cX12_lines, 6, some .int, none)
set_option maxRecDepth 100000 in
theorem moX12_lines : MOK mdX12_lines 0 := ⟨inT7 145 rfl rfl, inT1 14 rfl rfl, ⟨by decide +kernel, by decide +kernel, by decide +kernel⟩, by decide, by decide +kernel, rfl, rfl⟩
set_option maxRecDepth 100000 in
theorem imX12_lines : Cond.instanceMethod yX12_lines ∈ ALLG := inT7 143 rfl rfl
set_option maxRecDepth 100000 in
theorem seX12_lines : Cond.selects RX12 yX12_lines yX12_lines ∈ ALLG := inT7 144 rfl rfl
abbrev mdX12_knot : MD := (RX12, yX12_knot, cX12_knot, 4, some .int, none)
set_option maxRecDepth 100000 in
theorem moX12_knot : MOK mdX12_knot 2 := ⟨inT7 153 rfl rfl, inT1 14 rfl rfl, ⟨by decide +kernel, by decide +kernel, by decide +kernel⟩, by decide, by decide +kernel, rfl, rfl⟩
set_option maxRecDepth 100000 in
theorem imX12_knot : Cond.instanceMethod yX12_knot ∈ ALLG := inT7 151 rfl rfl
set_option maxRecDepth 100000 in
theorem seX12_knot : Cond.selects RX12 yX12_knot yX12_knot ∈ ALLG := inT7 152 rfl rfl
abbrev mdX12_sift : MD := (RX12, yX12_sift, cX12_sift, 4, some .int, none)
set_option maxRecDepth 100000 in
theorem moX12_sift : MOK mdX12_sift 1 := ⟨inT7 157 rfl rfl, inT1 14 rfl rfl, ⟨by decide +kernel, by decide +kernel, by decide +kernel⟩, by decide, by decide +kernel, rfl, rfl⟩
set_option maxRecDepth 100000 in
theorem imX12_sift : Cond.instanceMethod yX12_sift ∈ ALLG := inT7 155 rfl rfl
set_option maxRecDepth 100000 in
theorem seX12_sift : Cond.selects RX12 yX12_sift yX12_sift ∈ ALLG := inT7 156 rfl rfl
abbrev mdX12_why : MD := (RX12, yX12_why, cX12_why, 2, some .int, none)
set_option maxRecDepth 100000 in
theorem moX12_why : MOK mdX12_why 1 := ⟨inT7 165 rfl rfl, inT1 14 rfl rfl, ⟨by decide +kernel, by decide +kernel, by decide +kernel⟩, by decide, by decide +kernel, rfl, rfl⟩
set_option maxRecDepth 100000 in
theorem imX12_why : Cond.instanceMethod yX12_why ∈ ALLG := inT7 164 rfl rfl
set_option maxRecDepth 100000 in
theorem seX12_why : Cond.selects RX12 yX12_why yX12_why ∈ ALLG := inT0 89 rfl rfl
abbrev mdX12_guessed : MD := (RX12, yX12_guessed, cX12_guessed, 3, some .int, none)
set_option maxRecDepth 100000 in
theorem moX12_guessed : MOK mdX12_guessed 2 := ⟨inT7 161 rfl rfl, inT1 14 rfl rfl, ⟨by decide +kernel, by decide +kernel, by decide +kernel⟩, by decide, by decide +kernel, rfl, rfl⟩
set_option maxRecDepth 100000 in
theorem imX12_guessed : Cond.instanceMethod yX12_guessed ∈ ALLG := inT7 159 rfl rfl
set_option maxRecDepth 100000 in
theorem seX12_guessed : Cond.selects RX12 yX12_guessed yX12_guessed ∈ ALLG := inT7 160 rfl rfl
abbrev mdX12_access : MD := (RX12, yX12_access, cX12_access, 2, some .long, none)
set_option maxRecDepth 100000 in
theorem moX12_access : MOK mdX12_access 1 := ⟨inT7 170 rfl rfl, inT1 14 rfl rfl, ⟨by decide +kernel, by decide +kernel, by decide +kernel⟩, by decide, by decide +kernel, rfl, rfl⟩
set_option maxRecDepth 100000 in
theorem imX12_access : Cond.instanceMethod yX12_access ∈ ALLG := inT7 168 rfl rfl
set_option maxRecDepth 100000 in
theorem seX12_access : Cond.selects RX12 yX12_access yX12_access ∈ ALLG := inT7 169 rfl rfl
abbrev mdX12_reads : MD := (RX12, yX12_reads, cX12_reads, 3, some .int, none)
set_option maxRecDepth 100000 in
theorem moX12_reads : MOK mdX12_reads 1 := ⟨inT7 174 rfl rfl, inT1 14 rfl rfl, ⟨by decide +kernel, by decide +kernel, by decide +kernel⟩, by decide, by decide +kernel, rfl, rfl⟩
set_option maxRecDepth 100000 in
theorem imX12_reads : Cond.instanceMethod yX12_reads ∈ ALLG := inT7 172 rfl rfl
set_option maxRecDepth 100000 in
theorem seX12_reads : Cond.selects RX12 yX12_reads yX12_reads ∈ ALLG := inT7 173 rfl rfl
abbrev mdX12_errs : MD := (RX12, yX12_errs, cX12_errs, 1, some .long, none)
set_option maxRecDepth 100000 in
theorem moX12_errs : MOK mdX12_errs 0 := ⟨inT7 178 rfl rfl, inT1 14 rfl rfl, ⟨by decide +kernel, by decide +kernel, by decide +kernel⟩, by decide, by decide +kernel, rfl, rfl⟩
set_option maxRecDepth 100000 in
theorem imX12_errs : Cond.instanceMethod yX12_errs ∈ ALLG := inT7 176 rfl rfl
set_option maxRecDepth 100000 in
theorem seX12_errs : Cond.selects RX12 yX12_errs yX12_errs ∈ ALLG := inT7 177 rfl rfl
abbrev mdX12_goesOn : MD := (RX12, yX12_goesOn, cX12_goesOn, 3, none, none)
set_option maxRecDepth 100000 in
theorem moX12_goesOn : MOK mdX12_goesOn 0 := ⟨inT7 187 rfl rfl, inT1 14 rfl rfl, ⟨by decide +kernel, by decide +kernel, by decide +kernel⟩, by decide, by decide +kernel, rfl, rfl⟩
set_option maxRecDepth 100000 in
theorem imX12_goesOn : Cond.instanceMethod yX12_goesOn ∈ ALLG := inT7 186 rfl rfl
set_option maxRecDepth 100000 in
theorem seX12_goesOn : Cond.selects RX12 yX12_goesOn yX12_goesOn ∈ ALLG := inT0 90 rfl rfl
abbrev mdX12_wrong : MD := (RX12, yX12_wrong, cX12_wrong, 6, some .int, none)
set_option maxRecDepth 100000 in
theorem moX12_wrong : MOK mdX12_wrong 1 := ⟨inT7 183 rfl rfl, inT1 14 rfl rfl, ⟨by decide +kernel, by decide +kernel, by decide +kernel⟩, by decide, by decide +kernel, rfl, rfl⟩
set_option maxRecDepth 100000 in
theorem imX12_wrong : Cond.instanceMethod yX12_wrong ∈ ALLG := inT7 181 rfl rfl
set_option maxRecDepth 100000 in
theorem seX12_wrong : Cond.selects RX12 yX12_wrong yX12_wrong ∈ ALLG := inT7 182 rfl rfl
abbrev mdX12_laysReaching : MD := (RX12, yX12_laysReaching, cX12_laysReaching, 7, none, none)
set_option maxRecDepth 100000 in
theorem moX12_laysReaching : MOK mdX12_laysReaching 1 := ⟨inT6 213 rfl rfl, inT1 14 rfl rfl, ⟨by decide +kernel, by decide +kernel, by decide +kernel⟩, by decide, by decide +kernel, rfl, rfl⟩
set_option maxRecDepth 100000 in
theorem imX12_laysReaching : Cond.instanceMethod yX12_laysReaching ∈ ALLG := inT6 212 rfl rfl
set_option maxRecDepth 100000 in
theorem seX12_laysReaching : Cond.selects RX12 yX12_laysReaching yX12_laysReaching ∈ ALLG := inT0 58 rfl rfl
abbrev mdX12_tests : MD := (RX12, yX12_tests, cX12_tests, 4, none, none)
set_option maxRecDepth 100000 in
theorem moX12_tests : MOK mdX12_tests 1 := ⟨inT7 208 rfl rfl, inT1 14 rfl rfl, ⟨by decide +kernel, by decide +kernel, by decide +kernel⟩, by decide, by decide +kernel, rfl, rfl⟩
set_option maxRecDepth 100000 in
theorem imX12_tests : Cond.instanceMethod yX12_tests ∈ ALLG := inT7 207 rfl rfl
set_option maxRecDepth 100000 in
theorem seX12_tests : Cond.selects RX12 yX12_tests yX12_tests ∈ ALLG := inT0 94 rfl rfl
abbrev mdX12_laysEnds : MD := (RX12, yX12_laysEnds, cX12_laysEnds, 5, none, none)
set_option maxRecDepth 100000 in
theorem moX12_laysEnds : MOK mdX12_laysEnds 0 := ⟨inT7 200 rfl rfl, inT1 14 rfl rfl, ⟨by decide +kernel, by decide +kernel, by decide +kernel⟩, by decide, by decide +kernel, rfl, rfl⟩
set_option maxRecDepth 100000 in
theorem imX12_laysEnds : Cond.instanceMethod yX12_laysEnds ∈ ALLG := inT7 199 rfl rfl
set_option maxRecDepth 100000 in
theorem seX12_laysEnds : Cond.selects RX12 yX12_laysEnds yX12_laysEnds ∈ ALLG := inT0 92 rfl rfl
abbrev mdX12_testsBehind : MD := (RX12, yX12_testsBehind, cX12_testsBehind, 5, none, none)
set_option maxRecDepth 100000 in
theorem moX12_testsBehind : MOK mdX12_testsBehind 2 := ⟨inT7 204 rfl rfl, inT1 14 rfl rfl, ⟨by decide +kernel, by decide +kernel, by decide +kernel⟩, by decide, by decide +kernel, rfl, rfl⟩
set_option maxRecDepth 100000 in
theorem imX12_testsBehind : Cond.instanceMethod yX12_testsBehind ∈ ALLG := inT7 203 rfl rfl
set_option maxRecDepth 100000 in
theorem seX12_testsBehind : Cond.selects RX12 yX12_testsBehind yX12_testsBehind ∈ ALLG := inT0 93 rfl rfl
abbrev mdX12_laysTests : MD := (RX12, yX12_laysTests, cX12_laysTests, 4, none, none)
set_option maxRecDepth 100000 in
theorem moX12_laysTests : MOK mdX12_laysTests 1 := ⟨inT7 196 rfl rfl, inT1 14 rfl rfl, ⟨by decide +kernel, by decide +kernel, by decide +kernel⟩, by decide, by decide +kernel, rfl, rfl⟩
set_option maxRecDepth 100000 in
theorem imX12_laysTests : Cond.instanceMethod yX12_laysTests ∈ ALLG := inT7 195 rfl rfl
set_option maxRecDepth 100000 in
theorem seX12_laysTests : Cond.selects RX12 yX12_laysTests yX12_laysTests ∈ ALLG := inT0 91 rfl rfl
abbrev mdX12_tests_ : MD := (RX12, yX12_tests_, cX12_tests_, 2, some .int, none)
set_option maxRecDepth 100000 in
theorem moX12_tests_ : MOK mdX12_tests_ 1 := ⟨inT7 191 rfl rfl, inT1 14 rfl rfl, ⟨by decide +kernel, by decide +kernel, by decide +kernel⟩, by decide, by decide +kernel, rfl, rfl⟩
set_option maxRecDepth 100000 in
theorem imX12_tests_ : Cond.instanceMethod yX12_tests_ ∈ ALLG := inT7 189 rfl rfl
set_option maxRecDepth 100000 in
theorem seX12_tests_ : Cond.selects RX12 yX12_tests_ yX12_tests_ ∈ ALLG := inT7 190 rfl rfl
abbrev mdX12_passes : MD := (RX12, yX12_passes, cX12_passes, 2, some .long, none)
set_option maxRecDepth 100000 in
theorem moX12_passes : MOK mdX12_passes 1 := ⟨inT7 213 rfl rfl, inT1 14 rfl rfl, ⟨by decide +kernel, by decide +kernel, by decide +kernel⟩, by decide, by decide +kernel, rfl, rfl⟩
set_option maxRecDepth 100000 in
theorem imX12_passes : Cond.instanceMethod yX12_passes ∈ ALLG := inT7 211 rfl rfl
set_option maxRecDepth 100000 in
theorem seX12_passes : Cond.selects RX12 yX12_passes yX12_passes ∈ ALLG := inT7 212 rfl rfl
abbrev mdX12_parted : MD := (RX12, yX12_parted, cX12_parted, 3, some .long, none)
set_option maxRecDepth 100000 in
theorem moX12_parted : MOK mdX12_parted 2 := ⟨inT7 217 rfl rfl, inT1 14 rfl rfl, ⟨by decide +kernel, by decide +kernel, by decide +kernel⟩, by decide, by decide +kernel, rfl, rfl⟩
set_option maxRecDepth 100000 in
theorem imX12_parted : Cond.instanceMethod yX12_parted ∈ ALLG := inT7 215 rfl rfl
set_option maxRecDepth 100000 in
theorem seX12_parted : Cond.selects RX12 yX12_parted yX12_parted ∈ ALLG := inT7 216 rfl rfl
abbrev mdX12_like : MD := (RX12, yX12_like, cX12_like, 3, some .long, none)
set_option maxRecDepth 100000 in
theorem moX12_like : MOK mdX12_like 2 := ⟨inT7 221 rfl rfl, inT1 14 rfl rfl, ⟨by decide +kernel, by decide +kernel, by decide +kernel⟩, by decide, by decide +kernel, rfl, rfl⟩
set_option maxRecDepth 100000 in
theorem imX12_like : Cond.instanceMethod yX12_like ∈ ALLG := inT7 219 rfl rfl
set_option maxRecDepth 100000 in
theorem seX12_like : Cond.selects RX12 yX12_like yX12_like ∈ ALLG := inT7 220 rfl rfl
abbrev mdX12_leastLike : MD := (RX12, yX12_leastLike, cX12_leastLike, 4, some .int, none)
set_option maxRecDepth 100000 in
theorem moX12_leastLike : MOK mdX12_leastLike 2 := ⟨inT6 217 rfl rfl, inT1 14 rfl rfl, ⟨by decide +kernel, by decide +kernel, by decide +kernel⟩, by decide, by decide +kernel, rfl, rfl⟩
set_option maxRecDepth 100000 in
theorem imX12_leastLike : Cond.instanceMethod yX12_leastLike ∈ ALLG := inT6 216 rfl rfl
set_option maxRecDepth 100000 in
theorem seX12_leastLike : Cond.selects RX12 yX12_leastLike yX12_leastLike ∈ ALLG := inT0 59 rfl rfl
abbrev mdX12_unlikeMany : MD := (RX12, yX12_unlikeMany, cX12_unlikeMany, 3, some .int, none)
set_option maxRecDepth 100000 in
theorem moX12_unlikeMany : MOK mdX12_unlikeMany 0 := ⟨inT6 209 rfl rfl, inT1 14 rfl rfl, ⟨by decide +kernel, by decide +kernel, by decide +kernel⟩, by decide, by decide +kernel, rfl, rfl⟩
set_option maxRecDepth 100000 in
theorem imX12_unlikeMany : Cond.instanceMethod yX12_unlikeMany ∈ ALLG := inT6 208 rfl rfl
set_option maxRecDepth 100000 in
theorem seX12_unlikeMany : Cond.selects RX12 yX12_unlikeMany yX12_unlikeMany ∈ ALLG := inT0 57 rfl rfl
abbrev mdX12_least : MD := (RX12, yX12_least, cX12_least, 2, some .int, none)
set_option maxRecDepth 100000 in
theorem moX12_least : MOK mdX12_least 0 := ⟨inT7 225 rfl rfl, inT1 14 rfl rfl, ⟨by decide +kernel, by decide +kernel, by decide +kernel⟩, by decide, by decide +kernel, rfl, rfl⟩
set_option maxRecDepth 100000 in
theorem imX12_least : Cond.instanceMethod yX12_least ∈ ALLG := inT7 223 rfl rfl
set_option maxRecDepth 100000 in
theorem seX12_least : Cond.selects RX12 yX12_least yX12_least ∈ ALLG := inT7 224 rfl rfl
abbrev mdX12_reach : MD := (RX12, yX12_reach, cX12_reach, 2, some .long, none)
set_option maxRecDepth 100000 in
theorem moX12_reach : MOK mdX12_reach 1 := ⟨inT7 229 rfl rfl, inT1 14 rfl rfl, ⟨by decide +kernel, by decide +kernel, by decide +kernel⟩, by decide, by decide +kernel, rfl, rfl⟩
set_option maxRecDepth 100000 in
theorem imX12_reach : Cond.instanceMethod yX12_reach ∈ ALLG := inT7 227 rfl rfl
set_option maxRecDepth 100000 in
theorem seX12_reach : Cond.selects RX12 yX12_reach yX12_reach ∈ ALLG := inT7 228 rfl rfl
abbrev mdX12_staysTogether : MD := (RX12, yX12_staysTogether, cX12_staysTogether, 5, some .boolean, none)
set_option maxRecDepth 100000 in
theorem moX12_staysTogether : MOK mdX12_staysTogether 2 := ⟨inT8 1 rfl rfl, inT1 14 rfl rfl, ⟨by decide +kernel, by decide +kernel, by decide +kernel⟩, by decide, by decide +kernel, rfl, rfl⟩
set_option maxRecDepth 100000 in
theorem imX12_staysTogether : Cond.instanceMethod yX12_staysTogether ∈ ALLG := inT8 0 rfl rfl
set_option maxRecDepth 100000 in
theorem seX12_staysTogether : Cond.selects RX12 yX12_staysTogether yX12_staysTogether ∈ ALLG := inT0 96 rfl rfl
abbrev mdX12_regroups : MD := (RX12, yX12_regroups, cX12_regroups, 5, none, none)
set_option maxRecDepth 100000 in
theorem moX12_regroups : MOK mdX12_regroups 1 := ⟨inT7 237 rfl rfl, inT1 14 rfl rfl, ⟨by decide +kernel, by decide +kernel, by decide +kernel⟩, by decide, by decide +kernel, rfl, rfl⟩
set_option maxRecDepth 100000 in
theorem imX12_regroups : Cond.instanceMethod yX12_regroups ∈ ALLG := inT7 236 rfl rfl
set_option maxRecDepth 100000 in
theorem seX12_regroups : Cond.selects RX12 yX12_regroups yX12_regroups ∈ ALLG := inT0 95 rfl rfl
abbrev mdX12_groups : MD := (RX12, yX12_groups, cX12_groups, 4, some .int, none)
set_option maxRecDepth 100000 in
theorem moX12_groups : MOK mdX12_groups 1 := ⟨inT7 233 rfl rfl, inT1 14 rfl rfl, ⟨by decide +kernel, by decide +kernel, by decide +kernel⟩, by decide, by decide +kernel, rfl, rfl⟩
set_option maxRecDepth 100000 in
theorem imX12_groups : Cond.instanceMethod yX12_groups ∈ ALLG := inT7 231 rfl rfl
set_option maxRecDepth 100000 in
theorem seX12_groups : Cond.selects RX12 yX12_groups yX12_groups ∈ ALLG := inT7 232 rfl rfl
abbrev mdX12_stepsInThought : MD := (RX12, yX12_stepsInThought, cX12_stepsInThought, 2, some .int, none)
set_option maxRecDepth 100000 in
theorem moX12_stepsInThought : MOK mdX12_stepsInThought 1 := ⟨inT8 9 rfl rfl, inT1 14 rfl rfl, ⟨by decide +kernel, by decide +kernel, by decide +kernel⟩, by decide, by decide +kernel, rfl, rfl⟩
set_option maxRecDepth 100000 in
theorem imX12_stepsInThought : Cond.instanceMethod yX12_stepsInThought ∈ ALLG := inT8 8 rfl rfl
set_option maxRecDepth 100000 in
theorem seX12_stepsInThought : Cond.selects RX12 yX12_stepsInThought yX12_stepsInThought ∈ ALLG := inT0 97 rfl rfl
abbrev mdX12_costs : MD := (RX12, yX12_costs, cX12_costs, 3, some .int, none)
set_option maxRecDepth 100000 in
theorem moX12_costs : MOK mdX12_costs 1 := ⟨inT8 5 rfl rfl, inT1 14 rfl rfl, ⟨by decide +kernel, by decide +kernel, by decide +kernel⟩, by decide, by decide +kernel, rfl, rfl⟩
set_option maxRecDepth 100000 in
theorem imX12_costs : Cond.instanceMethod yX12_costs ∈ ALLG := inT8 3 rfl rfl
set_option maxRecDepth 100000 in
theorem seX12_costs : Cond.selects RX12 yX12_costs yX12_costs ∈ ALLG := inT8 4 rfl rfl
abbrev mdX12_cheapest : MD := (RX12, yX12_cheapest, cX12_cheapest, 4, some .int, none)
set_option maxRecDepth 100000 in
theorem moX12_cheapest : MOK mdX12_cheapest 0 := ⟨inT8 13 rfl rfl, inT1 14 rfl rfl, ⟨by decide +kernel, by decide +kernel, by decide +kernel⟩, by decide, by decide +kernel, rfl, rfl⟩
set_option maxRecDepth 100000 in
theorem imX12_cheapest : Cond.instanceMethod yX12_cheapest ∈ ALLG := inT8 11 rfl rfl
set_option maxRecDepth 100000 in
theorem seX12_cheapest : Cond.selects RX12 yX12_cheapest yX12_cheapest ∈ ALLG := inT8 12 rfl rfl
abbrev mdX12_count : MD := (RX12, yX12_count, cX12_count, 2, some .int, none)
set_option maxRecDepth 100000 in
theorem moX12_count : MOK mdX12_count 1 := ⟨inT8 17 rfl rfl, inT1 14 rfl rfl, ⟨by decide +kernel, by decide +kernel, by decide +kernel⟩, by decide, by decide +kernel, rfl, rfl⟩
set_option maxRecDepth 100000 in
theorem imX12_count : Cond.instanceMethod yX12_count ∈ ALLG := inT8 15 rfl rfl
set_option maxRecDepth 100000 in
theorem seX12_count : Cond.selects RX12 yX12_count yX12_count ∈ ALLG := inT8 16 rfl rfl
abbrev mdX12_row : MD := (RX12, yX12_row, cX12_row, 2, some .long, none)
set_option maxRecDepth 100000 in
theorem moX12_row : MOK mdX12_row 1 := ⟨inT8 21 rfl rfl, inT1 14 rfl rfl, ⟨by decide +kernel, by decide +kernel, by decide +kernel⟩, by decide, by decide +kernel, rfl, rfl⟩
set_option maxRecDepth 100000 in
theorem imX12_row : Cond.instanceMethod yX12_row ∈ ALLG := inT8 19 rfl rfl
set_option maxRecDepth 100000 in
theorem seX12_row : Cond.selects RX12 yX12_row yX12_row ∈ ALLG := inT8 20 rfl rfl
abbrev mdJ9_abs_067f4 : MD := (RJ9, yJ9_abs_067f4, cJ9_abs_067f4, 2, some .long, none)
abbrev mdJ9_max_7cf53 : MD := (RJ9, yJ9_max_7cf53, cJ9_max_7cf53, 2, some .int, none)
abbrev mdJ9_min_7cf53 : MD := (RJ9, yJ9_min_7cf53, cJ9_min_7cf53, 2, some .int, none)
abbrev mdJ7_fill_d0a16 : MD := (RJ7, yJ7_fill_d0a16, cJ7_fill_d0a16, 5, none, none)
set_option maxRecDepth 100000 in
theorem moJ7_fill_d0a16 : MOK mdJ7_fill_d0a16 2 := ⟨inT2 86 rfl rfl, inT1 12 rfl rfl, ⟨by decide +kernel, by decide +kernel, by decide +kernel⟩, by decide, by decide +kernel, rfl, rfl⟩
set_option maxRecDepth 100000 in
theorem saJ7_fill_d0a16 : Cond.static yJ7_fill_d0a16 ∈ ALLG := inT2 85 rfl rfl
abbrev mdJ7_fill_53178 : MD := (RJ7, yJ7_fill_53178, cJ7_fill_53178, 4, none, none)
set_option maxRecDepth 100000 in
theorem moJ7_fill_53178 : MOK mdJ7_fill_53178 2 := ⟨inT2 122 rfl rfl, inT1 12 rfl rfl, ⟨by decide +kernel, by decide +kernel, by decide +kernel⟩, by decide, by decide +kernel, rfl, rfl⟩
set_option maxRecDepth 100000 in
theorem saJ7_fill_53178 : Cond.static yJ7_fill_53178 ∈ ALLG := inT2 121 rfl rfl
set_option maxRecDepth 100000 in
theorem cwL_8 : Cond.classLink RL 8 RX11 ∈ ALLG := inT1 21 rfl rfl
set_option maxRecDepth 100000 in
theorem mlL_15 : Cond.methodLink RL 15 yX11_init ∈ ALLG := inT1 23 rfl rfl
set_option maxRecDepth 100000 in
theorem mlX11_1 : Cond.methodLink RX11 1 Lib.objectInit ∈ ALLG := inT1 26 rfl rfl
set_option maxRecDepth 100000 in
theorem cwX11_7 : Cond.classLink RX11 7 RX2 ∈ ALLG := inT1 29 rfl rfl
set_option maxRecDepth 100000 in
theorem mlX2_3 : Cond.methodLink RX2 3 Lib.objectInit ∈ ALLG := inT1 34 rfl rfl
set_option maxRecDepth 100000 in
theorem flX2_9 : FL RX2 9 1 0 := ⟨by decide, by decide, "AskingPupil$Machine", inT1 35 rfl rfl, Or.inl rfl⟩
set_option maxRecDepth 100000 in
theorem flX7_35 : FL RX7 35 1 0 := ⟨by decide, by decide, "AskingPupil$Machine", inT1 36 rfl rfl, Or.inl rfl⟩
set_option maxRecDepth 100000 in
theorem flX3_57 : FL RX3 57 1 0 := ⟨by decide, by decide, "AskingPupil$Machine", inT1 37 rfl rfl, Or.inl rfl⟩
set_option maxRecDepth 100000 in
theorem flX11_201 : FL RX11 201 1 0 := ⟨by decide, by decide, "AskingPupil$Machine", inT1 38 rfl rfl, Or.inl rfl⟩
set_option maxRecDepth 100000 in
theorem flX2_15 : FL RX2 15 1 1 := ⟨by decide, by decide, "AskingPupil$Machine", inT1 39 rfl rfl, Or.inl rfl⟩
set_option maxRecDepth 100000 in
theorem flX5_49 : FL RX5 49 1 1 := ⟨by decide, by decide, "AskingPupil$Machine", inT1 40 rfl rfl, Or.inl rfl⟩
set_option maxRecDepth 100000 in
theorem flX8_49 : FL RX8 49 1 1 := ⟨by decide, by decide, "AskingPupil$Machine", inT1 41 rfl rfl, Or.inl rfl⟩
set_option maxRecDepth 100000 in
theorem flX7_26 : FL RX7 26 1 1 := ⟨by decide, by decide, "AskingPupil$Machine", inT1 42 rfl rfl, Or.inl rfl⟩
set_option maxRecDepth 100000 in
theorem flX6_119 : FL RX6 119 1 1 := ⟨by decide, by decide, "AskingPupil$Machine", inT1 43 rfl rfl, Or.inl rfl⟩
set_option maxRecDepth 100000 in
theorem flX3_72 : FL RX3 72 1 1 := ⟨by decide, by decide, "AskingPupil$Machine", inT1 44 rfl rfl, Or.inl rfl⟩
set_option maxRecDepth 100000 in
theorem flX11_124 : FL RX11 124 1 1 := ⟨by decide, by decide, "AskingPupil$Machine", inT1 45 rfl rfl, Or.inl rfl⟩
set_option maxRecDepth 100000 in
theorem flX2_18 : FL RX2 18 1 2 := ⟨by decide, by decide, "AskingPupil$Machine", inT1 46 rfl rfl, Or.inl rfl⟩
set_option maxRecDepth 100000 in
theorem flX2_22 : FL RX2 22 1 3 := ⟨by decide, by decide, "AskingPupil$Machine", inT1 47 rfl rfl, Or.inl rfl⟩
set_option maxRecDepth 100000 in
theorem flX2_25 : FL RX2 25 1 4 := ⟨by decide, by decide, "AskingPupil$Machine", inT1 48 rfl rfl, Or.inl rfl⟩
set_option maxRecDepth 100000 in
theorem cwX11_19 : Cond.classLink RX11 19 RX7 ∈ ALLG := inT1 61 rfl rfl
set_option maxRecDepth 100000 in
theorem mlX7_3 : Cond.methodLink RX7 3 Lib.objectInit ∈ ALLG := inT1 66 rfl rfl
set_option maxRecDepth 100000 in
theorem flX7_15 : FL RX7 15 5 0 := ⟨by decide, by decide, "AskingPupil$Text", inT1 67 rfl rfl, Or.inl rfl⟩
set_option maxRecDepth 100000 in
theorem flX11_318 : FL RX11 318 5 0 := ⟨by decide, by decide, "AskingPupil$Text", inT1 68 rfl rfl, Or.inl rfl⟩
set_option maxRecDepth 100000 in
theorem flX7_9 : FL RX7 9 5 1 := ⟨by decide, by decide, "AskingPupil$Text", inT1 69 rfl rfl, Or.inl rfl⟩
set_option maxRecDepth 100000 in
theorem flX7_19 : FL RX7 19 5 2 := ⟨by decide, by decide, "AskingPupil$Text", inT1 70 rfl rfl, Or.inl rfl⟩
set_option maxRecDepth 100000 in
theorem cwX11_26 : Cond.classLink RX11 26 RX5 ∈ ALLG := inT1 78 rfl rfl
set_option maxRecDepth 100000 in
theorem mlX5_3 : Cond.methodLink RX5 3 Lib.objectInit ∈ ALLG := inT1 83 rfl rfl
set_option maxRecDepth 100000 in
theorem flX5_11 : FL RX5 11 3 0 := ⟨by decide, by decide, "AskingPupil$Search", inT1 84 rfl rfl, Or.inl rfl⟩
set_option maxRecDepth 100000 in
theorem flX5_15 : FL RX5 15 3 1 := ⟨by decide, by decide, "AskingPupil$Search", inT1 85 rfl rfl, Or.inl rfl⟩
set_option maxRecDepth 100000 in
theorem flX5_31 : FL RX5 31 3 2 := ⟨by decide, by decide, "AskingPupil$Search", inT1 86 rfl rfl, Or.inl rfl⟩
set_option maxRecDepth 100000 in
theorem flX5_19 : FL RX5 19 3 3 := ⟨by decide, by decide, "AskingPupil$Search", inT1 87 rfl rfl, Or.inl rfl⟩
set_option maxRecDepth 100000 in
theorem flX5_22 : FL RX5 22 3 4 := ⟨by decide, by decide, "AskingPupil$Search", inT1 88 rfl rfl, Or.inl rfl⟩
set_option maxRecDepth 100000 in
theorem cwX11_33 : Cond.classLink RX11 33 RX4 ∈ ALLG := inT1 101 rfl rfl
set_option maxRecDepth 100000 in
theorem mlX11_35 : Cond.methodLink RX11 35 yX4_init ∈ ALLG := inT1 103 rfl rfl
set_option maxRecDepth 100000 in
theorem mlX4_3 : Cond.methodLink RX4 3 Lib.objectInit ∈ ALLG := inT1 106 rfl rfl
set_option maxRecDepth 100000 in
theorem cwX4_15 : Cond.classLink RX4 15 RX0 ∈ ALLG := inT1 107 rfl rfl
set_option maxRecDepth 100000 in
theorem mlX4_17 : Cond.methodLink RX4 17 yX0_init ∈ ALLG := inT1 109 rfl rfl
set_option maxRecDepth 100000 in
theorem mlX0_1 : Cond.methodLink RX0 1 Lib.objectInit ∈ ALLG := inT1 112 rfl rfl
set_option maxRecDepth 100000 in
theorem cwX0_7 : Cond.classLink RX0 7 RX10 ∈ ALLG := inT1 113 rfl rfl
set_option maxRecDepth 100000 in
theorem mlX10_3 : Cond.methodLink RX10 3 Lib.objectInit ∈ ALLG := inT1 118 rfl rfl
set_option maxRecDepth 100000 in
theorem flX10_15 : FL RX10 15 8 0 := ⟨by decide, by decide, "AskingPupil$WordSet", inT1 119 rfl rfl, Or.inl rfl⟩
set_option maxRecDepth 100000 in
theorem flX11_175 : FL RX11 175 8 0 := ⟨by decide, by decide, "AskingPupil$WordSet", inT1 120 rfl rfl, Or.inl rfl⟩
set_option maxRecDepth 100000 in
theorem flX10_11 : FL RX10 11 8 1 := ⟨by decide, by decide, "AskingPupil$WordSet", inT1 121 rfl rfl, Or.inl rfl⟩
set_option maxRecDepth 100000 in
theorem flX0_23 : FL RX0 23 0 0 := ⟨by decide, by decide, "AskingPupil$Asking", inT1 127 rfl rfl, Or.inl rfl⟩
set_option maxRecDepth 100000 in
theorem flX8_45 : FL RX8 45 0 0 := ⟨by decide, by decide, "AskingPupil$Asking", inT1 128 rfl rfl, Or.inl rfl⟩
set_option maxRecDepth 100000 in
theorem flX4_68 : FL RX4 68 0 0 := ⟨by decide, by decide, "AskingPupil$Asking", inT1 129 rfl rfl, Or.inl rfl⟩
set_option maxRecDepth 100000 in
theorem flX6_115 : FL RX6 115 0 0 := ⟨by decide, by decide, "AskingPupil$Asking", inT1 130 rfl rfl, Or.inl rfl⟩
set_option maxRecDepth 100000 in
theorem flX3_67 : FL RX3 67 0 0 := ⟨by decide, by decide, "AskingPupil$Asking", inT1 131 rfl rfl, Or.inl rfl⟩
set_option maxRecDepth 100000 in
theorem flX0_10 : FL RX0 10 0 1 := ⟨by decide, by decide, "AskingPupil$Asking", inT1 132 rfl rfl, Or.inl rfl⟩
set_option maxRecDepth 100000 in
theorem flX6_144 : FL RX6 144 0 1 := ⟨by decide, by decide, "AskingPupil$Asking", inT1 133 rfl rfl, Or.inl rfl⟩
set_option maxRecDepth 100000 in
theorem flX11_160 : FL RX11 160 0 1 := ⟨by decide, by decide, "AskingPupil$Asking", inT1 134 rfl rfl, Or.inl rfl⟩
set_option maxRecDepth 100000 in
theorem flX0_16 : FL RX0 16 0 2 := ⟨by decide, by decide, "AskingPupil$Asking", inT1 135 rfl rfl, Or.inl rfl⟩
set_option maxRecDepth 100000 in
theorem flX11_319 : FL RX11 319 0 2 := ⟨by decide, by decide, "AskingPupil$Asking", inT1 136 rfl rfl, Or.inl rfl⟩
set_option maxRecDepth 100000 in
theorem flX0_20 : FL RX0 20 0 3 := ⟨by decide, by decide, "AskingPupil$Asking", inT1 137 rfl rfl, Or.inl rfl⟩
set_option maxRecDepth 100000 in
theorem flX11_322 : FL RX11 322 0 3 := ⟨by decide, by decide, "AskingPupil$Asking", inT1 138 rfl rfl, Or.inl rfl⟩
set_option maxRecDepth 100000 in
theorem flX0_30 : FL RX0 30 0 4 := ⟨by decide, by decide, "AskingPupil$Asking", inT1 139 rfl rfl, Or.inl rfl⟩
set_option maxRecDepth 100000 in
theorem flX11_312 : FL RX11 312 0 4 := ⟨by decide, by decide, "AskingPupil$Asking", inT1 140 rfl rfl, Or.inl rfl⟩
set_option maxRecDepth 100000 in
theorem cwX4_24 : Cond.classLink RX4 24 RX6 ∈ ALLG := inT1 152 rfl rfl
set_option maxRecDepth 100000 in
theorem mlX4_26 : Cond.methodLink RX4 26 yX6_init ∈ ALLG := inT1 154 rfl rfl
set_option maxRecDepth 100000 in
theorem mlX6_3 : Cond.methodLink RX6 3 yX3_init ∈ ALLG := inT1 157 rfl rfl
set_option maxRecDepth 100000 in
theorem mlX3_3 : Cond.methodLink RX3 3 Lib.objectInit ∈ ALLG := inT1 160 rfl rfl
set_option maxRecDepth 100000 in
theorem cwX3_9 : Cond.classLink RX3 9 RX9 ∈ ALLG := inT1 161 rfl rfl
set_option maxRecDepth 100000 in
theorem mlX3_11 : Cond.methodLink RX3 11 yX9_init ∈ ALLG := inT1 163 rfl rfl
set_option maxRecDepth 100000 in
theorem mlX9_3 : Cond.methodLink RX9 3 Lib.objectInit ∈ ALLG := inT1 166 rfl rfl
set_option maxRecDepth 100000 in
theorem flX9_15 : FL RX9 15 7 0 := ⟨by decide, by decide, "AskingPupil$WordList", inT1 167 rfl rfl, Or.inl rfl⟩
set_option maxRecDepth 100000 in
theorem flX8_39 : FL RX8 39 7 0 := ⟨by decide, by decide, "AskingPupil$WordList", inT1 168 rfl rfl, Or.inl rfl⟩
set_option maxRecDepth 100000 in
theorem flX6_61 : FL RX6 61 7 0 := ⟨by decide, by decide, "AskingPupil$WordList", inT1 169 rfl rfl, Or.inl rfl⟩
set_option maxRecDepth 100000 in
theorem flX3_64 : FL RX3 64 7 0 := ⟨by decide, by decide, "AskingPupil$WordList", inT1 170 rfl rfl, Or.inl rfl⟩
set_option maxRecDepth 100000 in
theorem flX11_219 : FL RX11 219 7 0 := ⟨by decide, by decide, "AskingPupil$WordList", inT1 171 rfl rfl, Or.inl rfl⟩
set_option maxRecDepth 100000 in
theorem flX9_9 : FL RX9 9 7 1 := ⟨by decide, by decide, "AskingPupil$WordList", inT1 172 rfl rfl, Or.inl rfl⟩
set_option maxRecDepth 100000 in
theorem cwX3_26 : Cond.classLink RX3 26 RX2 ∈ ALLG := inT1 178 rfl rfl
set_option maxRecDepth 100000 in
theorem flX6_27 : FL RX6 27 4 7 := ⟨by decide, by decide, "AskingPupil$Table", inT1 180 rfl rfl, Or.inl rfl⟩
set_option maxRecDepth 100000 in
theorem flX6_31 : FL RX6 31 4 8 := ⟨by decide, by decide, "AskingPupil$Table", inT1 181 rfl rfl, Or.inl rfl⟩
set_option maxRecDepth 100000 in
theorem flX6_9 : FL RX6 9 4 9 := ⟨by decide, by decide, "AskingPupil$Table", inT1 182 rfl rfl, Or.inl rfl⟩
set_option maxRecDepth 100000 in
theorem flX6_15 : FL RX6 15 4 10 := ⟨by decide, by decide, "AskingPupil$Table", inT1 183 rfl rfl, Or.inl rfl⟩
set_option maxRecDepth 100000 in
theorem flX6_18 : FL RX6 18 4 11 := ⟨by decide, by decide, "AskingPupil$Table", inT1 184 rfl rfl, Or.inl rfl⟩
set_option maxRecDepth 100000 in
theorem flX6_21 : FL RX6 21 4 12 := ⟨by decide, by decide, "AskingPupil$Table", inT1 185 rfl rfl, Or.inl rfl⟩
set_option maxRecDepth 100000 in
theorem flX6_24 : FL RX6 24 4 13 := ⟨by decide, by decide, "AskingPupil$Table", inT1 186 rfl rfl, Or.inl rfl⟩
set_option maxRecDepth 100000 in
theorem flX3_33 {ci : Nat} (h : NT ci) : FL RX3 33 ci 0 := by
  rcases h with rfl | rfl
  · exact ⟨by decide, by decide, "AskingPupil$Notes", inT1 187 rfl rfl, Or.inl rfl⟩
  · exact ⟨by decide, by decide, "AskingPupil$Notes", inT1 187 rfl rfl, Or.inl rfl⟩
set_option maxRecDepth 100000 in
theorem flX8_21 : FL RX8 21 6 0 := ⟨by decide, by decide, "AskingPupil$Tree", inT1 188 rfl rfl, Or.inr (inT1 189 rfl rfl)⟩
set_option maxRecDepth 100000 in
theorem flX6_69 : FL RX6 69 4 0 := ⟨by decide, by decide, "AskingPupil$Table", inT1 190 rfl rfl, Or.inr (inT1 191 rfl rfl)⟩
set_option maxRecDepth 100000 in
theorem flX3_14 {ci : Nat} (h : NT ci) : FL RX3 14 ci 1 := by
  rcases h with rfl | rfl
  · exact ⟨by decide, by decide, "AskingPupil$Notes", inT1 192 rfl rfl, Or.inl rfl⟩
  · exact ⟨by decide, by decide, "AskingPupil$Notes", inT1 192 rfl rfl, Or.inl rfl⟩
set_option maxRecDepth 100000 in
theorem flX8_35 : FL RX8 35 6 1 := ⟨by decide, by decide, "AskingPupil$Tree", inT1 193 rfl rfl, Or.inr (inT1 194 rfl rfl)⟩
set_option maxRecDepth 100000 in
theorem flX6_57 : FL RX6 57 4 1 := ⟨by decide, by decide, "AskingPupil$Table", inT1 195 rfl rfl, Or.inr (inT1 196 rfl rfl)⟩
set_option maxRecDepth 100000 in
theorem flX11_188 {ci : Nat} (h : NT ci) : FL RX11 188 ci 1 := by
  rcases h with rfl | rfl
  · exact ⟨by decide, by decide, "AskingPupil$Notes", inT1 197 rfl rfl, Or.inl rfl⟩
  · exact ⟨by decide, by decide, "AskingPupil$Notes", inT1 197 rfl rfl, Or.inl rfl⟩
set_option maxRecDepth 100000 in
theorem flX11_242 : FL RX11 242 4 1 := ⟨by decide, by decide, "AskingPupil$Table", inT1 198 rfl rfl, Or.inr (inT1 196 rfl rfl)⟩
set_option maxRecDepth 100000 in
theorem flX3_20 {ci : Nat} (h : NT ci) : FL RX3 20 ci 2 := by
  rcases h with rfl | rfl
  · exact ⟨by decide, by decide, "AskingPupil$Notes", inT1 199 rfl rfl, Or.inl rfl⟩
  · exact ⟨by decide, by decide, "AskingPupil$Notes", inT1 199 rfl rfl, Or.inl rfl⟩
set_option maxRecDepth 100000 in
theorem flX6_66 : FL RX6 66 4 2 := ⟨by decide, by decide, "AskingPupil$Table", inT1 200 rfl rfl, Or.inr (inT1 201 rfl rfl)⟩
set_option maxRecDepth 100000 in
theorem flX8_123 : FL RX8 123 6 2 := ⟨by decide, by decide, "AskingPupil$Tree", inT1 202 rfl rfl, Or.inr (inT1 203 rfl rfl)⟩
set_option maxRecDepth 100000 in
theorem flX11_195 {ci : Nat} (h : NT ci) : FL RX11 195 ci 2 := by
  rcases h with rfl | rfl
  · exact ⟨by decide, by decide, "AskingPupil$Notes", inT1 204 rfl rfl, Or.inl rfl⟩
  · exact ⟨by decide, by decide, "AskingPupil$Notes", inT1 204 rfl rfl, Or.inl rfl⟩
set_option maxRecDepth 100000 in
theorem flX3_23 {ci : Nat} (h : NT ci) : FL RX3 23 ci 3 := by
  rcases h with rfl | rfl
  · exact ⟨by decide, by decide, "AskingPupil$Notes", inT1 205 rfl rfl, Or.inl rfl⟩
  · exact ⟨by decide, by decide, "AskingPupil$Notes", inT1 205 rfl rfl, Or.inl rfl⟩
set_option maxRecDepth 100000 in
theorem flX8_81 : FL RX8 81 6 3 := ⟨by decide, by decide, "AskingPupil$Tree", inT1 206 rfl rfl, Or.inr (inT1 207 rfl rfl)⟩
set_option maxRecDepth 100000 in
theorem flX6_211 : FL RX6 211 4 3 := ⟨by decide, by decide, "AskingPupil$Table", inT1 208 rfl rfl, Or.inr (inT1 209 rfl rfl)⟩
set_option maxRecDepth 100000 in
theorem flX11_264 {ci : Nat} (h : NT ci) : FL RX11 264 ci 3 := by
  rcases h with rfl | rfl
  · exact ⟨by decide, by decide, "AskingPupil$Notes", inT1 210 rfl rfl, Or.inl rfl⟩
  · exact ⟨by decide, by decide, "AskingPupil$Notes", inT1 210 rfl rfl, Or.inl rfl⟩
set_option maxRecDepth 100000 in
theorem flX3_29 {ci : Nat} (h : NT ci) : FL RX3 29 ci 4 := by
  rcases h with rfl | rfl
  · exact ⟨by decide, by decide, "AskingPupil$Notes", inT1 211 rfl rfl, Or.inl rfl⟩
  · exact ⟨by decide, by decide, "AskingPupil$Notes", inT1 211 rfl rfl, Or.inl rfl⟩
set_option maxRecDepth 100000 in
theorem flX4_64 {ci : Nat} (h : NT ci) : FL RX4 64 ci 4 := by
  rcases h with rfl | rfl
  · exact ⟨by decide, by decide, "AskingPupil$Notes", inT1 212 rfl rfl, Or.inl rfl⟩
  · exact ⟨by decide, by decide, "AskingPupil$Notes", inT1 212 rfl rfl, Or.inl rfl⟩
set_option maxRecDepth 100000 in
theorem flX8_74 : FL RX8 74 6 4 := ⟨by decide, by decide, "AskingPupil$Tree", inT1 213 rfl rfl, Or.inr (inT1 214 rfl rfl)⟩
set_option maxRecDepth 100000 in
theorem flX11_198 {ci : Nat} (h : NT ci) : FL RX11 198 ci 4 := by
  rcases h with rfl | rfl
  · exact ⟨by decide, by decide, "AskingPupil$Notes", inT1 215 rfl rfl, Or.inl rfl⟩
  · exact ⟨by decide, by decide, "AskingPupil$Notes", inT1 215 rfl rfl, Or.inl rfl⟩
set_option maxRecDepth 100000 in
theorem flX6_217 : FL RX6 217 4 4 := ⟨by decide, by decide, "AskingPupil$Table", inT1 216 rfl rfl, Or.inr (inT1 217 rfl rfl)⟩
set_option maxRecDepth 100000 in
theorem flX6_45 : FL RX6 45 4 5 := ⟨by decide, by decide, "AskingPupil$Table", inT1 218 rfl rfl, Or.inr (inT1 219 rfl rfl)⟩
set_option maxRecDepth 100000 in
theorem flX3_37 {ci : Nat} (h : NT ci) : FL RX3 37 ci 5 := by
  rcases h with rfl | rfl
  · exact ⟨by decide, by decide, "AskingPupil$Notes", inT1 220 rfl rfl, Or.inl rfl⟩
  · exact ⟨by decide, by decide, "AskingPupil$Notes", inT1 220 rfl rfl, Or.inl rfl⟩
set_option maxRecDepth 100000 in
theorem flX6_79 : FL RX6 79 4 6 := ⟨by decide, by decide, "AskingPupil$Table", inT1 221 rfl rfl, Or.inr (inT1 222 rfl rfl)⟩
set_option maxRecDepth 100000 in
theorem flX8_113 : FL RX8 113 6 6 := ⟨by decide, by decide, "AskingPupil$Tree", inT1 223 rfl rfl, Or.inr (inT1 224 rfl rfl)⟩
set_option maxRecDepth 100000 in
theorem flX3_41 {ci : Nat} (h : NT ci) : FL RX3 41 ci 6 := by
  rcases h with rfl | rfl
  · exact ⟨by decide, by decide, "AskingPupil$Notes", inT1 225 rfl rfl, Or.inl rfl⟩
  · exact ⟨by decide, by decide, "AskingPupil$Notes", inT1 225 rfl rfl, Or.inl rfl⟩
set_option maxRecDepth 100000 in
theorem flX11_216 {ci : Nat} (h : NT ci) : FL RX11 216 ci 6 := by
  rcases h with rfl | rfl
  · exact ⟨by decide, by decide, "AskingPupil$Notes", inT1 226 rfl rfl, Or.inl rfl⟩
  · exact ⟨by decide, by decide, "AskingPupil$Notes", inT1 226 rfl rfl, Or.inl rfl⟩
set_option maxRecDepth 100000 in
theorem cwX4_33 : Cond.classLink RX4 33 RX8 ∈ ALLG := inT2 16 rfl rfl
set_option maxRecDepth 100000 in
theorem mlX4_35 : Cond.methodLink RX4 35 yX8_init ∈ ALLG := inT2 18 rfl rfl
set_option maxRecDepth 100000 in
theorem mlX8_3 : Cond.methodLink RX8 3 yX3_init ∈ ALLG := inT2 21 rfl rfl
set_option maxRecDepth 100000 in
theorem flX8_130 : FL RX8 130 6 7 := ⟨by decide, by decide, "AskingPupil$Tree", inT2 22 rfl rfl, Or.inl rfl⟩
set_option maxRecDepth 100000 in
theorem flX11_258 : FL RX11 258 6 7 := ⟨by decide, by decide, "AskingPupil$Tree", inT2 23 rfl rfl, Or.inl rfl⟩
set_option maxRecDepth 100000 in
theorem flX8_9 : FL RX8 9 6 8 := ⟨by decide, by decide, "AskingPupil$Tree", inT2 24 rfl rfl, Or.inl rfl⟩
set_option maxRecDepth 100000 in
theorem flX8_67 : FL RX8 67 6 9 := ⟨by decide, by decide, "AskingPupil$Tree", inT2 25 rfl rfl, Or.inl rfl⟩
set_option maxRecDepth 100000 in
theorem flX4_20 : FL RX4 20 2 0 := ⟨by decide, by decide, "AskingPupil$Pupil", inT2 40 rfl rfl, Or.inl rfl⟩
set_option maxRecDepth 100000 in
theorem flX11_146 : FL RX11 146 2 0 := ⟨by decide, by decide, "AskingPupil$Pupil", inT2 41 rfl rfl, Or.inl rfl⟩
set_option maxRecDepth 100000 in
theorem flX4_29 : FL RX4 29 2 1 := ⟨by decide, by decide, "AskingPupil$Pupil", inT2 42 rfl rfl, Or.inl rfl⟩
set_option maxRecDepth 100000 in
theorem flX11_227 : FL RX11 227 2 1 := ⟨by decide, by decide, "AskingPupil$Pupil", inT2 43 rfl rfl, Or.inl rfl⟩
set_option maxRecDepth 100000 in
theorem flX4_36 : FL RX4 36 2 2 := ⟨by decide, by decide, "AskingPupil$Pupil", inT2 44 rfl rfl, Or.inl rfl⟩
set_option maxRecDepth 100000 in
theorem flX11_246 : FL RX11 246 2 2 := ⟨by decide, by decide, "AskingPupil$Pupil", inT2 45 rfl rfl, Or.inl rfl⟩
set_option maxRecDepth 100000 in
theorem flX4_40 : FL RX4 40 2 3 := ⟨by decide, by decide, "AskingPupil$Pupil", inT2 46 rfl rfl, Or.inl rfl⟩
set_option maxRecDepth 100000 in
theorem flX11_166 : FL RX11 166 2 3 := ⟨by decide, by decide, "AskingPupil$Pupil", inT2 47 rfl rfl, Or.inl rfl⟩
set_option maxRecDepth 100000 in
theorem flX4_44 : FL RX4 44 2 4 := ⟨by decide, by decide, "AskingPupil$Pupil", inT2 48 rfl rfl, Or.inl rfl⟩
set_option maxRecDepth 100000 in
theorem flX11_92 : FL RX11 92 2 4 := ⟨by decide, by decide, "AskingPupil$Pupil", inT2 49 rfl rfl, Or.inl rfl⟩
set_option maxRecDepth 100000 in
theorem flX4_57 : FL RX4 57 2 5 := ⟨by decide, by decide, "AskingPupil$Pupil", inT2 50 rfl rfl, Or.inl rfl⟩
set_option maxRecDepth 100000 in
theorem flX11_213 : FL RX11 213 2 5 := ⟨by decide, by decide, "AskingPupil$Pupil", inT2 51 rfl rfl, Or.inl rfl⟩
set_option maxRecDepth 100000 in
theorem flX4_9 : FL RX4 9 2 6 := ⟨by decide, by decide, "AskingPupil$Pupil", inT2 52 rfl rfl, Or.inl rfl⟩
set_option maxRecDepth 100000 in
theorem cwX11_45 : Cond.classLink RX11 45 RX10 ∈ ALLG := inT2 68 rfl rfl
set_option maxRecDepth 100000 in
theorem cwX11_52 : Cond.classLink RX11 52 RX9 ∈ ALLG := inT2 70 rfl rfl
set_option maxRecDepth 100000 in
theorem mlX11_54 : Cond.methodLink RX11 54 yX9_init ∈ ALLG := inT2 71 rfl rfl
set_option maxRecDepth 100000 in
theorem mlX11_69 : Cond.methodLink RX11 69 yX4_renew ∈ ALLG := inT2 72 rfl rfl
set_option maxRecDepth 100000 in
theorem mlX4_48 : Cond.methodLink RX4 48 yX0_forget ∈ ALLG := inT2 76 rfl rfl
set_option maxRecDepth 100000 in
theorem mlX0_27 : Cond.methodLink RX0 27 yX10_clear ∈ ALLG := inT2 80 rfl rfl
set_option maxRecDepth 100000 in
theorem mlX10_19 : Cond.methodLink RX10 19 yJ7_fill_d0a16 ∈ ALLG := inT2 84 rfl rfl
set_option maxRecDepth 100000 in
theorem mlX4_51 : Cond.methodLink RX4 51 yX3_renew ∈ ALLG := inT2 87 rfl rfl
set_option maxRecDepth 100000 in
theorem smX3_renew : Cond.sameMethod RX3 "AskingPupil$Notes" "renew" "(I)V" ∈ ALLG := inT2 89 rfl rfl
set_option maxRecDepth 100000 in
theorem suX6_X3_renew : Cond.selects RX6 yX3_renew yX3_renew ∈ ALLG := inT2 90 rfl rfl
set_option maxRecDepth 100000 in
theorem suX8_X3_renew : Cond.selects RX8 yX3_renew yX3_renew ∈ ALLG := inT2 91 rfl rfl
set_option maxRecDepth 100000 in
theorem mlX3_44 : Cond.methodLink RX3 44 yX9_clear ∈ ALLG := inT2 93 rfl rfl
set_option maxRecDepth 100000 in
theorem mlX3_47 : Cond.methodLink RX3 47 yX9_add ∈ ALLG := inT2 97 rfl rfl
set_option maxRecDepth 100000 in
theorem mlX3_51 : Cond.methodLink RX3 51 yX3_dropGuess ∈ ALLG := inT2 101 rfl rfl
set_option maxRecDepth 100000 in
theorem smX3_dropGuess : Cond.sameMethod RX3 "AskingPupil$Notes" "dropGuess" "()V" ∈ ALLG := inT2 103 rfl rfl
set_option maxRecDepth 100000 in
theorem suX6_X3_dropGuess : Cond.selects RX6 yX3_dropGuess yX3_dropGuess ∈ ALLG := inT2 104 rfl rfl
set_option maxRecDepth 100000 in
theorem suX8_X3_dropGuess : Cond.selects RX8 yX3_dropGuess yX3_dropGuess ∈ ALLG := inT2 105 rfl rfl
set_option maxRecDepth 100000 in
theorem mlX3_60 : Cond.methodLink RX3 60 yX2_shape ∈ ALLG := inT2 107 rfl rfl
set_option maxRecDepth 100000 in
theorem mlX3_54 : Cond.methodLink RX3 54 ⟨"AskingPupil$Notes", "begin", "()V"⟩ ∈ ALLG := inT2 111 rfl rfl
set_option maxRecDepth 100000 in
theorem smX3_begin : Cond.sameMethod RX3 "AskingPupil$Notes" "begin" "()V" ∈ ALLG := inT2 113 rfl rfl
set_option maxRecDepth 100000 in
theorem suX6_X3_begin : Cond.selects RX6 ⟨"AskingPupil$Notes", "begin", "()V"⟩ yX6_begin ∈ ALLG := inT2 114 rfl rfl
set_option maxRecDepth 100000 in
theorem suX8_X3_begin : Cond.selects RX8 ⟨"AskingPupil$Notes", "begin", "()V"⟩ yX8_begin ∈ ALLG := inT2 117 rfl rfl
set_option maxRecDepth 100000 in
theorem mlX8_15 : Cond.methodLink RX8 15 yJ7_fill_53178 ∈ ALLG := inT2 120 rfl rfl
set_option maxRecDepth 100000 in
theorem mlX8_25 : Cond.methodLink RX8 25 yX0_ask ∈ ALLG := inT2 123 rfl rfl
set_option maxRecDepth 100000 in
theorem mlX0_33 : Cond.methodLink RX0 33 yX10_makeRoom ∈ ALLG := inT2 127 rfl rfl
set_option maxRecDepth 100000 in
theorem mlX10_25 : Cond.methodLink RX10 25 yX10_placeOf ∈ ALLG := inT2 131 rfl rfl
set_option maxRecDepth 100000 in
theorem kwX10_33 : Cond.constantLong RX10 33 (6364136223846793005) ∈ ALLG := inT2 135 rfl rfl
set_option maxRecDepth 100000 in
theorem mlX0_36 : Cond.methodLink RX0 36 yX10_add ∈ ALLG := inT2 136 rfl rfl
set_option maxRecDepth 100000 in
theorem mlX0_40 : Cond.methodLink RX0 40 yX1_length ∈ ALLG := inT2 140 rfl rfl
set_option maxRecDepth 100000 in
theorem mlX0_46 : Cond.methodLink RX0 46 yX2_endFrom ∈ ALLG := inT2 143 rfl rfl
set_option maxRecDepth 100000 in
theorem mlX2_36 : Cond.methodLink RX2 36 yX1_length ∈ ALLG := inT2 147 rfl rfl
set_option maxRecDepth 100000 in
theorem mlX2_32 : Cond.methodLink RX2 32 yX2_nextOf ∈ ALLG := inT2 148 rfl rfl
set_option maxRecDepth 100000 in
theorem mlX0_52 : Cond.methodLink RX0 52 yX2_outputOf ∈ ALLG := inT2 152 rfl rfl
set_option maxRecDepth 100000 in
theorem mlX8_31 : Cond.methodLink RX8 31 yX8_link ∈ ALLG := inT2 156 rfl rfl
set_option maxRecDepth 100000 in
theorem flX11_10 : FL RX11 10 9 0 := ⟨by decide, by decide, "AskingPupil", inT2 160 rfl rfl, Or.inl rfl⟩
set_option maxRecDepth 100000 in
theorem flX11_16 : FL RX11 16 9 1 := ⟨by decide, by decide, "AskingPupil", inT2 161 rfl rfl, Or.inl rfl⟩
set_option maxRecDepth 100000 in
theorem flX11_22 : FL RX11 22 9 2 := ⟨by decide, by decide, "AskingPupil", inT2 162 rfl rfl, Or.inl rfl⟩
set_option maxRecDepth 100000 in
theorem flX11_29 : FL RX11 29 9 3 := ⟨by decide, by decide, "AskingPupil", inT2 163 rfl rfl, Or.inl rfl⟩
set_option maxRecDepth 100000 in
theorem flX11_38 : FL RX11 38 9 4 := ⟨by decide, by decide, "AskingPupil", inT2 164 rfl rfl, Or.inl rfl⟩
set_option maxRecDepth 100000 in
theorem flX11_42 : FL RX11 42 9 5 := ⟨by decide, by decide, "AskingPupil", inT2 165 rfl rfl, Or.inl rfl⟩
set_option maxRecDepth 100000 in
theorem flX11_48 : FL RX11 48 9 6 := ⟨by decide, by decide, "AskingPupil", inT2 166 rfl rfl, Or.inl rfl⟩
set_option maxRecDepth 100000 in
theorem flX11_57 : FL RX11 57 9 7 := ⟨by decide, by decide, "AskingPupil", inT2 167 rfl rfl, Or.inl rfl⟩
set_option maxRecDepth 100000 in
theorem flX11_61 : FL RX11 61 9 8 := ⟨by decide, by decide, "AskingPupil", inT2 168 rfl rfl, Or.inl rfl⟩
set_option maxRecDepth 100000 in
theorem flX11_65 : FL RX11 65 9 9 := ⟨by decide, by decide, "AskingPupil", inT2 169 rfl rfl, Or.inl rfl⟩
set_option maxRecDepth 100000 in
theorem flX11_315 : FL RX11 315 9 10 := ⟨by decide, by decide, "AskingPupil", inT2 170 rfl rfl, Or.inl rfl⟩
set_option maxRecDepth 100000 in
theorem mlL_19 : Cond.methodLink RL 19 yX11_sign ∈ ALLG := inT2 194 rfl rfl
set_option maxRecDepth 100000 in
theorem mlX11_72 : Cond.methodLink RX11 72 yX7_append ∈ ALLG := inT2 198 rfl rfl
set_option maxRecDepth 100000 in
theorem mlL_24 : Cond.methodLink RL 24 yX11_end ∈ ALLG := inT2 202 rfl rfl
set_option maxRecDepth 100000 in
theorem mlX11_76 : Cond.methodLink RX11 76 yX7_shorten ∈ ALLG := inT2 206 rfl rfl
set_option maxRecDepth 100000 in
theorem mlL_29 : Cond.methodLink RL 29 yX11_machine ∈ ALLG := inT2 210 rfl rfl
set_option maxRecDepth 100000 in
theorem mlX11_80 : Cond.methodLink RX11 80 yX7_read ∈ ALLG := inT2 214 rfl rfl
set_option maxRecDepth 100000 in
theorem mlX7_22 : Cond.methodLink RX7 22 yX7_readState ∈ ALLG := inT2 218 rfl rfl
set_option maxRecDepth 100000 in
theorem mlX7_42 : Cond.methodLink RX7 42 yX7_digitBelow ∈ ALLG := inT2 222 rfl rfl
set_option maxRecDepth 100000 in
theorem mlX7_53 : Cond.methodLink RX7 53 yX7_signHere ∈ ALLG := inT2 226 rfl rfl
set_option maxRecDepth 100000 in
theorem mlX7_46 : Cond.methodLink RX7 46 yX2_setOutput ∈ ALLG := inT2 230 rfl rfl
set_option maxRecDepth 100000 in
theorem mlX7_38 : Cond.methodLink RX7 38 yX7_takes ∈ ALLG := inT2 234 rfl rfl
set_option maxRecDepth 100000 in
theorem mlX7_49 : Cond.methodLink RX7 49 yX2_setNext ∈ ALLG := inT2 238 rfl rfl
set_option maxRecDepth 100000 in
theorem mlX7_31 : Cond.methodLink RX7 31 yX2_shape ∈ ALLG := inT3 2 rfl rfl
set_option maxRecDepth 100000 in
theorem mlX11_84 : Cond.methodLink RX11 84 yX2_isClosed ∈ ALLG := inT3 3 rfl rfl
set_option maxRecDepth 100000 in
theorem mlX11_88 : Cond.methodLink RX11 88 yX2_become ∈ ALLG := inT3 7 rfl rfl
set_option maxRecDepth 100000 in
theorem mlX2_46 : Cond.methodLink RX2 46 yX2_shape ∈ ALLG := inT3 11 rfl rfl
set_option maxRecDepth 100000 in
theorem mlX2_28 : Cond.methodLink RX2 28 yX2_outputOf ∈ ALLG := inT3 12 rfl rfl
set_option maxRecDepth 100000 in
theorem mlX2_50 : Cond.methodLink RX2 50 yX2_setOutput ∈ ALLG := inT3 13 rfl rfl
set_option maxRecDepth 100000 in
theorem mlX2_53 : Cond.methodLink RX2 53 yX2_setNext ∈ ALLG := inT3 14 rfl rfl
set_option maxRecDepth 100000 in
theorem mlL_34 : Cond.methodLink RL 34 yX11_draws ∈ ALLG := inT3 15 rfl rfl
set_option maxRecDepth 100000 in
theorem mlX11_96 : Cond.methodLink RX11 96 yX2_draw ∈ ALLG := inT3 19 rfl rfl
set_option maxRecDepth 100000 in
theorem mlX2_57 : Cond.methodLink RX2 57 yX2_stir ∈ ALLG := inT3 23 rfl rfl
set_option maxRecDepth 100000 in
theorem kwX2_63 : Cond.constant RX2 63 (1103515245) ∈ ALLG := inT3 26 rfl rfl
set_option maxRecDepth 100000 in
theorem mlX2_60 : Cond.methodLink RX2 60 yX2_drawn ∈ ALLG := inT3 27 rfl rfl
set_option maxRecDepth 100000 in
theorem mlX11_100 : Cond.methodLink RX11 100 yX11_unlikeReached ∈ ALLG := inT3 30 rfl rfl
set_option maxRecDepth 100000 in
theorem mlX11_308 : Cond.methodLink RX11 308 yX2_part ∈ ALLG := inT3 34 rfl rfl
set_option maxRecDepth 100000 in
theorem mlX2_64 : Cond.methodLink RX2 64 yX2_leastAlike ∈ ALLG := inT3 38 rfl rfl
set_option maxRecDepth 100000 in
theorem mlX2_68 : Cond.methodLink RX2 68 yX2_nextsAlike ∈ ALLG := inT3 42 rfl rfl
set_option maxRecDepth 100000 in
theorem mlX2_72 : Cond.methodLink RX2 72 yX2_groupBefore ∈ ALLG := inT3 46 rfl rfl
set_option maxRecDepth 100000 in
theorem mlX11_302 : Cond.methodLink RX11 302 yX5_walk ∈ ALLG := inT3 50 rfl rfl
set_option maxRecDepth 100000 in
theorem mlX5_64 : Cond.methodLink RX5 64 yX5_firstUnlike ∈ ALLG := inT3 54 rfl rfl
set_option maxRecDepth 100000 in
theorem mlX5_25 : Cond.methodLink RX5 25 yJ7_fill_d0a16 ∈ ALLG := inT3 58 rfl rfl
set_option maxRecDepth 100000 in
theorem mlX5_35 : Cond.methodLink RX5 35 yX5_comeTo ∈ ALLG := inT3 59 rfl rfl
set_option maxRecDepth 100000 in
theorem mlX5_68 : Cond.methodLink RX5 68 yX5_pairOf ∈ ALLG := inT3 63 rfl rfl
set_option maxRecDepth 100000 in
theorem mlX5_39 : Cond.methodLink RX5 39 yX5_firstTo ∈ ALLG := inT3 66 rfl rfl
set_option maxRecDepth 100000 in
theorem mlX5_43 : Cond.methodLink RX5 43 yX2_outputOf ∈ ALLG := inT3 70 rfl rfl
set_option maxRecDepth 100000 in
theorem kwX5_52 : Cond.constantLong RX5 52 (1073741824) ∈ ALLG := inT3 71 rfl rfl
set_option maxRecDepth 100000 in
theorem mlX5_54 : Cond.methodLink RX5 54 yX2_nextOf ∈ ALLG := inT3 72 rfl rfl
set_option maxRecDepth 100000 in
theorem mlX5_58 : Cond.methodLink RX5 58 yX1_then ∈ ALLG := inT3 73 rfl rfl
set_option maxRecDepth 100000 in
theorem kwX1_17 : Cond.constantLong RX1 17 (4) ∈ ALLG := inT3 76 rfl rfl
set_option maxRecDepth 100000 in
theorem mlX11_328 : Cond.methodLink RX11 328 yX11_isGroupReached ∈ ALLG := inT3 77 rfl rfl
set_option maxRecDepth 100000 in
theorem mlX11_305 : Cond.methodLink RX11 305 yX5_firstTo ∈ ALLG := inT3 81 rfl rfl
set_option maxRecDepth 100000 in
theorem mlL_39 : Cond.methodLink RL 39 yX11_state ∈ ALLG := inT3 82 rfl rfl
set_option maxRecDepth 100000 in
theorem mlX11_104 : Cond.methodLink RX11 104 yX2_look ∈ ALLG := inT3 86 rfl rfl
set_option maxRecDepth 100000 in
theorem mlL_46 : Cond.methodLink RL 46 yX11_run ∈ ALLG := inT3 90 rfl rfl
set_option maxRecDepth 100000 in
theorem mlX11_108 : Cond.methodLink RX11 108 yX11_isNoWord ∈ ALLG := inT3 94 rfl rfl
set_option maxRecDepth 100000 in
theorem mlX11_127 : Cond.methodLink RX11 127 yX1_measure ∈ ALLG := inT3 98 rfl rfl
set_option maxRecDepth 100000 in
theorem kwX1_9 : Cond.constantLong RX1 9 (3) ∈ ALLG := inT3 101 rfl rfl
set_option maxRecDepth 100000 in
theorem mlX11_112 : Cond.methodLink RX11 112 yX2_endFrom ∈ ALLG := inT3 102 rfl rfl
set_option maxRecDepth 100000 in
theorem mlL_51 : Cond.methodLink RL 51 yX11_joins ∈ ALLG := inT3 103 rfl rfl
set_option maxRecDepth 100000 in
theorem kwX11_116 : Cond.constantLong RX11 116 (-1) ∈ ALLG := inT3 107 rfl rfl
set_option maxRecDepth 100000 in
theorem mlX11_118 : Cond.methodLink RX11 118 yX1_join ∈ ALLG := inT3 108 rfl rfl
set_option maxRecDepth 100000 in
theorem mlX1_11 : Cond.methodLink RX1 11 yX1_length ∈ ALLG := inT3 111 rfl rfl
set_option maxRecDepth 100000 in
theorem kwX1_19 : Cond.constantLong RX1 19 (-1) ∈ ALLG := inT3 112 rfl rfl
set_option maxRecDepth 100000 in
theorem mlL_56 : Cond.methodLink RL 56 yX11_letter ∈ ALLG := inT3 113 rfl rfl
set_option maxRecDepth 100000 in
theorem mlX11_131 : Cond.methodLink RX11 131 yX1_at ∈ ALLG := inT3 117 rfl rfl
set_option maxRecDepth 100000 in
theorem mlL_61 : Cond.methodLink RL 61 yX11_cut ∈ ALLG := inT3 120 rfl rfl
set_option maxRecDepth 100000 in
theorem mlX11_134 : Cond.methodLink RX11 134 yX1_behind ∈ ALLG := inT3 124 rfl rfl
set_option maxRecDepth 100000 in
theorem mlX11_138 : Cond.methodLink RX11 138 yX1_first ∈ ALLG := inT3 127 rfl rfl
set_option maxRecDepth 100000 in
theorem mlL_66 : Cond.methodLink RL 66 yX11_word ∈ ALLG := inT3 130 rfl rfl
set_option maxRecDepth 100000 in
theorem kwX11_141 : Cond.constant RX11 141 (1000000) ∈ ALLG := inT3 134 rfl rfl
set_option maxRecDepth 100000 in
theorem mlX11_142 : Cond.methodLink RX11 142 yX1_kth ∈ ALLG := inT3 135 rfl rfl
set_option maxRecDepth 100000 in
theorem mlX1_21 : Cond.methodLink RX1 21 yX1_numbered ∈ ALLG := inT3 138 rfl rfl
set_option maxRecDepth 100000 in
theorem mlL_70 : Cond.methodLink RL 70 yX11_prices ∈ ALLG := inT3 141 rfl rfl
set_option maxRecDepth 100000 in
theorem mlX11_150 : Cond.methodLink RX11 150 yX0_charge ∈ ALLG := inT3 145 rfl rfl
set_option maxRecDepth 100000 in
theorem mlL_75 : Cond.methodLink RL 75 yX11_method ∈ ALLG := inT3 149 rfl rfl
set_option maxRecDepth 100000 in
theorem mlL_79 : Cond.methodLink RL 79 yX11_asks ∈ ALLG := inT3 153 rfl rfl
set_option maxRecDepth 100000 in
theorem mlX11_156 : Cond.methodLink RX11 156 yX0_ask ∈ ALLG := inT3 157 rfl rfl
set_option maxRecDepth 100000 in
theorem mlL_83 : Cond.methodLink RL 83 yX11_known ∈ ALLG := inT3 158 rfl rfl
set_option maxRecDepth 100000 in
theorem mlX11_163 : Cond.methodLink RX11 163 yX10_has ∈ ALLG := inT3 162 rfl rfl
set_option maxRecDepth 100000 in
theorem mlX10_29 : Cond.methodLink RX10 29 yX10_at ∈ ALLG := inT3 166 rfl rfl
set_option maxRecDepth 100000 in
theorem mlL_87 : Cond.methodLink RL 87 yX11_step ∈ ALLG := inT3 170 rfl rfl
set_option maxRecDepth 100000 in
theorem mlX11_170 : Cond.methodLink RX11 170 yX3_hasGuess ∈ ALLG := inT3 174 rfl rfl
set_option maxRecDepth 100000 in
theorem smX3_hasGuess : Cond.sameMethod RX3 "AskingPupil$Notes" "hasGuess" "()Z" ∈ ALLG := inT3 176 rfl rfl
set_option maxRecDepth 100000 in
theorem suX6_X3_hasGuess : Cond.selects RX6 yX3_hasGuess yX3_hasGuess ∈ ALLG := inT3 177 rfl rfl
set_option maxRecDepth 100000 in
theorem suX8_X3_hasGuess : Cond.selects RX8 yX3_hasGuess yX3_hasGuess ∈ ALLG := inT3 178 rfl rfl
set_option maxRecDepth 100000 in
theorem mlX11_178 : Cond.methodLink RX11 178 ⟨"AskingPupil$Notes", "advance", "()I"⟩ ∈ ALLG := inT3 180 rfl rfl
set_option maxRecDepth 100000 in
theorem smX3_advance : Cond.sameMethod RX3 "AskingPupil$Notes" "advance" "()I" ∈ ALLG := inT3 182 rfl rfl
set_option maxRecDepth 100000 in
theorem suX6_X3_advance : Cond.selects RX6 ⟨"AskingPupil$Notes", "advance", "()I"⟩ yX6_advance ∈ ALLG := inT3 183 rfl rfl
set_option maxRecDepth 100000 in
theorem mlX6_34 : Cond.methodLink RX6 34 yX6_askAll ∈ ALLG := inT3 186 rfl rfl
set_option maxRecDepth 100000 in
theorem mlX6_124 : Cond.methodLink RX6 124 yX6_rowWord ∈ ALLG := inT3 190 rfl rfl
set_option maxRecDepth 100000 in
theorem mlX6_132 : Cond.methodLink RX6 132 yX9_get ∈ ALLG := inT3 194 rfl rfl
set_option maxRecDepth 100000 in
theorem kwX9_19 : Cond.constantLong RX9 19 (-1) ∈ ALLG := inT3 198 rfl rfl
set_option maxRecDepth 100000 in
theorem mlX6_151 : Cond.methodLink RX6 151 yX1_then ∈ ALLG := inT3 199 rfl rfl
set_option maxRecDepth 100000 in
theorem mlX6_128 : Cond.methodLink RX6 128 yX6_firstUnfilled ∈ ALLG := inT3 200 rfl rfl
set_option maxRecDepth 100000 in
theorem mlX6_136 : Cond.methodLink RX6 136 yX1_join ∈ ALLG := inT3 204 rfl rfl
set_option maxRecDepth 100000 in
theorem mlX6_73 : Cond.methodLink RX6 73 yX0_ask ∈ ALLG := inT3 205 rfl rfl
set_option maxRecDepth 100000 in
theorem mlX6_38 : Cond.methodLink RX6 38 yX6_findLines ∈ ALLG := inT3 206 rfl rfl
set_option maxRecDepth 100000 in
theorem mlX6_154 : Cond.methodLink RX6 154 yJ7_fill_53178 ∈ ALLG := inT3 210 rfl rfl
set_option maxRecDepth 100000 in
theorem mlX6_160 : Cond.methodLink RX6 160 yX6_splitLines ∈ ALLG := inT3 211 rfl rfl
set_option maxRecDepth 100000 in
theorem mlX6_174 : Cond.methodLink RX6 174 yJ9_min_7cf53 ∈ ALLG := inT3 215 rfl rfl
set_option maxRecDepth 100000 in
theorem mlX6_180 : Cond.methodLink RX6 180 ⟨"java/lang/System", "arraycopy", "(Ljava/lang/Object;ILjava/lang/Object;II)V"⟩ ∈ ALLG := inT3 218 rfl rfl
set_option maxRecDepth 100000 in
theorem mlX6_163 : Cond.methodLink RX6 163 yX2_endFrom ∈ ALLG := inT3 221 rfl rfl
set_option maxRecDepth 100000 in
theorem mlX6_186 : Cond.methodLink RX6 186 yX2_outputOf ∈ ALLG := inT3 222 rfl rfl
set_option maxRecDepth 100000 in
theorem mlX6_189 : Cond.methodLink RX6 189 yX6_leastAlike ∈ ALLG := inT3 223 rfl rfl
set_option maxRecDepth 100000 in
theorem mlX6_167 : Cond.methodLink RX6 167 yX6_lineOf ∈ ALLG := inT3 227 rfl rfl
set_option maxRecDepth 100000 in
theorem mlX6_170 : Cond.methodLink RX6 170 yX6_setFirstHead ∈ ALLG := inT3 231 rfl rfl
set_option maxRecDepth 100000 in
theorem mlX6_41 : Cond.methodLink RX6 41 yX6_headComes ∈ ALLG := inT3 235 rfl rfl
set_option maxRecDepth 100000 in
theorem mlX6_205 : Cond.methodLink RX6 205 yX6_headBehind ∈ ALLG := inT3 239 rfl rfl
set_option maxRecDepth 100000 in
theorem mlX6_192 : Cond.methodLink RX6 192 yX6_endOf ∈ ALLG := inT4 3 rfl rfl
set_option maxRecDepth 100000 in
theorem mlX6_198 : Cond.methodLink RX6 198 yX2_nextOf ∈ ALLG := inT4 7 rfl rfl
set_option maxRecDepth 100000 in
theorem mlX6_195 : Cond.methodLink RX6 195 yX6_headLike ∈ ALLG := inT4 8 rfl rfl
set_option maxRecDepth 100000 in
theorem mlX6_99 : Cond.methodLink RX6 99 yX9_add ∈ ALLG := inT4 12 rfl rfl
set_option maxRecDepth 100000 in
theorem mlX6_48 : Cond.methodLink RX6 48 yX6_tailComes ∈ ALLG := inT4 13 rfl rfl
set_option maxRecDepth 100000 in
theorem mlX6_208 : Cond.methodLink RX6 208 yX6_firstParting ∈ ALLG := inT4 17 rfl rfl
set_option maxRecDepth 100000 in
theorem mlX6_51 : Cond.methodLink RX6 51 yX6_joinStates ∈ ALLG := inT4 21 rfl rfl
set_option maxRecDepth 100000 in
theorem mlX6_201 : Cond.methodLink RX6 201 yX6_isFirstOfLine ∈ ALLG := inT4 25 rfl rfl
set_option maxRecDepth 100000 in
theorem mlX6_214 : Cond.methodLink RX6 214 yX9_indexOf ∈ ALLG := inT4 29 rfl rfl
set_option maxRecDepth 100000 in
theorem mlX6_220 : Cond.methodLink RX6 220 yX2_setNext ∈ ALLG := inT4 33 rfl rfl
set_option maxRecDepth 100000 in
theorem mlX6_54 : Cond.methodLink RX6 54 ⟨"AskingPupil$Table", "settle", "()V"⟩ ∈ ALLG := inT4 34 rfl rfl
set_option maxRecDepth 100000 in
theorem smX6_settle : Cond.sameMethod RX6 "AskingPupil$Notes" "settle" "()V" ∈ ALLG := inT4 35 rfl rfl
set_option maxRecDepth 100000 in
theorem suX6_X6_settle : Cond.selects RX6 ⟨"AskingPupil$Table", "settle", "()V"⟩ yX3_settle ∈ ALLG := inT4 37 rfl rfl
set_option maxRecDepth 100000 in
theorem mlX3_75 : Cond.methodLink RX3 75 yX9_get ∈ ALLG := inT4 40 rfl rfl
set_option maxRecDepth 100000 in
theorem mlX3_79 : Cond.methodLink RX3 79 yX0_ask ∈ ALLG := inT4 41 rfl rfl
set_option maxRecDepth 100000 in
theorem mlX3_83 : Cond.methodLink RX3 83 yX2_setOutput ∈ ALLG := inT4 42 rfl rfl
set_option maxRecDepth 100000 in
theorem suX8_X3_advance : Cond.selects RX8 ⟨"AskingPupil$Notes", "advance", "()I"⟩ yX8_advance ∈ ALLG := inT4 43 rfl rfl
set_option maxRecDepth 100000 in
theorem mlX8_54 : Cond.methodLink RX8 54 yX9_get ∈ ALLG := inT4 46 rfl rfl
set_option maxRecDepth 100000 in
theorem mlX8_58 : Cond.methodLink RX8 58 yX1_then ∈ ALLG := inT4 47 rfl rfl
set_option maxRecDepth 100000 in
theorem mlX8_64 : Cond.methodLink RX8 64 yX8_descend ∈ ALLG := inT4 48 rfl rfl
set_option maxRecDepth 100000 in
theorem mlX8_126 : Cond.methodLink RX8 126 yX1_join ∈ ALLG := inT4 52 rfl rfl
set_option maxRecDepth 100000 in
theorem mlX8_133 : Cond.methodLink RX8 133 yX8_linkAt ∈ ALLG := inT4 53 rfl rfl
set_option maxRecDepth 100000 in
theorem mlX8_70 : Cond.methodLink RX8 70 yX8_addLeaf ∈ ALLG := inT4 57 rfl rfl
set_option maxRecDepth 100000 in
theorem mlX8_84 : Cond.methodLink RX8 84 yX9_add ∈ ALLG := inT4 61 rfl rfl
set_option maxRecDepth 100000 in
theorem mlX8_77 : Cond.methodLink RX8 77 yX2_setNext ∈ ALLG := inT4 62 rfl rfl
set_option maxRecDepth 100000 in
theorem mlX8_88 : Cond.methodLink RX8 88 ⟨"AskingPupil$Tree", "settle", "()V"⟩ ∈ ALLG := inT4 63 rfl rfl
set_option maxRecDepth 100000 in
theorem smX8_settle : Cond.sameMethod RX8 "AskingPupil$Notes" "settle" "()V" ∈ ALLG := inT4 64 rfl rfl
set_option maxRecDepth 100000 in
theorem suX8_X8_settle : Cond.selects RX8 ⟨"AskingPupil$Tree", "settle", "()V"⟩ yX3_settle ∈ ALLG := inT4 65 rfl rfl
set_option maxRecDepth 100000 in
theorem mlX11_181 : Cond.methodLink RX11 181 yX11_clearNumbers ∈ ALLG := inT4 66 rfl rfl
set_option maxRecDepth 100000 in
theorem mlX11_184 : Cond.methodLink RX11 184 yX11_put ∈ ALLG := inT4 70 rfl rfl
set_option maxRecDepth 100000 in
theorem mlX11_191 : Cond.methodLink RX11 191 yX9_last ∈ ALLG := inT4 74 rfl rfl
set_option maxRecDepth 100000 in
theorem mlX9_21 : Cond.methodLink RX9 21 yX9_get ∈ ALLG := inT4 78 rfl rfl
set_option maxRecDepth 100000 in
theorem mlL_91 : Cond.methodLink RL 91 yX11_guess ∈ ALLG := inT4 79 rfl rfl
set_option maxRecDepth 100000 in
theorem mlL_95 : Cond.methodLink RL 95 yX11_tells ∈ ALLG := inT4 83 rfl rfl
set_option maxRecDepth 100000 in
theorem mlX11_204 : Cond.methodLink RX11 204 yX2_answer ∈ ALLG := inT4 87 rfl rfl
set_option maxRecDepth 100000 in
theorem mlX2_42 : Cond.methodLink RX2 42 yX2_endFrom ∈ ALLG := inT4 91 rfl rfl
set_option maxRecDepth 100000 in
theorem mlX11_207 : Cond.methodLink RX11 207 ⟨"AskingPupil$Notes", "lesson", "(J)I"⟩ ∈ ALLG := inT4 92 rfl rfl
set_option maxRecDepth 100000 in
theorem smX3_lesson : Cond.sameMethod RX3 "AskingPupil$Notes" "lesson" "(J)I" ∈ ALLG := inT4 94 rfl rfl
set_option maxRecDepth 100000 in
theorem suX6_X3_lesson : Cond.selects RX6 ⟨"AskingPupil$Notes", "lesson", "(J)I"⟩ yX6_lesson ∈ ALLG := inT4 95 rfl rfl
set_option maxRecDepth 100000 in
theorem mlX6_82 : Cond.methodLink RX6 82 yX6_noteBeginnings ∈ ALLG := inT4 98 rfl rfl
set_option maxRecDepth 100000 in
theorem mlX6_105 : Cond.methodLink RX6 105 yX1_length ∈ ALLG := inT4 102 rfl rfl
set_option maxRecDepth 100000 in
theorem mlX6_108 : Cond.methodLink RX6 108 yX1_first ∈ ALLG := inT4 103 rfl rfl
set_option maxRecDepth 100000 in
theorem mlX6_111 : Cond.methodLink RX6 111 yX9_has ∈ ALLG := inT4 104 rfl rfl
set_option maxRecDepth 100000 in
theorem mlX9_25 : Cond.methodLink RX9 25 yX9_indexOf ∈ ALLG := inT4 108 rfl rfl
set_option maxRecDepth 100000 in
theorem mlX6_86 : Cond.methodLink RX6 86 yX6_noteEnds ∈ ALLG := inT4 109 rfl rfl
set_option maxRecDepth 100000 in
theorem mlX6_93 : Cond.methodLink RX6 93 yX1_behind ∈ ALLG := inT4 113 rfl rfl
set_option maxRecDepth 100000 in
theorem mlX6_89 : Cond.methodLink RX6 89 ⟨"AskingPupil$Table", "partingAt", "(JI)I"⟩ ∈ ALLG := inT4 114 rfl rfl
set_option maxRecDepth 100000 in
theorem smX6_partingAt : Cond.sameMethod RX6 "AskingPupil$Notes" "partingAt" "(JI)I" ∈ ALLG := inT4 115 rfl rfl
set_option maxRecDepth 100000 in
theorem suX6_X6_partingAt : Cond.selects RX6 ⟨"AskingPupil$Table", "partingAt", "(JI)I"⟩ yX3_partingAt ∈ ALLG := inT4 117 rfl rfl
set_option maxRecDepth 100000 in
theorem mlX3_90 : Cond.methodLink RX3 90 yX1_length ∈ ALLG := inT4 120 rfl rfl
set_option maxRecDepth 100000 in
theorem mlX3_95 : Cond.methodLink RX3 95 yX1_first ∈ ALLG := inT4 121 rfl rfl
set_option maxRecDepth 100000 in
theorem mlX3_99 : Cond.methodLink RX3 99 yX3_accessBy ∈ ALLG := inT4 122 rfl rfl
set_option maxRecDepth 100000 in
theorem smX3_accessBy : Cond.sameMethod RX3 "AskingPupil$Notes" "accessBy" "(J)J" ∈ ALLG := inT4 124 rfl rfl
set_option maxRecDepth 100000 in
theorem suX6_X3_accessBy : Cond.selects RX6 yX3_accessBy yX3_accessBy ∈ ALLG := inT4 125 rfl rfl
set_option maxRecDepth 100000 in
theorem suX8_X3_accessBy : Cond.selects RX8 yX3_accessBy yX3_accessBy ∈ ALLG := inT4 126 rfl rfl
set_option maxRecDepth 100000 in
theorem mlX3_86 : Cond.methodLink RX3 86 yX2_endFrom ∈ ALLG := inT4 128 rfl rfl
set_option maxRecDepth 100000 in
theorem mlX3_103 : Cond.methodLink RX3 103 yX1_behind ∈ ALLG := inT4 129 rfl rfl
set_option maxRecDepth 100000 in
theorem mlX3_106 : Cond.methodLink RX3 106 yX1_join ∈ ALLG := inT4 130 rfl rfl
set_option maxRecDepth 100000 in
theorem mlX6_102 : Cond.methodLink RX6 102 ⟨"AskingPupil$Table", "dropGuess", "()V"⟩ ∈ ALLG := inT4 131 rfl rfl
set_option maxRecDepth 100000 in
theorem smX6_dropGuess : Cond.sameMethod RX6 "AskingPupil$Notes" "dropGuess" "()V" ∈ ALLG := inT4 132 rfl rfl
set_option maxRecDepth 100000 in
theorem suX6_X6_dropGuess : Cond.selects RX6 ⟨"AskingPupil$Table", "dropGuess", "()V"⟩ yX3_dropGuess ∈ ALLG := inT4 134 rfl rfl
set_option maxRecDepth 100000 in
theorem suX8_X3_lesson : Cond.selects RX8 ⟨"AskingPupil$Notes", "lesson", "(J)I"⟩ yX8_lesson ∈ ALLG := inT4 135 rfl rfl
set_option maxRecDepth 100000 in
theorem mlX8_92 : Cond.methodLink RX8 92 ⟨"AskingPupil$Tree", "partingAt", "(JI)I"⟩ ∈ ALLG := inT4 138 rfl rfl
set_option maxRecDepth 100000 in
theorem smX8_partingAt : Cond.sameMethod RX8 "AskingPupil$Notes" "partingAt" "(JI)I" ∈ ALLG := inT4 139 rfl rfl
set_option maxRecDepth 100000 in
theorem suX8_X8_partingAt : Cond.selects RX8 ⟨"AskingPupil$Tree", "partingAt", "(JI)I"⟩ yX3_partingAt ∈ ALLG := inT4 140 rfl rfl
set_option maxRecDepth 100000 in
theorem mlX8_96 : Cond.methodLink RX8 96 yX1_behind ∈ ALLG := inT4 141 rfl rfl
set_option maxRecDepth 100000 in
theorem mlX8_99 : Cond.methodLink RX8 99 yX1_first ∈ ALLG := inT4 142 rfl rfl
set_option maxRecDepth 100000 in
theorem mlX8_102 : Cond.methodLink RX8 102 yX2_endFrom ∈ ALLG := inT4 143 rfl rfl
set_option maxRecDepth 100000 in
theorem mlX8_106 : Cond.methodLink RX8 106 ⟨"AskingPupil$Tree", "accessBy", "(J)J"⟩ ∈ ALLG := inT4 144 rfl rfl
set_option maxRecDepth 100000 in
theorem smX8_accessBy : Cond.sameMethod RX8 "AskingPupil$Notes" "accessBy" "(J)J" ∈ ALLG := inT4 145 rfl rfl
set_option maxRecDepth 100000 in
theorem suX8_X8_accessBy : Cond.selects RX8 ⟨"AskingPupil$Tree", "accessBy", "(J)J"⟩ yX3_accessBy ∈ ALLG := inT4 147 rfl rfl
set_option maxRecDepth 100000 in
theorem mlX8_110 : Cond.methodLink RX8 110 yX1_at ∈ ALLG := inT4 148 rfl rfl
set_option maxRecDepth 100000 in
theorem mlX8_116 : Cond.methodLink RX8 116 ⟨"AskingPupil$Tree", "dropGuess", "()V"⟩ ∈ ALLG := inT4 149 rfl rfl
set_option maxRecDepth 100000 in
theorem smX8_dropGuess : Cond.sameMethod RX8 "AskingPupil$Notes" "dropGuess" "()V" ∈ ALLG := inT4 150 rfl rfl
set_option maxRecDepth 100000 in
theorem suX8_X8_dropGuess : Cond.selects RX8 ⟨"AskingPupil$Tree", "dropGuess", "()V"⟩ yX3_dropGuess ∈ ALLG := inT4 151 rfl rfl
set_option maxRecDepth 100000 in
theorem mlX8_119 : Cond.methodLink RX8 119 yX8_putKnot ∈ ALLG := inT4 152 rfl rfl
set_option maxRecDepth 100000 in
theorem mlL_99 : Cond.methodLink RL 99 yX11_learns ∈ ALLG := inT4 156 rfl rfl
set_option maxRecDepth 100000 in
theorem mlX11_210 : Cond.methodLink RX11 210 yX4_learn ∈ ALLG := inT4 160 rfl rfl
set_option maxRecDepth 100000 in
theorem mlX4_60 : Cond.methodLink RX4 60 yX3_hasGuess ∈ ALLG := inT4 164 rfl rfl
set_option maxRecDepth 100000 in
theorem mlX4_71 : Cond.methodLink RX4 71 yX5_firstUnlike ∈ ALLG := inT4 165 rfl rfl
set_option maxRecDepth 100000 in
theorem mlX4_77 : Cond.methodLink RX4 77 ⟨"AskingPupil$Notes", "lesson", "(J)I"⟩ ∈ ALLG := inT4 166 rfl rfl
set_option maxRecDepth 100000 in
theorem mlX4_81 : Cond.methodLink RX4 81 ⟨"AskingPupil$Notes", "advance", "()I"⟩ ∈ ALLG := inT4 167 rfl rfl
set_option maxRecDepth 100000 in
theorem mlL_103 : Cond.methodLink RL 103 yX11_head ∈ ALLG := inT4 168 rfl rfl
set_option maxRecDepth 100000 in
theorem mlX11_220 : Cond.methodLink RX11 220 yX9_get ∈ ALLG := inT4 172 rfl rfl
set_option maxRecDepth 100000 in
theorem mlL_107 : Cond.methodLink RL 107 yX11_tail ∈ ALLG := inT4 173 rfl rfl
set_option maxRecDepth 100000 in
theorem mlL_111 : Cond.methodLink RL 111 yX11_cell ∈ ALLG := inT4 177 rfl rfl
set_option maxRecDepth 100000 in
theorem mlX11_224 : Cond.methodLink RX11 224 yX1_then ∈ ALLG := inT4 181 rfl rfl
set_option maxRecDepth 100000 in
theorem mlL_116 : Cond.methodLink RL 116 yX11_lines ∈ ALLG := inT4 182 rfl rfl
set_option maxRecDepth 100000 in
theorem mlX11_231 : Cond.methodLink RX11 231 yX6_isFull ∈ ALLG := inT4 186 rfl rfl
set_option maxRecDepth 100000 in
theorem mlX6_140 : Cond.methodLink RX6 140 yX6_isAsked ∈ ALLG := inT4 190 rfl rfl
set_option maxRecDepth 100000 in
theorem mlX6_148 : Cond.methodLink RX6 148 yX10_has ∈ ALLG := inT4 194 rfl rfl
set_option maxRecDepth 100000 in
theorem mlX11_236 : Cond.methodLink RX11 236 yX6_findLines ∈ ALLG := inT4 195 rfl rfl
set_option maxRecDepth 100000 in
theorem mlX11_239 : Cond.methodLink RX11 239 yX6_unlikeLines ∈ ALLG := inT4 196 rfl rfl
set_option maxRecDepth 100000 in
theorem mlX11_243 : Cond.methodLink RX11 243 yX6_openWords ∈ ALLG := inT4 200 rfl rfl
set_option maxRecDepth 100000 in
theorem mlL_120 : Cond.methodLink RL 120 yX11_knot ∈ ALLG := inT4 204 rfl rfl
set_option maxRecDepth 100000 in
theorem mlX11_250 : Cond.methodLink RX11 250 yX8_linkAt ∈ ALLG := inT4 208 rfl rfl
set_option maxRecDepth 100000 in
theorem mlL_124 : Cond.methodLink RL 124 yX11_sift ∈ ALLG := inT4 209 rfl rfl
set_option maxRecDepth 100000 in
theorem mlX11_255 : Cond.methodLink RX11 255 yX8_descend ∈ ALLG := inT4 213 rfl rfl
set_option maxRecDepth 100000 in
theorem mlL_128 : Cond.methodLink RL 128 yX11_guessed ∈ ALLG := inT4 214 rfl rfl
set_option maxRecDepth 100000 in
theorem mlX11_261 : Cond.methodLink RX11 261 yX11_refuseGuessed ∈ ALLG := inT4 218 rfl rfl
set_option maxRecDepth 100000 in
theorem mlL_132 : Cond.methodLink RL 132 yX11_access ∈ ALLG := inT4 222 rfl rfl
set_option maxRecDepth 100000 in
theorem mlL_136 : Cond.methodLink RL 136 yX11_reads ∈ ALLG := inT4 226 rfl rfl
set_option maxRecDepth 100000 in
theorem mlX11_267 : Cond.methodLink RX11 267 yX2_outputOf ∈ ALLG := inT4 230 rfl rfl
set_option maxRecDepth 100000 in
theorem mlL_140 : Cond.methodLink RL 140 yX11_errs ∈ ALLG := inT4 231 rfl rfl
set_option maxRecDepth 100000 in
theorem mlX11_270 : Cond.methodLink RX11 270 yX5_firstUnlike ∈ ALLG := inT4 235 rfl rfl
set_option maxRecDepth 100000 in
theorem kwX11_274 : Cond.constantLong RX11 274 (-2) ∈ ALLG := inT4 236 rfl rfl
set_option maxRecDepth 100000 in
theorem mlL_145 : Cond.methodLink RL 145 yX11_wrong ∈ ALLG := inT4 237 rfl rfl
set_option maxRecDepth 100000 in
theorem mlX11_276 : Cond.methodLink RX11 276 yX5_countUnlike ∈ ALLG := inT5 1 rfl rfl
set_option maxRecDepth 100000 in
theorem mlX5_71 : Cond.methodLink RX5 71 yX5_unlikeWays ∈ ALLG := inT5 5 rfl rfl
set_option maxRecDepth 100000 in
theorem mlX5_75 : Cond.methodLink RX5 75 yX5_goOn ∈ ALLG := inT5 9 rfl rfl
set_option maxRecDepth 100000 in
theorem mlX5_79 : Cond.methodLink RX5 79 yJ7_fill_53178 ∈ ALLG := inT5 13 rfl rfl
set_option maxRecDepth 100000 in
theorem mlX11_280 : Cond.methodLink RX11 280 yX1_countUpTo ∈ ALLG := inT5 14 rfl rfl
set_option maxRecDepth 100000 in
theorem mlL_149 : Cond.methodLink RL 149 yX11_tests ∈ ALLG := inT5 17 rfl rfl
set_option maxRecDepth 100000 in
theorem mlX11_283 : Cond.methodLink RX11 283 yX11_gatherTrials ∈ ALLG := inT5 21 rfl rfl
set_option maxRecDepth 100000 in
theorem mlX11_331 : Cond.methodLink RX11 331 yX11_gatherPartings ∈ ALLG := inT5 25 rfl rfl
set_option maxRecDepth 100000 in
theorem mlX11_346 : Cond.methodLink RX11 346 yX9_clear ∈ ALLG := inT5 29 rfl rfl
set_option maxRecDepth 100000 in
theorem mlX11_347 : Cond.methodLink RX11 347 yX9_has ∈ ALLG := inT5 30 rfl rfl
set_option maxRecDepth 100000 in
theorem mlX11_348 : Cond.methodLink RX11 348 yX9_add ∈ ALLG := inT5 31 rfl rfl
set_option maxRecDepth 100000 in
theorem mlX11_334 : Cond.methodLink RX11 334 yX10_clear ∈ ALLG := inT5 32 rfl rfl
set_option maxRecDepth 100000 in
theorem mlX11_337 : Cond.methodLink RX11 337 yX11_addTrials ∈ ALLG := inT5 33 rfl rfl
set_option maxRecDepth 100000 in
theorem mlX11_340 : Cond.methodLink RX11 340 yX10_makeRoom ∈ ALLG := inT5 37 rfl rfl
set_option maxRecDepth 100000 in
theorem mlX11_343 : Cond.methodLink RX11 343 yX10_add ∈ ALLG := inT5 38 rfl rfl
set_option maxRecDepth 100000 in
theorem mlX11_286 : Cond.methodLink RX11 286 yX10_places ∈ ALLG := inT5 39 rfl rfl
set_option maxRecDepth 100000 in
theorem mlX11_289 : Cond.methodLink RX11 289 yX10_at ∈ ALLG := inT5 43 rfl rfl
set_option maxRecDepth 100000 in
theorem mlX11_291 : Cond.methodLink RX11 291 yX1_length ∈ ALLG := inT5 44 rfl rfl
set_option maxRecDepth 100000 in
theorem mlX11_294 : Cond.methodLink RX11 294 yJ9_max_7cf53 ∈ ALLG := inT5 45 rfl rfl
set_option maxRecDepth 100000 in
theorem mlL_153 : Cond.methodLink RL 153 yX11_passes ∈ ALLG := inT5 48 rfl rfl
set_option maxRecDepth 100000 in
theorem mlL_157 : Cond.methodLink RL 157 yX11_parted ∈ ALLG := inT5 52 rfl rfl
set_option maxRecDepth 100000 in
theorem mlL_162 : Cond.methodLink RL 162 yX11_like ∈ ALLG := inT5 56 rfl rfl
set_option maxRecDepth 100000 in
theorem mlL_166 : Cond.methodLink RL 166 yX11_least ∈ ALLG := inT5 60 rfl rfl
set_option maxRecDepth 100000 in
theorem mlX11_299 : Cond.methodLink RX11 299 yX11_putGroups ∈ ALLG := inT5 64 rfl rfl
set_option maxRecDepth 100000 in
theorem mlL_170 : Cond.methodLink RL 170 yX11_reach ∈ ALLG := inT5 68 rfl rfl
set_option maxRecDepth 100000 in
theorem mlL_174 : Cond.methodLink RL 174 yX11_groups ∈ ALLG := inT5 72 rfl rfl
set_option maxRecDepth 100000 in
theorem mlL_178 : Cond.methodLink RL 178 yX11_costs ∈ ALLG := inT5 76 rfl rfl
set_option maxRecDepth 100000 in
theorem mlL_182 : Cond.methodLink RL 182 yX11_cheapest ∈ ALLG := inT5 80 rfl rfl
set_option maxRecDepth 100000 in
theorem mlL_186 : Cond.methodLink RL 186 yX11_count ∈ ALLG := inT5 84 rfl rfl
set_option maxRecDepth 100000 in
theorem mlL_190 : Cond.methodLink RL 190 yL_row ∈ ALLG := inT5 88 rfl rfl
set_option maxRecDepth 100000 in
theorem cwL_13 : Cond.classLink RL 13 "java/util/NoSuchElementException" ∈ ALLG := inT5 91 rfl rfl
set_option maxRecDepth 100000 in
theorem mlL_7 : Cond.methodLink RL 7 yX11_row ∈ ALLG := inT5 92 rfl rfl
set_option maxRecDepth 100000 in
theorem cwX11_325 : Cond.classLink RX11 325 "java/util/NoSuchElementException" ∈ ALLG := inT5 96 rfl rfl
set_option maxRecDepth 100000 in
theorem mlX11_327 : Cond.methodLink RX11 327 ⟨"java/util/NoSuchElementException", "<init>", "()V"⟩ ∈ ALLG := inT5 135 rfl rfl
set_option maxRecDepth 100000 in
theorem mlL_196 : Cond.methodLink RL 196 yX12_thrown ∈ ALLG := inT5 157 rfl rfl
set_option maxRecDepth 100000 in
theorem mlL_50 : Cond.methodLink RL 50 yX12_run ∈ ALLG := inT5 161 rfl rfl
set_option maxRecDepth 100000 in
theorem mlX12_55 : Cond.methodLink RX12 55 yX12_isWord ∈ ALLG := inT5 165 rfl rfl
set_option maxRecDepth 100000 in
theorem kwX12_28 : Cond.constantLong RX12 28 (3) ∈ ALLG := inT5 170 rfl rfl
set_option maxRecDepth 100000 in
theorem mlX12_47 : Cond.methodLink RX12 47 yX12_endFrom ∈ ALLG := inT5 171 rfl rfl
set_option maxRecDepth 100000 in
theorem mlX12_33 : Cond.methodLink RX12 33 yX12_lengthOf ∈ ALLG := inT5 175 rfl rfl
set_option maxRecDepth 100000 in
theorem mlX12_39 : Cond.methodLink RX12 39 yX12_letterOf ∈ ALLG := inT5 178 rfl rfl
set_option maxRecDepth 100000 in
theorem mlX12_43 : Cond.methodLink RX12 43 yX12_comes ∈ ALLG := inT5 181 rfl rfl
set_option maxRecDepth 100000 in
theorem mlL_55 : Cond.methodLink RL 55 yX12_joins ∈ ALLG := inT5 185 rfl rfl
set_option maxRecDepth 100000 in
theorem kwX12_59 : Cond.constantLong RX12 59 (-1) ∈ ALLG := inT5 189 rfl rfl
set_option maxRecDepth 100000 in
theorem mlX12_61 : Cond.methodLink RX12 61 yX12_both ∈ ALLG := inT5 190 rfl rfl
set_option maxRecDepth 100000 in
theorem mlL_60 : Cond.methodLink RL 60 yX12_letter ∈ ALLG := inT5 193 rfl rfl
set_option maxRecDepth 100000 in
theorem mlX12_24 : Cond.methodLink RX12 24 yX12_in ∈ ALLG := inT5 197 rfl rfl
set_option maxRecDepth 100000 in
theorem mlL_65 : Cond.methodLink RL 65 yX12_cut ∈ ALLG := inT5 200 rfl rfl
set_option maxRecDepth 100000 in
theorem mlX12_65 : Cond.methodLink RX12 65 yJ9_abs_067f4 ∈ ALLG := inT5 204 rfl rfl
set_option maxRecDepth 100000 in
theorem mlX12_71 : Cond.methodLink RX12 71 yX12_firstOf ∈ ALLG := inT5 207 rfl rfl
set_option maxRecDepth 100000 in
theorem mlX12_75 : Cond.methodLink RX12 75 yX12_behind ∈ ALLG := inT5 210 rfl rfl
set_option maxRecDepth 100000 in
theorem mlL_69 : Cond.methodLink RL 69 yX12_word ∈ ALLG := inT5 213 rfl rfl
set_option maxRecDepth 100000 in
theorem kwX12_78 : Cond.constantLong RX12 78 (1000000) ∈ ALLG := inT5 217 rfl rfl
set_option maxRecDepth 100000 in
theorem mlX12_80 : Cond.methodLink RX12 80 yX12_longer ∈ ALLG := inT5 218 rfl rfl
set_option maxRecDepth 100000 in
theorem kwX12_37 : Cond.constantLong RX12 37 (4) ∈ ALLG := inT5 221 rfl rfl
set_option maxRecDepth 100000 in
theorem cwL_16 : Cond.classLink RL 16 RX12 ∈ ALLG := inT5 222 rfl rfl
set_option maxRecDepth 100000 in
theorem mlL_18 : Cond.methodLink RL 18 yX12_init ∈ ALLG := inT5 223 rfl rfl
set_option maxRecDepth 100000 in
theorem mlX12_83 : Cond.methodLink RX12 83 Lib.objectInit ∈ ALLG := inT5 226 rfl rfl
set_option maxRecDepth 100000 in
theorem kwX12_113 : Cond.constant RX12 113 (32768) ∈ ALLG := inT5 227 rfl rfl
set_option maxRecDepth 100000 in
theorem mlX12_175 : Cond.methodLink RX12 175 yX12_fresh ∈ ALLG := inT5 228 rfl rfl
set_option maxRecDepth 100000 in
theorem mlX12_188 : Cond.methodLink RX12 188 yX12_headComes ∈ ALLG := inT5 232 rfl rfl
set_option maxRecDepth 100000 in
theorem mlX12_192 : Cond.methodLink RX12 192 yX12_tailComes ∈ ALLG := inT5 236 rfl rfl
set_option maxRecDepth 100000 in
theorem mlX12_195 : Cond.methodLink RX12 195 yX12_ask ∈ ALLG := inT6 0 rfl rfl
set_option maxRecDepth 100000 in
theorem mlX12_181 : Cond.methodLink RX12 181 yX12_slotOf ∈ ALLG := inT6 4 rfl rfl
set_option maxRecDepth 100000 in
theorem kwX12_179 : Cond.constantLong RX12 179 (-7046029254386353131) ∈ ALLG := inT6 8 rfl rfl
set_option maxRecDepth 100000 in
theorem mlX12_185 : Cond.methodLink RX12 185 yX12_answer ∈ ALLG := inT6 9 rfl rfl
set_option maxRecDepth 100000 in
theorem mlX12_51 : Cond.methodLink RX12 51 yX12_shown ∈ ALLG := inT6 13 rfl rfl
set_option maxRecDepth 100000 in
theorem flX12_1 : FL RX12 1 10 0 := ⟨by decide, by decide, "AskingPupilModel", inT6 17 rfl rfl, Or.inl rfl⟩
set_option maxRecDepth 100000 in
theorem flX12_11 : FL RX12 11 10 1 := ⟨by decide, by decide, "AskingPupilModel", inT6 18 rfl rfl, Or.inl rfl⟩
set_option maxRecDepth 100000 in
theorem flX12_7 : FL RX12 7 10 2 := ⟨by decide, by decide, "AskingPupilModel", inT6 19 rfl rfl, Or.inl rfl⟩
set_option maxRecDepth 100000 in
theorem flX12_30 : FL RX12 30 10 3 := ⟨by decide, by decide, "AskingPupilModel", inT6 20 rfl rfl, Or.inl rfl⟩
set_option maxRecDepth 100000 in
theorem flX12_21 : FL RX12 21 10 4 := ⟨by decide, by decide, "AskingPupilModel", inT6 21 rfl rfl, Or.inl rfl⟩
set_option maxRecDepth 100000 in
theorem flX12_14 : FL RX12 14 10 5 := ⟨by decide, by decide, "AskingPupilModel", inT6 22 rfl rfl, Or.inl rfl⟩
set_option maxRecDepth 100000 in
theorem flX12_18 : FL RX12 18 10 6 := ⟨by decide, by decide, "AskingPupilModel", inT6 23 rfl rfl, Or.inl rfl⟩
set_option maxRecDepth 100000 in
theorem flX12_314 : FL RX12 314 10 7 := ⟨by decide, by decide, "AskingPupilModel", inT6 24 rfl rfl, Or.inl rfl⟩
set_option maxRecDepth 100000 in
theorem flX12_89 : FL RX12 89 10 8 := ⟨by decide, by decide, "AskingPupilModel", inT6 25 rfl rfl, Or.inl rfl⟩
set_option maxRecDepth 100000 in
theorem flX12_92 : FL RX12 92 10 9 := ⟨by decide, by decide, "AskingPupilModel", inT6 26 rfl rfl, Or.inl rfl⟩
set_option maxRecDepth 100000 in
theorem flX12_95 : FL RX12 95 10 10 := ⟨by decide, by decide, "AskingPupilModel", inT6 27 rfl rfl, Or.inl rfl⟩
set_option maxRecDepth 100000 in
theorem flX12_98 : FL RX12 98 10 11 := ⟨by decide, by decide, "AskingPupilModel", inT6 28 rfl rfl, Or.inl rfl⟩
set_option maxRecDepth 100000 in
theorem flX12_101 : FL RX12 101 10 12 := ⟨by decide, by decide, "AskingPupilModel", inT6 29 rfl rfl, Or.inl rfl⟩
set_option maxRecDepth 100000 in
theorem flX12_104 : FL RX12 104 10 13 := ⟨by decide, by decide, "AskingPupilModel", inT6 30 rfl rfl, Or.inl rfl⟩
set_option maxRecDepth 100000 in
theorem flX12_107 : FL RX12 107 10 14 := ⟨by decide, by decide, "AskingPupilModel", inT6 31 rfl rfl, Or.inl rfl⟩
set_option maxRecDepth 100000 in
theorem flX12_110 : FL RX12 110 10 15 := ⟨by decide, by decide, "AskingPupilModel", inT6 32 rfl rfl, Or.inl rfl⟩
set_option maxRecDepth 100000 in
theorem flX12_114 : FL RX12 114 10 16 := ⟨by decide, by decide, "AskingPupilModel", inT6 33 rfl rfl, Or.inl rfl⟩
set_option maxRecDepth 100000 in
theorem flX12_117 : FL RX12 117 10 17 := ⟨by decide, by decide, "AskingPupilModel", inT6 34 rfl rfl, Or.inl rfl⟩
set_option maxRecDepth 100000 in
theorem flX12_120 : FL RX12 120 10 18 := ⟨by decide, by decide, "AskingPupilModel", inT6 35 rfl rfl, Or.inl rfl⟩
set_option maxRecDepth 100000 in
theorem flX12_123 : FL RX12 123 10 19 := ⟨by decide, by decide, "AskingPupilModel", inT6 36 rfl rfl, Or.inl rfl⟩
set_option maxRecDepth 100000 in
theorem flX12_126 : FL RX12 126 10 20 := ⟨by decide, by decide, "AskingPupilModel", inT6 37 rfl rfl, Or.inl rfl⟩
set_option maxRecDepth 100000 in
theorem flX12_130 : FL RX12 130 10 21 := ⟨by decide, by decide, "AskingPupilModel", inT6 38 rfl rfl, Or.inl rfl⟩
set_option maxRecDepth 100000 in
theorem flX12_133 : FL RX12 133 10 22 := ⟨by decide, by decide, "AskingPupilModel", inT6 39 rfl rfl, Or.inl rfl⟩
set_option maxRecDepth 100000 in
theorem flX12_212 : FL RX12 212 10 23 := ⟨by decide, by decide, "AskingPupilModel", inT6 40 rfl rfl, Or.inl rfl⟩
set_option maxRecDepth 100000 in
theorem flX12_222 : FL RX12 222 10 24 := ⟨by decide, by decide, "AskingPupilModel", inT6 41 rfl rfl, Or.inl rfl⟩
set_option maxRecDepth 100000 in
theorem flX12_225 : FL RX12 225 10 25 := ⟨by decide, by decide, "AskingPupilModel", inT6 42 rfl rfl, Or.inl rfl⟩
set_option maxRecDepth 100000 in
theorem flX12_136 : FL RX12 136 10 26 := ⟨by decide, by decide, "AskingPupilModel", inT6 43 rfl rfl, Or.inl rfl⟩
set_option maxRecDepth 100000 in
theorem flX12_139 : FL RX12 139 10 27 := ⟨by decide, by decide, "AskingPupilModel", inT6 44 rfl rfl, Or.inl rfl⟩
set_option maxRecDepth 100000 in
theorem flX12_142 : FL RX12 142 10 28 := ⟨by decide, by decide, "AskingPupilModel", inT6 45 rfl rfl, Or.inl rfl⟩
set_option maxRecDepth 100000 in
theorem flX12_145 : FL RX12 145 10 29 := ⟨by decide, by decide, "AskingPupilModel", inT6 46 rfl rfl, Or.inl rfl⟩
set_option maxRecDepth 100000 in
theorem flX12_290 : FL RX12 290 10 30 := ⟨by decide, by decide, "AskingPupilModel", inT6 47 rfl rfl, Or.inl rfl⟩
set_option maxRecDepth 100000 in
theorem flX12_293 : FL RX12 293 10 31 := ⟨by decide, by decide, "AskingPupilModel", inT6 48 rfl rfl, Or.inl rfl⟩
set_option maxRecDepth 100000 in
theorem flX12_296 : FL RX12 296 10 32 := ⟨by decide, by decide, "AskingPupilModel", inT6 49 rfl rfl, Or.inl rfl⟩
set_option maxRecDepth 100000 in
theorem flX12_299 : FL RX12 299 10 33 := ⟨by decide, by decide, "AskingPupilModel", inT6 50 rfl rfl, Or.inl rfl⟩
set_option maxRecDepth 100000 in
theorem flX12_148 : FL RX12 148 10 34 := ⟨by decide, by decide, "AskingPupilModel", inT6 51 rfl rfl, Or.inl rfl⟩
set_option maxRecDepth 100000 in
theorem flX12_151 : FL RX12 151 10 35 := ⟨by decide, by decide, "AskingPupilModel", inT6 52 rfl rfl, Or.inl rfl⟩
set_option maxRecDepth 100000 in
theorem flX12_308 : FL RX12 308 10 36 := ⟨by decide, by decide, "AskingPupilModel", inT6 53 rfl rfl, Or.inl rfl⟩
set_option maxRecDepth 100000 in
theorem flX12_317 : FL RX12 317 10 37 := ⟨by decide, by decide, "AskingPupilModel", inT6 54 rfl rfl, Or.inl rfl⟩
set_option maxRecDepth 100000 in
theorem flX12_154 : FL RX12 154 10 38 := ⟨by decide, by decide, "AskingPupilModel", inT6 55 rfl rfl, Or.inl rfl⟩
set_option maxRecDepth 100000 in
theorem flX12_157 : FL RX12 157 10 39 := ⟨by decide, by decide, "AskingPupilModel", inT6 56 rfl rfl, Or.inl rfl⟩
set_option maxRecDepth 100000 in
theorem flX12_160 : FL RX12 160 10 40 := ⟨by decide, by decide, "AskingPupilModel", inT6 57 rfl rfl, Or.inl rfl⟩
set_option maxRecDepth 100000 in
theorem flX12_163 : FL RX12 163 10 41 := ⟨by decide, by decide, "AskingPupilModel", inT6 58 rfl rfl, Or.inl rfl⟩
set_option maxRecDepth 100000 in
theorem flX12_364 : FL RX12 364 10 42 := ⟨by decide, by decide, "AskingPupilModel", inT6 59 rfl rfl, Or.inl rfl⟩
set_option maxRecDepth 100000 in
theorem flX12_367 : FL RX12 367 10 43 := ⟨by decide, by decide, "AskingPupilModel", inT6 60 rfl rfl, Or.inl rfl⟩
set_option maxRecDepth 100000 in
theorem flX12_370 : FL RX12 370 10 44 := ⟨by decide, by decide, "AskingPupilModel", inT6 61 rfl rfl, Or.inl rfl⟩
set_option maxRecDepth 100000 in
theorem flX12_376 : FL RX12 376 10 45 := ⟨by decide, by decide, "AskingPupilModel", inT6 62 rfl rfl, Or.inl rfl⟩
set_option maxRecDepth 100000 in
theorem flX12_379 : FL RX12 379 10 46 := ⟨by decide, by decide, "AskingPupilModel", inT6 63 rfl rfl, Or.inl rfl⟩
set_option maxRecDepth 100000 in
theorem flX12_166 : FL RX12 166 10 47 := ⟨by decide, by decide, "AskingPupilModel", inT6 64 rfl rfl, Or.inl rfl⟩
set_option maxRecDepth 100000 in
theorem flX12_382 : FL RX12 382 10 48 := ⟨by decide, by decide, "AskingPupilModel", inT6 65 rfl rfl, Or.inl rfl⟩
set_option maxRecDepth 100000 in
theorem flX12_169 : FL RX12 169 10 49 := ⟨by decide, by decide, "AskingPupilModel", inT6 66 rfl rfl, Or.inl rfl⟩
set_option maxRecDepth 100000 in
theorem flX12_172 : FL RX12 172 10 50 := ⟨by decide, by decide, "AskingPupilModel", inT6 67 rfl rfl, Or.inl rfl⟩
set_option maxRecDepth 100000 in
theorem mlL_23 : Cond.methodLink RL 23 yX12_sign ∈ ALLG := inT6 172 rfl rfl
set_option maxRecDepth 100000 in
theorem mlL_28 : Cond.methodLink RL 28 yX12_end ∈ ALLG := inT6 176 rfl rfl
set_option maxRecDepth 100000 in
theorem mlL_33 : Cond.methodLink RL 33 yX12_machine ∈ ALLG := inT6 180 rfl rfl
set_option maxRecDepth 100000 in
theorem mlX12_311 : Cond.methodLink RX12 311 yX12_readsState ∈ ALLG := inT6 184 rfl rfl
set_option maxRecDepth 100000 in
theorem mlX12_302 : Cond.methodLink RX12 302 yX12_takesDigit ∈ ALLG := inT6 188 rfl rfl
set_option maxRecDepth 100000 in
theorem mlX12_305 : Cond.methodLink RX12 305 yX12_takes ∈ ALLG := inT6 192 rfl rfl
set_option maxRecDepth 100000 in
theorem mlL_38 : Cond.methodLink RL 38 yX12_draws ∈ ALLG := inT6 196 rfl rfl
set_option maxRecDepth 100000 in
theorem kwX12_321 : Cond.constantLong RX12 321 (8) ∈ ALLG := inT6 200 rfl rfl
set_option maxRecDepth 100000 in
theorem mlX12_323 : Cond.methodLink RX12 323 yX12_draw ∈ ALLG := inT6 201 rfl rfl
set_option maxRecDepth 100000 in
theorem kwX12_320 : Cond.constant RX12 320 (1103515245) ∈ ALLG := inT6 205 rfl rfl
set_option maxRecDepth 100000 in
theorem mlX12_326 : Cond.methodLink RX12 326 yX12_unlikeMany ∈ ALLG := inT6 206 rfl rfl
set_option maxRecDepth 100000 in
theorem mlX12_395 : Cond.methodLink RX12 395 yX12_laysReaching ∈ ALLG := inT6 210 rfl rfl
set_option maxRecDepth 100000 in
theorem mlX12_403 : Cond.methodLink RX12 403 yX12_leastLike ∈ ALLG := inT6 214 rfl rfl
set_option maxRecDepth 100000 in
theorem mlX12_276 : Cond.methodLink RX12 276 yX12_firstUnlike ∈ ALLG := inT6 218 rfl rfl
set_option maxRecDepth 100000 in
theorem mlX12_339 : Cond.methodLink RX12 339 yX12_flag ∈ ALLG := inT6 222 rfl rfl
set_option maxRecDepth 100000 in
theorem mlL_43 : Cond.methodLink RL 43 yX12_state ∈ ALLG := inT6 225 rfl rfl
set_option maxRecDepth 100000 in
theorem mlX12_330 : Cond.methodLink RX12 330 yX12_isState ∈ ALLG := inT6 229 rfl rfl
set_option maxRecDepth 100000 in
theorem mlL_74 : Cond.methodLink RL 74 yX12_prices ∈ ALLG := inT6 233 rfl rfl
set_option maxRecDepth 100000 in
theorem kwX12_334 : Cond.constantLong RX12 334 (99) ∈ ALLG := inT6 237 rfl rfl
set_option maxRecDepth 100000 in
theorem mlL_78 : Cond.methodLink RL 78 yX12_method ∈ ALLG := inT6 238 rfl rfl
set_option maxRecDepth 100000 in
theorem mlL_82 : Cond.methodLink RL 82 yX12_asks ∈ ALLG := inT7 2 rfl rfl
set_option maxRecDepth 100000 in
theorem mlL_86 : Cond.methodLink RL 86 yX12_known ∈ ALLG := inT7 6 rfl rfl
set_option maxRecDepth 100000 in
theorem mlX12_336 : Cond.methodLink RX12 336 yX12_wasAsked ∈ ALLG := inT7 10 rfl rfl
set_option maxRecDepth 100000 in
theorem mlL_90 : Cond.methodLink RL 90 yX12_step ∈ ALLG := inT7 14 rfl rfl
set_option maxRecDepth 100000 in
theorem mlX12_251 : Cond.methodLink RX12 251 yX12_steps ∈ ALLG := inT7 18 rfl rfl
set_option maxRecDepth 100000 in
theorem mlX12_231 : Cond.methodLink RX12 231 yX12_growsLeaf ∈ ALLG := inT7 22 rfl rfl
set_option maxRecDepth 100000 in
theorem mlX12_206 : Cond.methodLink RX12 206 yX12_headOf ∈ ALLG := inT7 26 rfl rfl
set_option maxRecDepth 100000 in
theorem mlX12_228 : Cond.methodLink RX12 228 yX12_sifts ∈ ALLG := inT7 30 rfl rfl
set_option maxRecDepth 100000 in
theorem mlX12_198 : Cond.methodLink RX12 198 yX12_tailOf ∈ ALLG := inT7 34 rfl rfl
set_option maxRecDepth 100000 in
theorem mlX12_235 : Cond.methodLink RX12 235 yX12_guessesByTree ∈ ALLG := inT7 38 rfl rfl
set_option maxRecDepth 100000 in
theorem mlX12_239 : Cond.methodLink RX12 239 yX12_asksAll ∈ ALLG := inT7 42 rfl rfl
set_option maxRecDepth 100000 in
theorem mlX12_242 : Cond.methodLink RX12 242 yX12_closes ∈ ALLG := inT7 46 rfl rfl
set_option maxRecDepth 100000 in
theorem mlX12_209 : Cond.methodLink RX12 209 yX12_headLike ∈ ALLG := inT7 50 rfl rfl
set_option maxRecDepth 100000 in
theorem mlX12_202 : Cond.methodLink RX12 202 yX12_areLike ∈ ALLG := inT7 54 rfl rfl
set_option maxRecDepth 100000 in
theorem mlX12_245 : Cond.methodLink RX12 245 yX12_agrees ∈ ALLG := inT7 58 rfl rfl
set_option maxRecDepth 100000 in
theorem mlX12_216 : Cond.methodLink RX12 216 yX12_parts ∈ ALLG := inT7 62 rfl rfl
set_option maxRecDepth 100000 in
theorem mlX12_248 : Cond.methodLink RX12 248 yX12_guessesByTable ∈ ALLG := inT7 66 rfl rfl
set_option maxRecDepth 100000 in
theorem mlX12_219 : Cond.methodLink RX12 219 yX12_stateOfHead ∈ ALLG := inT7 70 rfl rfl
set_option maxRecDepth 100000 in
theorem mlX12_343 : Cond.methodLink RX12 343 yX12_enters ∈ ALLG := inT7 74 rfl rfl
set_option maxRecDepth 100000 in
theorem mlL_94 : Cond.methodLink RL 94 yX12_guess ∈ ALLG := inT7 78 rfl rfl
set_option maxRecDepth 100000 in
theorem mlX12_280 : Cond.methodLink RX12 280 yX12_stepsTillGuess ∈ ALLG := inT7 82 rfl rfl
set_option maxRecDepth 100000 in
theorem mlL_98 : Cond.methodLink RL 98 yX12_tells ∈ ALLG := inT7 86 rfl rfl
set_option maxRecDepth 100000 in
theorem mlX12_287 : Cond.methodLink RX12 287 yX12_lesson ∈ ALLG := inT7 90 rfl rfl
set_option maxRecDepth 100000 in
theorem mlX12_261 : Cond.methodLink RX12 261 yX12_isHead ∈ ALLG := inT7 94 rfl rfl
set_option maxRecDepth 100000 in
theorem mlX12_265 : Cond.methodLink RX12 265 yX12_isTail ∈ ALLG := inT7 98 rfl rfl
set_option maxRecDepth 100000 in
theorem mlX12_268 : Cond.methodLink RX12 268 yX12_lowOf ∈ ALLG := inT7 102 rfl rfl
set_option maxRecDepth 100000 in
theorem mlX12_255 : Cond.methodLink RX12 255 yX12_endInGuess ∈ ALLG := inT7 106 rfl rfl
set_option maxRecDepth 100000 in
theorem mlX12_258 : Cond.methodLink RX12 258 yX12_accessOf ∈ ALLG := inT7 110 rfl rfl
set_option maxRecDepth 100000 in
theorem mlX12_272 : Cond.methodLink RX12 272 yX12_givesWay ∈ ALLG := inT7 114 rfl rfl
set_option maxRecDepth 100000 in
theorem mlL_102 : Cond.methodLink RL 102 yX12_learns ∈ ALLG := inT7 118 rfl rfl
set_option maxRecDepth 100000 in
theorem mlX12_347 : Cond.methodLink RX12 347 yX12_learnsAll ∈ ALLG := inT7 122 rfl rfl
set_option maxRecDepth 100000 in
theorem mlX12_283 : Cond.methodLink RX12 283 yX12_wrongFirst ∈ ALLG := inT7 126 rfl rfl
set_option maxRecDepth 100000 in
theorem mlL_106 : Cond.methodLink RL 106 yX12_head ∈ ALLG := inT7 130 rfl rfl
set_option maxRecDepth 100000 in
theorem mlL_110 : Cond.methodLink RL 110 yX12_tail ∈ ALLG := inT7 134 rfl rfl
set_option maxRecDepth 100000 in
theorem mlL_115 : Cond.methodLink RL 115 yX12_cell ∈ ALLG := inT7 138 rfl rfl
set_option maxRecDepth 100000 in
theorem mlL_119 : Cond.methodLink RL 119 yX12_lines ∈ ALLG := inT7 142 rfl rfl
set_option maxRecDepth 100000 in
theorem mlX12_350 : Cond.methodLink RX12 350 yX12_areAllAsked ∈ ALLG := inT7 146 rfl rfl
set_option maxRecDepth 100000 in
theorem mlL_123 : Cond.methodLink RL 123 yX12_knot ∈ ALLG := inT7 150 rfl rfl
set_option maxRecDepth 100000 in
theorem mlL_127 : Cond.methodLink RL 127 yX12_sift ∈ ALLG := inT7 154 rfl rfl
set_option maxRecDepth 100000 in
theorem mlL_131 : Cond.methodLink RL 131 yX12_guessed ∈ ALLG := inT7 158 rfl rfl
set_option maxRecDepth 100000 in
theorem mlX12_356 : Cond.methodLink RX12 356 yX12_why ∈ ALLG := inT7 162 rfl rfl
set_option maxRecDepth 100000 in
theorem kwX12_354 : Cond.constantLong RX12 354 (7) ∈ ALLG := inT7 166 rfl rfl
set_option maxRecDepth 100000 in
theorem mlL_135 : Cond.methodLink RL 135 yX12_access ∈ ALLG := inT7 167 rfl rfl
set_option maxRecDepth 100000 in
theorem mlL_139 : Cond.methodLink RL 139 yX12_reads ∈ ALLG := inT7 171 rfl rfl
set_option maxRecDepth 100000 in
theorem mlL_144 : Cond.methodLink RL 144 yX12_errs ∈ ALLG := inT7 175 rfl rfl
set_option maxRecDepth 100000 in
theorem kwX12_359 : Cond.constantLong RX12 359 (-2) ∈ ALLG := inT7 179 rfl rfl
set_option maxRecDepth 100000 in
theorem mlL_148 : Cond.methodLink RL 148 yX12_wrong ∈ ALLG := inT7 180 rfl rfl
set_option maxRecDepth 100000 in
theorem mlX12_361 : Cond.methodLink RX12 361 yX12_goesOn ∈ ALLG := inT7 184 rfl rfl
set_option maxRecDepth 100000 in
theorem mlL_152 : Cond.methodLink RL 152 yX12_tests_ ∈ ALLG := inT7 188 rfl rfl
set_option maxRecDepth 100000 in
theorem kwX12_398 : Cond.constantLong RX12 398 (2) ∈ ALLG := inT7 192 rfl rfl
set_option maxRecDepth 100000 in
theorem mlX12_400 : Cond.methodLink RX12 400 yX12_laysTests ∈ ALLG := inT7 193 rfl rfl
set_option maxRecDepth 100000 in
theorem mlX12_392 : Cond.methodLink RX12 392 yX12_laysEnds ∈ ALLG := inT7 197 rfl rfl
set_option maxRecDepth 100000 in
theorem mlX12_388 : Cond.methodLink RX12 388 yX12_testsBehind ∈ ALLG := inT7 201 rfl rfl
set_option maxRecDepth 100000 in
theorem mlX12_385 : Cond.methodLink RX12 385 yX12_tests ∈ ALLG := inT7 205 rfl rfl
set_option maxRecDepth 100000 in
theorem mlX12_373 : Cond.methodLink RX12 373 yJ9_max_7cf53 ∈ ALLG := inT7 209 rfl rfl
set_option maxRecDepth 100000 in
theorem mlL_156 : Cond.methodLink RL 156 yX12_passes ∈ ALLG := inT7 210 rfl rfl
set_option maxRecDepth 100000 in
theorem mlL_161 : Cond.methodLink RL 161 yX12_parted ∈ ALLG := inT7 214 rfl rfl
set_option maxRecDepth 100000 in
theorem mlL_165 : Cond.methodLink RL 165 yX12_like ∈ ALLG := inT7 218 rfl rfl
set_option maxRecDepth 100000 in
theorem mlL_169 : Cond.methodLink RL 169 yX12_least ∈ ALLG := inT7 222 rfl rfl
set_option maxRecDepth 100000 in
theorem mlL_173 : Cond.methodLink RL 173 yX12_reach ∈ ALLG := inT7 226 rfl rfl
set_option maxRecDepth 100000 in
theorem mlL_177 : Cond.methodLink RL 177 yX12_groups ∈ ALLG := inT7 230 rfl rfl
set_option maxRecDepth 100000 in
theorem mlX12_410 : Cond.methodLink RX12 410 yX12_regroups ∈ ALLG := inT7 234 rfl rfl
set_option maxRecDepth 100000 in
theorem mlX12_407 : Cond.methodLink RX12 407 yX12_staysTogether ∈ ALLG := inT7 238 rfl rfl
set_option maxRecDepth 100000 in
theorem mlL_181 : Cond.methodLink RL 181 yX12_costs ∈ ALLG := inT8 2 rfl rfl
set_option maxRecDepth 100000 in
theorem mlX12_414 : Cond.methodLink RX12 414 yX12_stepsInThought ∈ ALLG := inT8 6 rfl rfl
set_option maxRecDepth 100000 in
theorem mlL_185 : Cond.methodLink RL 185 yX12_cheapest ∈ ALLG := inT8 10 rfl rfl
set_option maxRecDepth 100000 in
theorem mlL_189 : Cond.methodLink RL 189 yX12_count ∈ ALLG := inT8 14 rfl rfl
set_option maxRecDepth 100000 in
theorem mlL_195 : Cond.methodLink RL 195 yX12_row ∈ ALLG := inT8 18 rfl rfl
set_option maxRecDepth 100000 in
theorem kwL_44 : Cond.constantLong RL 44 (4294967295) ∈ ALLG := inT8 22 rfl rfl
set_option maxRecDepth 100000 in
theorem obI_i : Cond.instanceMethod Lib.objectInit ∈ ALLG := inT1 27 rfl rfl
set_option maxRecDepth 100000 in
theorem obI_c : Cond.code Lib.objectInit ⟨#[0xb1]⟩ 1 none ∈ ALLG := inT1 28 rfl rfl
set_option maxRecDepth 100000 in
theorem mt_s_max : Cond.static Lib.Math.max.name ∈ ALLG := inT5 46 rfl rfl
set_option maxRecDepth 100000 in
theorem mt_c_max : Cond.code Lib.Math.max.name Lib.Math.max.code 2 (some .int) ∈ ALLG := inT5 47 rfl rfl
set_option maxRecDepth 100000 in
theorem mt_s_min : Cond.static Lib.Math.min.name ∈ ALLG := inT3 216 rfl rfl
set_option maxRecDepth 100000 in
theorem mt_c_min : Cond.code Lib.Math.min.name Lib.Math.min.code 2 (some .int) ∈ ALLG := inT3 217 rfl rfl
set_option maxRecDepth 100000 in
theorem mt_s_abs : Cond.static Lib.MathLoose.abs_long.x ∈ ALLG := inT5 205 rfl rfl
set_option maxRecDepth 100000 in
theorem mt_c_abs : Cond.code Lib.MathLoose.abs_long.x Lib.MathLoose.abs_long.code 2 (some .long) ∈ ALLG := inT5 206 rfl rfl
set_option maxRecDepth 100000 in
theorem mt_i : Cond.initialized "java/lang/Math" ∈ ALLG := inT1 15 rfl rfl
set_option maxRecDepth 100000 in
theorem cp_n : Cond.native arraycopyName ∈ ALLG := inT3 220 rfl rfl
set_option maxRecDepth 100000 in
theorem cp_s : Cond.static arraycopyName ∈ ALLG := inT3 219 rfl rfl
set_option maxRecDepth 100000 in
theorem cp_i : Cond.initialized "java/lang/System" ∈ ALLG := inT1 16 rfl rfl
