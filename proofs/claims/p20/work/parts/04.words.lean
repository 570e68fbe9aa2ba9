theorem z_tab_0_3 {x : Int32} (h : ¬ x = 0 ∧ ¬ x = 1 ∧ ¬ x = 2) : x.toInt < 0 ∨ 2 < x.toInt := by
  obtain ⟨h0, h1, h2⟩ := h
  apply Classical.byContradiction
  intro q
  rcases (show x.toInt = 0 ∨ x.toInt = 1 ∨ x.toInt = 2 by omega) with e | e | e
  · exact h0 (Int32.toInt_inj.mp (e.trans (by decide)))
  · exact h1 (Int32.toInt_inj.mp (e.trans (by decide)))
  · exact h2 (Int32.toInt_inj.mp (e.trans (by decide)))
theorem z_tab_0_4 {x : Int32} (h : ¬ x = 0 ∧ ¬ x = 1 ∧ ¬ x = 2 ∧ ¬ x = 3) : x.toInt < 0 ∨ 3 < x.toInt := by
  obtain ⟨h0, h1, h2, h3⟩ := h
  apply Classical.byContradiction
  intro q
  rcases (show x.toInt = 0 ∨ x.toInt = 1 ∨ x.toInt = 2 ∨ x.toInt = 3 by omega) with e | e | e | e
  · exact h0 (Int32.toInt_inj.mp (e.trans (by decide)))
  · exact h1 (Int32.toInt_inj.mp (e.trans (by decide)))
  · exact h2 (Int32.toInt_inj.mp (e.trans (by decide)))
  · exact h3 (Int32.toInt_inj.mp (e.trans (by decide)))
theorem z_tab_0_33 {x : Int32} (h : ¬ x = 0 ∧ ¬ x = 1 ∧ ¬ x = 2 ∧ ¬ x = 3 ∧ ¬ x = 4 ∧ ¬ x = 5 ∧ ¬ x = 6 ∧ ¬ x = 7 ∧ ¬ x = 8 ∧ ¬ x = 9 ∧ ¬ x = 10 ∧ ¬ x = 11 ∧ ¬ x = 12 ∧ ¬ x = 13 ∧ ¬ x = 14 ∧ ¬ x = 15 ∧ ¬ x = 16 ∧ ¬ x = 17 ∧ ¬ x = 18 ∧ ¬ x = 19 ∧ ¬ x = 20 ∧ ¬ x = 21 ∧ ¬ x = 22 ∧ ¬ x = 23 ∧ ¬ x = 24 ∧ ¬ x = 25 ∧ ¬ x = 26 ∧ ¬ x = 27 ∧ ¬ x = 28 ∧ ¬ x = 29 ∧ ¬ x = 30 ∧ ¬ x = 31 ∧ ¬ x = 32) : x.toInt < 0 ∨ 32 < x.toInt := by
  obtain ⟨h0, h1, h2, h3, h4, h5, h6, h7, h8, h9, h10, h11, h12, h13, h14, h15, h16, h17, h18, h19, h20, h21, h22, h23, h24, h25, h26, h27, h28, h29, h30, h31, h32⟩ := h
  apply Classical.byContradiction
  intro q
  rcases (show x.toInt = 0 ∨ x.toInt = 1 ∨ x.toInt = 2 ∨ x.toInt = 3 ∨ x.toInt = 4 ∨ x.toInt = 5 ∨ x.toInt = 6 ∨ x.toInt = 7 ∨ x.toInt = 8 ∨ x.toInt = 9 ∨ x.toInt = 10 ∨ x.toInt = 11 ∨ x.toInt = 12 ∨ x.toInt = 13 ∨ x.toInt = 14 ∨ x.toInt = 15 ∨ x.toInt = 16 ∨ x.toInt = 17 ∨ x.toInt = 18 ∨ x.toInt = 19 ∨ x.toInt = 20 ∨ x.toInt = 21 ∨ x.toInt = 22 ∨ x.toInt = 23 ∨ x.toInt = 24 ∨ x.toInt = 25 ∨ x.toInt = 26 ∨ x.toInt = 27 ∨ x.toInt = 28 ∨ x.toInt = 29 ∨ x.toInt = 30 ∨ x.toInt = 31 ∨ x.toInt = 32 by omega) with e | e | e | e | e | e | e | e | e | e | e | e | e | e | e | e | e | e | e | e | e | e | e | e | e | e | e | e | e | e | e | e | e
  · exact h0 (Int32.toInt_inj.mp (e.trans (by decide)))
  · exact h1 (Int32.toInt_inj.mp (e.trans (by decide)))
  · exact h2 (Int32.toInt_inj.mp (e.trans (by decide)))
  · exact h3 (Int32.toInt_inj.mp (e.trans (by decide)))
  · exact h4 (Int32.toInt_inj.mp (e.trans (by decide)))
  · exact h5 (Int32.toInt_inj.mp (e.trans (by decide)))
  · exact h6 (Int32.toInt_inj.mp (e.trans (by decide)))
  · exact h7 (Int32.toInt_inj.mp (e.trans (by decide)))
  · exact h8 (Int32.toInt_inj.mp (e.trans (by decide)))
  · exact h9 (Int32.toInt_inj.mp (e.trans (by decide)))
  · exact h10 (Int32.toInt_inj.mp (e.trans (by decide)))
  · exact h11 (Int32.toInt_inj.mp (e.trans (by decide)))
  · exact h12 (Int32.toInt_inj.mp (e.trans (by decide)))
  · exact h13 (Int32.toInt_inj.mp (e.trans (by decide)))
  · exact h14 (Int32.toInt_inj.mp (e.trans (by decide)))
  · exact h15 (Int32.toInt_inj.mp (e.trans (by decide)))
  · exact h16 (Int32.toInt_inj.mp (e.trans (by decide)))
  · exact h17 (Int32.toInt_inj.mp (e.trans (by decide)))
  · exact h18 (Int32.toInt_inj.mp (e.trans (by decide)))
  · exact h19 (Int32.toInt_inj.mp (e.trans (by decide)))
  · exact h20 (Int32.toInt_inj.mp (e.trans (by decide)))
  · exact h21 (Int32.toInt_inj.mp (e.trans (by decide)))
  · exact h22 (Int32.toInt_inj.mp (e.trans (by decide)))
  · exact h23 (Int32.toInt_inj.mp (e.trans (by decide)))
  · exact h24 (Int32.toInt_inj.mp (e.trans (by decide)))
  · exact h25 (Int32.toInt_inj.mp (e.trans (by decide)))
  · exact h26 (Int32.toInt_inj.mp (e.trans (by decide)))
  · exact h27 (Int32.toInt_inj.mp (e.trans (by decide)))
  · exact h28 (Int32.toInt_inj.mp (e.trans (by decide)))
  · exact h29 (Int32.toInt_inj.mp (e.trans (by decide)))
  · exact h30 (Int32.toInt_inj.mp (e.trans (by decide)))
  · exact h31 (Int32.toInt_inj.mp (e.trans (by decide)))
  · exact h32 (Int32.toInt_inj.mp (e.trans (by decide)))
theorem kw_mn_X8_9 : Cond.methodLinkNest RX8 9 yX3_init "PigeonPost" ∈ zNst := List.mem_of_getElem? (i := 0) rfl
theorem kw_f_X3_7 : Cond.fieldLink RX3 7 RX3 "top" "J" ∈ zW := zmem 72 (by decide +kernel) rfl
theorem kw_fn_X8_74 : Cond.fieldLinkNest RX8 74 RX3 "top" "J" "PigeonPost" ∈ zNst := List.mem_of_getElem? (i := 1) rfl
theorem kw_f_X3_13 : Cond.fieldLink RX3 13 RX3 "bottom" "J" ∈ zW := zmem 74 (by decide +kernel) rfl
theorem kw_fn_X8_78 : Cond.fieldLinkNest RX8 78 RX3 "bottom" "J" "PigeonPost" ∈ zNst := List.mem_of_getElem? (i := 2) rfl
theorem kw_f_X7_9 : Cond.fieldLink RX7 9 RX7 "sorts" "[I" ∈ zW := zmem 92 (by decide +kernel) rfl
theorem kw_fn_X8_305 : Cond.fieldLinkNest RX8 305 RX7 "sorts" "[I" "PigeonPost" ∈ zNst := List.mem_of_getElem? (i := 3) rfl
theorem kw_f_X7_15 : Cond.fieldLink RX7 15 RX7 "lengths" "[I" ∈ zW := zmem 94 (by decide +kernel) rfl
theorem kw_fn_X8_302 : Cond.fieldLinkNest RX8 302 RX7 "lengths" "[I" "PigeonPost" ∈ zNst := List.mem_of_getElem? (i := 4) rfl
theorem kw_f_X7_20 : Cond.fieldLink RX7 20 RX7 "rows" "[[J" ∈ zW := zmem 96 (by decide +kernel) rfl
theorem kw_fn_X8_107 : Cond.fieldLinkNest RX8 107 RX7 "rows" "[[J" "PigeonPost" ∈ zNst := List.mem_of_getElem? (i := 5) rfl
theorem kw_f_X6_9 : Cond.fieldLink RX6 9 RX6 "count" "I" ∈ zW := zmem 116 (by decide +kernel) rfl
theorem kw_fn_X5_65 : Cond.fieldLinkNest RX5 65 RX6 "count" "I" "PigeonPost" ∈ zNst := List.mem_of_getElem? (i := 6) rfl
theorem kw_fn_X8_121 : Cond.fieldLinkNest RX8 121 RX6 "count" "I" "PigeonPost" ∈ zNst := List.mem_of_getElem? (i := 7) rfl
theorem kw_f_X6_17 : Cond.fieldLink RX6 17 RX6 "minutes" "[[I" ∈ zW := zmem 119 (by decide +kernel) rfl
theorem kw_fn_X5_92 : Cond.fieldLinkNest RX5 92 RX6 "minutes" "[[I" "PigeonPost" ∈ zNst := List.mem_of_getElem? (i := 8) rfl
theorem kw_f_X6_20 : Cond.fieldLink RX6 20 RX6 "losses" "[[I" ∈ zW := zmem 121 (by decide +kernel) rfl
theorem kw_f_X6_23 : Cond.fieldLink RX6 23 RX6 "fares" "[[I" ∈ zW := zmem 122 (by decide +kernel) rfl
theorem kw_fn_X0_66 : Cond.fieldLinkNest RX0 66 RX6 "fares" "[[I" "PigeonPost" ∈ zNst := List.mem_of_getElem? (i := 9) rfl
theorem kw_fn_X8_140 : Cond.fieldLinkNest RX8 140 RX6 "fares" "[[I" "PigeonPost" ∈ zNst := List.mem_of_getElem? (i := 10) rfl
theorem kw_mn_X8_32 : Cond.methodLinkNest RX8 32 yX1_init "PigeonPost" ∈ zNst := List.mem_of_getElem? (i := 11) rfl
theorem kw_f_X1_9 : Cond.fieldLink RX1 9 RX1 "count" "I" ∈ zW := zmem 141 (by decide +kernel) rfl
theorem kw_fn_X0_71 : Cond.fieldLinkNest RX0 71 RX1 "count" "I" "PigeonPost" ∈ zNst := List.mem_of_getElem? (i := 12) rfl
theorem kw_fn_X8_314 : Cond.fieldLinkNest RX8 314 RX1 "count" "I" "PigeonPost" ∈ zNst := List.mem_of_getElem? (i := 13) rfl
theorem kw_f_X1_15 : Cond.fieldLink RX1 15 RX1 "homes" "[I" ∈ zW := zmem 144 (by decide +kernel) rfl
theorem kw_fn_X8_259 : Cond.fieldLinkNest RX8 259 RX1 "homes" "[I" "PigeonPost" ∈ zNst := List.mem_of_getElem? (i := 14) rfl
theorem kw_f_X1_19 : Cond.fieldLink RX1 19 RX1 "towns" "[I" ∈ zW := zmem 146 (by decide +kernel) rfl
theorem kw_fn_X8_331 : Cond.fieldLinkNest RX8 331 RX1 "towns" "[I" "PigeonPost" ∈ zNst := List.mem_of_getElem? (i := 15) rfl
theorem kw_f_X1_22 : Cond.fieldLink RX1 22 RX1 "states" "[I" ∈ zW := zmem 148 (by decide +kernel) rfl
theorem kw_fn_X8_315 : Cond.fieldLinkNest RX8 315 RX1 "states" "[I" "PigeonPost" ∈ zNst := List.mem_of_getElem? (i := 16) rfl
theorem kw_f_X1_25 : Cond.fieldLink RX1 25 RX1 "restUntil" "[I" ∈ zW := zmem 150 (by decide +kernel) rfl
theorem kw_f_X1_28 : Cond.fieldLink RX1 28 RX1 "letters" "[I" ∈ zW := zmem 151 (by decide +kernel) rfl
theorem kw_fn_X8_257 : Cond.fieldLinkNest RX8 257 RX1 "letters" "[I" "PigeonPost" ∈ zNst := List.mem_of_getElem? (i := 17) rfl
theorem kw_f_X1_33 : Cond.fieldLink RX1 33 RX1 "waiting" "[[I" ∈ zW := zmem 153 (by decide +kernel) rfl
theorem kw_fn_X0_39 : Cond.fieldLinkNest RX0 39 RX1 "waiting" "[[I" "PigeonPost" ∈ zNst := List.mem_of_getElem? (i := 18) rfl
theorem kw_fn_X5_80 : Cond.fieldLinkNest RX5 80 RX1 "waiting" "[[I" "PigeonPost" ∈ zNst := List.mem_of_getElem? (i := 19) rfl
theorem kw_fn_X8_170 : Cond.fieldLinkNest RX8 170 RX1 "waiting" "[[I" "PigeonPost" ∈ zNst := List.mem_of_getElem? (i := 20) rfl
theorem kw_f_X5_53 : Cond.fieldLink RX5 53 RX5 "towns" "LPigeonPost$Towns;" ∈ zW := zmem 178 (by decide +kernel) rfl
theorem kw_f_X5_57 : Cond.fieldLink RX5 57 RX5 "birds" "LPigeonPost$Birds;" ∈ zW := zmem 179 (by decide +kernel) rfl
theorem kw_f_X5_9 : Cond.fieldLink RX5 9 RX5 "path" "[I" ∈ zW := zmem 180 (by decide +kernel) rfl
theorem kw_f_X5_15 : Cond.fieldLink RX5 15 RX5 "tried" "[I" ∈ zW := zmem 181 (by decide +kernel) rfl
theorem kw_f_X5_18 : Cond.fieldLink RX5 18 RX5 "most" "[I" ∈ zW := zmem 182 (by decide +kernel) rfl
theorem kw_f_X5_21 : Cond.fieldLink RX5 21 RX5 "goal" "I" ∈ zW := zmem 183 (by decide +kernel) rfl
theorem kw_f_X5_25 : Cond.fieldLink RX5 25 RX5 "n" "I" ∈ zW := zmem 184 (by decide +kernel) rfl
theorem kw_f_X5_28 : Cond.fieldLink RX5 28 RX5 "d" "I" ∈ zW := zmem 185 (by decide +kernel) rfl
theorem kw_f_X5_31 : Cond.fieldLink RX5 31 RX5 "fewest" "I" ∈ zW := zmem 186 (by decide +kernel) rfl
theorem kw_f_X5_34 : Cond.fieldLink RX5 34 RX5 "leastMinutes" "I" ∈ zW := zmem 187 (by decide +kernel) rfl
theorem kw_f_X5_37 : Cond.fieldLink RX5 37 RX5 "foundPath" "[I" ∈ zW := zmem 188 (by decide +kernel) rfl
theorem kw_fn_X8_212 : Cond.fieldLinkNest RX8 212 RX5 "foundPath" "[I" "PigeonPost" ∈ zNst := List.mem_of_getElem? (i := 21) rfl
theorem kw_f_X5_40 : Cond.fieldLink RX5 40 RX5 "foundDoubles" "[I" ∈ zW := zmem 190 (by decide +kernel) rfl
theorem kw_fn_X8_208 : Cond.fieldLinkNest RX8 208 RX5 "foundDoubles" "[I" "PigeonPost" ∈ zNst := List.mem_of_getElem? (i := 22) rfl
theorem kw_f_X5_43 : Cond.fieldLink RX5 43 RX5 "foundRoads" "I" ∈ zW := zmem 192 (by decide +kernel) rfl
theorem kw_fn_X8_318 : Cond.fieldLinkNest RX8 318 RX5 "foundRoads" "I" "PigeonPost" ∈ zNst := List.mem_of_getElem? (i := 23) rfl
theorem kw_f_X5_46 : Cond.fieldLink RX5 46 RX5 "top" "J" ∈ zW := zmem 194 (by decide +kernel) rfl
theorem kw_fn_X8_203 : Cond.fieldLinkNest RX8 203 RX5 "top" "J" "PigeonPost" ∈ zNst := List.mem_of_getElem? (i := 24) rfl
theorem kw_f_X5_50 : Cond.fieldLink RX5 50 RX5 "bottom" "J" ∈ zW := zmem 196 (by decide +kernel) rfl
theorem kw_fn_X8_204 : Cond.fieldLinkNest RX8 204 RX5 "bottom" "J" "PigeonPost" ∈ zNst := List.mem_of_getElem? (i := 25) rfl
theorem kw_f_X0_31 : Cond.fieldLink RX0 31 RX0 "towns" "LPigeonPost$Towns;" ∈ zW := zmem 237 (by decide +kernel) rfl
theorem kw_f_X0_35 : Cond.fieldLink RX0 35 RX0 "birds" "LPigeonPost$Birds;" ∈ zW := zmem 238 (by decide +kernel) rfl
theorem kw_f_X0_11 : Cond.fieldLink RX0 11 RX0 "wanted" "[[I" ∈ zW := zmem 239 (by decide +kernel) rfl
theorem kw_fn_X8_215 : Cond.fieldLinkNest RX8 215 RX0 "wanted" "[[I" "PigeonPost" ∈ zNst := List.mem_of_getElem? (i := 26) rfl
theorem kw_f_X0_16 : Cond.fieldLink RX0 16 RX0 "worths" "[[I" ∈ zW := zmem 241 (by decide +kernel) rfl
theorem kw_fn_X8_218 : Cond.fieldLinkNest RX8 218 RX0 "worths" "[[I" "PigeonPost" ∈ zNst := List.mem_of_getElem? (i := 27) rfl
theorem kw_f_X0_21 : Cond.fieldLink RX0 21 RX0 "gains" "[[J" ∈ zW := zmem 243 (by decide +kernel) rfl
theorem kw_f_X0_24 : Cond.fieldLink RX0 24 RX0 "choices" "[[I" ∈ zW := zmem 244 (by decide +kernel) rfl
theorem kw_f_X0_27 : Cond.fieldLink RX0 27 RX0 "loads" "[I" ∈ zW := zmem 245 (by decide +kernel) rfl
theorem kw_fn_X8_230 : Cond.fieldLinkNest RX8 230 RX0 "loads" "[I" "PigeonPost" ∈ zNst := List.mem_of_getElem? (i := 28) rfl
theorem kw_mn_X8_55 : Cond.methodLinkNest RX8 55 yX4_init "PigeonPost" ∈ zNst := List.mem_of_getElem? (i := 29) rfl
theorem kw_f_X4_9 : Cond.fieldLink RX4 9 RX4 "count" "I" ∈ zW := zmem 270 (by decide +kernel) rfl
theorem kw_fn_X8_327 : Cond.fieldLinkNest RX8 327 RX4 "count" "I" "PigeonPost" ∈ zNst := List.mem_of_getElem? (i := 30) rfl
theorem kw_f_X4_15 : Cond.fieldLink RX4 15 RX4 "lengths" "[I" ∈ zW := zmem 272 (by decide +kernel) rfl
theorem kw_fn_X8_336 : Cond.fieldLinkNest RX8 336 RX4 "lengths" "[I" "PigeonPost" ∈ zNst := List.mem_of_getElem? (i := 31) rfl
theorem kw_f_X4_21 : Cond.fieldLink RX4 21 RX4 "bytes" "[[I" ∈ zW := zmem 274 (by decide +kernel) rfl
theorem kw_f_X4_24 : Cond.fieldLink RX4 24 RX4 "copies" "[[I" ∈ zW := zmem 275 (by decide +kernel) rfl
theorem kw_fn_X8_251 : Cond.fieldLinkNest RX8 251 RX4 "copies" "[[I" "PigeonPost" ∈ zNst := List.mem_of_getElem? (i := 32) rfl
theorem kw_f_X4_27 : Cond.fieldLink RX4 27 RX4 "since" "[[I" ∈ zW := zmem 277 (by decide +kernel) rfl
theorem kw_fn_X8_278 : Cond.fieldLinkNest RX8 278 RX4 "since" "[[I" "PigeonPost" ∈ zNst := List.mem_of_getElem? (i := 33) rfl
theorem kw_f_X4_32 : Cond.fieldLink RX4 32 RX4 "there" "[[J" ∈ zW := zmem 279 (by decide +kernel) rfl
theorem kw_mn_X8_62 : Cond.methodLinkNest RX8 62 yX2_init "PigeonPost" ∈ zNst := List.mem_of_getElem? (i := 34) rfl
theorem kw_f_X2_9 : Cond.fieldLink RX2 9 RX2 "counts" "[I" ∈ zW := zmem 300 (by decide +kernel) rfl
theorem kw_fn_X8_341 : Cond.fieldLinkNest RX8 341 RX2 "counts" "[I" "PigeonPost" ∈ zNst := List.mem_of_getElem? (i := 35) rfl
theorem kw_f_X2_17 : Cond.fieldLink RX2 17 RX2 "minutes" "[[I" ∈ zW := zmem 302 (by decide +kernel) rfl
theorem kw_f_X2_20 : Cond.fieldLink RX2 20 RX2 "numbers" "[[I" ∈ zW := zmem 303 (by decide +kernel) rfl
theorem kw_f_X8_10 : Cond.fieldLink RX8 10 RX8 "fraction" "LPigeonPost$Fraction;" ∈ zW := zmem 311 (by decide +kernel) rfl
theorem kw_f_X8_19 : Cond.fieldLink RX8 19 RX8 "trays" "LPigeonPost$Trays;" ∈ zW := zmem 312 (by decide +kernel) rfl
theorem kw_f_X8_26 : Cond.fieldLink RX8 26 RX8 "towns" "LPigeonPost$Towns;" ∈ zW := zmem 313 (by decide +kernel) rfl
theorem kw_f_X8_33 : Cond.fieldLink RX8 33 RX8 "birds" "LPigeonPost$Birds;" ∈ zW := zmem 314 (by decide +kernel) rfl
theorem kw_f_X8_42 : Cond.fieldLink RX8 42 RX8 "relays" "LPigeonPost$Relays;" ∈ zW := zmem 315 (by decide +kernel) rfl
theorem kw_f_X8_49 : Cond.fieldLink RX8 49 RX8 "baskets" "LPigeonPost$Baskets;" ∈ zW := zmem 316 (by decide +kernel) rfl
theorem kw_f_X8_56 : Cond.fieldLink RX8 56 RX8 "letters" "LPigeonPost$Letters;" ∈ zW := zmem 317 (by decide +kernel) rfl
theorem kw_f_X8_63 : Cond.fieldLink RX8 63 RX8 "clocks" "LPigeonPost$Clocks;" ∈ zW := zmem 318 (by decide +kernel) rfl
theorem kw_f_X8_67 : Cond.fieldLink RX8 67 RX8 "status" "I" ∈ zW := zmem 319 (by decide +kernel) rfl
theorem kw_f_X8_71 : Cond.fieldLink RX8 71 RX8 "now" "I" ∈ zW := zmem 320 (by decide +kernel) rfl
theorem kw_m_L_13 : Cond.methodLink RL 13 yX8_status ∈ zW := zmem 342 (by decide +kernel) rfl
theorem kw_m_L_18 : Cond.methodLink RL 18 yX8_top ∈ zW := zmem 346 (by decide +kernel) rfl
theorem kw_m_L_23 : Cond.methodLink RL 23 yX8_bottom ∈ zW := zmem 350 (by decide +kernel) rfl
theorem kw_m_L_27 : Cond.methodLink RL 27 yX8_tray ∈ zW := zmem 354 (by decide +kernel) rfl
theorem kw_m_X8_81 : Cond.methodLink RX8 81 yX8_isTray ∈ zW := zmem 358 (by decide +kernel) rfl
theorem kw_m_X8_85 : Cond.methodLink RX8 85 yX8_within ∈ zW := zmem 361 (by decide +kernel) rfl
theorem kw_m_X8_89 : Cond.methodLink RX8 89 yX8_wrongUnless ∈ zW := zmem 364 (by decide +kernel) rfl
theorem kw_m_X8_93 : Cond.methodLink RX8 93 yX7_make ∈ zW := zmem 367 (by decide +kernel) rfl
theorem kw_m_X7_29 : Cond.methodLink RX7 29 yJ7_fill_d0a16 ∈ zW := zmem 371 (by decide +kernel) rfl
theorem kw_m_L_34 : Cond.methodLink RL 34 yX8_write ∈ zW := zmem 374 (by decide +kernel) rfl
theorem kw_m_X8_97 : Cond.methodLink RX8 97 yX8_placeFault ∈ zW := zmem 378 (by decide +kernel) rfl
theorem kw_m_X8_299 : Cond.methodLink RX8 299 yX7_isMissing ∈ zW := zmem 382 (by decide +kernel) rfl
theorem kw_m_X8_101 : Cond.methodLink RX8 101 yX7_put ∈ zW := zmem 386 (by decide +kernel) rfl
theorem kw_m_X7_32 : Cond.methodLink RX7 32 yX7_cut ∈ zW := zmem 390 (by decide +kernel) rfl
theorem kw_m_L_39 : Cond.methodLink RL 39 yX8_read ∈ zW := zmem 393 (by decide +kernel) rfl
theorem kw_cl_X8_105 : Cond.constantLong RX8 105 (-1) ∈ zW := zmem 397 (by decide +kernel) rfl
theorem kw_m_L_44 : Cond.methodLink RL 44 yX8_pour ∈ zW := zmem 398 (by decide +kernel) rfl
theorem kw_m_X8_111 : Cond.methodLink RX8 111 yX8_pourFault ∈ zW := zmem 402 (by decide +kernel) rfl
theorem kw_m_X8_308 : Cond.methodLink RX8 308 yX7_holds ∈ zW := zmem 406 (by decide +kernel) rfl
theorem kw_m_X8_115 : Cond.methodLink RX8 115 arraycopyName ∈ zW := zmem 410 (by decide +kernel) rfl
theorem kw_m_L_49 : Cond.methodLink RL 49 yX8_town ∈ zW := zmem 413 (by decide +kernel) rfl
theorem kw_m_X8_124 : Cond.methodLink RX8 124 yX6_add ∈ zW := zmem 417 (by decide +kernel) rfl
theorem kw_m_L_53 : Cond.methodLink RL 53 yX8_road ∈ zW := zmem 421 (by decide +kernel) rfl
theorem kw_m_X8_128 : Cond.methodLink RX8 128 yX8_roadFault ∈ zW := zmem 425 (by decide +kernel) rfl
theorem kw_m_X8_136 : Cond.methodLink RX8 136 yX8_areTwoTowns ∈ zW := zmem 429 (by decide +kernel) rfl
theorem kw_m_X8_167 : Cond.methodLink RX8 167 yX8_isTown ∈ zW := zmem 433 (by decide +kernel) rfl
theorem kw_m_X8_311 : Cond.methodLink RX8 311 yX6_isRoad ∈ zW := zmem 437 (by decide +kernel) rfl
theorem kw_m_X8_132 : Cond.methodLink RX8 132 yX6_setRoad ∈ zW := zmem 441 (by decide +kernel) rfl
theorem kw_m_L_58 : Cond.methodLink RL 58 yX8_fare ∈ zW := zmem 445 (by decide +kernel) rfl
theorem kw_m_L_62 : Cond.methodLink RL 62 yX8_bird ∈ zW := zmem 449 (by decide +kernel) rfl
theorem kw_m_X8_144 : Cond.methodLink RX8 144 yX8_birdFault ∈ zW := zmem 453 (by decide +kernel) rfl
theorem kw_m_X8_148 : Cond.methodLink RX8 148 yX1_add ∈ zW := zmem 457 (by decide +kernel) rfl
theorem kw_m_X1_36 : Cond.methodLink RX1 36 yX1_settle ∈ zW := zmem 461 (by decide +kernel) rfl
theorem kw_m_L_67 : Cond.methodLink RL 67 yX8_carry ∈ zW := zmem 465 (by decide +kernel) rfl
theorem kw_m_X8_150 : Cond.methodLink RX8 150 yX8_carryFault ∈ zW := zmem 469 (by decide +kernel) rfl
theorem kw_m_X8_161 : Cond.methodLink RX8 161 yX8_isBird ∈ zW := zmem 473 (by decide +kernel) rfl
theorem kw_m_X8_153 : Cond.methodLink RX8 153 yX1_leave ∈ zW := zmem 477 (by decide +kernel) rfl
theorem kw_m_X8_157 : Cond.methodLink RX8 157 yX1_settle ∈ zW := zmem 481 (by decide +kernel) rfl
theorem kw_m_L_72 : Cond.methodLink RL 72 yX8_told ∈ zW := zmem 482 (by decide +kernel) rfl
theorem kw_m_X8_164 : Cond.methodLink RX8 164 yX1_answer ∈ zW := zmem 486 (by decide +kernel) rfl
theorem kw_m_L_77 : Cond.methodLink RL 77 yX8_waits ∈ zW := zmem 490 (by decide +kernel) rfl
theorem kw_m_L_81 : Cond.methodLink RL 81 yX8_sure ∈ zW := zmem 494 (by decide +kernel) rfl
theorem kw_m_X8_173 : Cond.methodLink RX8 173 yX8_sureFault ∈ zW := zmem 498 (by decide +kernel) rfl
theorem kw_m_X8_177 : Cond.methodLink RX8 177 yX6_sureTop ∈ zW := zmem 502 (by decide +kernel) rfl
theorem kw_cl_X6_32 : Cond.constantLong RX6 32 (10) ∈ zW := zmem 506 (by decide +kernel) rfl
theorem kw_mn_X6_34 : Cond.methodLinkNest RX6 34 yX8_power "PigeonPost" ∈ zNst := List.mem_of_getElem? (i := 36) rfl
theorem kw_cl_X8_181 : Cond.constantLong RX8 181 (10) ∈ zW := zmem 510 (by decide +kernel) rfl
theorem kw_m_X8_183 : Cond.methodLink RX8 183 yX8_power ∈ zW := zmem 511 (by decide +kernel) rfl
theorem kw_m_X8_187 : Cond.methodLink RX8 187 yX3_tell ∈ zW := zmem 512 (by decide +kernel) rfl
theorem kw_m_X3_16 : Cond.methodLink RX3 16 yJ9_abs_067f4 ∈ zW := zmem 516 (by decide +kernel) rfl
theorem kw_m_X3_22 : Cond.methodLink RX3 22 yX3_commonDivisor ∈ zW := zmem 519 (by decide +kernel) rfl
theorem kw_m_X8_191 : Cond.methodLink RX8 191 yX3_sign ∈ zW := zmem 522 (by decide +kernel) rfl
theorem kw_m_X3_26 : Cond.methodLink RX3 26 yJ13_compare_74951 ∈ zW := zmem 526 (by decide +kernel) rfl
theorem kw_m_L_86 : Cond.methodLink RL 86 yX8_doubles ∈ zW := zmem 529 (by decide +kernel) rfl
theorem kw_m_X8_194 : Cond.methodLink RX8 194 yX8_isChance ∈ zW := zmem 533 (by decide +kernel) rfl
theorem kw_m_X8_197 : Cond.methodLink RX8 197 yX6_fewestDoubles ∈ zW := zmem 536 (by decide +kernel) rfl
theorem kw_m_X6_38 : Cond.methodLink RX6 38 yX6_isRoad ∈ zW := zmem 540 (by decide +kernel) rfl
theorem kw_m_X6_42 : Cond.methodLink RX6 42 yX6_sureTop ∈ zW := zmem 541 (by decide +kernel) rfl
theorem kw_m_L_91 : Cond.methodLink RL 91 yX8_relay ∈ zW := zmem 542 (by decide +kernel) rfl
theorem kw_m_X8_200 : Cond.methodLink RX8 200 yX5_seek ∈ zW := zmem 546 (by decide +kernel) rfl
theorem kw_m_X5_61 : Cond.methodLink RX5 61 yX5_extend ∈ zW := zmem 550 (by decide +kernel) rfl
theorem kw_m_X5_70 : Cond.methodLink RX5 70 yX5_canGoOn ∈ zW := zmem 554 (by decide +kernel) rfl
theorem kw_m_X5_77 : Cond.methodLink RX5 77 yX6_isRoad ∈ zW := zmem 558 (by decide +kernel) rfl
theorem kw_m_X5_74 : Cond.methodLink RX5 74 yX5_tryDoubles ∈ zW := zmem 559 (by decide +kernel) rfl
theorem kw_m_X5_86 : Cond.methodLink RX5 86 yJ9_min_7cf53 ∈ zW := zmem 563 (by decide +kernel) rfl
theorem kw_m_X5_95 : Cond.methodLink RX5 95 yX5_weigh ∈ zW := zmem 566 (by decide +kernel) rfl
theorem kw_m_X5_102 : Cond.methodLink RX5 102 yX6_sureTop ∈ zW := zmem 570 (by decide +kernel) rfl
theorem kw_cl_X5_106 : Cond.constantLong RX5 106 (10) ∈ zW := zmem 571 (by decide +kernel) rfl
theorem kw_mn_X5_108 : Cond.methodLinkNest RX5 108 yX8_power "PigeonPost" ∈ zNst := List.mem_of_getElem? (i := 37) rfl
theorem kw_m_X5_112 : Cond.methodLink RX5 112 yX5_isBetter ∈ zW := zmem 573 (by decide +kernel) rfl
theorem kw_m_X5_115 : Cond.methodLink RX5 115 arraycopyName ∈ zW := zmem 577 (by decide +kernel) rfl
theorem kw_m_X5_99 : Cond.methodLink RX5 99 yX5_goToNextDoubles ∈ zW := zmem 578 (by decide +kernel) rfl
theorem kw_m_L_95 : Cond.methodLink RL 95 yX8_leg ∈ zW := zmem 582 (by decide +kernel) rfl
theorem kw_m_X8_205 : Cond.methodLink RX8 205 yX8_legFault ∈ zW := zmem 586 (by decide +kernel) rfl
theorem kw_m_L_99 : Cond.methodLink RL 99 yX8_want ∈ zW := zmem 590 (by decide +kernel) rfl
theorem kw_m_L_103 : Cond.methodLink RL 103 yX8_lack ∈ zW := zmem 594 (by decide +kernel) rfl
theorem kw_m_X8_221 : Cond.methodLink RX8 221 yX0_lacked ∈ zW := zmem 598 (by decide +kernel) rfl
theorem kw_m_X0_44 : Cond.methodLink RX0 44 yJ9_max_7cf53 ∈ zW := zmem 602 (by decide +kernel) rfl
theorem kw_m_L_107 : Cond.methodLink RL 107 yX8_carrying ∈ zW := zmem 605 (by decide +kernel) rfl
theorem kw_m_X8_224 : Cond.methodLink RX8 224 yX0_plan ∈ zW := zmem 609 (by decide +kernel) rfl
theorem kw_m_X0_50 : Cond.methodLink RX0 50 yX0_weighTown ∈ zW := zmem 613 (by decide +kernel) rfl
theorem kw_m_X0_54 : Cond.methodLink RX0 54 yX0_lacked ∈ zW := zmem 617 (by decide +kernel) rfl
theorem kw_m_X0_57 : Cond.methodLink RX0 57 yX0_worthOf ∈ zW := zmem 618 (by decide +kernel) rfl
theorem kw_cl_X0_61 : Cond.constantLong RX0 61 (1000000) ∈ zW := zmem 622 (by decide +kernel) rfl
theorem kw_m_X0_63 : Cond.methodLink RX0 63 yX0_fareOf ∈ zW := zmem 623 (by decide +kernel) rfl
theorem kw_m_X8_227 : Cond.methodLink RX8 227 yX0_worthTogether ∈ zW := zmem 627 (by decide +kernel) rfl
theorem kw_m_L_111 : Cond.methodLink RL 111 yX8_carried ∈ zW := zmem 631 (by decide +kernel) rfl
theorem kw_m_L_115 : Cond.methodLink RL 115 yX8_fares ∈ zW := zmem 635 (by decide +kernel) rfl
theorem kw_m_X8_233 : Cond.methodLink RX8 233 yX0_faresTogether ∈ zW := zmem 639 (by decide +kernel) rfl
theorem kw_m_L_119 : Cond.methodLink RL 119 yX8_send ∈ zW := zmem 643 (by decide +kernel) rfl
theorem kw_m_X8_236 : Cond.methodLink RX8 236 yX0_carryOut ∈ zW := zmem 647 (by decide +kernel) rfl
theorem kw_m_X0_75 : Cond.methodLink RX0 75 yX1_waitsAtHome ∈ zW := zmem 651 (by decide +kernel) rfl
theorem kw_m_X0_79 : Cond.methodLink RX0 79 yX1_leave ∈ zW := zmem 655 (by decide +kernel) rfl
theorem kw_m_X0_83 : Cond.methodLink RX0 83 yX1_settle ∈ zW := zmem 656 (by decide +kernel) rfl
theorem kw_m_L_123 : Cond.methodLink RL 123 yX8_letter ∈ zW := zmem 657 (by decide +kernel) rfl
theorem kw_m_X8_239 : Cond.methodLink RX8 239 yX8_letterFault ∈ zW := zmem 661 (by decide +kernel) rfl
theorem kw_m_X8_321 : Cond.methodLink RX8 321 yX8_isMinute ∈ zW := zmem 665 (by decide +kernel) rfl
theorem kw_c_X8_344 : Cond.constant RX8 344 (100000) ∈ zW := zmem 668 (by decide +kernel) rfl
theorem kw_m_X8_324 : Cond.methodLink RX8 324 yX7_beginsWithBytes ∈ zW := zmem 669 (by decide +kernel) rfl
theorem kw_cl_X7_36 : Cond.constantLong RX7 36 (255) ∈ zW := zmem 673 (by decide +kernel) rfl
theorem kw_m_X8_242 : Cond.methodLink RX8 242 yX4_add ∈ zW := zmem 674 (by decide +kernel) rfl
theorem kw_m_X4_35 : Cond.methodLink RX4 35 yJ7_fill_53178 ∈ zW := zmem 678 (by decide +kernel) rfl
theorem kw_m_X4_41 : Cond.methodLink RX4 41 yX4_allOf ∈ zW := zmem 679 (by decide +kernel) rfl
theorem kw_m_L_127 : Cond.methodLink RL 127 yX8_fly ∈ zW := zmem 682 (by decide +kernel) rfl
theorem kw_m_X8_245 : Cond.methodLink RX8 245 yX8_flyFault ∈ zW := zmem 686 (by decide +kernel) rfl
theorem kw_m_X8_275 : Cond.methodLink RX8 275 yX8_isLetter ∈ zW := zmem 690 (by decide +kernel) rfl
theorem kw_m_X8_328 : Cond.methodLink RX8 328 yX1_canFlyOff ∈ zW := zmem 694 (by decide +kernel) rfl
theorem kw_m_X8_248 : Cond.methodLink RX8 248 yX1_flyOff ∈ zW := zmem 698 (by decide +kernel) rfl
theorem kw_m_X1_40 : Cond.methodLink RX1 40 yX1_leave ∈ zW := zmem 702 (by decide +kernel) rfl
theorem kw_m_L_131 : Cond.methodLink RL 131 yX8_comes ∈ zW := zmem 703 (by decide +kernel) rfl
theorem kw_m_X8_254 : Cond.methodLink RX8 254 yX8_comesFault ∈ zW := zmem 707 (by decide +kernel) rfl
theorem kw_m_X8_333 : Cond.methodLink RX8 333 yX8_isTear ∈ zW := zmem 711 (by decide +kernel) rfl
theorem kw_m_X8_262 : Cond.methodLink RX8 262 yX1_comeHome ∈ zW := zmem 715 (by decide +kernel) rfl
theorem kw_m_X8_265 : Cond.methodLink RX8 265 yX4_join ∈ zW := zmem 719 (by decide +kernel) rfl
theorem kw_cl_X4_45 : Cond.constantLong RX4 45 (-1) ∈ zW := zmem 723 (by decide +kernel) rfl
theorem kw_m_L_135 : Cond.methodLink RL 135 yX8_lose ∈ zW := zmem 724 (by decide +kernel) rfl
theorem kw_m_X8_269 : Cond.methodLink RX8 269 yX8_loseFault ∈ zW := zmem 728 (by decide +kernel) rfl
theorem kw_m_X8_272 : Cond.methodLink RX8 272 yX1_getLost ∈ zW := zmem 732 (by decide +kernel) rfl
theorem kw_m_L_139 : Cond.methodLink RL 139 yX8_knows ∈ zW := zmem 736 (by decide +kernel) rfl
theorem kw_m_L_143 : Cond.methodLink RL 143 yX8_joined ∈ zW := zmem 740 (by decide +kernel) rfl
theorem kw_m_X8_281 : Cond.methodLink RX8 281 yX8_joinedFault ∈ zW := zmem 744 (by decide +kernel) rfl
theorem kw_m_X8_284 : Cond.methodLink RX8 284 yX4_byteThere ∈ zW := zmem 748 (by decide +kernel) rfl
theorem kw_m_L_147 : Cond.methodLink RL 147 yX8_copies ∈ zW := zmem 752 (by decide +kernel) rfl
theorem kw_m_L_151 : Cond.methodLink RL 151 yX8_reading ∈ zW := zmem 756 (by decide +kernel) rfl
theorem kw_m_X8_287 : Cond.methodLink RX8 287 yX8_readingFault ∈ zW := zmem 760 (by decide +kernel) rfl
theorem kw_c_X8_337 : Cond.constant RX8 337 (200000) ∈ zW := zmem 764 (by decide +kernel) rfl
theorem kw_m_X8_338 : Cond.methodLink RX8 338 yX2_isAboveLatest ∈ zW := zmem 765 (by decide +kernel) rfl
theorem kw_m_X8_290 : Cond.methodLink RX8 290 yX2_add ∈ zW := zmem 769 (by decide +kernel) rfl
theorem kw_m_L_155 : Cond.methodLink RL 155 yX8_right ∈ zW := zmem 773 (by decide +kernel) rfl
theorem kw_m_X8_292 : Cond.methodLink RX8 292 yX8_rightFault ∈ zW := zmem 777 (by decide +kernel) rfl
theorem kw_m_X8_295 : Cond.methodLink RX8 295 yX2_tellRight ∈ zW := zmem 781 (by decide +kernel) rfl
theorem kw_m_X2_23 : Cond.methodLink RX2 23 yX2_latestUpTo ∈ zW := zmem 785 (by decide +kernel) rfl
theorem kw_m_X2_27 : Cond.methodLink RX2 27 yJ9_max_7cf53 ∈ zW := zmem 789 (by decide +kernel) rfl
theorem kw_m_X2_32 : Cond.methodLink RX2 32 yX3_tell ∈ zW := zmem 790 (by decide +kernel) rfl
theorem kw_f_X9_109 : Cond.fieldLink RX9 109 RX9 "status" "I" ∈ zW := zmem 797 (by decide +kernel) rfl
theorem kw_f_X9_113 : Cond.fieldLink RX9 113 RX9 "top" "J" ∈ zW := zmem 798 (by decide +kernel) rfl
theorem kw_f_X9_7 : Cond.fieldLink RX9 7 RX9 "bottom" "J" ∈ zW := zmem 799 (by decide +kernel) rfl
theorem kw_f_X9_13 : Cond.fieldLink RX9 13 RX9 "sort" "[I" ∈ zW := zmem 800 (by decide +kernel) rfl
theorem kw_f_X9_17 : Cond.fieldLink RX9 17 RX9 "many" "[I" ∈ zW := zmem 801 (by decide +kernel) rfl
theorem kw_f_X9_20 : Cond.fieldLink RX9 20 RX9 "trays" "[J" ∈ zW := zmem 802 (by decide +kernel) rfl
theorem kw_f_X9_133 : Cond.fieldLink RX9 133 RX9 "towns" "I" ∈ zW := zmem 803 (by decide +kernel) rfl
theorem kw_f_X9_136 : Cond.fieldLink RX9 136 RX9 "birds" "I" ∈ zW := zmem 804 (by decide +kernel) rfl
theorem kw_f_X9_229 : Cond.fieldLink RX9 229 RX9 "now" "I" ∈ zW := zmem 805 (by decide +kernel) rfl
theorem kw_f_X9_24 : Cond.fieldLink RX9 24 RX9 "minutes" "[I" ∈ zW := zmem 806 (by decide +kernel) rfl
theorem kw_f_X9_27 : Cond.fieldLink RX9 27 RX9 "loss" "[I" ∈ zW := zmem 807 (by decide +kernel) rfl
theorem kw_f_X9_30 : Cond.fieldLink RX9 30 RX9 "fare" "[I" ∈ zW := zmem 808 (by decide +kernel) rfl
theorem kw_f_X9_33 : Cond.fieldLink RX9 33 RX9 "wanted" "[I" ∈ zW := zmem 809 (by decide +kernel) rfl
theorem kw_f_X9_36 : Cond.fieldLink RX9 36 RX9 "worth" "[I" ∈ zW := zmem 810 (by decide +kernel) rfl
theorem kw_f_X9_39 : Cond.fieldLink RX9 39 RX9 "home" "[I" ∈ zW := zmem 811 (by decide +kernel) rfl
theorem kw_f_X9_42 : Cond.fieldLink RX9 42 RX9 "where" "[I" ∈ zW := zmem 812 (by decide +kernel) rfl
theorem kw_f_X9_45 : Cond.fieldLink RX9 45 RX9 "state" "[I" ∈ zW := zmem 813 (by decide +kernel) rfl
theorem kw_f_X9_48 : Cond.fieldLink RX9 48 RX9 "rest" "[I" ∈ zW := zmem 814 (by decide +kernel) rfl
theorem kw_f_X9_51 : Cond.fieldLink RX9 51 RX9 "has" "[I" ∈ zW := zmem 815 (by decide +kernel) rfl
theorem kw_f_X9_54 : Cond.fieldLink RX9 54 RX9 "way" "[I" ∈ zW := zmem 816 (by decide +kernel) rfl
theorem kw_f_X9_57 : Cond.fieldLink RX9 57 RX9 "times" "[I" ∈ zW := zmem 817 (by decide +kernel) rfl
theorem kw_f_X9_60 : Cond.fieldLink RX9 60 RX9 "bestWay" "[I" ∈ zW := zmem 818 (by decide +kernel) rfl
theorem kw_f_X9_63 : Cond.fieldLink RX9 63 RX9 "bestTimes" "[I" ∈ zW := zmem 819 (by decide +kernel) rfl
theorem kw_f_X9_66 : Cond.fieldLink RX9 66 RX9 "foundWay" "[I" ∈ zW := zmem 820 (by decide +kernel) rfl
theorem kw_f_X9_69 : Cond.fieldLink RX9 69 RX9 "foundTimes" "[I" ∈ zW := zmem 821 (by decide +kernel) rfl
theorem kw_f_X9_179 : Cond.fieldLink RX9 179 RX9 "roads" "I" ∈ zW := zmem 822 (by decide +kernel) rfl
theorem kw_f_X9_170 : Cond.fieldLink RX9 170 RX9 "bestRoads" "I" ∈ zW := zmem 823 (by decide +kernel) rfl
theorem kw_f_X9_195 : Cond.fieldLink RX9 195 RX9 "foundRoads" "I" ∈ zW := zmem 824 (by decide +kernel) rfl
theorem kw_f_X9_173 : Cond.fieldLink RX9 173 RX9 "bestBirds" "I" ∈ zW := zmem 825 (by decide +kernel) rfl
theorem kw_f_X9_176 : Cond.fieldLink RX9 176 RX9 "bestMinutes" "I" ∈ zW := zmem 826 (by decide +kernel) rfl
theorem kw_f_X9_185 : Cond.fieldLink RX9 185 RX9 "bestTop" "J" ∈ zW := zmem 827 (by decide +kernel) rfl
theorem kw_f_X9_188 : Cond.fieldLink RX9 188 RX9 "bestBottom" "J" ∈ zW := zmem 828 (by decide +kernel) rfl
theorem kw_f_X9_72 : Cond.fieldLink RX9 72 RX9 "best" "[J" ∈ zW := zmem 829 (by decide +kernel) rfl
theorem kw_f_X9_75 : Cond.fieldLink RX9 75 RX9 "goes" "[I" ∈ zW := zmem 830 (by decide +kernel) rfl
theorem kw_f_X9_222 : Cond.fieldLink RX9 222 RX9 "letters" "I" ∈ zW := zmem 831 (by decide +kernel) rfl
theorem kw_f_X9_78 : Cond.fieldLink RX9 78 RX9 "size" "[I" ∈ zW := zmem 832 (by decide +kernel) rfl
theorem kw_f_X9_81 : Cond.fieldLink RX9 81 RX9 "flown" "[I" ∈ zW := zmem 833 (by decide +kernel) rfl
theorem kw_f_X9_84 : Cond.fieldLink RX9 84 RX9 "come" "[I" ∈ zW := zmem 834 (by decide +kernel) rfl
theorem kw_f_X9_87 : Cond.fieldLink RX9 87 RX9 "lost" "[I" ∈ zW := zmem 835 (by decide +kernel) rfl
theorem kw_f_X9_90 : Cond.fieldLink RX9 90 RX9 "bytes" "[I" ∈ zW := zmem 836 (by decide +kernel) rfl
theorem kw_f_X9_93 : Cond.fieldLink RX9 93 RX9 "known" "[I" ∈ zW := zmem 837 (by decide +kernel) rfl
theorem kw_f_X9_96 : Cond.fieldLink RX9 96 RX9 "isThere" "[Z" ∈ zW := zmem 838 (by decide +kernel) rfl
theorem kw_f_X9_100 : Cond.fieldLink RX9 100 RX9 "readings" "[I" ∈ zW := zmem 839 (by decide +kernel) rfl
theorem kw_f_X9_103 : Cond.fieldLink RX9 103 RX9 "trueAt" "[I" ∈ zW := zmem 840 (by decide +kernel) rfl
theorem kw_f_X9_106 : Cond.fieldLink RX9 106 RX9 "toldAt" "[I" ∈ zW := zmem 841 (by decide +kernel) rfl
theorem kw_m_L_17 : Cond.methodLink RL 17 yX9_status ∈ zW := zmem 934 (by decide +kernel) rfl
theorem kw_m_L_22 : Cond.methodLink RL 22 yX9_top ∈ zW := zmem 938 (by decide +kernel) rfl
theorem kw_m_L_26 : Cond.methodLink RL 26 yX9_bottom ∈ zW := zmem 942 (by decide +kernel) rfl
theorem kw_m_L_31 : Cond.methodLink RL 31 yX9_tray ∈ zW := zmem 946 (by decide +kernel) rfl
theorem kw_m_X9_116 : Cond.methodLink RX9 116 yX9_isTray ∈ zW := zmem 950 (by decide +kernel) rfl
theorem kw_m_X9_120 : Cond.methodLink RX9 120 yX9_is ∈ zW := zmem 953 (by decide +kernel) rfl
theorem kw_m_L_38 : Cond.methodLink RL 38 yX9_write ∈ zW := zmem 957 (by decide +kernel) rfl
theorem kw_m_X9_123 : Cond.methodLink RX9 123 yX9_wrong ∈ zW := zmem 961 (by decide +kernel) rfl
theorem kw_m_X9_127 : Cond.methodLink RX9 127 yX9_cut ∈ zW := zmem 965 (by decide +kernel) rfl
theorem kw_m_L_43 : Cond.methodLink RL 43 yX9_read ∈ zW := zmem 968 (by decide +kernel) rfl
theorem kw_cl_X9_131 : Cond.constantLong RX9 131 (-1) ∈ zW := zmem 972 (by decide +kernel) rfl
theorem kw_m_L_48 : Cond.methodLink RL 48 yX9_pour ∈ zW := zmem 973 (by decide +kernel) rfl
theorem kw_m_L_52 : Cond.methodLink RL 52 yX9_town ∈ zW := zmem 977 (by decide +kernel) rfl
theorem kw_m_X9_139 : Cond.methodLink RX9 139 yX9_refuse ∈ zW := zmem 981 (by decide +kernel) rfl
theorem kw_m_X9_143 : Cond.methodLink RX9 143 yX9_at ∈ zW := zmem 985 (by decide +kernel) rfl
theorem kw_m_L_57 : Cond.methodLink RL 57 yX9_road ∈ zW := zmem 988 (by decide +kernel) rfl
theorem kw_m_X9_146 : Cond.methodLink RX9 146 yX9_isTown ∈ zW := zmem 992 (by decide +kernel) rfl
theorem kw_m_L_61 : Cond.methodLink RL 61 yX9_fare ∈ zW := zmem 996 (by decide +kernel) rfl
theorem kw_m_L_66 : Cond.methodLink RL 66 yX9_bird ∈ zW := zmem 1000 (by decide +kernel) rfl
theorem kw_m_L_71 : Cond.methodLink RL 71 yX9_carry ∈ zW := zmem 1004 (by decide +kernel) rfl
theorem kw_m_X9_149 : Cond.methodLink RX9 149 yX9_isBird ∈ zW := zmem 1008 (by decide +kernel) rfl
theorem kw_m_L_76 : Cond.methodLink RL 76 yX9_told ∈ zW := zmem 1012 (by decide +kernel) rfl
theorem kw_m_L_80 : Cond.methodLink RL 80 yX9_waits ∈ zW := zmem 1016 (by decide +kernel) rfl
theorem kw_m_X9_152 : Cond.methodLink RX9 152 yX9_count ∈ zW := zmem 1020 (by decide +kernel) rfl
theorem kw_m_L_85 : Cond.methodLink RL 85 yX9_sure ∈ zW := zmem 1024 (by decide +kernel) rfl
theorem kw_m_X9_155 : Cond.methodLink RX9 155 yX9_wrongRoad ∈ zW := zmem 1028 (by decide +kernel) rfl
theorem kw_m_X9_158 : Cond.methodLink RX9 158 yX9_power ∈ zW := zmem 1032 (by decide +kernel) rfl
theorem kw_m_X9_162 : Cond.methodLink RX9 162 yX9_tells ∈ zW := zmem 1035 (by decide +kernel) rfl
theorem kw_m_L_90 : Cond.methodLink RL 90 yX9_doubles ∈ zW := zmem 1039 (by decide +kernel) rfl
theorem kw_m_X9_166 : Cond.methodLink RX9 166 yX9_isShare ∈ zW := zmem 1043 (by decide +kernel) rfl
theorem kw_m_L_94 : Cond.methodLink RL 94 yX9_relay ∈ zW := zmem 1046 (by decide +kernel) rfl
theorem kw_m_X9_191 : Cond.methodLink RX9 191 yX9_tryWay ∈ zW := zmem 1050 (by decide +kernel) rfl
theorem kw_m_X9_182 : Cond.methodLink RX9 182 yX9_isAhead ∈ zW := zmem 1054 (by decide +kernel) rfl
theorem kw_m_L_98 : Cond.methodLink RL 98 yX9_leg ∈ zW := zmem 1058 (by decide +kernel) rfl
theorem kw_m_L_102 : Cond.methodLink RL 102 yX9_want ∈ zW := zmem 1062 (by decide +kernel) rfl
theorem kw_m_L_106 : Cond.methodLink RL 106 yX9_lack ∈ zW := zmem 1066 (by decide +kernel) rfl
theorem kw_m_X9_203 : Cond.methodLink RX9 203 yX9_lackOf ∈ zW := zmem 1070 (by decide +kernel) rfl
theorem kw_m_X9_198 : Cond.methodLink RX9 198 yJ9_max_7cf53 ∈ zW := zmem 1074 (by decide +kernel) rfl
theorem kw_m_L_110 : Cond.methodLink RL 110 yX9_carrying ∈ zW := zmem 1075 (by decide +kernel) rfl
theorem kw_m_X9_218 : Cond.methodLink RX9 218 yX9_bring ∈ zW := zmem 1079 (by decide +kernel) rfl
theorem kw_m_X9_206 : Cond.methodLink RX9 206 yX9_value ∈ zW := zmem 1083 (by decide +kernel) rfl
theorem kw_cl_X9_216 : Cond.constantLong RX9 216 (100000) ∈ zW := zmem 1087 (by decide +kernel) rfl
theorem kw_m_X9_210 : Cond.methodLink RX9 210 yJ9_max_f86c9 ∈ zW := zmem 1088 (by decide +kernel) rfl
theorem kw_m_X9_213 : Cond.methodLink RX9 213 yJ9_min_7cf53 ∈ zW := zmem 1091 (by decide +kernel) rfl
theorem kw_m_L_114 : Cond.methodLink RL 114 yX9_carried ∈ zW := zmem 1092 (by decide +kernel) rfl
theorem kw_m_L_118 : Cond.methodLink RL 118 yX9_fares ∈ zW := zmem 1096 (by decide +kernel) rfl
theorem kw_m_L_122 : Cond.methodLink RL 122 yX9_send ∈ zW := zmem 1100 (by decide +kernel) rfl
theorem kw_m_L_126 : Cond.methodLink RL 126 yX9_letter ∈ zW := zmem 1104 (by decide +kernel) rfl
theorem kw_m_X9_226 : Cond.methodLink RX9 226 yX9_isMinute ∈ zW := zmem 1108 (by decide +kernel) rfl
theorem kw_c_X9_225 : Cond.constant RX9 225 (100000) ∈ zW := zmem 1111 (by decide +kernel) rfl
theorem kw_cl_X9_232 : Cond.constantLong RX9 232 (255) ∈ zW := zmem 1112 (by decide +kernel) rfl
theorem kw_m_X9_234 : Cond.methodLink RX9 234 yX9_place ∈ zW := zmem 1113 (by decide +kernel) rfl
theorem kw_m_L_130 : Cond.methodLink RL 130 yX9_fly ∈ zW := zmem 1116 (by decide +kernel) rfl
theorem kw_m_X9_237 : Cond.methodLink RX9 237 yX9_isLetter ∈ zW := zmem 1120 (by decide +kernel) rfl
theorem kw_m_L_134 : Cond.methodLink RL 134 yX9_comes ∈ zW := zmem 1124 (by decide +kernel) rfl
theorem kw_m_L_138 : Cond.methodLink RL 138 yX9_lose ∈ zW := zmem 1128 (by decide +kernel) rfl
theorem kw_m_L_142 : Cond.methodLink RL 142 yX9_knows ∈ zW := zmem 1132 (by decide +kernel) rfl
theorem kw_m_L_146 : Cond.methodLink RL 146 yX9_joined ∈ zW := zmem 1136 (by decide +kernel) rfl
theorem kw_m_L_150 : Cond.methodLink RL 150 yX9_copies ∈ zW := zmem 1140 (by decide +kernel) rfl
theorem kw_m_L_154 : Cond.methodLink RL 154 yX9_reading ∈ zW := zmem 1144 (by decide +kernel) rfl
theorem kw_c_X9_240 : Cond.constant RX9 240 (200000) ∈ zW := zmem 1148 (by decide +kernel) rfl
theorem kw_m_L_158 : Cond.methodLink RL 158 yX9_right ∈ zW := zmem 1149 (by decide +kernel) rfl
theorem kw_cl_L_32 : Cond.constantLong RL 32 (4294967295) ∈ zW := zmem 1153 (by decide +kernel) rfl
theorem M_J13_compare_74951 : zMw yJ13_compare_74951 cJ13_compare_74951 4 (some .int) 2 := ⟨zmem 528 (by decide +kernel) rfl, zmem 57 (by decide +kernel) rfl, by decide +kernel, by decide⟩
theorem Ms_J13_compare_74951 : Cond.static yJ13_compare_74951 ∈ zW := zmem 527 (by decide +kernel) rfl
theorem M_J7_fill_53178 : zMw yJ7_fill_53178 cJ7_fill_53178 4 none 2 := ⟨zmem 91 (by decide +kernel) rfl, zmem 47 (by decide +kernel) rfl, by decide +kernel, by decide⟩
theorem Ms_J7_fill_53178 : Cond.static yJ7_fill_53178 ∈ zW := zmem 90 (by decide +kernel) rfl
theorem M_J7_fill_d0a16 : zMw yJ7_fill_d0a16 cJ7_fill_d0a16 5 none 2 := ⟨zmem 373 (by decide +kernel) rfl, zmem 47 (by decide +kernel) rfl, by decide +kernel, by decide⟩
theorem Ms_J7_fill_d0a16 : Cond.static yJ7_fill_d0a16 ∈ zW := zmem 372 (by decide +kernel) rfl
theorem M_X0_carryOut : zMw yX0_carryOut cX0_carryOut 6 (some .int) 1 := ⟨zmem 650 (by decide +kernel) rfl, zmem 51 (by decide +kernel) rfl, by decide +kernel, by decide⟩
theorem Mv_X0_carryOut : zMv yX0_carryOut RX0 := ⟨zmem 648 (by decide +kernel) rfl, zmem 649 (by decide +kernel) rfl⟩
theorem M_X0_fareOf : zMw yX0_fareOf cX0_fareOf 4 (some .long) 3 := ⟨zmem 626 (by decide +kernel) rfl, zmem 51 (by decide +kernel) rfl, by decide +kernel, by decide⟩
theorem Mv_X0_fareOf : zMv yX0_fareOf RX0 := ⟨zmem 625 (by decide +kernel) rfl, zmem 18 (by decide +kernel) rfl⟩
theorem M_X0_faresTogether : zMw yX0_faresTogether cX0_faresTogether 5 (some .int) 1 := ⟨zmem 642 (by decide +kernel) rfl, zmem 51 (by decide +kernel) rfl, by decide +kernel, by decide⟩
theorem Mv_X0_faresTogether : zMv yX0_faresTogether RX0 := ⟨zmem 640 (by decide +kernel) rfl, zmem 641 (by decide +kernel) rfl⟩
theorem M_X0_lacked : zMw yX0_lacked cX0_lacked 3 (some .int) 2 := ⟨zmem 601 (by decide +kernel) rfl, zmem 51 (by decide +kernel) rfl, by decide +kernel, by decide⟩
theorem Mv_X0_lacked : zMv yX0_lacked RX0 := ⟨zmem 599 (by decide +kernel) rfl, zmem 600 (by decide +kernel) rfl⟩
theorem M_X0_plan : zMw yX0_plan cX0_plan 4 none 1 := ⟨zmem 612 (by decide +kernel) rfl, zmem 51 (by decide +kernel) rfl, by decide +kernel, by decide⟩
theorem Mv_X0_plan : zMv yX0_plan RX0 := ⟨zmem 610 (by decide +kernel) rfl, zmem 611 (by decide +kernel) rfl⟩
theorem M_X0_weighTown : zMw yX0_weighTown cX0_weighTown 9 none 3 := ⟨zmem 616 (by decide +kernel) rfl, zmem 51 (by decide +kernel) rfl, by decide +kernel, by decide⟩
theorem Mv_X0_weighTown : zMv yX0_weighTown RX0 := ⟨zmem 615 (by decide +kernel) rfl, zmem 16 (by decide +kernel) rfl⟩
theorem M_X0_worthOf : zMw yX0_worthOf cX0_worthOf 4 (some .long) 3 := ⟨zmem 621 (by decide +kernel) rfl, zmem 51 (by decide +kernel) rfl, by decide +kernel, by decide⟩
theorem Mv_X0_worthOf : zMv yX0_worthOf RX0 := ⟨zmem 620 (by decide +kernel) rfl, zmem 17 (by decide +kernel) rfl⟩
theorem M_X0_worthTogether : zMw yX0_worthTogether cX0_worthTogether 5 (some .int) 1 := ⟨zmem 630 (by decide +kernel) rfl, zmem 51 (by decide +kernel) rfl, by decide +kernel, by decide⟩
theorem Mv_X0_worthTogether : zMv yX0_worthTogether RX0 := ⟨zmem 628 (by decide +kernel) rfl, zmem 629 (by decide +kernel) rfl⟩
theorem M_X1_add : zMw yX1_add cX1_add 3 (some .int) 1 := ⟨zmem 460 (by decide +kernel) rfl, zmem 49 (by decide +kernel) rfl, by decide +kernel, by decide⟩
theorem Mv_X1_add : zMv yX1_add RX1 := ⟨zmem 458 (by decide +kernel) rfl, zmem 459 (by decide +kernel) rfl⟩
theorem M_X1_answer : zMw yX1_answer cX1_answer 3 (some .int) 2 := ⟨zmem 489 (by decide +kernel) rfl, zmem 49 (by decide +kernel) rfl, by decide +kernel, by decide⟩
theorem Mv_X1_answer : zMv yX1_answer RX1 := ⟨zmem 487 (by decide +kernel) rfl, zmem 488 (by decide +kernel) rfl⟩
theorem M_X1_canFlyOff : zMw yX1_canFlyOff cX1_canFlyOff 3 (some .boolean) 2 := ⟨zmem 697 (by decide +kernel) rfl, zmem 49 (by decide +kernel) rfl, by decide +kernel, by decide⟩
theorem Mv_X1_canFlyOff : zMv yX1_canFlyOff RX1 := ⟨zmem 695 (by decide +kernel) rfl, zmem 696 (by decide +kernel) rfl⟩
theorem M_X1_comeHome : zMw yX1_comeHome cX1_comeHome 3 none 2 := ⟨zmem 718 (by decide +kernel) rfl, zmem 49 (by decide +kernel) rfl, by decide +kernel, by decide⟩
theorem Mv_X1_comeHome : zMv yX1_comeHome RX1 := ⟨zmem 716 (by decide +kernel) rfl, zmem 717 (by decide +kernel) rfl⟩
theorem M_X1_flyOff : zMw yX1_flyOff cX1_flyOff 3 none 2 := ⟨zmem 701 (by decide +kernel) rfl, zmem 49 (by decide +kernel) rfl, by decide +kernel, by decide⟩
theorem Mv_X1_flyOff : zMv yX1_flyOff RX1 := ⟨zmem 699 (by decide +kernel) rfl, zmem 700 (by decide +kernel) rfl⟩
theorem M_X1_getLost : zMw yX1_getLost cX1_getLost 2 none 1 := ⟨zmem 735 (by decide +kernel) rfl, zmem 49 (by decide +kernel) rfl, by decide +kernel, by decide⟩
theorem Mv_X1_getLost : zMv yX1_getLost RX1 := ⟨zmem 733 (by decide +kernel) rfl, zmem 734 (by decide +kernel) rfl⟩
theorem M_X1_leave : zMw yX1_leave cX1_leave 2 none 1 := ⟨zmem 480 (by decide +kernel) rfl, zmem 49 (by decide +kernel) rfl, by decide +kernel, by decide⟩
theorem Mv_X1_leave : zMv yX1_leave RX1 := ⟨zmem 478 (by decide +kernel) rfl, zmem 479 (by decide +kernel) rfl⟩
theorem M_X1_settle : zMw yX1_settle cX1_settle 3 none 2 := ⟨zmem 464 (by decide +kernel) rfl, zmem 49 (by decide +kernel) rfl, by decide +kernel, by decide⟩
theorem Mv_X1_settle : zMv yX1_settle RX1 := ⟨zmem 462 (by decide +kernel) rfl, zmem 463 (by decide +kernel) rfl⟩
theorem M_X1_waitsAtHome : zMw yX1_waitsAtHome cX1_waitsAtHome 3 (some .boolean) 2 := ⟨zmem 654 (by decide +kernel) rfl, zmem 49 (by decide +kernel) rfl, by decide +kernel, by decide⟩
theorem Mv_X1_waitsAtHome : zMv yX1_waitsAtHome RX1 := ⟨zmem 652 (by decide +kernel) rfl, zmem 653 (by decide +kernel) rfl⟩
theorem M_X2_add : zMw yX2_add cX2_add 4 none 3 := ⟨zmem 772 (by decide +kernel) rfl, zmem 53 (by decide +kernel) rfl, by decide +kernel, by decide⟩
theorem Mv_X2_add : zMv yX2_add RX2 := ⟨zmem 770 (by decide +kernel) rfl, zmem 771 (by decide +kernel) rfl⟩
theorem M_X2_isAboveLatest : zMw yX2_isAboveLatest cX2_isAboveLatest 5 (some .boolean) 3 := ⟨zmem 768 (by decide +kernel) rfl, zmem 53 (by decide +kernel) rfl, by decide +kernel, by decide⟩
theorem Mv_X2_isAboveLatest : zMv yX2_isAboveLatest RX2 := ⟨zmem 766 (by decide +kernel) rfl, zmem 767 (by decide +kernel) rfl⟩
theorem M_X2_latestUpTo : zMw yX2_latestUpTo cX2_latestUpTo 5 (some .int) 2 := ⟨zmem 788 (by decide +kernel) rfl, zmem 53 (by decide +kernel) rfl, by decide +kernel, by decide⟩
theorem Mv_X2_latestUpTo : zMv yX2_latestUpTo RX2 := ⟨zmem 787 (by decide +kernel) rfl, zmem 28 (by decide +kernel) rfl⟩
theorem M_X2_tellRight : zMw yX2_tellRight cX2_tellRight 12 none 3 := ⟨zmem 784 (by decide +kernel) rfl, zmem 53 (by decide +kernel) rfl, by decide +kernel, by decide⟩
theorem Mv_X2_tellRight : zMv yX2_tellRight RX2 := ⟨zmem 782 (by decide +kernel) rfl, zmem 783 (by decide +kernel) rfl⟩
theorem M_X3_commonDivisor : zMw yX3_commonDivisor cX3_commonDivisor 11 (some .long) 2 := ⟨zmem 521 (by decide +kernel) rfl, zmem 45 (by decide +kernel) rfl, by decide +kernel, by decide⟩
theorem Ms_X3_commonDivisor : Cond.static yX3_commonDivisor ∈ zW := zmem 520 (by decide +kernel) rfl
theorem M_X3_sign : zMw yX3_sign cX3_sign 1 (some .int) 0 := ⟨zmem 525 (by decide +kernel) rfl, zmem 45 (by decide +kernel) rfl, by decide +kernel, by decide⟩
theorem Mv_X3_sign : zMv yX3_sign RX3 := ⟨zmem 523 (by decide +kernel) rfl, zmem 524 (by decide +kernel) rfl⟩
theorem M_X3_tell : zMw yX3_tell cX3_tell 7 none 2 := ⟨zmem 515 (by decide +kernel) rfl, zmem 45 (by decide +kernel) rfl, by decide +kernel, by decide⟩
theorem Mv_X3_tell : zMv yX3_tell RX3 := ⟨zmem 513 (by decide +kernel) rfl, zmem 514 (by decide +kernel) rfl⟩
theorem M_X4_add : zMw yX4_add cX4_add 7 (some .int) 4 := ⟨zmem 677 (by decide +kernel) rfl, zmem 52 (by decide +kernel) rfl, by decide +kernel, by decide⟩
theorem Mv_X4_add : zMv yX4_add RX4 := ⟨zmem 675 (by decide +kernel) rfl, zmem 676 (by decide +kernel) rfl⟩
theorem M_X4_allOf : zMw yX4_allOf cX4_allOf 1 (some .long) 1 := ⟨zmem 681 (by decide +kernel) rfl, zmem 52 (by decide +kernel) rfl, by decide +kernel, by decide⟩
theorem Ms_X4_allOf : Cond.static yX4_allOf ∈ zW := zmem 680 (by decide +kernel) rfl
theorem M_X4_byteThere : zMw yX4_byteThere cX4_byteThere 4 (some .int) 3 := ⟨zmem 751 (by decide +kernel) rfl, zmem 52 (by decide +kernel) rfl, by decide +kernel, by decide⟩
theorem Mv_X4_byteThere : zMv yX4_byteThere RX4 := ⟨zmem 749 (by decide +kernel) rfl, zmem 750 (by decide +kernel) rfl⟩
theorem M_X4_join : zMw yX4_join cX4_join 10 (some .boolean) 5 := ⟨zmem 722 (by decide +kernel) rfl, zmem 52 (by decide +kernel) rfl, by decide +kernel, by decide⟩
theorem Mv_X4_join : zMv yX4_join RX4 := ⟨zmem 720 (by decide +kernel) rfl, zmem 721 (by decide +kernel) rfl⟩
theorem M_X5_canGoOn : zMw yX5_canGoOn cX5_canGoOn 4 (some .boolean) 2 := ⟨zmem 557 (by decide +kernel) rfl, zmem 50 (by decide +kernel) rfl, by decide +kernel, by decide⟩
theorem Mv_X5_canGoOn : zMv yX5_canGoOn RX5 := ⟨zmem 556 (by decide +kernel) rfl, zmem 10 (by decide +kernel) rfl⟩
theorem M_X5_extend : zMw yX5_extend cX5_extend 3 none 1 := ⟨zmem 553 (by decide +kernel) rfl, zmem 50 (by decide +kernel) rfl, by decide +kernel, by decide⟩
theorem Mv_X5_extend : zMv yX5_extend RX5 := ⟨zmem 552 (by decide +kernel) rfl, zmem 9 (by decide +kernel) rfl⟩
theorem M_X5_goToNextDoubles : zMw yX5_goToNextDoubles cX5_goToNextDoubles 3 none 1 := ⟨zmem 581 (by decide +kernel) rfl, zmem 50 (by decide +kernel) rfl, by decide +kernel, by decide⟩
theorem Mv_X5_goToNextDoubles : zMv yX5_goToNextDoubles RX5 := ⟨zmem 580 (by decide +kernel) rfl, zmem 14 (by decide +kernel) rfl⟩
theorem M_X5_isBetter : zMw yX5_isBetter cX5_isBetter 3 (some .boolean) 2 := ⟨zmem 576 (by decide +kernel) rfl, zmem 50 (by decide +kernel) rfl, by decide +kernel, by decide⟩
theorem Mv_X5_isBetter : zMv yX5_isBetter RX5 := ⟨zmem 575 (by decide +kernel) rfl, zmem 13 (by decide +kernel) rfl⟩
theorem M_X5_seek : zMw yX5_seek cX5_seek 5 (some .int) 4 := ⟨zmem 549 (by decide +kernel) rfl, zmem 50 (by decide +kernel) rfl, by decide +kernel, by decide⟩
theorem Mv_X5_seek : zMv yX5_seek RX5 := ⟨zmem 547 (by decide +kernel) rfl, zmem 548 (by decide +kernel) rfl⟩
theorem M_X5_tryDoubles : zMw yX5_tryDoubles cX5_tryDoubles 5 none 1 := ⟨zmem 562 (by decide +kernel) rfl, zmem 50 (by decide +kernel) rfl, by decide +kernel, by decide⟩
theorem Mv_X5_tryDoubles : zMv yX5_tryDoubles RX5 := ⟨zmem 561 (by decide +kernel) rfl, zmem 11 (by decide +kernel) rfl⟩
theorem M_X5_weigh : zMw yX5_weigh cX5_weigh 9 none 2 := ⟨zmem 569 (by decide +kernel) rfl, zmem 50 (by decide +kernel) rfl, by decide +kernel, by decide⟩
theorem Mv_X5_weigh : zMv yX5_weigh RX5 := ⟨zmem 568 (by decide +kernel) rfl, zmem 12 (by decide +kernel) rfl⟩
theorem M_X6_add : zMw yX6_add cX6_add 1 (some .int) 0 := ⟨zmem 420 (by decide +kernel) rfl, zmem 48 (by decide +kernel) rfl, by decide +kernel, by decide⟩
theorem Mv_X6_add : zMv yX6_add RX6 := ⟨zmem 418 (by decide +kernel) rfl, zmem 419 (by decide +kernel) rfl⟩
theorem M_X6_fewestDoubles : zMw yX6_fewestDoubles cX6_fewestDoubles 6 (some .int) 4 := ⟨zmem 539 (by decide +kernel) rfl, zmem 48 (by decide +kernel) rfl, by decide +kernel, by decide⟩
theorem Mv_X6_fewestDoubles : zMv yX6_fewestDoubles RX6 := ⟨zmem 537 (by decide +kernel) rfl, zmem 538 (by decide +kernel) rfl⟩
theorem M_X6_isRoad : zMw yX6_isRoad cX6_isRoad 3 (some .boolean) 2 := ⟨zmem 440 (by decide +kernel) rfl, zmem 48 (by decide +kernel) rfl, by decide +kernel, by decide⟩
theorem Mv_X6_isRoad : zMv yX6_isRoad RX6 := ⟨zmem 438 (by decide +kernel) rfl, zmem 439 (by decide +kernel) rfl⟩
theorem M_X6_setRoad : zMw yX6_setRoad cX6_setRoad 5 none 4 := ⟨zmem 444 (by decide +kernel) rfl, zmem 48 (by decide +kernel) rfl, by decide +kernel, by decide⟩
theorem Mv_X6_setRoad : zMv yX6_setRoad RX6 := ⟨zmem 442 (by decide +kernel) rfl, zmem 443 (by decide +kernel) rfl⟩
theorem M_X6_sureTop : zMw yX6_sureTop cX6_sureTop 4 (some .long) 3 := ⟨zmem 505 (by decide +kernel) rfl, zmem 48 (by decide +kernel) rfl, by decide +kernel, by decide⟩
theorem Mv_X6_sureTop : zMv yX6_sureTop RX6 := ⟨zmem 503 (by decide +kernel) rfl, zmem 504 (by decide +kernel) rfl⟩
theorem M_X7_beginsWithBytes : zMw yX7_beginsWithBytes cX7_beginsWithBytes 4 (some .boolean) 2 := ⟨zmem 672 (by decide +kernel) rfl, zmem 46 (by decide +kernel) rfl, by decide +kernel, by decide⟩
theorem Mv_X7_beginsWithBytes : zMv yX7_beginsWithBytes RX7 := ⟨zmem 670 (by decide +kernel) rfl, zmem 671 (by decide +kernel) rfl⟩
theorem M_X7_cut : zMw yX7_cut cX7_cut 3 (some .long) 2 := ⟨zmem 392 (by decide +kernel) rfl, zmem 46 (by decide +kernel) rfl, by decide +kernel, by decide⟩
theorem Ms_X7_cut : Cond.static yX7_cut ∈ zW := zmem 391 (by decide +kernel) rfl
theorem M_X7_holds : zMw yX7_holds cX7_holds 4 (some .boolean) 3 := ⟨zmem 409 (by decide +kernel) rfl, zmem 46 (by decide +kernel) rfl, by decide +kernel, by decide⟩
theorem Mv_X7_holds : zMv yX7_holds RX7 := ⟨zmem 407 (by decide +kernel) rfl, zmem 408 (by decide +kernel) rfl⟩
theorem M_X7_isMissing : zMw yX7_isMissing cX7_isMissing 2 (some .boolean) 1 := ⟨zmem 385 (by decide +kernel) rfl, zmem 46 (by decide +kernel) rfl, by decide +kernel, by decide⟩
theorem Mv_X7_isMissing : zMv yX7_isMissing RX7 := ⟨zmem 383 (by decide +kernel) rfl, zmem 384 (by decide +kernel) rfl⟩
theorem M_X7_make : zMw yX7_make cX7_make 4 none 3 := ⟨zmem 370 (by decide +kernel) rfl, zmem 46 (by decide +kernel) rfl, by decide +kernel, by decide⟩
theorem Mv_X7_make : zMv yX7_make RX7 := ⟨zmem 368 (by decide +kernel) rfl, zmem 369 (by decide +kernel) rfl⟩
theorem M_X7_put : zMw yX7_put cX7_put 5 none 3 := ⟨zmem 389 (by decide +kernel) rfl, zmem 46 (by decide +kernel) rfl, by decide +kernel, by decide⟩
theorem Mv_X7_put : zMv yX7_put RX7 := ⟨zmem 387 (by decide +kernel) rfl, zmem 388 (by decide +kernel) rfl⟩
theorem M_X8_areTwoTowns : zMw yX8_areTwoTowns cX8_areTwoTowns 3 (some .boolean) 2 := ⟨zmem 432 (by decide +kernel) rfl, zmem 44 (by decide +kernel) rfl, by decide +kernel, by decide⟩
theorem Mv_X8_areTwoTowns : zMv yX8_areTwoTowns RX8 := ⟨zmem 431 (by decide +kernel) rfl, zmem 3 (by decide +kernel) rfl⟩
theorem M_X8_bird : zMw yX8_bird cX8_bird 2 (some .int) 1 := ⟨zmem 452 (by decide +kernel) rfl, zmem 44 (by decide +kernel) rfl, by decide +kernel, by decide⟩
theorem Mv_X8_bird : zMv yX8_bird RX8 := ⟨zmem 450 (by decide +kernel) rfl, zmem 451 (by decide +kernel) rfl⟩
theorem M_X8_birdFault : zMw yX8_birdFault cX8_birdFault 2 (some .int) 1 := ⟨zmem 456 (by decide +kernel) rfl, zmem 44 (by decide +kernel) rfl, by decide +kernel, by decide⟩
theorem Mv_X8_birdFault : zMv yX8_birdFault RX8 := ⟨zmem 455 (by decide +kernel) rfl, zmem 5 (by decide +kernel) rfl⟩
theorem M_X8_bottom : zMw yX8_bottom cX8_bottom 1 (some .long) 0 := ⟨zmem 353 (by decide +kernel) rfl, zmem 44 (by decide +kernel) rfl, by decide +kernel, by decide⟩
theorem Mv_X8_bottom : zMv yX8_bottom RX8 := ⟨zmem 351 (by decide +kernel) rfl, zmem 352 (by decide +kernel) rfl⟩
theorem M_X8_carried : zMw yX8_carried cX8_carried 3 (some .int) 2 := ⟨zmem 634 (by decide +kernel) rfl, zmem 44 (by decide +kernel) rfl, by decide +kernel, by decide⟩
theorem Mv_X8_carried : zMv yX8_carried RX8 := ⟨zmem 632 (by decide +kernel) rfl, zmem 633 (by decide +kernel) rfl⟩
theorem M_X8_carry : zMw yX8_carry cX8_carry 3 (some .boolean) 2 := ⟨zmem 468 (by decide +kernel) rfl, zmem 44 (by decide +kernel) rfl, by decide +kernel, by decide⟩
theorem Mv_X8_carry : zMv yX8_carry RX8 := ⟨zmem 466 (by decide +kernel) rfl, zmem 467 (by decide +kernel) rfl⟩
theorem M_X8_carryFault : zMw yX8_carryFault cX8_carryFault 3 (some .int) 2 := ⟨zmem 472 (by decide +kernel) rfl, zmem 44 (by decide +kernel) rfl, by decide +kernel, by decide⟩
theorem Mv_X8_carryFault : zMv yX8_carryFault RX8 := ⟨zmem 471 (by decide +kernel) rfl, zmem 6 (by decide +kernel) rfl⟩
theorem M_X8_carrying : zMw yX8_carrying cX8_carrying 2 (some .int) 1 := ⟨zmem 608 (by decide +kernel) rfl, zmem 44 (by decide +kernel) rfl, by decide +kernel, by decide⟩
theorem Mv_X8_carrying : zMv yX8_carrying RX8 := ⟨zmem 606 (by decide +kernel) rfl, zmem 607 (by decide +kernel) rfl⟩
theorem M_X8_comes : zMw yX8_comes cX8_comes 7 (some .int) 4 := ⟨zmem 706 (by decide +kernel) rfl, zmem 44 (by decide +kernel) rfl, by decide +kernel, by decide⟩
theorem Mv_X8_comes : zMv yX8_comes RX8 := ⟨zmem 704 (by decide +kernel) rfl, zmem 705 (by decide +kernel) rfl⟩
theorem M_X8_comesFault : zMw yX8_comesFault cX8_comesFault 5 (some .int) 4 := ⟨zmem 710 (by decide +kernel) rfl, zmem 44 (by decide +kernel) rfl, by decide +kernel, by decide⟩
theorem Mv_X8_comesFault : zMv yX8_comesFault RX8 := ⟨zmem 709 (by decide +kernel) rfl, zmem 22 (by decide +kernel) rfl⟩
theorem M_X8_copies : zMw yX8_copies cX8_copies 3 (some .int) 2 := ⟨zmem 755 (by decide +kernel) rfl, zmem 44 (by decide +kernel) rfl, by decide +kernel, by decide⟩
theorem Mv_X8_copies : zMv yX8_copies RX8 := ⟨zmem 753 (by decide +kernel) rfl, zmem 754 (by decide +kernel) rfl⟩
theorem M_X8_doubles : zMw yX8_doubles cX8_doubles 6 (some .int) 4 := ⟨zmem 532 (by decide +kernel) rfl, zmem 44 (by decide +kernel) rfl, by decide +kernel, by decide⟩
theorem Mv_X8_doubles : zMv yX8_doubles RX8 := ⟨zmem 530 (by decide +kernel) rfl, zmem 531 (by decide +kernel) rfl⟩
theorem M_X8_fare : zMw yX8_fare cX8_fare 4 (some .boolean) 3 := ⟨zmem 448 (by decide +kernel) rfl, zmem 44 (by decide +kernel) rfl, by decide +kernel, by decide⟩
theorem Mv_X8_fare : zMv yX8_fare RX8 := ⟨zmem 446 (by decide +kernel) rfl, zmem 447 (by decide +kernel) rfl⟩
theorem M_X8_fares : zMw yX8_fares cX8_fares 2 (some .int) 1 := ⟨zmem 638 (by decide +kernel) rfl, zmem 44 (by decide +kernel) rfl, by decide +kernel, by decide⟩
theorem Mv_X8_fares : zMv yX8_fares RX8 := ⟨zmem 636 (by decide +kernel) rfl, zmem 637 (by decide +kernel) rfl⟩
theorem M_X8_fly : zMw yX8_fly cX8_fly 4 (some .boolean) 3 := ⟨zmem 685 (by decide +kernel) rfl, zmem 44 (by decide +kernel) rfl, by decide +kernel, by decide⟩
theorem Mv_X8_fly : zMv yX8_fly RX8 := ⟨zmem 683 (by decide +kernel) rfl, zmem 684 (by decide +kernel) rfl⟩
theorem M_X8_flyFault : zMw yX8_flyFault cX8_flyFault 5 (some .int) 3 := ⟨zmem 689 (by decide +kernel) rfl, zmem 44 (by decide +kernel) rfl, by decide +kernel, by decide⟩
theorem Mv_X8_flyFault : zMv yX8_flyFault RX8 := ⟨zmem 688 (by decide +kernel) rfl, zmem 20 (by decide +kernel) rfl⟩
theorem M_X8_isBird : zMw yX8_isBird cX8_isBird 2 (some .boolean) 1 := ⟨zmem 476 (by decide +kernel) rfl, zmem 44 (by decide +kernel) rfl, by decide +kernel, by decide⟩
theorem Mv_X8_isBird : zMv yX8_isBird RX8 := ⟨zmem 475 (by decide +kernel) rfl, zmem 7 (by decide +kernel) rfl⟩
theorem M_X8_isChance : zMw yX8_isChance cX8_isChance 2 (some .boolean) 2 := ⟨zmem 535 (by decide +kernel) rfl, zmem 44 (by decide +kernel) rfl, by decide +kernel, by decide⟩
theorem Ms_X8_isChance : Cond.static yX8_isChance ∈ zW := zmem 534 (by decide +kernel) rfl
theorem M_X8_isLetter : zMw yX8_isLetter cX8_isLetter 2 (some .boolean) 1 := ⟨zmem 693 (by decide +kernel) rfl, zmem 44 (by decide +kernel) rfl, by decide +kernel, by decide⟩
theorem Mv_X8_isLetter : zMv yX8_isLetter RX8 := ⟨zmem 692 (by decide +kernel) rfl, zmem 21 (by decide +kernel) rfl⟩
theorem M_X8_isMinute : zMw yX8_isMinute cX8_isMinute 1 (some .boolean) 1 := ⟨zmem 667 (by decide +kernel) rfl, zmem 44 (by decide +kernel) rfl, by decide +kernel, by decide⟩
theorem Ms_X8_isMinute : Cond.static yX8_isMinute ∈ zW := zmem 666 (by decide +kernel) rfl
theorem M_X8_isTear : zMw yX8_isTear cX8_isTear 4 (some .boolean) 3 := ⟨zmem 714 (by decide +kernel) rfl, zmem 44 (by decide +kernel) rfl, by decide +kernel, by decide⟩
theorem Mv_X8_isTear : zMv yX8_isTear RX8 := ⟨zmem 713 (by decide +kernel) rfl, zmem 23 (by decide +kernel) rfl⟩
theorem M_X8_isTown : zMw yX8_isTown cX8_isTown 2 (some .boolean) 1 := ⟨zmem 436 (by decide +kernel) rfl, zmem 44 (by decide +kernel) rfl, by decide +kernel, by decide⟩
theorem Mv_X8_isTown : zMv yX8_isTown RX8 := ⟨zmem 435 (by decide +kernel) rfl, zmem 4 (by decide +kernel) rfl⟩
theorem M_X8_isTray : zMw yX8_isTray cX8_isTray 1 (some .boolean) 1 := ⟨zmem 360 (by decide +kernel) rfl, zmem 44 (by decide +kernel) rfl, by decide +kernel, by decide⟩
theorem Ms_X8_isTray : Cond.static yX8_isTray ∈ zW := zmem 359 (by decide +kernel) rfl
theorem M_X8_joined : zMw yX8_joined cX8_joined 4 (some .int) 3 := ⟨zmem 743 (by decide +kernel) rfl, zmem 44 (by decide +kernel) rfl, by decide +kernel, by decide⟩
theorem Mv_X8_joined : zMv yX8_joined RX8 := ⟨zmem 741 (by decide +kernel) rfl, zmem 742 (by decide +kernel) rfl⟩
theorem M_X8_joinedFault : zMw yX8_joinedFault cX8_joinedFault 4 (some .int) 3 := ⟨zmem 747 (by decide +kernel) rfl, zmem 44 (by decide +kernel) rfl, by decide +kernel, by decide⟩
theorem Mv_X8_joinedFault : zMv yX8_joinedFault RX8 := ⟨zmem 746 (by decide +kernel) rfl, zmem 25 (by decide +kernel) rfl⟩
theorem M_X8_knows : zMw yX8_knows cX8_knows 4 (some .int) 2 := ⟨zmem 739 (by decide +kernel) rfl, zmem 44 (by decide +kernel) rfl, by decide +kernel, by decide⟩
theorem Mv_X8_knows : zMv yX8_knows RX8 := ⟨zmem 737 (by decide +kernel) rfl, zmem 738 (by decide +kernel) rfl⟩
theorem M_X8_lack : zMw yX8_lack cX8_lack 3 (some .int) 2 := ⟨zmem 597 (by decide +kernel) rfl, zmem 44 (by decide +kernel) rfl, by decide +kernel, by decide⟩
theorem Mv_X8_lack : zMv yX8_lack RX8 := ⟨zmem 595 (by decide +kernel) rfl, zmem 596 (by decide +kernel) rfl⟩
theorem M_X8_leg : zMw yX8_leg cX8_leg 3 (some .int) 2 := ⟨zmem 585 (by decide +kernel) rfl, zmem 44 (by decide +kernel) rfl, by decide +kernel, by decide⟩
theorem Mv_X8_leg : zMv yX8_leg RX8 := ⟨zmem 583 (by decide +kernel) rfl, zmem 584 (by decide +kernel) rfl⟩
theorem M_X8_legFault : zMw yX8_legFault cX8_legFault 3 (some .int) 2 := ⟨zmem 589 (by decide +kernel) rfl, zmem 44 (by decide +kernel) rfl, by decide +kernel, by decide⟩
theorem Mv_X8_legFault : zMv yX8_legFault RX8 := ⟨zmem 588 (by decide +kernel) rfl, zmem 15 (by decide +kernel) rfl⟩
theorem M_X8_letter : zMw yX8_letter cX8_letter 5 (some .int) 4 := ⟨zmem 660 (by decide +kernel) rfl, zmem 44 (by decide +kernel) rfl, by decide +kernel, by decide⟩
theorem Mv_X8_letter : zMv yX8_letter RX8 := ⟨zmem 658 (by decide +kernel) rfl, zmem 659 (by decide +kernel) rfl⟩
theorem M_X8_letterFault : zMw yX8_letterFault cX8_letterFault 5 (some .int) 4 := ⟨zmem 664 (by decide +kernel) rfl, zmem 44 (by decide +kernel) rfl, by decide +kernel, by decide⟩
theorem Mv_X8_letterFault : zMv yX8_letterFault RX8 := ⟨zmem 663 (by decide +kernel) rfl, zmem 19 (by decide +kernel) rfl⟩
theorem M_X8_lose : zMw yX8_lose cX8_lose 3 (some .boolean) 2 := ⟨zmem 727 (by decide +kernel) rfl, zmem 44 (by decide +kernel) rfl, by decide +kernel, by decide⟩
theorem Mv_X8_lose : zMv yX8_lose RX8 := ⟨zmem 725 (by decide +kernel) rfl, zmem 726 (by decide +kernel) rfl⟩
theorem M_X8_loseFault : zMw yX8_loseFault cX8_loseFault 3 (some .int) 2 := ⟨zmem 731 (by decide +kernel) rfl, zmem 44 (by decide +kernel) rfl, by decide +kernel, by decide⟩
theorem Mv_X8_loseFault : zMv yX8_loseFault RX8 := ⟨zmem 730 (by decide +kernel) rfl, zmem 24 (by decide +kernel) rfl⟩
theorem M_X8_placeFault : zMw yX8_placeFault cX8_placeFault 3 (some .int) 2 := ⟨zmem 381 (by decide +kernel) rfl, zmem 44 (by decide +kernel) rfl, by decide +kernel, by decide⟩
theorem Mv_X8_placeFault : zMv yX8_placeFault RX8 := ⟨zmem 380 (by decide +kernel) rfl, zmem 0 (by decide +kernel) rfl⟩
theorem M_X8_pour : zMw yX8_pour cX8_pour 6 (some .boolean) 5 := ⟨zmem 401 (by decide +kernel) rfl, zmem 44 (by decide +kernel) rfl, by decide +kernel, by decide⟩
theorem Mv_X8_pour : zMv yX8_pour RX8 := ⟨zmem 399 (by decide +kernel) rfl, zmem 400 (by decide +kernel) rfl⟩
theorem M_X8_pourFault : zMw yX8_pourFault cX8_pourFault 6 (some .int) 5 := ⟨zmem 405 (by decide +kernel) rfl, zmem 44 (by decide +kernel) rfl, by decide +kernel, by decide⟩
theorem Mv_X8_pourFault : zMv yX8_pourFault RX8 := ⟨zmem 404 (by decide +kernel) rfl, zmem 1 (by decide +kernel) rfl⟩
theorem M_X8_power : zMw yX8_power cX8_power 6 (some .long) 2 := ⟨zmem 509 (by decide +kernel) rfl, zmem 44 (by decide +kernel) rfl, by decide +kernel, by decide⟩
theorem Ms_X8_power : Cond.static yX8_power ∈ zW := zmem 508 (by decide +kernel) rfl
theorem M_X8_read : zMw yX8_read cX8_read 3 (some .long) 2 := ⟨zmem 396 (by decide +kernel) rfl, zmem 44 (by decide +kernel) rfl, by decide +kernel, by decide⟩
theorem Mv_X8_read : zMv yX8_read RX8 := ⟨zmem 394 (by decide +kernel) rfl, zmem 395 (by decide +kernel) rfl⟩
theorem M_X8_reading : zMw yX8_reading cX8_reading 4 (some .boolean) 3 := ⟨zmem 759 (by decide +kernel) rfl, zmem 44 (by decide +kernel) rfl, by decide +kernel, by decide⟩
theorem Mv_X8_reading : zMv yX8_reading RX8 := ⟨zmem 757 (by decide +kernel) rfl, zmem 758 (by decide +kernel) rfl⟩
theorem M_X8_readingFault : zMw yX8_readingFault cX8_readingFault 4 (some .int) 3 := ⟨zmem 763 (by decide +kernel) rfl, zmem 44 (by decide +kernel) rfl, by decide +kernel, by decide⟩
theorem Mv_X8_readingFault : zMv yX8_readingFault RX8 := ⟨zmem 762 (by decide +kernel) rfl, zmem 26 (by decide +kernel) rfl⟩
theorem M_X8_relay : zMw yX8_relay cX8_relay 6 (some .int) 4 := ⟨zmem 545 (by decide +kernel) rfl, zmem 44 (by decide +kernel) rfl, by decide +kernel, by decide⟩
theorem Mv_X8_relay : zMv yX8_relay RX8 := ⟨zmem 543 (by decide +kernel) rfl, zmem 544 (by decide +kernel) rfl⟩
theorem M_X8_right : zMw yX8_right cX8_right 3 (some .int) 2 := ⟨zmem 776 (by decide +kernel) rfl, zmem 44 (by decide +kernel) rfl, by decide +kernel, by decide⟩
theorem Mv_X8_right : zMv yX8_right RX8 := ⟨zmem 774 (by decide +kernel) rfl, zmem 775 (by decide +kernel) rfl⟩
theorem M_X8_rightFault : zMw yX8_rightFault cX8_rightFault 3 (some .int) 2 := ⟨zmem 780 (by decide +kernel) rfl, zmem 44 (by decide +kernel) rfl, by decide +kernel, by decide⟩
theorem Mv_X8_rightFault : zMv yX8_rightFault RX8 := ⟨zmem 779 (by decide +kernel) rfl, zmem 27 (by decide +kernel) rfl⟩
theorem M_X8_road : zMw yX8_road cX8_road 5 (some .boolean) 4 := ⟨zmem 424 (by decide +kernel) rfl, zmem 44 (by decide +kernel) rfl, by decide +kernel, by decide⟩
theorem Mv_X8_road : zMv yX8_road RX8 := ⟨zmem 422 (by decide +kernel) rfl, zmem 423 (by decide +kernel) rfl⟩
theorem M_X8_roadFault : zMw yX8_roadFault cX8_roadFault 5 (some .int) 4 := ⟨zmem 428 (by decide +kernel) rfl, zmem 44 (by decide +kernel) rfl, by decide +kernel, by decide⟩
theorem Mv_X8_roadFault : zMv yX8_roadFault RX8 := ⟨zmem 427 (by decide +kernel) rfl, zmem 2 (by decide +kernel) rfl⟩
theorem M_X8_send : zMw yX8_send cX8_send 2 (some .int) 1 := ⟨zmem 646 (by decide +kernel) rfl, zmem 44 (by decide +kernel) rfl, by decide +kernel, by decide⟩
theorem Mv_X8_send : zMv yX8_send RX8 := ⟨zmem 644 (by decide +kernel) rfl, zmem 645 (by decide +kernel) rfl⟩
theorem M_X8_status : zMw yX8_status cX8_status 1 (some .int) 0 := ⟨zmem 345 (by decide +kernel) rfl, zmem 44 (by decide +kernel) rfl, by decide +kernel, by decide⟩
theorem Mv_X8_status : zMv yX8_status RX8 := ⟨zmem 343 (by decide +kernel) rfl, zmem 344 (by decide +kernel) rfl⟩
theorem M_X8_sure : zMw yX8_sure cX8_sure 4 (some .int) 3 := ⟨zmem 497 (by decide +kernel) rfl, zmem 44 (by decide +kernel) rfl, by decide +kernel, by decide⟩
theorem Mv_X8_sure : zMv yX8_sure RX8 := ⟨zmem 495 (by decide +kernel) rfl, zmem 496 (by decide +kernel) rfl⟩
theorem M_X8_sureFault : zMw yX8_sureFault cX8_sureFault 4 (some .int) 3 := ⟨zmem 501 (by decide +kernel) rfl, zmem 44 (by decide +kernel) rfl, by decide +kernel, by decide⟩
theorem Mv_X8_sureFault : zMv yX8_sureFault RX8 := ⟨zmem 500 (by decide +kernel) rfl, zmem 8 (by decide +kernel) rfl⟩
theorem M_X8_told : zMw yX8_told cX8_told 3 (some .int) 2 := ⟨zmem 485 (by decide +kernel) rfl, zmem 44 (by decide +kernel) rfl, by decide +kernel, by decide⟩
theorem Mv_X8_told : zMv yX8_told RX8 := ⟨zmem 483 (by decide +kernel) rfl, zmem 484 (by decide +kernel) rfl⟩
theorem M_X8_top : zMw yX8_top cX8_top 1 (some .long) 0 := ⟨zmem 349 (by decide +kernel) rfl, zmem 44 (by decide +kernel) rfl, by decide +kernel, by decide⟩
theorem Mv_X8_top : zMv yX8_top RX8 := ⟨zmem 347 (by decide +kernel) rfl, zmem 348 (by decide +kernel) rfl⟩
theorem M_X8_town : zMw yX8_town cX8_town 1 (some .int) 0 := ⟨zmem 416 (by decide +kernel) rfl, zmem 44 (by decide +kernel) rfl, by decide +kernel, by decide⟩
theorem Mv_X8_town : zMv yX8_town RX8 := ⟨zmem 414 (by decide +kernel) rfl, zmem 415 (by decide +kernel) rfl⟩
theorem M_X8_tray : zMw yX8_tray cX8_tray 4 (some .boolean) 3 := ⟨zmem 357 (by decide +kernel) rfl, zmem 44 (by decide +kernel) rfl, by decide +kernel, by decide⟩
theorem Mv_X8_tray : zMv yX8_tray RX8 := ⟨zmem 355 (by decide +kernel) rfl, zmem 356 (by decide +kernel) rfl⟩
theorem M_X8_waits : zMw yX8_waits cX8_waits 3 (some .int) 2 := ⟨zmem 493 (by decide +kernel) rfl, zmem 44 (by decide +kernel) rfl, by decide +kernel, by decide⟩
theorem Mv_X8_waits : zMv yX8_waits RX8 := ⟨zmem 491 (by decide +kernel) rfl, zmem 492 (by decide +kernel) rfl⟩
theorem M_X8_want : zMw yX8_want cX8_want 5 (some .boolean) 4 := ⟨zmem 593 (by decide +kernel) rfl, zmem 44 (by decide +kernel) rfl, by decide +kernel, by decide⟩
theorem Mv_X8_want : zMv yX8_want RX8 := ⟨zmem 591 (by decide +kernel) rfl, zmem 592 (by decide +kernel) rfl⟩
theorem M_X8_within : zMw yX8_within cX8_within 3 (some .boolean) 3 := ⟨zmem 363 (by decide +kernel) rfl, zmem 44 (by decide +kernel) rfl, by decide +kernel, by decide⟩
theorem Ms_X8_within : Cond.static yX8_within ∈ zW := zmem 362 (by decide +kernel) rfl
theorem M_X8_write : zMw yX8_write cX8_write 5 (some .boolean) 3 := ⟨zmem 377 (by decide +kernel) rfl, zmem 44 (by decide +kernel) rfl, by decide +kernel, by decide⟩
theorem Mv_X8_write : zMv yX8_write RX8 := ⟨zmem 375 (by decide +kernel) rfl, zmem 376 (by decide +kernel) rfl⟩
theorem M_X8_wrongUnless : zMw yX8_wrongUnless cX8_wrongUnless 1 (some .int) 1 := ⟨zmem 366 (by decide +kernel) rfl, zmem 44 (by decide +kernel) rfl, by decide +kernel, by decide⟩
theorem Ms_X8_wrongUnless : Cond.static yX8_wrongUnless ∈ zW := zmem 365 (by decide +kernel) rfl
theorem M_X9_at : zMw yX9_at cX9_at 2 (some .int) 2 := ⟨zmem 987 (by decide +kernel) rfl, zmem 54 (by decide +kernel) rfl, by decide +kernel, by decide⟩
theorem Ms_X9_at : Cond.static yX9_at ∈ zW := zmem 986 (by decide +kernel) rfl
theorem M_X9_bird : zMw yX9_bird cX9_bird 2 (some .int) 1 := ⟨zmem 1003 (by decide +kernel) rfl, zmem 54 (by decide +kernel) rfl, by decide +kernel, by decide⟩
theorem Mv_X9_bird : zMv yX9_bird RX9 := ⟨zmem 1001 (by decide +kernel) rfl, zmem 1002 (by decide +kernel) rfl⟩
theorem M_X9_bottom : zMw yX9_bottom cX9_bottom 1 (some .long) 0 := ⟨zmem 945 (by decide +kernel) rfl, zmem 54 (by decide +kernel) rfl, by decide +kernel, by decide⟩
theorem Mv_X9_bottom : zMv yX9_bottom RX9 := ⟨zmem 943 (by decide +kernel) rfl, zmem 944 (by decide +kernel) rfl⟩
theorem M_X9_bring : zMw yX9_bring cX9_bring 9 (some .long) 1 := ⟨zmem 1082 (by decide +kernel) rfl, zmem 54 (by decide +kernel) rfl, by decide +kernel, by decide⟩
theorem Mv_X9_bring : zMv yX9_bring RX9 := ⟨zmem 1081 (by decide +kernel) rfl, zmem 40 (by decide +kernel) rfl⟩
theorem M_X9_carried : zMw yX9_carried cX9_carried 5 (some .int) 2 := ⟨zmem 1095 (by decide +kernel) rfl, zmem 54 (by decide +kernel) rfl, by decide +kernel, by decide⟩
theorem Mv_X9_carried : zMv yX9_carried RX9 := ⟨zmem 1093 (by decide +kernel) rfl, zmem 1094 (by decide +kernel) rfl⟩
theorem M_X9_carry : zMw yX9_carry cX9_carry 3 (some .boolean) 2 := ⟨zmem 1007 (by decide +kernel) rfl, zmem 54 (by decide +kernel) rfl, by decide +kernel, by decide⟩
theorem Mv_X9_carry : zMv yX9_carry RX9 := ⟨zmem 1005 (by decide +kernel) rfl, zmem 1006 (by decide +kernel) rfl⟩
theorem M_X9_carrying : zMw yX9_carrying cX9_carrying 6 (some .int) 1 := ⟨zmem 1078 (by decide +kernel) rfl, zmem 54 (by decide +kernel) rfl, by decide +kernel, by decide⟩
theorem Mv_X9_carrying : zMv yX9_carrying RX9 := ⟨zmem 1076 (by decide +kernel) rfl, zmem 1077 (by decide +kernel) rfl⟩
theorem M_X9_comes : zMw yX9_comes cX9_comes 11 (some .int) 4 := ⟨zmem 1127 (by decide +kernel) rfl, zmem 54 (by decide +kernel) rfl, by decide +kernel, by decide⟩
theorem Mv_X9_comes : zMv yX9_comes RX9 := ⟨zmem 1125 (by decide +kernel) rfl, zmem 1126 (by decide +kernel) rfl⟩
theorem M_X9_copies : zMw yX9_copies cX9_copies 3 (some .int) 2 := ⟨zmem 1143 (by decide +kernel) rfl, zmem 54 (by decide +kernel) rfl, by decide +kernel, by decide⟩
theorem Mv_X9_copies : zMv yX9_copies RX9 := ⟨zmem 1141 (by decide +kernel) rfl, zmem 1142 (by decide +kernel) rfl⟩
theorem M_X9_count : zMw yX9_count cX9_count 5 (some .int) 2 := ⟨zmem 1023 (by decide +kernel) rfl, zmem 54 (by decide +kernel) rfl, by decide +kernel, by decide⟩
theorem Mv_X9_count : zMv yX9_count RX9 := ⟨zmem 1022 (by decide +kernel) rfl, zmem 34 (by decide +kernel) rfl⟩
theorem M_X9_cut : zMw yX9_cut cX9_cut 3 (some .long) 2 := ⟨zmem 967 (by decide +kernel) rfl, zmem 54 (by decide +kernel) rfl, by decide +kernel, by decide⟩
theorem Ms_X9_cut : Cond.static yX9_cut ∈ zW := zmem 966 (by decide +kernel) rfl
theorem M_X9_doubles : zMw yX9_doubles cX9_doubles 7 (some .int) 4 := ⟨zmem 1042 (by decide +kernel) rfl, zmem 54 (by decide +kernel) rfl, by decide +kernel, by decide⟩
theorem Mv_X9_doubles : zMv yX9_doubles RX9 := ⟨zmem 1040 (by decide +kernel) rfl, zmem 1041 (by decide +kernel) rfl⟩
theorem M_X9_fare : zMw yX9_fare cX9_fare 4 (some .boolean) 3 := ⟨zmem 999 (by decide +kernel) rfl, zmem 54 (by decide +kernel) rfl, by decide +kernel, by decide⟩
theorem Mv_X9_fare : zMv yX9_fare RX9 := ⟨zmem 997 (by decide +kernel) rfl, zmem 998 (by decide +kernel) rfl⟩
theorem M_X9_fares : zMw yX9_fares cX9_fares 6 (some .int) 1 := ⟨zmem 1099 (by decide +kernel) rfl, zmem 54 (by decide +kernel) rfl, by decide +kernel, by decide⟩
theorem Mv_X9_fares : zMv yX9_fares RX9 := ⟨zmem 1097 (by decide +kernel) rfl, zmem 1098 (by decide +kernel) rfl⟩
theorem M_X9_fly : zMw yX9_fly cX9_fly 4 (some .boolean) 3 := ⟨zmem 1119 (by decide +kernel) rfl, zmem 54 (by decide +kernel) rfl, by decide +kernel, by decide⟩
theorem Mv_X9_fly : zMv yX9_fly RX9 := ⟨zmem 1117 (by decide +kernel) rfl, zmem 1118 (by decide +kernel) rfl⟩
theorem M_X9_is : zMw yX9_is cX9_is 2 (some .boolean) 1 := ⟨zmem 956 (by decide +kernel) rfl, zmem 54 (by decide +kernel) rfl, by decide +kernel, by decide⟩
theorem Mv_X9_is : zMv yX9_is RX9 := ⟨zmem 955 (by decide +kernel) rfl, zmem 29 (by decide +kernel) rfl⟩
theorem M_X9_isAhead : zMw yX9_isAhead cX9_isAhead 6 (some .boolean) 2 := ⟨zmem 1057 (by decide +kernel) rfl, zmem 54 (by decide +kernel) rfl, by decide +kernel, by decide⟩
theorem Mv_X9_isAhead : zMv yX9_isAhead RX9 := ⟨zmem 1056 (by decide +kernel) rfl, zmem 38 (by decide +kernel) rfl⟩
theorem M_X9_isBird : zMw yX9_isBird cX9_isBird 2 (some .boolean) 1 := ⟨zmem 1011 (by decide +kernel) rfl, zmem 54 (by decide +kernel) rfl, by decide +kernel, by decide⟩
theorem Mv_X9_isBird : zMv yX9_isBird RX9 := ⟨zmem 1010 (by decide +kernel) rfl, zmem 33 (by decide +kernel) rfl⟩
theorem M_X9_isLetter : zMw yX9_isLetter cX9_isLetter 2 (some .boolean) 1 := ⟨zmem 1123 (by decide +kernel) rfl, zmem 54 (by decide +kernel) rfl, by decide +kernel, by decide⟩
theorem Mv_X9_isLetter : zMv yX9_isLetter RX9 := ⟨zmem 1122 (by decide +kernel) rfl, zmem 42 (by decide +kernel) rfl⟩
theorem M_X9_isMinute : zMw yX9_isMinute cX9_isMinute 1 (some .boolean) 1 := ⟨zmem 1110 (by decide +kernel) rfl, zmem 54 (by decide +kernel) rfl, by decide +kernel, by decide⟩
theorem Ms_X9_isMinute : Cond.static yX9_isMinute ∈ zW := zmem 1109 (by decide +kernel) rfl
theorem M_X9_isShare : zMw yX9_isShare cX9_isShare 2 (some .boolean) 2 := ⟨zmem 1045 (by decide +kernel) rfl, zmem 54 (by decide +kernel) rfl, by decide +kernel, by decide⟩
theorem Ms_X9_isShare : Cond.static yX9_isShare ∈ zW := zmem 1044 (by decide +kernel) rfl
theorem M_X9_isTown : zMw yX9_isTown cX9_isTown 2 (some .boolean) 1 := ⟨zmem 995 (by decide +kernel) rfl, zmem 54 (by decide +kernel) rfl, by decide +kernel, by decide⟩
theorem Mv_X9_isTown : zMv yX9_isTown RX9 := ⟨zmem 994 (by decide +kernel) rfl, zmem 32 (by decide +kernel) rfl⟩
theorem M_X9_isTray : zMw yX9_isTray cX9_isTray 1 (some .boolean) 1 := ⟨zmem 952 (by decide +kernel) rfl, zmem 54 (by decide +kernel) rfl, by decide +kernel, by decide⟩
theorem Ms_X9_isTray : Cond.static yX9_isTray ∈ zW := zmem 951 (by decide +kernel) rfl
theorem M_X9_joined : zMw yX9_joined cX9_joined 4 (some .int) 3 := ⟨zmem 1139 (by decide +kernel) rfl, zmem 54 (by decide +kernel) rfl, by decide +kernel, by decide⟩
theorem Mv_X9_joined : zMv yX9_joined RX9 := ⟨zmem 1137 (by decide +kernel) rfl, zmem 1138 (by decide +kernel) rfl⟩
theorem M_X9_knows : zMw yX9_knows cX9_knows 3 (some .int) 2 := ⟨zmem 1135 (by decide +kernel) rfl, zmem 54 (by decide +kernel) rfl, by decide +kernel, by decide⟩
theorem Mv_X9_knows : zMv yX9_knows RX9 := ⟨zmem 1133 (by decide +kernel) rfl, zmem 1134 (by decide +kernel) rfl⟩
theorem M_X9_lack : zMw yX9_lack cX9_lack 3 (some .int) 2 := ⟨zmem 1069 (by decide +kernel) rfl, zmem 54 (by decide +kernel) rfl, by decide +kernel, by decide⟩
theorem Mv_X9_lack : zMv yX9_lack RX9 := ⟨zmem 1067 (by decide +kernel) rfl, zmem 1068 (by decide +kernel) rfl⟩
theorem M_X9_lackOf : zMw yX9_lackOf cX9_lackOf 3 (some .int) 2 := ⟨zmem 1073 (by decide +kernel) rfl, zmem 54 (by decide +kernel) rfl, by decide +kernel, by decide⟩
theorem Mv_X9_lackOf : zMv yX9_lackOf RX9 := ⟨zmem 1072 (by decide +kernel) rfl, zmem 39 (by decide +kernel) rfl⟩
theorem M_X9_leg : zMw yX9_leg cX9_leg 3 (some .int) 2 := ⟨zmem 1061 (by decide +kernel) rfl, zmem 54 (by decide +kernel) rfl, by decide +kernel, by decide⟩
theorem Mv_X9_leg : zMv yX9_leg RX9 := ⟨zmem 1059 (by decide +kernel) rfl, zmem 1060 (by decide +kernel) rfl⟩
theorem M_X9_letter : zMw yX9_letter cX9_letter 8 (some .int) 4 := ⟨zmem 1107 (by decide +kernel) rfl, zmem 54 (by decide +kernel) rfl, by decide +kernel, by decide⟩
theorem Mv_X9_letter : zMv yX9_letter RX9 := ⟨zmem 1105 (by decide +kernel) rfl, zmem 1106 (by decide +kernel) rfl⟩
theorem M_X9_lose : zMw yX9_lose cX9_lose 3 (some .boolean) 2 := ⟨zmem 1131 (by decide +kernel) rfl, zmem 54 (by decide +kernel) rfl, by decide +kernel, by decide⟩
theorem Mv_X9_lose : zMv yX9_lose RX9 := ⟨zmem 1129 (by decide +kernel) rfl, zmem 1130 (by decide +kernel) rfl⟩
theorem M_X9_place : zMw yX9_place cX9_place 2 (some .int) 2 := ⟨zmem 1115 (by decide +kernel) rfl, zmem 54 (by decide +kernel) rfl, by decide +kernel, by decide⟩
theorem Ms_X9_place : Cond.static yX9_place ∈ zW := zmem 1114 (by decide +kernel) rfl
theorem M_X9_pour : zMw yX9_pour cX9_pour 8 (some .boolean) 5 := ⟨zmem 976 (by decide +kernel) rfl, zmem 54 (by decide +kernel) rfl, by decide +kernel, by decide⟩
theorem Mv_X9_pour : zMv yX9_pour RX9 := ⟨zmem 974 (by decide +kernel) rfl, zmem 975 (by decide +kernel) rfl⟩
theorem M_X9_power : zMw yX9_power cX9_power 5 (some .long) 2 := ⟨zmem 1034 (by decide +kernel) rfl, zmem 54 (by decide +kernel) rfl, by decide +kernel, by decide⟩
theorem Ms_X9_power : Cond.static yX9_power ∈ zW := zmem 1033 (by decide +kernel) rfl
theorem M_X9_read : zMw yX9_read cX9_read 3 (some .long) 2 := ⟨zmem 971 (by decide +kernel) rfl, zmem 54 (by decide +kernel) rfl, by decide +kernel, by decide⟩
theorem Mv_X9_read : zMv yX9_read RX9 := ⟨zmem 969 (by decide +kernel) rfl, zmem 970 (by decide +kernel) rfl⟩
theorem M_X9_reading : zMw yX9_reading cX9_reading 5 (some .boolean) 3 := ⟨zmem 1147 (by decide +kernel) rfl, zmem 54 (by decide +kernel) rfl, by decide +kernel, by decide⟩
theorem Mv_X9_reading : zMv yX9_reading RX9 := ⟨zmem 1145 (by decide +kernel) rfl, zmem 1146 (by decide +kernel) rfl⟩
theorem M_X9_refuse : zMw yX9_refuse cX9_refuse 2 (some .int) 1 := ⟨zmem 984 (by decide +kernel) rfl, zmem 54 (by decide +kernel) rfl, by decide +kernel, by decide⟩
theorem Mv_X9_refuse : zMv yX9_refuse RX9 := ⟨zmem 983 (by decide +kernel) rfl, zmem 31 (by decide +kernel) rfl⟩
theorem M_X9_relay : zMw yX9_relay cX9_relay 7 (some .int) 4 := ⟨zmem 1049 (by decide +kernel) rfl, zmem 54 (by decide +kernel) rfl, by decide +kernel, by decide⟩
theorem Mv_X9_relay : zMv yX9_relay RX9 := ⟨zmem 1047 (by decide +kernel) rfl, zmem 1048 (by decide +kernel) rfl⟩
theorem M_X9_right : zMw yX9_right cX9_right 9 (some .int) 2 := ⟨zmem 1152 (by decide +kernel) rfl, zmem 54 (by decide +kernel) rfl, by decide +kernel, by decide⟩
theorem Mv_X9_right : zMv yX9_right RX9 := ⟨zmem 1150 (by decide +kernel) rfl, zmem 1151 (by decide +kernel) rfl⟩
theorem M_X9_road : zMw yX9_road cX9_road 5 (some .boolean) 4 := ⟨zmem 991 (by decide +kernel) rfl, zmem 54 (by decide +kernel) rfl, by decide +kernel, by decide⟩
theorem Mv_X9_road : zMv yX9_road RX9 := ⟨zmem 989 (by decide +kernel) rfl, zmem 990 (by decide +kernel) rfl⟩
theorem M_X9_send : zMw yX9_send cX9_send 7 (some .int) 1 := ⟨zmem 1103 (by decide +kernel) rfl, zmem 54 (by decide +kernel) rfl, by decide +kernel, by decide⟩
theorem Mv_X9_send : zMv yX9_send RX9 := ⟨zmem 1101 (by decide +kernel) rfl, zmem 1102 (by decide +kernel) rfl⟩
theorem M_X9_status : zMw yX9_status cX9_status 1 (some .int) 0 := ⟨zmem 937 (by decide +kernel) rfl, zmem 54 (by decide +kernel) rfl, by decide +kernel, by decide⟩
theorem Mv_X9_status : zMv yX9_status RX9 := ⟨zmem 935 (by decide +kernel) rfl, zmem 936 (by decide +kernel) rfl⟩
theorem M_X9_sure : zMw yX9_sure cX9_sure 5 (some .int) 3 := ⟨zmem 1027 (by decide +kernel) rfl, zmem 54 (by decide +kernel) rfl, by decide +kernel, by decide⟩
theorem Mv_X9_sure : zMv yX9_sure RX9 := ⟨zmem 1025 (by decide +kernel) rfl, zmem 1026 (by decide +kernel) rfl⟩
theorem M_X9_tells : zMw yX9_tells cX9_tells 11 (some .int) 2 := ⟨zmem 1038 (by decide +kernel) rfl, zmem 54 (by decide +kernel) rfl, by decide +kernel, by decide⟩
theorem Mv_X9_tells : zMv yX9_tells RX9 := ⟨zmem 1037 (by decide +kernel) rfl, zmem 36 (by decide +kernel) rfl⟩
theorem M_X9_told : zMw yX9_told cX9_told 3 (some .int) 2 := ⟨zmem 1015 (by decide +kernel) rfl, zmem 54 (by decide +kernel) rfl, by decide +kernel, by decide⟩
theorem Mv_X9_told : zMv yX9_told RX9 := ⟨zmem 1013 (by decide +kernel) rfl, zmem 1014 (by decide +kernel) rfl⟩
theorem M_X9_top : zMw yX9_top cX9_top 1 (some .long) 0 := ⟨zmem 941 (by decide +kernel) rfl, zmem 54 (by decide +kernel) rfl, by decide +kernel, by decide⟩
theorem Mv_X9_top : zMv yX9_top RX9 := ⟨zmem 939 (by decide +kernel) rfl, zmem 940 (by decide +kernel) rfl⟩
theorem M_X9_town : zMw yX9_town cX9_town 2 (some .int) 0 := ⟨zmem 980 (by decide +kernel) rfl, zmem 54 (by decide +kernel) rfl, by decide +kernel, by decide⟩
theorem Mv_X9_town : zMv yX9_town RX9 := ⟨zmem 978 (by decide +kernel) rfl, zmem 979 (by decide +kernel) rfl⟩
theorem M_X9_tray : zMw yX9_tray cX9_tray 5 (some .boolean) 3 := ⟨zmem 949 (by decide +kernel) rfl, zmem 54 (by decide +kernel) rfl, by decide +kernel, by decide⟩
theorem Mv_X9_tray : zMv yX9_tray RX9 := ⟨zmem 947 (by decide +kernel) rfl, zmem 948 (by decide +kernel) rfl⟩
theorem M_X9_tryWay : zMw yX9_tryWay cX9_tryWay 14 none 2 := ⟨zmem 1053 (by decide +kernel) rfl, zmem 54 (by decide +kernel) rfl, by decide +kernel, by decide⟩
theorem Mv_X9_tryWay : zMv yX9_tryWay RX9 := ⟨zmem 1052 (by decide +kernel) rfl, zmem 37 (by decide +kernel) rfl⟩
theorem M_X9_value : zMw yX9_value cX9_value 4 (some .long) 3 := ⟨zmem 1086 (by decide +kernel) rfl, zmem 54 (by decide +kernel) rfl, by decide +kernel, by decide⟩
theorem Mv_X9_value : zMv yX9_value RX9 := ⟨zmem 1085 (by decide +kernel) rfl, zmem 41 (by decide +kernel) rfl⟩
theorem M_X9_waits : zMw yX9_waits cX9_waits 3 (some .int) 2 := ⟨zmem 1019 (by decide +kernel) rfl, zmem 54 (by decide +kernel) rfl, by decide +kernel, by decide⟩
theorem Mv_X9_waits : zMv yX9_waits RX9 := ⟨zmem 1017 (by decide +kernel) rfl, zmem 1018 (by decide +kernel) rfl⟩
theorem M_X9_want : zMw yX9_want cX9_want 5 (some .boolean) 4 := ⟨zmem 1065 (by decide +kernel) rfl, zmem 54 (by decide +kernel) rfl, by decide +kernel, by decide⟩
theorem Mv_X9_want : zMv yX9_want RX9 := ⟨zmem 1063 (by decide +kernel) rfl, zmem 1064 (by decide +kernel) rfl⟩
theorem M_X9_write : zMw yX9_write cX9_write 6 (some .boolean) 3 := ⟨zmem 960 (by decide +kernel) rfl, zmem 54 (by decide +kernel) rfl, by decide +kernel, by decide⟩
theorem Mv_X9_write : zMv yX9_write RX9 := ⟨zmem 958 (by decide +kernel) rfl, zmem 959 (by decide +kernel) rfl⟩
theorem M_X9_wrong : zMw yX9_wrong cX9_wrong 3 (some .int) 2 := ⟨zmem 964 (by decide +kernel) rfl, zmem 54 (by decide +kernel) rfl, by decide +kernel, by decide⟩
theorem Mv_X9_wrong : zMv yX9_wrong RX9 := ⟨zmem 963 (by decide +kernel) rfl, zmem 30 (by decide +kernel) rfl⟩
theorem M_X9_wrongRoad : zMw yX9_wrongRoad cX9_wrongRoad 3 (some .int) 2 := ⟨zmem 1031 (by decide +kernel) rfl, zmem 54 (by decide +kernel) rfl, by decide +kernel, by decide⟩
theorem Mv_X9_wrongRoad : zMv yX9_wrongRoad RX9 := ⟨zmem 1030 (by decide +kernel) rfl, zmem 35 (by decide +kernel) rfl⟩
theorem zin_X8 : ∀ w ∈ u_ws RX8 TX8 10, w ∈ zW := zmems [321, 323, 325, 327, 329, 331, 333, 335, 337, 339] (by decide +kernel) (by decide +kernel)
theorem ob_X8 : zOb 0 RX8 := ⟨by decide, 8, TX8, 10, rfl, fun _ _ _ => ⟨_, rfl⟩⟩
theorem zin_X3 : ∀ w ∈ u_ws RX3 TX3 2, w ∈ zW := zmems [76, 78] (by decide +kernel) (by decide +kernel)
theorem ob_X3 : zOb 1 RX3 := ⟨by decide, 3, TX3, 2, rfl, fun _ _ _ => ⟨_, rfl⟩⟩
theorem zin_X7 : ∀ w ∈ u_ws RX7 TX7 3, w ∈ zW := zmems [98, 100, 102] (by decide +kernel) (by decide +kernel)
theorem ob_X7 : zOb 2 RX7 := ⟨by decide, 7, TX7, 3, rfl, fun _ _ _ => ⟨_, rfl⟩⟩
theorem zin_X6 : ∀ w ∈ u_ws RX6 TX6 4, w ∈ zW := zmems [125, 127, 129, 131] (by decide +kernel) (by decide +kernel)
theorem ob_X6 : zOb 7 RX6 := ⟨by decide, 6, TX6, 4, rfl, fun _ _ _ => ⟨_, rfl⟩⟩
theorem zin_X1 : ∀ w ∈ u_ws RX1 TX1 7, w ∈ zW := zmems [157, 159, 161, 163, 165, 167, 169] (by decide +kernel) (by decide +kernel)
theorem ob_X1 : zOb 14 RX1 := ⟨by decide, 1, TX1, 7, rfl, fun _ _ _ => ⟨_, rfl⟩⟩
theorem zin_X5 : ∀ w ∈ u_ws RX5 TX5 15, w ∈ zW := zmems [198, 200, 202, 204, 206, 208, 210, 212, 214, 216, 218, 220, 222, 224, 226] (by decide +kernel) (by decide +kernel)
theorem ob_X5 : zOb 22 RX5 := ⟨by decide, 5, TX5, 15, rfl, fun _ _ _ => ⟨_, rfl⟩⟩
theorem zin_X0 : ∀ w ∈ u_ws RX0 TX0 7, w ∈ zW := zmems [247, 249, 251, 253, 255, 257, 259] (by decide +kernel) (by decide +kernel)
theorem ob_X0 : zOb 28 RX0 := ⟨by decide, 0, TX0, 7, rfl, fun _ _ _ => ⟨_, rfl⟩⟩
theorem zin_X4 : ∀ w ∈ u_ws RX4 TX4 6, w ∈ zW := zmems [280, 282, 284, 286, 288, 290] (by decide +kernel) (by decide +kernel)
theorem ob_X4 : zOb 38 RX4 := ⟨by decide, 4, TX4, 6, rfl, fun _ _ _ => ⟨_, rfl⟩⟩
theorem zin_X2 : ∀ w ∈ u_ws RX2 TX2 3, w ∈ zW := zmems [304, 306, 308] (by decide +kernel) (by decide +kernel)
theorem ob_X2 : zOb 48 RX2 := ⟨by decide, 2, TX2, 3, rfl, fun _ _ _ => ⟨_, rfl⟩⟩
theorem zin_X9 : ∀ w ∈ u_ws RX9 TX9 45, w ∈ zW := zmems [842, 844, 846, 848, 850, 852, 854, 856, 858, 860, 862, 864, 866, 868, 870, 872, 874, 876, 878, 880, 882, 884, 886, 888, 890, 892, 894, 896, 898, 900, 902, 904, 906, 908, 910, 912, 914, 916, 918, 920, 922, 924, 926, 928, 930] (by decide +kernel) (by decide +kernel)
theorem ob_X9 : zOb 54 RX9 := ⟨by decide, 9, TX9, 45, rfl, fun _ _ _ => ⟨_, rfl⟩⟩
theorem za_3 : zIA 3 4 0 := fun _ _ _ _ => rfl
theorem za_4 : zIA 4 4 0 := fun _ _ _ _ => rfl
theorem za_5 : zRA 5 4 6 4 := fun _ _ _ _ => rfl
theorem za_6 : zJA 6 60 := fun _ _ _ _ => rfl
theorem za_8 : zRA 8 10 9 3 := fun _ _ _ _ => rfl
theorem za_9 : zIA 9 10 0 := fun _ _ _ _ => rfl
theorem za_10 : zRA 10 10 11 3 := fun _ _ _ _ => rfl
theorem za_11 : zIA 11 10 0 := fun _ _ _ _ => rfl
theorem za_12 : zRA 12 10 13 3 := fun _ _ _ _ => rfl
theorem za_13 : zIA 13 10 0 := fun _ _ _ _ => rfl
theorem za_15 : zIA 15 60 0 := fun _ _ _ _ => rfl
theorem za_16 : zIA 16 60 0 := fun _ _ _ _ => rfl
theorem za_17 : zIA 17 60 0 := fun _ _ _ _ => rfl
theorem za_18 : zIA 18 60 0 := fun _ _ _ _ => rfl
theorem za_19 : zIA 19 60 0 := fun _ _ _ _ => rfl
theorem za_20 : zRA 20 10 21 3 := fun _ _ _ _ => rfl
theorem za_21 : zIA 21 10 0 := fun _ _ _ _ => rfl
theorem za_23 : zIA 23 4 0 := fun _ _ _ _ => rfl
theorem za_24 : zIA 24 3 0 := fun _ _ _ _ => rfl
theorem za_25 : zIA 25 3 0 := fun _ _ _ _ => rfl
theorem za_26 : zIA 26 4 0 := fun _ _ _ _ => rfl
theorem za_27 : zIA 27 3 0 := fun _ _ _ _ => rfl
theorem za_29 : zRA 29 10 30 3 := fun _ _ _ _ => rfl
theorem za_30 : zIA 30 10 0 := fun _ _ _ _ => rfl
theorem za_31 : zRA 31 10 32 3 := fun _ _ _ _ => rfl
theorem za_32 : zIA 32 10 0 := fun _ _ _ _ => rfl
theorem za_33 : zRA 33 11 34 4 := fun _ _ _ _ => rfl
theorem za_34 : zJA 34 61 := fun _ _ _ _ => rfl
theorem za_35 : zRA 35 10 36 3 := fun _ _ _ _ => rfl
theorem za_36 : zIA 36 61 0 := fun _ _ _ _ => rfl
theorem za_37 : zIA 37 10 0 := fun _ _ _ _ => rfl
theorem za_39 : zIA 39 40 0 := fun _ _ _ _ => rfl
theorem za_40 : zRA 40 40 41 3 := fun _ _ _ _ => rfl
theorem za_41 : zIA 41 40 0 := fun _ _ _ _ => rfl
theorem za_42 : zRA 42 40 43 3 := fun _ _ _ _ => rfl
theorem za_43 : zIA 43 3 0 := fun _ _ _ _ => rfl
theorem za_44 : zRA 44 40 45 3 := fun _ _ _ _ => rfl
theorem za_45 : zIA 45 10 0 := fun _ _ _ _ => rfl
theorem za_46 : zRA 46 40 47 4 := fun _ _ _ _ => rfl
theorem za_47 : zJA 47 10 := fun _ _ _ _ => rfl
theorem za_49 : zIA 49 10 0 := fun _ _ _ _ => rfl
theorem za_50 : zRA 50 10 51 3 := fun _ _ _ _ => rfl
theorem za_51 : zIA 51 10 0 := fun _ _ _ _ => rfl
theorem za_52 : zRA 52 10 53 3 := fun _ _ _ _ => rfl
theorem za_53 : zIA 53 10 0 := fun _ _ _ _ => rfl
theorem za_55 : zIA 55 4 0 := fun _ _ _ _ => rfl
theorem za_56 : zIA 56 4 0 := fun _ _ _ _ => rfl
theorem za_57 : zJA 57 240 := fun _ _ _ _ => rfl
theorem za_58 : zIA 58 100 0 := fun _ _ _ _ => rfl
theorem za_59 : zIA 59 100 0 := fun _ _ _ _ => rfl
theorem za_60 : zIA 60 100 0 := fun _ _ _ _ => rfl
theorem za_61 : zIA 61 100 0 := fun _ _ _ _ => rfl
theorem za_62 : zIA 62 100 0 := fun _ _ _ _ => rfl
theorem za_63 : zIA 63 60 0 := fun _ _ _ _ => rfl
theorem za_64 : zIA 64 60 0 := fun _ _ _ _ => rfl
theorem za_65 : zIA 65 60 0 := fun _ _ _ _ => rfl
theorem za_66 : zIA 66 60 0 := fun _ _ _ _ => rfl
theorem za_67 : zIA 67 60 0 := fun _ _ _ _ => rfl
theorem za_68 : zIA 68 4 0 := fun _ _ _ _ => rfl
theorem za_69 : zIA 69 3 0 := fun _ _ _ _ => rfl
theorem za_70 : zIA 70 4 0 := fun _ _ _ _ => rfl
theorem za_71 : zIA 71 3 0 := fun _ _ _ _ => rfl
theorem za_72 : zIA 72 4 0 := fun _ _ _ _ => rfl
theorem za_73 : zIA 73 3 0 := fun _ _ _ _ => rfl
theorem za_74 : zJA 74 671 := fun _ _ _ _ => rfl
theorem za_75 : zIA 75 10 0 := fun _ _ _ _ => rfl
theorem za_76 : zIA 76 40 0 := fun _ _ _ _ => rfl
theorem za_77 : zIA 77 40 0 := fun _ _ _ _ => rfl
theorem za_78 : zIA 78 40 0 := fun _ _ _ _ => rfl
theorem za_79 : zIA 79 40 0 := fun _ _ _ _ => rfl
theorem za_80 : zIA 80 1600 0 := fun _ _ _ _ => rfl
theorem za_81 : zIA 81 400 0 := fun _ _ _ _ => rfl
theorem za_82 : zIA 82 16000 2 := fun _ _ _ _ => rfl
theorem za_83 : zIA 83 10 0 := fun _ _ _ _ => rfl
theorem za_84 : zIA 84 100 0 := fun _ _ _ _ => rfl
theorem za_85 : zIA 85 100 0 := fun _ _ _ _ => rfl
theorem f_X0_11 {X : zX} {cc : ByteArray} {nL d pc : Nat} {lv : List (Nat × Value)} {st : List Value} {σ : zS} (C : zC X cc RX0 nL d) (hd : decode cc pc = .ok (.getfield 11, 3)) (K : zV X (pc + 3) lv (.ref ((zXE X).1 29 0) :: st) σ) : zV X pc lv (.ref ((zXE X).1 28 0) :: st) σ := z_get C (Cn := RX0) (T := TX0) (N := 7) (ci := 0) (k := 28) (j := 2) rfl zin_X0 (by decide) rfl (by decide) kw_f_X0_11 rfl rfl hd K
theorem f_X0_16 {X : zX} {cc : ByteArray} {nL d pc : Nat} {lv : List (Nat × Value)} {st : List Value} {σ : zS} (C : zC X cc RX0 nL d) (hd : decode cc pc = .ok (.getfield 16, 3)) (K : zV X (pc + 3) lv (.ref ((zXE X).1 31 0) :: st) σ) : zV X pc lv (.ref ((zXE X).1 28 0) :: st) σ := z_get C (Cn := RX0) (T := TX0) (N := 7) (ci := 0) (k := 28) (j := 3) rfl zin_X0 (by decide) rfl (by decide) kw_f_X0_16 rfl rfl hd K
theorem f_X0_21 {X : zX} {cc : ByteArray} {nL d pc : Nat} {lv : List (Nat × Value)} {st : List Value} {σ : zS} (C : zC X cc RX0 nL d) (hd : decode cc pc = .ok (.getfield 21, 3)) (K : zV X (pc + 3) lv (.ref ((zXE X).1 33 0) :: st) σ) : zV X pc lv (.ref ((zXE X).1 28 0) :: st) σ := z_get C (Cn := RX0) (T := TX0) (N := 7) (ci := 0) (k := 28) (j := 4) rfl zin_X0 (by decide) rfl (by decide) kw_f_X0_21 rfl rfl hd K
theorem f_X0_24 {X : zX} {cc : ByteArray} {nL d pc : Nat} {lv : List (Nat × Value)} {st : List Value} {σ : zS} (C : zC X cc RX0 nL d) (hd : decode cc pc = .ok (.getfield 24, 3)) (K : zV X (pc + 3) lv (.ref ((zXE X).1 35 0) :: st) σ) : zV X pc lv (.ref ((zXE X).1 28 0) :: st) σ := z_get C (Cn := RX0) (T := TX0) (N := 7) (ci := 0) (k := 28) (j := 5) rfl zin_X0 (by decide) rfl (by decide) kw_f_X0_24 rfl rfl hd K
theorem f_X0_27 {X : zX} {cc : ByteArray} {nL d pc : Nat} {lv : List (Nat × Value)} {st : List Value} {σ : zS} (C : zC X cc RX0 nL d) (hd : decode cc pc = .ok (.getfield 27, 3)) (K : zV X (pc + 3) lv (.ref ((zXE X).1 37 0) :: st) σ) : zV X pc lv (.ref ((zXE X).1 28 0) :: st) σ := z_get C (Cn := RX0) (T := TX0) (N := 7) (ci := 0) (k := 28) (j := 6) rfl zin_X0 (by decide) rfl (by decide) kw_f_X0_27 rfl rfl hd K
theorem f_X0_31 {X : zX} {cc : ByteArray} {nL d pc : Nat} {lv : List (Nat × Value)} {st : List Value} {σ : zS} (C : zC X cc RX0 nL d) (hd : decode cc pc = .ok (.getfield 31, 3)) (K : zV X (pc + 3) lv (.ref ((zXE X).1 7 0) :: st) σ) : zV X pc lv (.ref ((zXE X).1 28 0) :: st) σ := z_get C (Cn := RX0) (T := TX0) (N := 7) (ci := 0) (k := 28) (j := 0) rfl zin_X0 (by decide) rfl (by decide) kw_f_X0_31 rfl rfl hd K
theorem f_X0_35 {X : zX} {cc : ByteArray} {nL d pc : Nat} {lv : List (Nat × Value)} {st : List Value} {σ : zS} (C : zC X cc RX0 nL d) (hd : decode cc pc = .ok (.getfield 35, 3)) (K : zV X (pc + 3) lv (.ref ((zXE X).1 14 0) :: st) σ) : zV X pc lv (.ref ((zXE X).1 28 0) :: st) σ := z_get C (Cn := RX0) (T := TX0) (N := 7) (ci := 0) (k := 28) (j := 1) rfl zin_X0 (by decide) rfl (by decide) kw_f_X0_35 rfl rfl hd K
theorem f_X0_39 {X : zX} {cc : ByteArray} {nL d pc : Nat} {lv : List (Nat × Value)} {st : List Value} {σ : zS} (C : zC X cc RX0 nL d) (hd : decode cc pc = .ok (.getfield 39, 3)) (K : zV X (pc + 3) lv (.ref ((zXE X).1 20 0) :: st) σ) : zV X pc lv (.ref ((zXE X).1 14 0) :: st) σ := z_getN C (Cn := RX1) (T := TX1) (N := 7) (ci := 1) (k := 14) (j := 6) (host := "PigeonPost") rfl zin_X1 (by decide) rfl (by decide) kw_fn_X0_39 rfl rfl hd K
theorem f_X0_66 {X : zX} {cc : ByteArray} {nL d pc : Nat} {lv : List (Nat × Value)} {st : List Value} {σ : zS} (C : zC X cc RX0 nL d) (hd : decode cc pc = .ok (.getfield 66, 3)) (K : zV X (pc + 3) lv (.ref ((zXE X).1 12 0) :: st) σ) : zV X pc lv (.ref ((zXE X).1 7 0) :: st) σ := z_getN C (Cn := RX6) (T := TX6) (N := 4) (ci := 6) (k := 7) (j := 3) (host := "PigeonPost") rfl zin_X6 (by decide) rfl (by decide) kw_fn_X0_66 rfl rfl hd K
theorem f_X0_71 {X : zX} {cc : ByteArray} {nL d pc : Nat} {lv : List (Nat × Value)} {st : List Value} {σ : zS} (C : zC X cc RX0 nL d) (hd : decode cc pc = .ok (.getfield 71, 3)) (K : zV X (pc + 3) lv (.int (zi σ 14 0 0) :: st) σ) : zV X pc lv (.ref ((zXE X).1 14 0) :: st) σ := z_getN C (Cn := RX1) (T := TX1) (N := 7) (ci := 1) (k := 14) (j := 0) (host := "PigeonPost") rfl zin_X1 (by decide) rfl (by decide) kw_fn_X0_71 rfl rfl hd K
theorem f_X1_15 {X : zX} {cc : ByteArray} {nL d pc : Nat} {lv : List (Nat × Value)} {st : List Value} {σ : zS} (C : zC X cc RX1 nL d) (hd : decode cc pc = .ok (.getfield 15, 3)) (K : zV X (pc + 3) lv (.ref ((zXE X).1 15 0) :: st) σ) : zV X pc lv (.ref ((zXE X).1 14 0) :: st) σ := z_get C (Cn := RX1) (T := TX1) (N := 7) (ci := 1) (k := 14) (j := 1) rfl zin_X1 (by decide) rfl (by decide) kw_f_X1_15 rfl rfl hd K
theorem f_X1_19 {X : zX} {cc : ByteArray} {nL d pc : Nat} {lv : List (Nat × Value)} {st : List Value} {σ : zS} (C : zC X cc RX1 nL d) (hd : decode cc pc = .ok (.getfield 19, 3)) (K : zV X (pc + 3) lv (.ref ((zXE X).1 16 0) :: st) σ) : zV X pc lv (.ref ((zXE X).1 14 0) :: st) σ := z_get C (Cn := RX1) (T := TX1) (N := 7) (ci := 1) (k := 14) (j := 2) rfl zin_X1 (by decide) rfl (by decide) kw_f_X1_19 rfl rfl hd K
theorem f_X1_22 {X : zX} {cc : ByteArray} {nL d pc : Nat} {lv : List (Nat × Value)} {st : List Value} {σ : zS} (C : zC X cc RX1 nL d) (hd : decode cc pc = .ok (.getfield 22, 3)) (K : zV X (pc + 3) lv (.ref ((zXE X).1 17 0) :: st) σ) : zV X pc lv (.ref ((zXE X).1 14 0) :: st) σ := z_get C (Cn := RX1) (T := TX1) (N := 7) (ci := 1) (k := 14) (j := 3) rfl zin_X1 (by decide) rfl (by decide) kw_f_X1_22 rfl rfl hd K
theorem f_X1_25 {X : zX} {cc : ByteArray} {nL d pc : Nat} {lv : List (Nat × Value)} {st : List Value} {σ : zS} (C : zC X cc RX1 nL d) (hd : decode cc pc = .ok (.getfield 25, 3)) (K : zV X (pc + 3) lv (.ref ((zXE X).1 18 0) :: st) σ) : zV X pc lv (.ref ((zXE X).1 14 0) :: st) σ := z_get C (Cn := RX1) (T := TX1) (N := 7) (ci := 1) (k := 14) (j := 4) rfl zin_X1 (by decide) rfl (by decide) kw_f_X1_25 rfl rfl hd K
theorem f_X1_28 {X : zX} {cc : ByteArray} {nL d pc : Nat} {lv : List (Nat × Value)} {st : List Value} {σ : zS} (C : zC X cc RX1 nL d) (hd : decode cc pc = .ok (.getfield 28, 3)) (K : zV X (pc + 3) lv (.ref ((zXE X).1 19 0) :: st) σ) : zV X pc lv (.ref ((zXE X).1 14 0) :: st) σ := z_get C (Cn := RX1) (T := TX1) (N := 7) (ci := 1) (k := 14) (j := 5) rfl zin_X1 (by decide) rfl (by decide) kw_f_X1_28 rfl rfl hd K
theorem f_X1_33 {X : zX} {cc : ByteArray} {nL d pc : Nat} {lv : List (Nat × Value)} {st : List Value} {σ : zS} (C : zC X cc RX1 nL d) (hd : decode cc pc = .ok (.getfield 33, 3)) (K : zV X (pc + 3) lv (.ref ((zXE X).1 20 0) :: st) σ) : zV X pc lv (.ref ((zXE X).1 14 0) :: st) σ := z_get C (Cn := RX1) (T := TX1) (N := 7) (ci := 1) (k := 14) (j := 6) rfl zin_X1 (by decide) rfl (by decide) kw_f_X1_33 rfl rfl hd K
theorem f_X1_9 {X : zX} {cc : ByteArray} {nL d pc : Nat} {lv : List (Nat × Value)} {st : List Value} {σ : zS} (C : zC X cc RX1 nL d) (hd : decode cc pc = .ok (.getfield 9, 3)) (K : zV X (pc + 3) lv (.int (zi σ 14 0 0) :: st) σ) : zV X pc lv (.ref ((zXE X).1 14 0) :: st) σ := z_get C (Cn := RX1) (T := TX1) (N := 7) (ci := 1) (k := 14) (j := 0) rfl zin_X1 (by decide) rfl (by decide) kw_f_X1_9 rfl rfl hd K
theorem f_X2_17 {X : zX} {cc : ByteArray} {nL d pc : Nat} {lv : List (Nat × Value)} {st : List Value} {σ : zS} (C : zC X cc RX2 nL d) (hd : decode cc pc = .ok (.getfield 17, 3)) (K : zV X (pc + 3) lv (.ref ((zXE X).1 50 0) :: st) σ) : zV X pc lv (.ref ((zXE X).1 48 0) :: st) σ := z_get C (Cn := RX2) (T := TX2) (N := 3) (ci := 2) (k := 48) (j := 1) rfl zin_X2 (by decide) rfl (by decide) kw_f_X2_17 rfl rfl hd K
theorem f_X2_20 {X : zX} {cc : ByteArray} {nL d pc : Nat} {lv : List (Nat × Value)} {st : List Value} {σ : zS} (C : zC X cc RX2 nL d) (hd : decode cc pc = .ok (.getfield 20, 3)) (K : zV X (pc + 3) lv (.ref ((zXE X).1 52 0) :: st) σ) : zV X pc lv (.ref ((zXE X).1 48 0) :: st) σ := z_get C (Cn := RX2) (T := TX2) (N := 3) (ci := 2) (k := 48) (j := 2) rfl zin_X2 (by decide) rfl (by decide) kw_f_X2_20 rfl rfl hd K
theorem f_X2_9 {X : zX} {cc : ByteArray} {nL d pc : Nat} {lv : List (Nat × Value)} {st : List Value} {σ : zS} (C : zC X cc RX2 nL d) (hd : decode cc pc = .ok (.getfield 9, 3)) (K : zV X (pc + 3) lv (.ref ((zXE X).1 49 0) :: st) σ) : zV X pc lv (.ref ((zXE X).1 48 0) :: st) σ := z_get C (Cn := RX2) (T := TX2) (N := 3) (ci := 2) (k := 48) (j := 0) rfl zin_X2 (by decide) rfl (by decide) kw_f_X2_9 rfl rfl hd K
theorem f_X3_7 {X : zX} {cc : ByteArray} {nL d pc : Nat} {lv : List (Nat × Value)} {st : List Value} {σ : zS} (C : zC X cc RX3 nL d) (hd : decode cc pc = .ok (.getfield 7, 3)) (K : zV X (pc + 3) lv (.long (zj σ 1 0 0) :: st) σ) : zV X pc lv (.ref ((zXE X).1 1 0) :: st) σ := z_get C (Cn := RX3) (T := TX3) (N := 2) (ci := 3) (k := 1) (j := 0) rfl zin_X3 (by decide) rfl (by decide) kw_f_X3_7 rfl rfl hd K
theorem f_X4_15 {X : zX} {cc : ByteArray} {nL d pc : Nat} {lv : List (Nat × Value)} {st : List Value} {σ : zS} (C : zC X cc RX4 nL d) (hd : decode cc pc = .ok (.getfield 15, 3)) (K : zV X (pc + 3) lv (.ref ((zXE X).1 39 0) :: st) σ) : zV X pc lv (.ref ((zXE X).1 38 0) :: st) σ := z_get C (Cn := RX4) (T := TX4) (N := 6) (ci := 4) (k := 38) (j := 1) rfl zin_X4 (by decide) rfl (by decide) kw_f_X4_15 rfl rfl hd K
theorem f_X4_21 {X : zX} {cc : ByteArray} {nL d pc : Nat} {lv : List (Nat × Value)} {st : List Value} {σ : zS} (C : zC X cc RX4 nL d) (hd : decode cc pc = .ok (.getfield 21, 3)) (K : zV X (pc + 3) lv (.ref ((zXE X).1 40 0) :: st) σ) : zV X pc lv (.ref ((zXE X).1 38 0) :: st) σ := z_get C (Cn := RX4) (T := TX4) (N := 6) (ci := 4) (k := 38) (j := 2) rfl zin_X4 (by decide) rfl (by decide) kw_f_X4_21 rfl rfl hd K
theorem f_X4_27 {X : zX} {cc : ByteArray} {nL d pc : Nat} {lv : List (Nat × Value)} {st : List Value} {σ : zS} (C : zC X cc RX4 nL d) (hd : decode cc pc = .ok (.getfield 27, 3)) (K : zV X (pc + 3) lv (.ref ((zXE X).1 44 0) :: st) σ) : zV X pc lv (.ref ((zXE X).1 38 0) :: st) σ := z_get C (Cn := RX4) (T := TX4) (N := 6) (ci := 4) (k := 38) (j := 4) rfl zin_X4 (by decide) rfl (by decide) kw_f_X4_27 rfl rfl hd K
theorem f_X4_32 {X : zX} {cc : ByteArray} {nL d pc : Nat} {lv : List (Nat × Value)} {st : List Value} {σ : zS} (C : zC X cc RX4 nL d) (hd : decode cc pc = .ok (.getfield 32, 3)) (K : zV X (pc + 3) lv (.ref ((zXE X).1 46 0) :: st) σ) : zV X pc lv (.ref ((zXE X).1 38 0) :: st) σ := z_get C (Cn := RX4) (T := TX4) (N := 6) (ci := 4) (k := 38) (j := 5) rfl zin_X4 (by decide) rfl (by decide) kw_f_X4_32 rfl rfl hd K
theorem f_X4_9 {X : zX} {cc : ByteArray} {nL d pc : Nat} {lv : List (Nat × Value)} {st : List Value} {σ : zS} (C : zC X cc RX4 nL d) (hd : decode cc pc = .ok (.getfield 9, 3)) (K : zV X (pc + 3) lv (.int (zi σ 38 0 0) :: st) σ) : zV X pc lv (.ref ((zXE X).1 38 0) :: st) σ := z_get C (Cn := RX4) (T := TX4) (N := 6) (ci := 4) (k := 38) (j := 0) rfl zin_X4 (by decide) rfl (by decide) kw_f_X4_9 rfl rfl hd K
theorem f_X5_15 {X : zX} {cc : ByteArray} {nL d pc : Nat} {lv : List (Nat × Value)} {st : List Value} {σ : zS} (C : zC X cc RX5 nL d) (hd : decode cc pc = .ok (.getfield 15, 3)) (K : zV X (pc + 3) lv (.ref ((zXE X).1 24 0) :: st) σ) : zV X pc lv (.ref ((zXE X).1 22 0) :: st) σ := z_get C (Cn := RX5) (T := TX5) (N := 15) (ci := 5) (k := 22) (j := 3) rfl zin_X5 (by decide) rfl (by decide) kw_f_X5_15 rfl rfl hd K
theorem f_X5_18 {X : zX} {cc : ByteArray} {nL d pc : Nat} {lv : List (Nat × Value)} {st : List Value} {σ : zS} (C : zC X cc RX5 nL d) (hd : decode cc pc = .ok (.getfield 18, 3)) (K : zV X (pc + 3) lv (.ref ((zXE X).1 25 0) :: st) σ) : zV X pc lv (.ref ((zXE X).1 22 0) :: st) σ := z_get C (Cn := RX5) (T := TX5) (N := 15) (ci := 5) (k := 22) (j := 4) rfl zin_X5 (by decide) rfl (by decide) kw_f_X5_18 rfl rfl hd K
theorem f_X5_21 {X : zX} {cc : ByteArray} {nL d pc : Nat} {lv : List (Nat × Value)} {st : List Value} {σ : zS} (C : zC X cc RX5 nL d) (hd : decode cc pc = .ok (.getfield 21, 3)) (K : zV X (pc + 3) lv (.int (zi σ 22 0 5) :: st) σ) : zV X pc lv (.ref ((zXE X).1 22 0) :: st) σ := z_get C (Cn := RX5) (T := TX5) (N := 15) (ci := 5) (k := 22) (j := 5) rfl zin_X5 (by decide) rfl (by decide) kw_f_X5_21 rfl rfl hd K
theorem f_X5_25 {X : zX} {cc : ByteArray} {nL d pc : Nat} {lv : List (Nat × Value)} {st : List Value} {σ : zS} (C : zC X cc RX5 nL d) (hd : decode cc pc = .ok (.getfield 25, 3)) (K : zV X (pc + 3) lv (.int (zi σ 22 0 6) :: st) σ) : zV X pc lv (.ref ((zXE X).1 22 0) :: st) σ := z_get C (Cn := RX5) (T := TX5) (N := 15) (ci := 5) (k := 22) (j := 6) rfl zin_X5 (by decide) rfl (by decide) kw_f_X5_25 rfl rfl hd K
theorem f_X5_28 {X : zX} {cc : ByteArray} {nL d pc : Nat} {lv : List (Nat × Value)} {st : List Value} {σ : zS} (C : zC X cc RX5 nL d) (hd : decode cc pc = .ok (.getfield 28, 3)) (K : zV X (pc + 3) lv (.int (zi σ 22 0 7) :: st) σ) : zV X pc lv (.ref ((zXE X).1 22 0) :: st) σ := z_get C (Cn := RX5) (T := TX5) (N := 15) (ci := 5) (k := 22) (j := 7) rfl zin_X5 (by decide) rfl (by decide) kw_f_X5_28 rfl rfl hd K
theorem f_X5_31 {X : zX} {cc : ByteArray} {nL d pc : Nat} {lv : List (Nat × Value)} {st : List Value} {σ : zS} (C : zC X cc RX5 nL d) (hd : decode cc pc = .ok (.getfield 31, 3)) (K : zV X (pc + 3) lv (.int (zi σ 22 0 8) :: st) σ) : zV X pc lv (.ref ((zXE X).1 22 0) :: st) σ := z_get C (Cn := RX5) (T := TX5) (N := 15) (ci := 5) (k := 22) (j := 8) rfl zin_X5 (by decide) rfl (by decide) kw_f_X5_31 rfl rfl hd K
theorem f_X5_34 {X : zX} {cc : ByteArray} {nL d pc : Nat} {lv : List (Nat × Value)} {st : List Value} {σ : zS} (C : zC X cc RX5 nL d) (hd : decode cc pc = .ok (.getfield 34, 3)) (K : zV X (pc + 3) lv (.int (zi σ 22 0 9) :: st) σ) : zV X pc lv (.ref ((zXE X).1 22 0) :: st) σ := z_get C (Cn := RX5) (T := TX5) (N := 15) (ci := 5) (k := 22) (j := 9) rfl zin_X5 (by decide) rfl (by decide) kw_f_X5_34 rfl rfl hd K
theorem f_X5_37 {X : zX} {cc : ByteArray} {nL d pc : Nat} {lv : List (Nat × Value)} {st : List Value} {σ : zS} (C : zC X cc RX5 nL d) (hd : decode cc pc = .ok (.getfield 37, 3)) (K : zV X (pc + 3) lv (.ref ((zXE X).1 26 0) :: st) σ) : zV X pc lv (.ref ((zXE X).1 22 0) :: st) σ := z_get C (Cn := RX5) (T := TX5) (N := 15) (ci := 5) (k := 22) (j := 10) rfl zin_X5 (by decide) rfl (by decide) kw_f_X5_37 rfl rfl hd K
theorem f_X5_40 {X : zX} {cc : ByteArray} {nL d pc : Nat} {lv : List (Nat × Value)} {st : List Value} {σ : zS} (C : zC X cc RX5 nL d) (hd : decode cc pc = .ok (.getfield 40, 3)) (K : zV X (pc + 3) lv (.ref ((zXE X).1 27 0) :: st) σ) : zV X pc lv (.ref ((zXE X).1 22 0) :: st) σ := z_get C (Cn := RX5) (T := TX5) (N := 15) (ci := 5) (k := 22) (j := 11) rfl zin_X5 (by decide) rfl (by decide) kw_f_X5_40 rfl rfl hd K
theorem f_X5_53 {X : zX} {cc : ByteArray} {nL d pc : Nat} {lv : List (Nat × Value)} {st : List Value} {σ : zS} (C : zC X cc RX5 nL d) (hd : decode cc pc = .ok (.getfield 53, 3)) (K : zV X (pc + 3) lv (.ref ((zXE X).1 7 0) :: st) σ) : zV X pc lv (.ref ((zXE X).1 22 0) :: st) σ := z_get C (Cn := RX5) (T := TX5) (N := 15) (ci := 5) (k := 22) (j := 0) rfl zin_X5 (by decide) rfl (by decide) kw_f_X5_53 rfl rfl hd K
theorem f_X5_57 {X : zX} {cc : ByteArray} {nL d pc : Nat} {lv : List (Nat × Value)} {st : List Value} {σ : zS} (C : zC X cc RX5 nL d) (hd : decode cc pc = .ok (.getfield 57, 3)) (K : zV X (pc + 3) lv (.ref ((zXE X).1 14 0) :: st) σ) : zV X pc lv (.ref ((zXE X).1 22 0) :: st) σ := z_get C (Cn := RX5) (T := TX5) (N := 15) (ci := 5) (k := 22) (j := 1) rfl zin_X5 (by decide) rfl (by decide) kw_f_X5_57 rfl rfl hd K
theorem f_X5_65 {X : zX} {cc : ByteArray} {nL d pc : Nat} {lv : List (Nat × Value)} {st : List Value} {σ : zS} (C : zC X cc RX5 nL d) (hd : decode cc pc = .ok (.getfield 65, 3)) (K : zV X (pc + 3) lv (.int (zi σ 7 0 0) :: st) σ) : zV X pc lv (.ref ((zXE X).1 7 0) :: st) σ := z_getN C (Cn := RX6) (T := TX6) (N := 4) (ci := 6) (k := 7) (j := 0) (host := "PigeonPost") rfl zin_X6 (by decide) rfl (by decide) kw_fn_X5_65 rfl rfl hd K
theorem f_X5_80 {X : zX} {cc : ByteArray} {nL d pc : Nat} {lv : List (Nat × Value)} {st : List Value} {σ : zS} (C : zC X cc RX5 nL d) (hd : decode cc pc = .ok (.getfield 80, 3)) (K : zV X (pc + 3) lv (.ref ((zXE X).1 20 0) :: st) σ) : zV X pc lv (.ref ((zXE X).1 14 0) :: st) σ := z_getN C (Cn := RX1) (T := TX1) (N := 7) (ci := 1) (k := 14) (j := 6) (host := "PigeonPost") rfl zin_X1 (by decide) rfl (by decide) kw_fn_X5_80 rfl rfl hd K
theorem f_X5_9 {X : zX} {cc : ByteArray} {nL d pc : Nat} {lv : List (Nat × Value)} {st : List Value} {σ : zS} (C : zC X cc RX5 nL d) (hd : decode cc pc = .ok (.getfield 9, 3)) (K : zV X (pc + 3) lv (.ref ((zXE X).1 23 0) :: st) σ) : zV X pc lv (.ref ((zXE X).1 22 0) :: st) σ := z_get C (Cn := RX5) (T := TX5) (N := 15) (ci := 5) (k := 22) (j := 2) rfl zin_X5 (by decide) rfl (by decide) kw_f_X5_9 rfl rfl hd K
theorem f_X5_92 {X : zX} {cc : ByteArray} {nL d pc : Nat} {lv : List (Nat × Value)} {st : List Value} {σ : zS} (C : zC X cc RX5 nL d) (hd : decode cc pc = .ok (.getfield 92, 3)) (K : zV X (pc + 3) lv (.ref ((zXE X).1 8 0) :: st) σ) : zV X pc lv (.ref ((zXE X).1 7 0) :: st) σ := z_getN C (Cn := RX6) (T := TX6) (N := 4) (ci := 6) (k := 7) (j := 1) (host := "PigeonPost") rfl zin_X6 (by decide) rfl (by decide) kw_fn_X5_92 rfl rfl hd K
theorem f_X6_17 {X : zX} {cc : ByteArray} {nL d pc : Nat} {lv : List (Nat × Value)} {st : List Value} {σ : zS} (C : zC X cc RX6 nL d) (hd : decode cc pc = .ok (.getfield 17, 3)) (K : zV X (pc + 3) lv (.ref ((zXE X).1 8 0) :: st) σ) : zV X pc lv (.ref ((zXE X).1 7 0) :: st) σ := z_get C (Cn := RX6) (T := TX6) (N := 4) (ci := 6) (k := 7) (j := 1) rfl zin_X6 (by decide) rfl (by decide) kw_f_X6_17 rfl rfl hd K
theorem f_X6_20 {X : zX} {cc : ByteArray} {nL d pc : Nat} {lv : List (Nat × Value)} {st : List Value} {σ : zS} (C : zC X cc RX6 nL d) (hd : decode cc pc = .ok (.getfield 20, 3)) (K : zV X (pc + 3) lv (.ref ((zXE X).1 10 0) :: st) σ) : zV X pc lv (.ref ((zXE X).1 7 0) :: st) σ := z_get C (Cn := RX6) (T := TX6) (N := 4) (ci := 6) (k := 7) (j := 2) rfl zin_X6 (by decide) rfl (by decide) kw_f_X6_20 rfl rfl hd K
theorem f_X6_9 {X : zX} {cc : ByteArray} {nL d pc : Nat} {lv : List (Nat × Value)} {st : List Value} {σ : zS} (C : zC X cc RX6 nL d) (hd : decode cc pc = .ok (.getfield 9, 3)) (K : zV X (pc + 3) lv (.int (zi σ 7 0 0) :: st) σ) : zV X pc lv (.ref ((zXE X).1 7 0) :: st) σ := z_get C (Cn := RX6) (T := TX6) (N := 4) (ci := 6) (k := 7) (j := 0) rfl zin_X6 (by decide) rfl (by decide) kw_f_X6_9 rfl rfl hd K
theorem f_X7_15 {X : zX} {cc : ByteArray} {nL d pc : Nat} {lv : List (Nat × Value)} {st : List Value} {σ : zS} (C : zC X cc RX7 nL d) (hd : decode cc pc = .ok (.getfield 15, 3)) (K : zV X (pc + 3) lv (.ref ((zXE X).1 4 0) :: st) σ) : zV X pc lv (.ref ((zXE X).1 2 0) :: st) σ := z_get C (Cn := RX7) (T := TX7) (N := 3) (ci := 7) (k := 2) (j := 1) rfl zin_X7 (by decide) rfl (by decide) kw_f_X7_15 rfl rfl hd K
theorem f_X7_20 {X : zX} {cc : ByteArray} {nL d pc : Nat} {lv : List (Nat × Value)} {st : List Value} {σ : zS} (C : zC X cc RX7 nL d) (hd : decode cc pc = .ok (.getfield 20, 3)) (K : zV X (pc + 3) lv (.ref ((zXE X).1 5 0) :: st) σ) : zV X pc lv (.ref ((zXE X).1 2 0) :: st) σ := z_get C (Cn := RX7) (T := TX7) (N := 3) (ci := 7) (k := 2) (j := 2) rfl zin_X7 (by decide) rfl (by decide) kw_f_X7_20 rfl rfl hd K
theorem f_X7_9 {X : zX} {cc : ByteArray} {nL d pc : Nat} {lv : List (Nat × Value)} {st : List Value} {σ : zS} (C : zC X cc RX7 nL d) (hd : decode cc pc = .ok (.getfield 9, 3)) (K : zV X (pc + 3) lv (.ref ((zXE X).1 3 0) :: st) σ) : zV X pc lv (.ref ((zXE X).1 2 0) :: st) σ := z_get C (Cn := RX7) (T := TX7) (N := 3) (ci := 7) (k := 2) (j := 0) rfl zin_X7 (by decide) rfl (by decide) kw_f_X7_9 rfl rfl hd K
theorem f_X8_10 {X : zX} {cc : ByteArray} {nL d pc : Nat} {lv : List (Nat × Value)} {st : List Value} {σ : zS} (C : zC X cc RX8 nL d) (hd : decode cc pc = .ok (.getfield 10, 3)) (K : zV X (pc + 3) lv (.ref ((zXE X).1 1 0) :: st) σ) : zV X pc lv (.ref ((zXE X).1 0 0) :: st) σ := z_get C (Cn := RX8) (T := TX8) (N := 10) (ci := 8) (k := 0) (j := 0) rfl zin_X8 (by decide) rfl (by decide) kw_f_X8_10 rfl rfl hd K
theorem f_X8_107 {X : zX} {cc : ByteArray} {nL d pc : Nat} {lv : List (Nat × Value)} {st : List Value} {σ : zS} (C : zC X cc RX8 nL d) (hd : decode cc pc = .ok (.getfield 107, 3)) (K : zV X (pc + 3) lv (.ref ((zXE X).1 5 0) :: st) σ) : zV X pc lv (.ref ((zXE X).1 2 0) :: st) σ := z_getN C (Cn := RX7) (T := TX7) (N := 3) (ci := 7) (k := 2) (j := 2) (host := "PigeonPost") rfl zin_X7 (by decide) rfl (by decide) kw_fn_X8_107 rfl rfl hd K
theorem f_X8_121 {X : zX} {cc : ByteArray} {nL d pc : Nat} {lv : List (Nat × Value)} {st : List Value} {σ : zS} (C : zC X cc RX8 nL d) (hd : decode cc pc = .ok (.getfield 121, 3)) (K : zV X (pc + 3) lv (.int (zi σ 7 0 0) :: st) σ) : zV X pc lv (.ref ((zXE X).1 7 0) :: st) σ := z_getN C (Cn := RX6) (T := TX6) (N := 4) (ci := 6) (k := 7) (j := 0) (host := "PigeonPost") rfl zin_X6 (by decide) rfl (by decide) kw_fn_X8_121 rfl rfl hd K
theorem f_X8_140 {X : zX} {cc : ByteArray} {nL d pc : Nat} {lv : List (Nat × Value)} {st : List Value} {σ : zS} (C : zC X cc RX8 nL d) (hd : decode cc pc = .ok (.getfield 140, 3)) (K : zV X (pc + 3) lv (.ref ((zXE X).1 12 0) :: st) σ) : zV X pc lv (.ref ((zXE X).1 7 0) :: st) σ := z_getN C (Cn := RX6) (T := TX6) (N := 4) (ci := 6) (k := 7) (j := 3) (host := "PigeonPost") rfl zin_X6 (by decide) rfl (by decide) kw_fn_X8_140 rfl rfl hd K
theorem f_X8_170 {X : zX} {cc : ByteArray} {nL d pc : Nat} {lv : List (Nat × Value)} {st : List Value} {σ : zS} (C : zC X cc RX8 nL d) (hd : decode cc pc = .ok (.getfield 170, 3)) (K : zV X (pc + 3) lv (.ref ((zXE X).1 20 0) :: st) σ) : zV X pc lv (.ref ((zXE X).1 14 0) :: st) σ := z_getN C (Cn := RX1) (T := TX1) (N := 7) (ci := 1) (k := 14) (j := 6) (host := "PigeonPost") rfl zin_X1 (by decide) rfl (by decide) kw_fn_X8_170 rfl rfl hd K
theorem f_X8_19 {X : zX} {cc : ByteArray} {nL d pc : Nat} {lv : List (Nat × Value)} {st : List Value} {σ : zS} (C : zC X cc RX8 nL d) (hd : decode cc pc = .ok (.getfield 19, 3)) (K : zV X (pc + 3) lv (.ref ((zXE X).1 2 0) :: st) σ) : zV X pc lv (.ref ((zXE X).1 0 0) :: st) σ := z_get C (Cn := RX8) (T := TX8) (N := 10) (ci := 8) (k := 0) (j := 1) rfl zin_X8 (by decide) rfl (by decide) kw_f_X8_19 rfl rfl hd K
theorem f_X8_203 {X : zX} {cc : ByteArray} {nL d pc : Nat} {lv : List (Nat × Value)} {st : List Value} {σ : zS} (C : zC X cc RX8 nL d) (hd : decode cc pc = .ok (.getfield 203, 3)) (K : zV X (pc + 3) lv (.long (zj σ 22 0 13) :: st) σ) : zV X pc lv (.ref ((zXE X).1 22 0) :: st) σ := z_getN C (Cn := RX5) (T := TX5) (N := 15) (ci := 5) (k := 22) (j := 13) (host := "PigeonPost") rfl zin_X5 (by decide) rfl (by decide) kw_fn_X8_203 rfl rfl hd K
theorem f_X8_204 {X : zX} {cc : ByteArray} {nL d pc : Nat} {lv : List (Nat × Value)} {st : List Value} {σ : zS} (C : zC X cc RX8 nL d) (hd : decode cc pc = .ok (.getfield 204, 3)) (K : zV X (pc + 3) lv (.long (zj σ 22 0 14) :: st) σ) : zV X pc lv (.ref ((zXE X).1 22 0) :: st) σ := z_getN C (Cn := RX5) (T := TX5) (N := 15) (ci := 5) (k := 22) (j := 14) (host := "PigeonPost") rfl zin_X5 (by decide) rfl (by decide) kw_fn_X8_204 rfl rfl hd K
theorem f_X8_208 {X : zX} {cc : ByteArray} {nL d pc : Nat} {lv : List (Nat × Value)} {st : List Value} {σ : zS} (C : zC X cc RX8 nL d) (hd : decode cc pc = .ok (.getfield 208, 3)) (K : zV X (pc + 3) lv (.ref ((zXE X).1 27 0) :: st) σ) : zV X pc lv (.ref ((zXE X).1 22 0) :: st) σ := z_getN C (Cn := RX5) (T := TX5) (N := 15) (ci := 5) (k := 22) (j := 11) (host := "PigeonPost") rfl zin_X5 (by decide) rfl (by decide) kw_fn_X8_208 rfl rfl hd K
theorem f_X8_212 {X : zX} {cc : ByteArray} {nL d pc : Nat} {lv : List (Nat × Value)} {st : List Value} {σ : zS} (C : zC X cc RX8 nL d) (hd : decode cc pc = .ok (.getfield 212, 3)) (K : zV X (pc + 3) lv (.ref ((zXE X).1 26 0) :: st) σ) : zV X pc lv (.ref ((zXE X).1 22 0) :: st) σ := z_getN C (Cn := RX5) (T := TX5) (N := 15) (ci := 5) (k := 22) (j := 10) (host := "PigeonPost") rfl zin_X5 (by decide) rfl (by decide) kw_fn_X8_212 rfl rfl hd K
theorem f_X8_215 {X : zX} {cc : ByteArray} {nL d pc : Nat} {lv : List (Nat × Value)} {st : List Value} {σ : zS} (C : zC X cc RX8 nL d) (hd : decode cc pc = .ok (.getfield 215, 3)) (K : zV X (pc + 3) lv (.ref ((zXE X).1 29 0) :: st) σ) : zV X pc lv (.ref ((zXE X).1 28 0) :: st) σ := z_getN C (Cn := RX0) (T := TX0) (N := 7) (ci := 0) (k := 28) (j := 2) (host := "PigeonPost") rfl zin_X0 (by decide) rfl (by decide) kw_fn_X8_215 rfl rfl hd K
theorem f_X8_218 {X : zX} {cc : ByteArray} {nL d pc : Nat} {lv : List (Nat × Value)} {st : List Value} {σ : zS} (C : zC X cc RX8 nL d) (hd : decode cc pc = .ok (.getfield 218, 3)) (K : zV X (pc + 3) lv (.ref ((zXE X).1 31 0) :: st) σ) : zV X pc lv (.ref ((zXE X).1 28 0) :: st) σ := z_getN C (Cn := RX0) (T := TX0) (N := 7) (ci := 0) (k := 28) (j := 3) (host := "PigeonPost") rfl zin_X0 (by decide) rfl (by decide) kw_fn_X8_218 rfl rfl hd K
theorem f_X8_230 {X : zX} {cc : ByteArray} {nL d pc : Nat} {lv : List (Nat × Value)} {st : List Value} {σ : zS} (C : zC X cc RX8 nL d) (hd : decode cc pc = .ok (.getfield 230, 3)) (K : zV X (pc + 3) lv (.ref ((zXE X).1 37 0) :: st) σ) : zV X pc lv (.ref ((zXE X).1 28 0) :: st) σ := z_getN C (Cn := RX0) (T := TX0) (N := 7) (ci := 0) (k := 28) (j := 6) (host := "PigeonPost") rfl zin_X0 (by decide) rfl (by decide) kw_fn_X8_230 rfl rfl hd K
theorem f_X8_251 {X : zX} {cc : ByteArray} {nL d pc : Nat} {lv : List (Nat × Value)} {st : List Value} {σ : zS} (C : zC X cc RX8 nL d) (hd : decode cc pc = .ok (.getfield 251, 3)) (K : zV X (pc + 3) lv (.ref ((zXE X).1 42 0) :: st) σ) : zV X pc lv (.ref ((zXE X).1 38 0) :: st) σ := z_getN C (Cn := RX4) (T := TX4) (N := 6) (ci := 4) (k := 38) (j := 3) (host := "PigeonPost") rfl zin_X4 (by decide) rfl (by decide) kw_fn_X8_251 rfl rfl hd K
theorem f_X8_257 {X : zX} {cc : ByteArray} {nL d pc : Nat} {lv : List (Nat × Value)} {st : List Value} {σ : zS} (C : zC X cc RX8 nL d) (hd : decode cc pc = .ok (.getfield 257, 3)) (K : zV X (pc + 3) lv (.ref ((zXE X).1 19 0) :: st) σ) : zV X pc lv (.ref ((zXE X).1 14 0) :: st) σ := z_getN C (Cn := RX1) (T := TX1) (N := 7) (ci := 1) (k := 14) (j := 5) (host := "PigeonPost") rfl zin_X1 (by decide) rfl (by decide) kw_fn_X8_257 rfl rfl hd K
theorem f_X8_259 {X : zX} {cc : ByteArray} {nL d pc : Nat} {lv : List (Nat × Value)} {st : List Value} {σ : zS} (C : zC X cc RX8 nL d) (hd : decode cc pc = .ok (.getfield 259, 3)) (K : zV X (pc + 3) lv (.ref ((zXE X).1 15 0) :: st) σ) : zV X pc lv (.ref ((zXE X).1 14 0) :: st) σ := z_getN C (Cn := RX1) (T := TX1) (N := 7) (ci := 1) (k := 14) (j := 1) (host := "PigeonPost") rfl zin_X1 (by decide) rfl (by decide) kw_fn_X8_259 rfl rfl hd K
theorem f_X8_26 {X : zX} {cc : ByteArray} {nL d pc : Nat} {lv : List (Nat × Value)} {st : List Value} {σ : zS} (C : zC X cc RX8 nL d) (hd : decode cc pc = .ok (.getfield 26, 3)) (K : zV X (pc + 3) lv (.ref ((zXE X).1 7 0) :: st) σ) : zV X pc lv (.ref ((zXE X).1 0 0) :: st) σ := z_get C (Cn := RX8) (T := TX8) (N := 10) (ci := 8) (k := 0) (j := 2) rfl zin_X8 (by decide) rfl (by decide) kw_f_X8_26 rfl rfl hd K
theorem f_X8_278 {X : zX} {cc : ByteArray} {nL d pc : Nat} {lv : List (Nat × Value)} {st : List Value} {σ : zS} (C : zC X cc RX8 nL d) (hd : decode cc pc = .ok (.getfield 278, 3)) (K : zV X (pc + 3) lv (.ref ((zXE X).1 44 0) :: st) σ) : zV X pc lv (.ref ((zXE X).1 38 0) :: st) σ := z_getN C (Cn := RX4) (T := TX4) (N := 6) (ci := 4) (k := 38) (j := 4) (host := "PigeonPost") rfl zin_X4 (by decide) rfl (by decide) kw_fn_X8_278 rfl rfl hd K
theorem f_X8_302 {X : zX} {cc : ByteArray} {nL d pc : Nat} {lv : List (Nat × Value)} {st : List Value} {σ : zS} (C : zC X cc RX8 nL d) (hd : decode cc pc = .ok (.getfield 302, 3)) (K : zV X (pc + 3) lv (.ref ((zXE X).1 4 0) :: st) σ) : zV X pc lv (.ref ((zXE X).1 2 0) :: st) σ := z_getN C (Cn := RX7) (T := TX7) (N := 3) (ci := 7) (k := 2) (j := 1) (host := "PigeonPost") rfl zin_X7 (by decide) rfl (by decide) kw_fn_X8_302 rfl rfl hd K
theorem f_X8_305 {X : zX} {cc : ByteArray} {nL d pc : Nat} {lv : List (Nat × Value)} {st : List Value} {σ : zS} (C : zC X cc RX8 nL d) (hd : decode cc pc = .ok (.getfield 305, 3)) (K : zV X (pc + 3) lv (.ref ((zXE X).1 3 0) :: st) σ) : zV X pc lv (.ref ((zXE X).1 2 0) :: st) σ := z_getN C (Cn := RX7) (T := TX7) (N := 3) (ci := 7) (k := 2) (j := 0) (host := "PigeonPost") rfl zin_X7 (by decide) rfl (by decide) kw_fn_X8_305 rfl rfl hd K
theorem f_X8_314 {X : zX} {cc : ByteArray} {nL d pc : Nat} {lv : List (Nat × Value)} {st : List Value} {σ : zS} (C : zC X cc RX8 nL d) (hd : decode cc pc = .ok (.getfield 314, 3)) (K : zV X (pc + 3) lv (.int (zi σ 14 0 0) :: st) σ) : zV X pc lv (.ref ((zXE X).1 14 0) :: st) σ := z_getN C (Cn := RX1) (T := TX1) (N := 7) (ci := 1) (k := 14) (j := 0) (host := "PigeonPost") rfl zin_X1 (by decide) rfl (by decide) kw_fn_X8_314 rfl rfl hd K
theorem f_X8_315 {X : zX} {cc : ByteArray} {nL d pc : Nat} {lv : List (Nat × Value)} {st : List Value} {σ : zS} (C : zC X cc RX8 nL d) (hd : decode cc pc = .ok (.getfield 315, 3)) (K : zV X (pc + 3) lv (.ref ((zXE X).1 17 0) :: st) σ) : zV X pc lv (.ref ((zXE X).1 14 0) :: st) σ := z_getN C (Cn := RX1) (T := TX1) (N := 7) (ci := 1) (k := 14) (j := 3) (host := "PigeonPost") rfl zin_X1 (by decide) rfl (by decide) kw_fn_X8_315 rfl rfl hd K
theorem f_X8_318 {X : zX} {cc : ByteArray} {nL d pc : Nat} {lv : List (Nat × Value)} {st : List Value} {σ : zS} (C : zC X cc RX8 nL d) (hd : decode cc pc = .ok (.getfield 318, 3)) (K : zV X (pc + 3) lv (.int (zi σ 22 0 12) :: st) σ) : zV X pc lv (.ref ((zXE X).1 22 0) :: st) σ := z_getN C (Cn := RX5) (T := TX5) (N := 15) (ci := 5) (k := 22) (j := 12) (host := "PigeonPost") rfl zin_X5 (by decide) rfl (by decide) kw_fn_X8_318 rfl rfl hd K
theorem f_X8_327 {X : zX} {cc : ByteArray} {nL d pc : Nat} {lv : List (Nat × Value)} {st : List Value} {σ : zS} (C : zC X cc RX8 nL d) (hd : decode cc pc = .ok (.getfield 327, 3)) (K : zV X (pc + 3) lv (.int (zi σ 38 0 0) :: st) σ) : zV X pc lv (.ref ((zXE X).1 38 0) :: st) σ := z_getN C (Cn := RX4) (T := TX4) (N := 6) (ci := 4) (k := 38) (j := 0) (host := "PigeonPost") rfl zin_X4 (by decide) rfl (by decide) kw_fn_X8_327 rfl rfl hd K
theorem f_X8_33 {X : zX} {cc : ByteArray} {nL d pc : Nat} {lv : List (Nat × Value)} {st : List Value} {σ : zS} (C : zC X cc RX8 nL d) (hd : decode cc pc = .ok (.getfield 33, 3)) (K : zV X (pc + 3) lv (.ref ((zXE X).1 14 0) :: st) σ) : zV X pc lv (.ref ((zXE X).1 0 0) :: st) σ := z_get C (Cn := RX8) (T := TX8) (N := 10) (ci := 8) (k := 0) (j := 3) rfl zin_X8 (by decide) rfl (by decide) kw_f_X8_33 rfl rfl hd K
theorem f_X8_331 {X : zX} {cc : ByteArray} {nL d pc : Nat} {lv : List (Nat × Value)} {st : List Value} {σ : zS} (C : zC X cc RX8 nL d) (hd : decode cc pc = .ok (.getfield 331, 3)) (K : zV X (pc + 3) lv (.ref ((zXE X).1 16 0) :: st) σ) : zV X pc lv (.ref ((zXE X).1 14 0) :: st) σ := z_getN C (Cn := RX1) (T := TX1) (N := 7) (ci := 1) (k := 14) (j := 2) (host := "PigeonPost") rfl zin_X1 (by decide) rfl (by decide) kw_fn_X8_331 rfl rfl hd K
theorem f_X8_336 {X : zX} {cc : ByteArray} {nL d pc : Nat} {lv : List (Nat × Value)} {st : List Value} {σ : zS} (C : zC X cc RX8 nL d) (hd : decode cc pc = .ok (.getfield 336, 3)) (K : zV X (pc + 3) lv (.ref ((zXE X).1 39 0) :: st) σ) : zV X pc lv (.ref ((zXE X).1 38 0) :: st) σ := z_getN C (Cn := RX4) (T := TX4) (N := 6) (ci := 4) (k := 38) (j := 1) (host := "PigeonPost") rfl zin_X4 (by decide) rfl (by decide) kw_fn_X8_336 rfl rfl hd K
theorem f_X8_341 {X : zX} {cc : ByteArray} {nL d pc : Nat} {lv : List (Nat × Value)} {st : List Value} {σ : zS} (C : zC X cc RX8 nL d) (hd : decode cc pc = .ok (.getfield 341, 3)) (K : zV X (pc + 3) lv (.ref ((zXE X).1 49 0) :: st) σ) : zV X pc lv (.ref ((zXE X).1 48 0) :: st) σ := z_getN C (Cn := RX2) (T := TX2) (N := 3) (ci := 2) (k := 48) (j := 0) (host := "PigeonPost") rfl zin_X2 (by decide) rfl (by decide) kw_fn_X8_341 rfl rfl hd K
theorem f_X8_42 {X : zX} {cc : ByteArray} {nL d pc : Nat} {lv : List (Nat × Value)} {st : List Value} {σ : zS} (C : zC X cc RX8 nL d) (hd : decode cc pc = .ok (.getfield 42, 3)) (K : zV X (pc + 3) lv (.ref ((zXE X).1 22 0) :: st) σ) : zV X pc lv (.ref ((zXE X).1 0 0) :: st) σ := z_get C (Cn := RX8) (T := TX8) (N := 10) (ci := 8) (k := 0) (j := 4) rfl zin_X8 (by decide) rfl (by decide) kw_f_X8_42 rfl rfl hd K
theorem f_X8_49 {X : zX} {cc : ByteArray} {nL d pc : Nat} {lv : List (Nat × Value)} {st : List Value} {σ : zS} (C : zC X cc RX8 nL d) (hd : decode cc pc = .ok (.getfield 49, 3)) (K : zV X (pc + 3) lv (.ref ((zXE X).1 28 0) :: st) σ) : zV X pc lv (.ref ((zXE X).1 0 0) :: st) σ := z_get C (Cn := RX8) (T := TX8) (N := 10) (ci := 8) (k := 0) (j := 5) rfl zin_X8 (by decide) rfl (by decide) kw_f_X8_49 rfl rfl hd K
theorem f_X8_56 {X : zX} {cc : ByteArray} {nL d pc : Nat} {lv : List (Nat × Value)} {st : List Value} {σ : zS} (C : zC X cc RX8 nL d) (hd : decode cc pc = .ok (.getfield 56, 3)) (K : zV X (pc + 3) lv (.ref ((zXE X).1 38 0) :: st) σ) : zV X pc lv (.ref ((zXE X).1 0 0) :: st) σ := z_get C (Cn := RX8) (T := TX8) (N := 10) (ci := 8) (k := 0) (j := 6) rfl zin_X8 (by decide) rfl (by decide) kw_f_X8_56 rfl rfl hd K
theorem f_X8_63 {X : zX} {cc : ByteArray} {nL d pc : Nat} {lv : List (Nat × Value)} {st : List Value} {σ : zS} (C : zC X cc RX8 nL d) (hd : decode cc pc = .ok (.getfield 63, 3)) (K : zV X (pc + 3) lv (.ref ((zXE X).1 48 0) :: st) σ) : zV X pc lv (.ref ((zXE X).1 0 0) :: st) σ := z_get C (Cn := RX8) (T := TX8) (N := 10) (ci := 8) (k := 0) (j := 7) rfl zin_X8 (by decide) rfl (by decide) kw_f_X8_63 rfl rfl hd K
theorem f_X8_67 {X : zX} {cc : ByteArray} {nL d pc : Nat} {lv : List (Nat × Value)} {st : List Value} {σ : zS} (C : zC X cc RX8 nL d) (hd : decode cc pc = .ok (.getfield 67, 3)) (K : zV X (pc + 3) lv (.int (zi σ 0 0 8) :: st) σ) : zV X pc lv (.ref ((zXE X).1 0 0) :: st) σ := z_get C (Cn := RX8) (T := TX8) (N := 10) (ci := 8) (k := 0) (j := 8) rfl zin_X8 (by decide) rfl (by decide) kw_f_X8_67 rfl rfl hd K
theorem f_X8_71 {X : zX} {cc : ByteArray} {nL d pc : Nat} {lv : List (Nat × Value)} {st : List Value} {σ : zS} (C : zC X cc RX8 nL d) (hd : decode cc pc = .ok (.getfield 71, 3)) (K : zV X (pc + 3) lv (.int (zi σ 0 0 9) :: st) σ) : zV X pc lv (.ref ((zXE X).1 0 0) :: st) σ := z_get C (Cn := RX8) (T := TX8) (N := 10) (ci := 8) (k := 0) (j := 9) rfl zin_X8 (by decide) rfl (by decide) kw_f_X8_71 rfl rfl hd K
theorem f_X8_74 {X : zX} {cc : ByteArray} {nL d pc : Nat} {lv : List (Nat × Value)} {st : List Value} {σ : zS} (C : zC X cc RX8 nL d) (hd : decode cc pc = .ok (.getfield 74, 3)) (K : zV X (pc + 3) lv (.long (zj σ 1 0 0) :: st) σ) : zV X pc lv (.ref ((zXE X).1 1 0) :: st) σ := z_getN C (Cn := RX3) (T := TX3) (N := 2) (ci := 3) (k := 1) (j := 0) (host := "PigeonPost") rfl zin_X3 (by decide) rfl (by decide) kw_fn_X8_74 rfl rfl hd K
theorem f_X8_78 {X : zX} {cc : ByteArray} {nL d pc : Nat} {lv : List (Nat × Value)} {st : List Value} {σ : zS} (C : zC X cc RX8 nL d) (hd : decode cc pc = .ok (.getfield 78, 3)) (K : zV X (pc + 3) lv (.long (zj σ 1 0 1) :: st) σ) : zV X pc lv (.ref ((zXE X).1 1 0) :: st) σ := z_getN C (Cn := RX3) (T := TX3) (N := 2) (ci := 3) (k := 1) (j := 1) (host := "PigeonPost") rfl zin_X3 (by decide) rfl (by decide) kw_fn_X8_78 rfl rfl hd K
theorem f_X9_100 {X : zX} {cc : ByteArray} {nL d pc : Nat} {lv : List (Nat × Value)} {st : List Value} {σ : zS} (C : zC X cc RX9 nL d) (hd : decode cc pc = .ok (.getfield 100, 3)) (K : zV X (pc + 3) lv (.ref ((zXE X).1 83 0) :: st) σ) : zV X pc lv (.ref ((zXE X).1 54 0) :: st) σ := z_get C (Cn := RX9) (T := TX9) (N := 45) (ci := 9) (k := 54) (j := 42) rfl zin_X9 (by decide) rfl (by decide) kw_f_X9_100 rfl rfl hd K
theorem f_X9_103 {X : zX} {cc : ByteArray} {nL d pc : Nat} {lv : List (Nat × Value)} {st : List Value} {σ : zS} (C : zC X cc RX9 nL d) (hd : decode cc pc = .ok (.getfield 103, 3)) (K : zV X (pc + 3) lv (.ref ((zXE X).1 84 0) :: st) σ) : zV X pc lv (.ref ((zXE X).1 54 0) :: st) σ := z_get C (Cn := RX9) (T := TX9) (N := 45) (ci := 9) (k := 54) (j := 43) rfl zin_X9 (by decide) rfl (by decide) kw_f_X9_103 rfl rfl hd K
theorem f_X9_106 {X : zX} {cc : ByteArray} {nL d pc : Nat} {lv : List (Nat × Value)} {st : List Value} {σ : zS} (C : zC X cc RX9 nL d) (hd : decode cc pc = .ok (.getfield 106, 3)) (K : zV X (pc + 3) lv (.ref ((zXE X).1 85 0) :: st) σ) : zV X pc lv (.ref ((zXE X).1 54 0) :: st) σ := z_get C (Cn := RX9) (T := TX9) (N := 45) (ci := 9) (k := 54) (j := 44) rfl zin_X9 (by decide) rfl (by decide) kw_f_X9_106 rfl rfl hd K
theorem f_X9_109 {X : zX} {cc : ByteArray} {nL d pc : Nat} {lv : List (Nat × Value)} {st : List Value} {σ : zS} (C : zC X cc RX9 nL d) (hd : decode cc pc = .ok (.getfield 109, 3)) (K : zV X (pc + 3) lv (.int (zi σ 54 0 0) :: st) σ) : zV X pc lv (.ref ((zXE X).1 54 0) :: st) σ := z_get C (Cn := RX9) (T := TX9) (N := 45) (ci := 9) (k := 54) (j := 0) rfl zin_X9 (by decide) rfl (by decide) kw_f_X9_109 rfl rfl hd K
theorem f_X9_113 {X : zX} {cc : ByteArray} {nL d pc : Nat} {lv : List (Nat × Value)} {st : List Value} {σ : zS} (C : zC X cc RX9 nL d) (hd : decode cc pc = .ok (.getfield 113, 3)) (K : zV X (pc + 3) lv (.long (zj σ 54 0 1) :: st) σ) : zV X pc lv (.ref ((zXE X).1 54 0) :: st) σ := z_get C (Cn := RX9) (T := TX9) (N := 45) (ci := 9) (k := 54) (j := 1) rfl zin_X9 (by decide) rfl (by decide) kw_f_X9_113 rfl rfl hd K
theorem f_X9_13 {X : zX} {cc : ByteArray} {nL d pc : Nat} {lv : List (Nat × Value)} {st : List Value} {σ : zS} (C : zC X cc RX9 nL d) (hd : decode cc pc = .ok (.getfield 13, 3)) (K : zV X (pc + 3) lv (.ref ((zXE X).1 55 0) :: st) σ) : zV X pc lv (.ref ((zXE X).1 54 0) :: st) σ := z_get C (Cn := RX9) (T := TX9) (N := 45) (ci := 9) (k := 54) (j := 3) rfl zin_X9 (by decide) rfl (by decide) kw_f_X9_13 rfl rfl hd K
theorem f_X9_133 {X : zX} {cc : ByteArray} {nL d pc : Nat} {lv : List (Nat × Value)} {st : List Value} {σ : zS} (C : zC X cc RX9 nL d) (hd : decode cc pc = .ok (.getfield 133, 3)) (K : zV X (pc + 3) lv (.int (zi σ 54 0 6) :: st) σ) : zV X pc lv (.ref ((zXE X).1 54 0) :: st) σ := z_get C (Cn := RX9) (T := TX9) (N := 45) (ci := 9) (k := 54) (j := 6) rfl zin_X9 (by decide) rfl (by decide) kw_f_X9_133 rfl rfl hd K
theorem f_X9_136 {X : zX} {cc : ByteArray} {nL d pc : Nat} {lv : List (Nat × Value)} {st : List Value} {σ : zS} (C : zC X cc RX9 nL d) (hd : decode cc pc = .ok (.getfield 136, 3)) (K : zV X (pc + 3) lv (.int (zi σ 54 0 7) :: st) σ) : zV X pc lv (.ref ((zXE X).1 54 0) :: st) σ := z_get C (Cn := RX9) (T := TX9) (N := 45) (ci := 9) (k := 54) (j := 7) rfl zin_X9 (by decide) rfl (by decide) kw_f_X9_136 rfl rfl hd K
theorem f_X9_17 {X : zX} {cc : ByteArray} {nL d pc : Nat} {lv : List (Nat × Value)} {st : List Value} {σ : zS} (C : zC X cc RX9 nL d) (hd : decode cc pc = .ok (.getfield 17, 3)) (K : zV X (pc + 3) lv (.ref ((zXE X).1 56 0) :: st) σ) : zV X pc lv (.ref ((zXE X).1 54 0) :: st) σ := z_get C (Cn := RX9) (T := TX9) (N := 45) (ci := 9) (k := 54) (j := 4) rfl zin_X9 (by decide) rfl (by decide) kw_f_X9_17 rfl rfl hd K
theorem f_X9_170 {X : zX} {cc : ByteArray} {nL d pc : Nat} {lv : List (Nat × Value)} {st : List Value} {σ : zS} (C : zC X cc RX9 nL d) (hd : decode cc pc = .ok (.getfield 170, 3)) (K : zV X (pc + 3) lv (.int (zi σ 54 0 26) :: st) σ) : zV X pc lv (.ref ((zXE X).1 54 0) :: st) σ := z_get C (Cn := RX9) (T := TX9) (N := 45) (ci := 9) (k := 54) (j := 26) rfl zin_X9 (by decide) rfl (by decide) kw_f_X9_170 rfl rfl hd K
theorem f_X9_173 {X : zX} {cc : ByteArray} {nL d pc : Nat} {lv : List (Nat × Value)} {st : List Value} {σ : zS} (C : zC X cc RX9 nL d) (hd : decode cc pc = .ok (.getfield 173, 3)) (K : zV X (pc + 3) lv (.int (zi σ 54 0 28) :: st) σ) : zV X pc lv (.ref ((zXE X).1 54 0) :: st) σ := z_get C (Cn := RX9) (T := TX9) (N := 45) (ci := 9) (k := 54) (j := 28) rfl zin_X9 (by decide) rfl (by decide) kw_f_X9_173 rfl rfl hd K
theorem f_X9_176 {X : zX} {cc : ByteArray} {nL d pc : Nat} {lv : List (Nat × Value)} {st : List Value} {σ : zS} (C : zC X cc RX9 nL d) (hd : decode cc pc = .ok (.getfield 176, 3)) (K : zV X (pc + 3) lv (.int (zi σ 54 0 29) :: st) σ) : zV X pc lv (.ref ((zXE X).1 54 0) :: st) σ := z_get C (Cn := RX9) (T := TX9) (N := 45) (ci := 9) (k := 54) (j := 29) rfl zin_X9 (by decide) rfl (by decide) kw_f_X9_176 rfl rfl hd K
theorem f_X9_179 {X : zX} {cc : ByteArray} {nL d pc : Nat} {lv : List (Nat × Value)} {st : List Value} {σ : zS} (C : zC X cc RX9 nL d) (hd : decode cc pc = .ok (.getfield 179, 3)) (K : zV X (pc + 3) lv (.int (zi σ 54 0 25) :: st) σ) : zV X pc lv (.ref ((zXE X).1 54 0) :: st) σ := z_get C (Cn := RX9) (T := TX9) (N := 45) (ci := 9) (k := 54) (j := 25) rfl zin_X9 (by decide) rfl (by decide) kw_f_X9_179 rfl rfl hd K
theorem f_X9_185 {X : zX} {cc : ByteArray} {nL d pc : Nat} {lv : List (Nat × Value)} {st : List Value} {σ : zS} (C : zC X cc RX9 nL d) (hd : decode cc pc = .ok (.getfield 185, 3)) (K : zV X (pc + 3) lv (.long (zj σ 54 0 30) :: st) σ) : zV X pc lv (.ref ((zXE X).1 54 0) :: st) σ := z_get C (Cn := RX9) (T := TX9) (N := 45) (ci := 9) (k := 54) (j := 30) rfl zin_X9 (by decide) rfl (by decide) kw_f_X9_185 rfl rfl hd K
theorem f_X9_188 {X : zX} {cc : ByteArray} {nL d pc : Nat} {lv : List (Nat × Value)} {st : List Value} {σ : zS} (C : zC X cc RX9 nL d) (hd : decode cc pc = .ok (.getfield 188, 3)) (K : zV X (pc + 3) lv (.long (zj σ 54 0 31) :: st) σ) : zV X pc lv (.ref ((zXE X).1 54 0) :: st) σ := z_get C (Cn := RX9) (T := TX9) (N := 45) (ci := 9) (k := 54) (j := 31) rfl zin_X9 (by decide) rfl (by decide) kw_f_X9_188 rfl rfl hd K
theorem f_X9_195 {X : zX} {cc : ByteArray} {nL d pc : Nat} {lv : List (Nat × Value)} {st : List Value} {σ : zS} (C : zC X cc RX9 nL d) (hd : decode cc pc = .ok (.getfield 195, 3)) (K : zV X (pc + 3) lv (.int (zi σ 54 0 27) :: st) σ) : zV X pc lv (.ref ((zXE X).1 54 0) :: st) σ := z_get C (Cn := RX9) (T := TX9) (N := 45) (ci := 9) (k := 54) (j := 27) rfl zin_X9 (by decide) rfl (by decide) kw_f_X9_195 rfl rfl hd K
theorem f_X9_20 {X : zX} {cc : ByteArray} {nL d pc : Nat} {lv : List (Nat × Value)} {st : List Value} {σ : zS} (C : zC X cc RX9 nL d) (hd : decode cc pc = .ok (.getfield 20, 3)) (K : zV X (pc + 3) lv (.ref ((zXE X).1 57 0) :: st) σ) : zV X pc lv (.ref ((zXE X).1 54 0) :: st) σ := z_get C (Cn := RX9) (T := TX9) (N := 45) (ci := 9) (k := 54) (j := 5) rfl zin_X9 (by decide) rfl (by decide) kw_f_X9_20 rfl rfl hd K
theorem f_X9_222 {X : zX} {cc : ByteArray} {nL d pc : Nat} {lv : List (Nat × Value)} {st : List Value} {σ : zS} (C : zC X cc RX9 nL d) (hd : decode cc pc = .ok (.getfield 222, 3)) (K : zV X (pc + 3) lv (.int (zi σ 54 0 34) :: st) σ) : zV X pc lv (.ref ((zXE X).1 54 0) :: st) σ := z_get C (Cn := RX9) (T := TX9) (N := 45) (ci := 9) (k := 54) (j := 34) rfl zin_X9 (by decide) rfl (by decide) kw_f_X9_222 rfl rfl hd K
theorem f_X9_229 {X : zX} {cc : ByteArray} {nL d pc : Nat} {lv : List (Nat × Value)} {st : List Value} {σ : zS} (C : zC X cc RX9 nL d) (hd : decode cc pc = .ok (.getfield 229, 3)) (K : zV X (pc + 3) lv (.int (zi σ 54 0 8) :: st) σ) : zV X pc lv (.ref ((zXE X).1 54 0) :: st) σ := z_get C (Cn := RX9) (T := TX9) (N := 45) (ci := 9) (k := 54) (j := 8) rfl zin_X9 (by decide) rfl (by decide) kw_f_X9_229 rfl rfl hd K
theorem f_X9_24 {X : zX} {cc : ByteArray} {nL d pc : Nat} {lv : List (Nat × Value)} {st : List Value} {σ : zS} (C : zC X cc RX9 nL d) (hd : decode cc pc = .ok (.getfield 24, 3)) (K : zV X (pc + 3) lv (.ref ((zXE X).1 58 0) :: st) σ) : zV X pc lv (.ref ((zXE X).1 54 0) :: st) σ := z_get C (Cn := RX9) (T := TX9) (N := 45) (ci := 9) (k := 54) (j := 9) rfl zin_X9 (by decide) rfl (by decide) kw_f_X9_24 rfl rfl hd K
theorem f_X9_27 {X : zX} {cc : ByteArray} {nL d pc : Nat} {lv : List (Nat × Value)} {st : List Value} {σ : zS} (C : zC X cc RX9 nL d) (hd : decode cc pc = .ok (.getfield 27, 3)) (K : zV X (pc + 3) lv (.ref ((zXE X).1 59 0) :: st) σ) : zV X pc lv (.ref ((zXE X).1 54 0) :: st) σ := z_get C (Cn := RX9) (T := TX9) (N := 45) (ci := 9) (k := 54) (j := 10) rfl zin_X9 (by decide) rfl (by decide) kw_f_X9_27 rfl rfl hd K
theorem f_X9_30 {X : zX} {cc : ByteArray} {nL d pc : Nat} {lv : List (Nat × Value)} {st : List Value} {σ : zS} (C : zC X cc RX9 nL d) (hd : decode cc pc = .ok (.getfield 30, 3)) (K : zV X (pc + 3) lv (.ref ((zXE X).1 60 0) :: st) σ) : zV X pc lv (.ref ((zXE X).1 54 0) :: st) σ := z_get C (Cn := RX9) (T := TX9) (N := 45) (ci := 9) (k := 54) (j := 11) rfl zin_X9 (by decide) rfl (by decide) kw_f_X9_30 rfl rfl hd K
theorem f_X9_33 {X : zX} {cc : ByteArray} {nL d pc : Nat} {lv : List (Nat × Value)} {st : List Value} {σ : zS} (C : zC X cc RX9 nL d) (hd : decode cc pc = .ok (.getfield 33, 3)) (K : zV X (pc + 3) lv (.ref ((zXE X).1 61 0) :: st) σ) : zV X pc lv (.ref ((zXE X).1 54 0) :: st) σ := z_get C (Cn := RX9) (T := TX9) (N := 45) (ci := 9) (k := 54) (j := 12) rfl zin_X9 (by decide) rfl (by decide) kw_f_X9_33 rfl rfl hd K
theorem f_X9_36 {X : zX} {cc : ByteArray} {nL d pc : Nat} {lv : List (Nat × Value)} {st : List Value} {σ : zS} (C : zC X cc RX9 nL d) (hd : decode cc pc = .ok (.getfield 36, 3)) (K : zV X (pc + 3) lv (.ref ((zXE X).1 62 0) :: st) σ) : zV X pc lv (.ref ((zXE X).1 54 0) :: st) σ := z_get C (Cn := RX9) (T := TX9) (N := 45) (ci := 9) (k := 54) (j := 13) rfl zin_X9 (by decide) rfl (by decide) kw_f_X9_36 rfl rfl hd K
theorem f_X9_39 {X : zX} {cc : ByteArray} {nL d pc : Nat} {lv : List (Nat × Value)} {st : List Value} {σ : zS} (C : zC X cc RX9 nL d) (hd : decode cc pc = .ok (.getfield 39, 3)) (K : zV X (pc + 3) lv (.ref ((zXE X).1 63 0) :: st) σ) : zV X pc lv (.ref ((zXE X).1 54 0) :: st) σ := z_get C (Cn := RX9) (T := TX9) (N := 45) (ci := 9) (k := 54) (j := 14) rfl zin_X9 (by decide) rfl (by decide) kw_f_X9_39 rfl rfl hd K
theorem f_X9_42 {X : zX} {cc : ByteArray} {nL d pc : Nat} {lv : List (Nat × Value)} {st : List Value} {σ : zS} (C : zC X cc RX9 nL d) (hd : decode cc pc = .ok (.getfield 42, 3)) (K : zV X (pc + 3) lv (.ref ((zXE X).1 64 0) :: st) σ) : zV X pc lv (.ref ((zXE X).1 54 0) :: st) σ := z_get C (Cn := RX9) (T := TX9) (N := 45) (ci := 9) (k := 54) (j := 15) rfl zin_X9 (by decide) rfl (by decide) kw_f_X9_42 rfl rfl hd K
theorem f_X9_45 {X : zX} {cc : ByteArray} {nL d pc : Nat} {lv : List (Nat × Value)} {st : List Value} {σ : zS} (C : zC X cc RX9 nL d) (hd : decode cc pc = .ok (.getfield 45, 3)) (K : zV X (pc + 3) lv (.ref ((zXE X).1 65 0) :: st) σ) : zV X pc lv (.ref ((zXE X).1 54 0) :: st) σ := z_get C (Cn := RX9) (T := TX9) (N := 45) (ci := 9) (k := 54) (j := 16) rfl zin_X9 (by decide) rfl (by decide) kw_f_X9_45 rfl rfl hd K
theorem f_X9_48 {X : zX} {cc : ByteArray} {nL d pc : Nat} {lv : List (Nat × Value)} {st : List Value} {σ : zS} (C : zC X cc RX9 nL d) (hd : decode cc pc = .ok (.getfield 48, 3)) (K : zV X (pc + 3) lv (.ref ((zXE X).1 66 0) :: st) σ) : zV X pc lv (.ref ((zXE X).1 54 0) :: st) σ := z_get C (Cn := RX9) (T := TX9) (N := 45) (ci := 9) (k := 54) (j := 17) rfl zin_X9 (by decide) rfl (by decide) kw_f_X9_48 rfl rfl hd K
theorem f_X9_51 {X : zX} {cc : ByteArray} {nL d pc : Nat} {lv : List (Nat × Value)} {st : List Value} {σ : zS} (C : zC X cc RX9 nL d) (hd : decode cc pc = .ok (.getfield 51, 3)) (K : zV X (pc + 3) lv (.ref ((zXE X).1 67 0) :: st) σ) : zV X pc lv (.ref ((zXE X).1 54 0) :: st) σ := z_get C (Cn := RX9) (T := TX9) (N := 45) (ci := 9) (k := 54) (j := 18) rfl zin_X9 (by decide) rfl (by decide) kw_f_X9_51 rfl rfl hd K
theorem f_X9_54 {X : zX} {cc : ByteArray} {nL d pc : Nat} {lv : List (Nat × Value)} {st : List Value} {σ : zS} (C : zC X cc RX9 nL d) (hd : decode cc pc = .ok (.getfield 54, 3)) (K : zV X (pc + 3) lv (.ref ((zXE X).1 68 0) :: st) σ) : zV X pc lv (.ref ((zXE X).1 54 0) :: st) σ := z_get C (Cn := RX9) (T := TX9) (N := 45) (ci := 9) (k := 54) (j := 19) rfl zin_X9 (by decide) rfl (by decide) kw_f_X9_54 rfl rfl hd K
theorem f_X9_57 {X : zX} {cc : ByteArray} {nL d pc : Nat} {lv : List (Nat × Value)} {st : List Value} {σ : zS} (C : zC X cc RX9 nL d) (hd : decode cc pc = .ok (.getfield 57, 3)) (K : zV X (pc + 3) lv (.ref ((zXE X).1 69 0) :: st) σ) : zV X pc lv (.ref ((zXE X).1 54 0) :: st) σ := z_get C (Cn := RX9) (T := TX9) (N := 45) (ci := 9) (k := 54) (j := 20) rfl zin_X9 (by decide) rfl (by decide) kw_f_X9_57 rfl rfl hd K
theorem f_X9_60 {X : zX} {cc : ByteArray} {nL d pc : Nat} {lv : List (Nat × Value)} {st : List Value} {σ : zS} (C : zC X cc RX9 nL d) (hd : decode cc pc = .ok (.getfield 60, 3)) (K : zV X (pc + 3) lv (.ref ((zXE X).1 70 0) :: st) σ) : zV X pc lv (.ref ((zXE X).1 54 0) :: st) σ := z_get C (Cn := RX9) (T := TX9) (N := 45) (ci := 9) (k := 54) (j := 21) rfl zin_X9 (by decide) rfl (by decide) kw_f_X9_60 rfl rfl hd K
theorem f_X9_63 {X : zX} {cc : ByteArray} {nL d pc : Nat} {lv : List (Nat × Value)} {st : List Value} {σ : zS} (C : zC X cc RX9 nL d) (hd : decode cc pc = .ok (.getfield 63, 3)) (K : zV X (pc + 3) lv (.ref ((zXE X).1 71 0) :: st) σ) : zV X pc lv (.ref ((zXE X).1 54 0) :: st) σ := z_get C (Cn := RX9) (T := TX9) (N := 45) (ci := 9) (k := 54) (j := 22) rfl zin_X9 (by decide) rfl (by decide) kw_f_X9_63 rfl rfl hd K
theorem f_X9_66 {X : zX} {cc : ByteArray} {nL d pc : Nat} {lv : List (Nat × Value)} {st : List Value} {σ : zS} (C : zC X cc RX9 nL d) (hd : decode cc pc = .ok (.getfield 66, 3)) (K : zV X (pc + 3) lv (.ref ((zXE X).1 72 0) :: st) σ) : zV X pc lv (.ref ((zXE X).1 54 0) :: st) σ := z_get C (Cn := RX9) (T := TX9) (N := 45) (ci := 9) (k := 54) (j := 23) rfl zin_X9 (by decide) rfl (by decide) kw_f_X9_66 rfl rfl hd K
theorem f_X9_69 {X : zX} {cc : ByteArray} {nL d pc : Nat} {lv : List (Nat × Value)} {st : List Value} {σ : zS} (C : zC X cc RX9 nL d) (hd : decode cc pc = .ok (.getfield 69, 3)) (K : zV X (pc + 3) lv (.ref ((zXE X).1 73 0) :: st) σ) : zV X pc lv (.ref ((zXE X).1 54 0) :: st) σ := z_get C (Cn := RX9) (T := TX9) (N := 45) (ci := 9) (k := 54) (j := 24) rfl zin_X9 (by decide) rfl (by decide) kw_f_X9_69 rfl rfl hd K
theorem f_X9_7 {X : zX} {cc : ByteArray} {nL d pc : Nat} {lv : List (Nat × Value)} {st : List Value} {σ : zS} (C : zC X cc RX9 nL d) (hd : decode cc pc = .ok (.getfield 7, 3)) (K : zV X (pc + 3) lv (.long (zj σ 54 0 2) :: st) σ) : zV X pc lv (.ref ((zXE X).1 54 0) :: st) σ := z_get C (Cn := RX9) (T := TX9) (N := 45) (ci := 9) (k := 54) (j := 2) rfl zin_X9 (by decide) rfl (by decide) kw_f_X9_7 rfl rfl hd K
theorem f_X9_72 {X : zX} {cc : ByteArray} {nL d pc : Nat} {lv : List (Nat × Value)} {st : List Value} {σ : zS} (C : zC X cc RX9 nL d) (hd : decode cc pc = .ok (.getfield 72, 3)) (K : zV X (pc + 3) lv (.ref ((zXE X).1 74 0) :: st) σ) : zV X pc lv (.ref ((zXE X).1 54 0) :: st) σ := z_get C (Cn := RX9) (T := TX9) (N := 45) (ci := 9) (k := 54) (j := 32) rfl zin_X9 (by decide) rfl (by decide) kw_f_X9_72 rfl rfl hd K
theorem f_X9_75 {X : zX} {cc : ByteArray} {nL d pc : Nat} {lv : List (Nat × Value)} {st : List Value} {σ : zS} (C : zC X cc RX9 nL d) (hd : decode cc pc = .ok (.getfield 75, 3)) (K : zV X (pc + 3) lv (.ref ((zXE X).1 75 0) :: st) σ) : zV X pc lv (.ref ((zXE X).1 54 0) :: st) σ := z_get C (Cn := RX9) (T := TX9) (N := 45) (ci := 9) (k := 54) (j := 33) rfl zin_X9 (by decide) rfl (by decide) kw_f_X9_75 rfl rfl hd K
theorem f_X9_78 {X : zX} {cc : ByteArray} {nL d pc : Nat} {lv : List (Nat × Value)} {st : List Value} {σ : zS} (C : zC X cc RX9 nL d) (hd : decode cc pc = .ok (.getfield 78, 3)) (K : zV X (pc + 3) lv (.ref ((zXE X).1 76 0) :: st) σ) : zV X pc lv (.ref ((zXE X).1 54 0) :: st) σ := z_get C (Cn := RX9) (T := TX9) (N := 45) (ci := 9) (k := 54) (j := 35) rfl zin_X9 (by decide) rfl (by decide) kw_f_X9_78 rfl rfl hd K
theorem f_X9_81 {X : zX} {cc : ByteArray} {nL d pc : Nat} {lv : List (Nat × Value)} {st : List Value} {σ : zS} (C : zC X cc RX9 nL d) (hd : decode cc pc = .ok (.getfield 81, 3)) (K : zV X (pc + 3) lv (.ref ((zXE X).1 77 0) :: st) σ) : zV X pc lv (.ref ((zXE X).1 54 0) :: st) σ := z_get C (Cn := RX9) (T := TX9) (N := 45) (ci := 9) (k := 54) (j := 36) rfl zin_X9 (by decide) rfl (by decide) kw_f_X9_81 rfl rfl hd K
theorem f_X9_84 {X : zX} {cc : ByteArray} {nL d pc : Nat} {lv : List (Nat × Value)} {st : List Value} {σ : zS} (C : zC X cc RX9 nL d) (hd : decode cc pc = .ok (.getfield 84, 3)) (K : zV X (pc + 3) lv (.ref ((zXE X).1 78 0) :: st) σ) : zV X pc lv (.ref ((zXE X).1 54 0) :: st) σ := z_get C (Cn := RX9) (T := TX9) (N := 45) (ci := 9) (k := 54) (j := 37) rfl zin_X9 (by decide) rfl (by decide) kw_f_X9_84 rfl rfl hd K
theorem f_X9_87 {X : zX} {cc : ByteArray} {nL d pc : Nat} {lv : List (Nat × Value)} {st : List Value} {σ : zS} (C : zC X cc RX9 nL d) (hd : decode cc pc = .ok (.getfield 87, 3)) (K : zV X (pc + 3) lv (.ref ((zXE X).1 79 0) :: st) σ) : zV X pc lv (.ref ((zXE X).1 54 0) :: st) σ := z_get C (Cn := RX9) (T := TX9) (N := 45) (ci := 9) (k := 54) (j := 38) rfl zin_X9 (by decide) rfl (by decide) kw_f_X9_87 rfl rfl hd K
theorem f_X9_90 {X : zX} {cc : ByteArray} {nL d pc : Nat} {lv : List (Nat × Value)} {st : List Value} {σ : zS} (C : zC X cc RX9 nL d) (hd : decode cc pc = .ok (.getfield 90, 3)) (K : zV X (pc + 3) lv (.ref ((zXE X).1 80 0) :: st) σ) : zV X pc lv (.ref ((zXE X).1 54 0) :: st) σ := z_get C (Cn := RX9) (T := TX9) (N := 45) (ci := 9) (k := 54) (j := 39) rfl zin_X9 (by decide) rfl (by decide) kw_f_X9_90 rfl rfl hd K
theorem f_X9_93 {X : zX} {cc : ByteArray} {nL d pc : Nat} {lv : List (Nat × Value)} {st : List Value} {σ : zS} (C : zC X cc RX9 nL d) (hd : decode cc pc = .ok (.getfield 93, 3)) (K : zV X (pc + 3) lv (.ref ((zXE X).1 81 0) :: st) σ) : zV X pc lv (.ref ((zXE X).1 54 0) :: st) σ := z_get C (Cn := RX9) (T := TX9) (N := 45) (ci := 9) (k := 54) (j := 40) rfl zin_X9 (by decide) rfl (by decide) kw_f_X9_93 rfl rfl hd K
theorem f_X9_96 {X : zX} {cc : ByteArray} {nL d pc : Nat} {lv : List (Nat × Value)} {st : List Value} {σ : zS} (C : zC X cc RX9 nL d) (hd : decode cc pc = .ok (.getfield 96, 3)) (K : zV X (pc + 3) lv (.ref ((zXE X).1 82 0) :: st) σ) : zV X pc lv (.ref ((zXE X).1 54 0) :: st) σ := z_get C (Cn := RX9) (T := TX9) (N := 45) (ci := 9) (k := 54) (j := 41) rfl zin_X9 (by decide) rfl (by decide) kw_f_X9_96 rfl rfl hd K
theorem p_X1_9 {X : zX} {cc : ByteArray} {nL d pc : Nat} {lv : List (Nat × Value)} {st : List Value} {σ : zS} {v : Int32} (C : zC X cc RX1 nL d) (hd : decode cc pc = .ok (.putfield 9, 3)) (K : zV X (pc + 3) lv st (zsi σ 14 0 0 v)) : zV X pc lv (.int v :: .ref ((zXE X).1 14 0) :: st) σ := z_put C (Cn := RX1) (T := TX1) (N := 7) (ci := 1) (k := 14) (j := 0) (ty := .int) (zsi σ 14 0 0 v) rfl zin_X1 tyX1 tyX1_ok nmX1 (by decide) rfl (by decide) kw_f_X1_9 rfl rfl (by decide +kernel) rfl rfl (Nat.le_of_ble_eq_true rfl) rfl zag_ci hd K
theorem p_X3_13 {X : zX} {cc : ByteArray} {nL d pc : Nat} {lv : List (Nat × Value)} {st : List Value} {σ : zS} {v : Int64} (C : zC X cc RX3 nL d) (hd : decode cc pc = .ok (.putfield 13, 3)) (K : zV X (pc + 3) lv st (zsj σ 1 0 1 v)) : zV X pc lv (.long v :: .ref ((zXE X).1 1 0) :: st) σ := z_put C (Cn := RX3) (T := TX3) (N := 2) (ci := 3) (k := 1) (j := 1) (ty := .long) (zsj σ 1 0 1 v) rfl zin_X3 tyX3 tyX3_ok nmX3 (by decide) rfl (by decide) kw_f_X3_13 rfl rfl (by decide +kernel) rfl rfl (Nat.le_of_ble_eq_true rfl) rfl zag_cj hd K
theorem p_X3_7 {X : zX} {cc : ByteArray} {nL d pc : Nat} {lv : List (Nat × Value)} {st : List Value} {σ : zS} {v : Int64} (C : zC X cc RX3 nL d) (hd : decode cc pc = .ok (.putfield 7, 3)) (K : zV X (pc + 3) lv st (zsj σ 1 0 0 v)) : zV X pc lv (.long v :: .ref ((zXE X).1 1 0) :: st) σ := z_put C (Cn := RX3) (T := TX3) (N := 2) (ci := 3) (k := 1) (j := 0) (ty := .long) (zsj σ 1 0 0 v) rfl zin_X3 tyX3 tyX3_ok nmX3 (by decide) rfl (by decide) kw_f_X3_7 rfl rfl (by decide +kernel) rfl rfl (Nat.le_of_ble_eq_true rfl) rfl zag_cj hd K
theorem p_X4_9 {X : zX} {cc : ByteArray} {nL d pc : Nat} {lv : List (Nat × Value)} {st : List Value} {σ : zS} {v : Int32} (C : zC X cc RX4 nL d) (hd : decode cc pc = .ok (.putfield 9, 3)) (K : zV X (pc + 3) lv st (zsi σ 38 0 0 v)) : zV X pc lv (.int v :: .ref ((zXE X).1 38 0) :: st) σ := z_put C (Cn := RX4) (T := TX4) (N := 6) (ci := 4) (k := 38) (j := 0) (ty := .int) (zsi σ 38 0 0 v) rfl zin_X4 tyX4 tyX4_ok nmX4 (by decide) rfl (by decide) kw_f_X4_9 rfl rfl (by decide +kernel) rfl rfl (Nat.le_of_ble_eq_true rfl) rfl zag_ci hd K
theorem p_X5_21 {X : zX} {cc : ByteArray} {nL d pc : Nat} {lv : List (Nat × Value)} {st : List Value} {σ : zS} {v : Int32} (C : zC X cc RX5 nL d) (hd : decode cc pc = .ok (.putfield 21, 3)) (K : zV X (pc + 3) lv st (zsi σ 22 0 5 v)) : zV X pc lv (.int v :: .ref ((zXE X).1 22 0) :: st) σ := z_put C (Cn := RX5) (T := TX5) (N := 15) (ci := 5) (k := 22) (j := 5) (ty := .int) (zsi σ 22 0 5 v) rfl zin_X5 tyX5 tyX5_ok nmX5 (by decide) rfl (by decide) kw_f_X5_21 rfl rfl (by decide +kernel) rfl rfl (Nat.le_of_ble_eq_true rfl) rfl zag_ci hd K
theorem p_X5_25 {X : zX} {cc : ByteArray} {nL d pc : Nat} {lv : List (Nat × Value)} {st : List Value} {σ : zS} {v : Int32} (C : zC X cc RX5 nL d) (hd : decode cc pc = .ok (.putfield 25, 3)) (K : zV X (pc + 3) lv st (zsi σ 22 0 6 v)) : zV X pc lv (.int v :: .ref ((zXE X).1 22 0) :: st) σ := z_put C (Cn := RX5) (T := TX5) (N := 15) (ci := 5) (k := 22) (j := 6) (ty := .int) (zsi σ 22 0 6 v) rfl zin_X5 tyX5 tyX5_ok nmX5 (by decide) rfl (by decide) kw_f_X5_25 rfl rfl (by decide +kernel) rfl rfl (Nat.le_of_ble_eq_true rfl) rfl zag_ci hd K
theorem p_X5_28 {X : zX} {cc : ByteArray} {nL d pc : Nat} {lv : List (Nat × Value)} {st : List Value} {σ : zS} {v : Int32} (C : zC X cc RX5 nL d) (hd : decode cc pc = .ok (.putfield 28, 3)) (K : zV X (pc + 3) lv st (zsi σ 22 0 7 v)) : zV X pc lv (.int v :: .ref ((zXE X).1 22 0) :: st) σ := z_put C (Cn := RX5) (T := TX5) (N := 15) (ci := 5) (k := 22) (j := 7) (ty := .int) (zsi σ 22 0 7 v) rfl zin_X5 tyX5 tyX5_ok nmX5 (by decide) rfl (by decide) kw_f_X5_28 rfl rfl (by decide +kernel) rfl rfl (Nat.le_of_ble_eq_true rfl) rfl zag_ci hd K
theorem p_X5_31 {X : zX} {cc : ByteArray} {nL d pc : Nat} {lv : List (Nat × Value)} {st : List Value} {σ : zS} {v : Int32} (C : zC X cc RX5 nL d) (hd : decode cc pc = .ok (.putfield 31, 3)) (K : zV X (pc + 3) lv st (zsi σ 22 0 8 v)) : zV X pc lv (.int v :: .ref ((zXE X).1 22 0) :: st) σ := z_put C (Cn := RX5) (T := TX5) (N := 15) (ci := 5) (k := 22) (j := 8) (ty := .int) (zsi σ 22 0 8 v) rfl zin_X5 tyX5 tyX5_ok nmX5 (by decide) rfl (by decide) kw_f_X5_31 rfl rfl (by decide +kernel) rfl rfl (Nat.le_of_ble_eq_true rfl) rfl zag_ci hd K
theorem p_X5_34 {X : zX} {cc : ByteArray} {nL d pc : Nat} {lv : List (Nat × Value)} {st : List Value} {σ : zS} {v : Int32} (C : zC X cc RX5 nL d) (hd : decode cc pc = .ok (.putfield 34, 3)) (K : zV X (pc + 3) lv st (zsi σ 22 0 9 v)) : zV X pc lv (.int v :: .ref ((zXE X).1 22 0) :: st) σ := z_put C (Cn := RX5) (T := TX5) (N := 15) (ci := 5) (k := 22) (j := 9) (ty := .int) (zsi σ 22 0 9 v) rfl zin_X5 tyX5 tyX5_ok nmX5 (by decide) rfl (by decide) kw_f_X5_34 rfl rfl (by decide +kernel) rfl rfl (Nat.le_of_ble_eq_true rfl) rfl zag_ci hd K
theorem p_X5_43 {X : zX} {cc : ByteArray} {nL d pc : Nat} {lv : List (Nat × Value)} {st : List Value} {σ : zS} {v : Int32} (C : zC X cc RX5 nL d) (hd : decode cc pc = .ok (.putfield 43, 3)) (K : zV X (pc + 3) lv st (zsi σ 22 0 12 v)) : zV X pc lv (.int v :: .ref ((zXE X).1 22 0) :: st) σ := z_put C (Cn := RX5) (T := TX5) (N := 15) (ci := 5) (k := 22) (j := 12) (ty := .int) (zsi σ 22 0 12 v) rfl zin_X5 tyX5 tyX5_ok nmX5 (by decide) rfl (by decide) kw_f_X5_43 rfl rfl (by decide +kernel) rfl rfl (Nat.le_of_ble_eq_true rfl) rfl zag_ci hd K
theorem p_X5_46 {X : zX} {cc : ByteArray} {nL d pc : Nat} {lv : List (Nat × Value)} {st : List Value} {σ : zS} {v : Int64} (C : zC X cc RX5 nL d) (hd : decode cc pc = .ok (.putfield 46, 3)) (K : zV X (pc + 3) lv st (zsj σ 22 0 13 v)) : zV X pc lv (.long v :: .ref ((zXE X).1 22 0) :: st) σ := z_put C (Cn := RX5) (T := TX5) (N := 15) (ci := 5) (k := 22) (j := 13) (ty := .long) (zsj σ 22 0 13 v) rfl zin_X5 tyX5 tyX5_ok nmX5 (by decide) rfl (by decide) kw_f_X5_46 rfl rfl (by decide +kernel) rfl rfl (Nat.le_of_ble_eq_true rfl) rfl zag_cj hd K
theorem p_X5_50 {X : zX} {cc : ByteArray} {nL d pc : Nat} {lv : List (Nat × Value)} {st : List Value} {σ : zS} {v : Int64} (C : zC X cc RX5 nL d) (hd : decode cc pc = .ok (.putfield 50, 3)) (K : zV X (pc + 3) lv st (zsj σ 22 0 14 v)) : zV X pc lv (.long v :: .ref ((zXE X).1 22 0) :: st) σ := z_put C (Cn := RX5) (T := TX5) (N := 15) (ci := 5) (k := 22) (j := 14) (ty := .long) (zsj σ 22 0 14 v) rfl zin_X5 tyX5 tyX5_ok nmX5 (by decide) rfl (by decide) kw_f_X5_50 rfl rfl (by decide +kernel) rfl rfl (Nat.le_of_ble_eq_true rfl) rfl zag_cj hd K
theorem p_X6_9 {X : zX} {cc : ByteArray} {nL d pc : Nat} {lv : List (Nat × Value)} {st : List Value} {σ : zS} {v : Int32} (C : zC X cc RX6 nL d) (hd : decode cc pc = .ok (.putfield 9, 3)) (K : zV X (pc + 3) lv st (zsi σ 7 0 0 v)) : zV X pc lv (.int v :: .ref ((zXE X).1 7 0) :: st) σ := z_put C (Cn := RX6) (T := TX6) (N := 4) (ci := 6) (k := 7) (j := 0) (ty := .int) (zsi σ 7 0 0 v) rfl zin_X6 tyX6 tyX6_ok nmX6 (by decide) rfl (by decide) kw_f_X6_9 rfl rfl (by decide +kernel) rfl rfl (Nat.le_of_ble_eq_true rfl) rfl zag_ci hd K
theorem p_X8_67 {X : zX} {cc : ByteArray} {nL d pc : Nat} {lv : List (Nat × Value)} {st : List Value} {σ : zS} {v : Int32} (C : zC X cc RX8 nL d) (hd : decode cc pc = .ok (.putfield 67, 3)) (K : zV X (pc + 3) lv st (zsi σ 0 0 8 v)) : zV X pc lv (.int v :: .ref ((zXE X).1 0 0) :: st) σ := z_put C (Cn := RX8) (T := TX8) (N := 10) (ci := 8) (k := 0) (j := 8) (ty := .int) (zsi σ 0 0 8 v) rfl zin_X8 tyX8 tyX8_ok nmX8 (by decide) rfl (by decide) kw_f_X8_67 rfl rfl (by decide +kernel) rfl rfl (Nat.le_of_ble_eq_true rfl) rfl zag_ci hd K
theorem p_X8_71 {X : zX} {cc : ByteArray} {nL d pc : Nat} {lv : List (Nat × Value)} {st : List Value} {σ : zS} {v : Int32} (C : zC X cc RX8 nL d) (hd : decode cc pc = .ok (.putfield 71, 3)) (K : zV X (pc + 3) lv st (zsi σ 0 0 9 v)) : zV X pc lv (.int v :: .ref ((zXE X).1 0 0) :: st) σ := z_put C (Cn := RX8) (T := TX8) (N := 10) (ci := 8) (k := 0) (j := 9) (ty := .int) (zsi σ 0 0 9 v) rfl zin_X8 tyX8 tyX8_ok nmX8 (by decide) rfl (by decide) kw_f_X8_71 rfl rfl (by decide +kernel) rfl rfl (Nat.le_of_ble_eq_true rfl) rfl zag_ci hd K
theorem p_X9_109 {X : zX} {cc : ByteArray} {nL d pc : Nat} {lv : List (Nat × Value)} {st : List Value} {σ : zS} {v : Int32} (C : zC X cc RX9 nL d) (hd : decode cc pc = .ok (.putfield 109, 3)) (K : zV X (pc + 3) lv st (zsi σ 54 0 0 v)) : zV X pc lv (.int v :: .ref ((zXE X).1 54 0) :: st) σ := z_put C (Cn := RX9) (T := TX9) (N := 45) (ci := 9) (k := 54) (j := 0) (ty := .int) (zsi σ 54 0 0 v) rfl zin_X9 tyX9 tyX9_ok nmX9 (by decide) rfl (by decide) kw_f_X9_109 rfl rfl (by decide +kernel) rfl rfl (Nat.le_of_ble_eq_true rfl) rfl zag_ci hd K
theorem p_X9_113 {X : zX} {cc : ByteArray} {nL d pc : Nat} {lv : List (Nat × Value)} {st : List Value} {σ : zS} {v : Int64} (C : zC X cc RX9 nL d) (hd : decode cc pc = .ok (.putfield 113, 3)) (K : zV X (pc + 3) lv st (zsj σ 54 0 1 v)) : zV X pc lv (.long v :: .ref ((zXE X).1 54 0) :: st) σ := z_put C (Cn := RX9) (T := TX9) (N := 45) (ci := 9) (k := 54) (j := 1) (ty := .long) (zsj σ 54 0 1 v) rfl zin_X9 tyX9 tyX9_ok nmX9 (by decide) rfl (by decide) kw_f_X9_113 rfl rfl (by decide +kernel) rfl rfl (Nat.le_of_ble_eq_true rfl) rfl zag_cj hd K
theorem p_X9_133 {X : zX} {cc : ByteArray} {nL d pc : Nat} {lv : List (Nat × Value)} {st : List Value} {σ : zS} {v : Int32} (C : zC X cc RX9 nL d) (hd : decode cc pc = .ok (.putfield 133, 3)) (K : zV X (pc + 3) lv st (zsi σ 54 0 6 v)) : zV X pc lv (.int v :: .ref ((zXE X).1 54 0) :: st) σ := z_put C (Cn := RX9) (T := TX9) (N := 45) (ci := 9) (k := 54) (j := 6) (ty := .int) (zsi σ 54 0 6 v) rfl zin_X9 tyX9 tyX9_ok nmX9 (by decide) rfl (by decide) kw_f_X9_133 rfl rfl (by decide +kernel) rfl rfl (Nat.le_of_ble_eq_true rfl) rfl zag_ci hd K
theorem p_X9_136 {X : zX} {cc : ByteArray} {nL d pc : Nat} {lv : List (Nat × Value)} {st : List Value} {σ : zS} {v : Int32} (C : zC X cc RX9 nL d) (hd : decode cc pc = .ok (.putfield 136, 3)) (K : zV X (pc + 3) lv st (zsi σ 54 0 7 v)) : zV X pc lv (.int v :: .ref ((zXE X).1 54 0) :: st) σ := z_put C (Cn := RX9) (T := TX9) (N := 45) (ci := 9) (k := 54) (j := 7) (ty := .int) (zsi σ 54 0 7 v) rfl zin_X9 tyX9 tyX9_ok nmX9 (by decide) rfl (by decide) kw_f_X9_136 rfl rfl (by decide +kernel) rfl rfl (Nat.le_of_ble_eq_true rfl) rfl zag_ci hd K
theorem p_X9_170 {X : zX} {cc : ByteArray} {nL d pc : Nat} {lv : List (Nat × Value)} {st : List Value} {σ : zS} {v : Int32} (C : zC X cc RX9 nL d) (hd : decode cc pc = .ok (.putfield 170, 3)) (K : zV X (pc + 3) lv st (zsi σ 54 0 26 v)) : zV X pc lv (.int v :: .ref ((zXE X).1 54 0) :: st) σ := z_put C (Cn := RX9) (T := TX9) (N := 45) (ci := 9) (k := 54) (j := 26) (ty := .int) (zsi σ 54 0 26 v) rfl zin_X9 tyX9 tyX9_ok nmX9 (by decide) rfl (by decide) kw_f_X9_170 rfl rfl (by decide +kernel) rfl rfl (Nat.le_of_ble_eq_true rfl) rfl zag_ci hd K
theorem p_X9_173 {X : zX} {cc : ByteArray} {nL d pc : Nat} {lv : List (Nat × Value)} {st : List Value} {σ : zS} {v : Int32} (C : zC X cc RX9 nL d) (hd : decode cc pc = .ok (.putfield 173, 3)) (K : zV X (pc + 3) lv st (zsi σ 54 0 28 v)) : zV X pc lv (.int v :: .ref ((zXE X).1 54 0) :: st) σ := z_put C (Cn := RX9) (T := TX9) (N := 45) (ci := 9) (k := 54) (j := 28) (ty := .int) (zsi σ 54 0 28 v) rfl zin_X9 tyX9 tyX9_ok nmX9 (by decide) rfl (by decide) kw_f_X9_173 rfl rfl (by decide +kernel) rfl rfl (Nat.le_of_ble_eq_true rfl) rfl zag_ci hd K
theorem p_X9_176 {X : zX} {cc : ByteArray} {nL d pc : Nat} {lv : List (Nat × Value)} {st : List Value} {σ : zS} {v : Int32} (C : zC X cc RX9 nL d) (hd : decode cc pc = .ok (.putfield 176, 3)) (K : zV X (pc + 3) lv st (zsi σ 54 0 29 v)) : zV X pc lv (.int v :: .ref ((zXE X).1 54 0) :: st) σ := z_put C (Cn := RX9) (T := TX9) (N := 45) (ci := 9) (k := 54) (j := 29) (ty := .int) (zsi σ 54 0 29 v) rfl zin_X9 tyX9 tyX9_ok nmX9 (by decide) rfl (by decide) kw_f_X9_176 rfl rfl (by decide +kernel) rfl rfl (Nat.le_of_ble_eq_true rfl) rfl zag_ci hd K
theorem p_X9_179 {X : zX} {cc : ByteArray} {nL d pc : Nat} {lv : List (Nat × Value)} {st : List Value} {σ : zS} {v : Int32} (C : zC X cc RX9 nL d) (hd : decode cc pc = .ok (.putfield 179, 3)) (K : zV X (pc + 3) lv st (zsi σ 54 0 25 v)) : zV X pc lv (.int v :: .ref ((zXE X).1 54 0) :: st) σ := z_put C (Cn := RX9) (T := TX9) (N := 45) (ci := 9) (k := 54) (j := 25) (ty := .int) (zsi σ 54 0 25 v) rfl zin_X9 tyX9 tyX9_ok nmX9 (by decide) rfl (by decide) kw_f_X9_179 rfl rfl (by decide +kernel) rfl rfl (Nat.le_of_ble_eq_true rfl) rfl zag_ci hd K
theorem p_X9_185 {X : zX} {cc : ByteArray} {nL d pc : Nat} {lv : List (Nat × Value)} {st : List Value} {σ : zS} {v : Int64} (C : zC X cc RX9 nL d) (hd : decode cc pc = .ok (.putfield 185, 3)) (K : zV X (pc + 3) lv st (zsj σ 54 0 30 v)) : zV X pc lv (.long v :: .ref ((zXE X).1 54 0) :: st) σ := z_put C (Cn := RX9) (T := TX9) (N := 45) (ci := 9) (k := 54) (j := 30) (ty := .long) (zsj σ 54 0 30 v) rfl zin_X9 tyX9 tyX9_ok nmX9 (by decide) rfl (by decide) kw_f_X9_185 rfl rfl (by decide +kernel) rfl rfl (Nat.le_of_ble_eq_true rfl) rfl zag_cj hd K
theorem p_X9_188 {X : zX} {cc : ByteArray} {nL d pc : Nat} {lv : List (Nat × Value)} {st : List Value} {σ : zS} {v : Int64} (C : zC X cc RX9 nL d) (hd : decode cc pc = .ok (.putfield 188, 3)) (K : zV X (pc + 3) lv st (zsj σ 54 0 31 v)) : zV X pc lv (.long v :: .ref ((zXE X).1 54 0) :: st) σ := z_put C (Cn := RX9) (T := TX9) (N := 45) (ci := 9) (k := 54) (j := 31) (ty := .long) (zsj σ 54 0 31 v) rfl zin_X9 tyX9 tyX9_ok nmX9 (by decide) rfl (by decide) kw_f_X9_188 rfl rfl (by decide +kernel) rfl rfl (Nat.le_of_ble_eq_true rfl) rfl zag_cj hd K
theorem p_X9_195 {X : zX} {cc : ByteArray} {nL d pc : Nat} {lv : List (Nat × Value)} {st : List Value} {σ : zS} {v : Int32} (C : zC X cc RX9 nL d) (hd : decode cc pc = .ok (.putfield 195, 3)) (K : zV X (pc + 3) lv st (zsi σ 54 0 27 v)) : zV X pc lv (.int v :: .ref ((zXE X).1 54 0) :: st) σ := z_put C (Cn := RX9) (T := TX9) (N := 45) (ci := 9) (k := 54) (j := 27) (ty := .int) (zsi σ 54 0 27 v) rfl zin_X9 tyX9 tyX9_ok nmX9 (by decide) rfl (by decide) kw_f_X9_195 rfl rfl (by decide +kernel) rfl rfl (Nat.le_of_ble_eq_true rfl) rfl zag_ci hd K
theorem p_X9_222 {X : zX} {cc : ByteArray} {nL d pc : Nat} {lv : List (Nat × Value)} {st : List Value} {σ : zS} {v : Int32} (C : zC X cc RX9 nL d) (hd : decode cc pc = .ok (.putfield 222, 3)) (K : zV X (pc + 3) lv st (zsi σ 54 0 34 v)) : zV X pc lv (.int v :: .ref ((zXE X).1 54 0) :: st) σ := z_put C (Cn := RX9) (T := TX9) (N := 45) (ci := 9) (k := 54) (j := 34) (ty := .int) (zsi σ 54 0 34 v) rfl zin_X9 tyX9 tyX9_ok nmX9 (by decide) rfl (by decide) kw_f_X9_222 rfl rfl (by decide +kernel) rfl rfl (Nat.le_of_ble_eq_true rfl) rfl zag_ci hd K
theorem p_X9_229 {X : zX} {cc : ByteArray} {nL d pc : Nat} {lv : List (Nat × Value)} {st : List Value} {σ : zS} {v : Int32} (C : zC X cc RX9 nL d) (hd : decode cc pc = .ok (.putfield 229, 3)) (K : zV X (pc + 3) lv st (zsi σ 54 0 8 v)) : zV X pc lv (.int v :: .ref ((zXE X).1 54 0) :: st) σ := z_put C (Cn := RX9) (T := TX9) (N := 45) (ci := 9) (k := 54) (j := 8) (ty := .int) (zsi σ 54 0 8 v) rfl zin_X9 tyX9 tyX9_ok nmX9 (by decide) rfl (by decide) kw_f_X9_229 rfl rfl (by decide +kernel) rfl rfl (Nat.le_of_ble_eq_true rfl) rfl zag_ci hd K
theorem p_X9_7 {X : zX} {cc : ByteArray} {nL d pc : Nat} {lv : List (Nat × Value)} {st : List Value} {σ : zS} {v : Int64} (C : zC X cc RX9 nL d) (hd : decode cc pc = .ok (.putfield 7, 3)) (K : zV X (pc + 3) lv st (zsj σ 54 0 2 v)) : zV X pc lv (.long v :: .ref ((zXE X).1 54 0) :: st) σ := z_put C (Cn := RX9) (T := TX9) (N := 45) (ci := 9) (k := 54) (j := 2) (ty := .long) (zsj σ 54 0 2 v) rfl zin_X9 tyX9 tyX9_ok nmX9 (by decide) rfl (by decide) kw_f_X9_7 rfl rfl (by decide +kernel) rfl rfl (Nat.le_of_ble_eq_true rfl) rfl zag_cj hd K
