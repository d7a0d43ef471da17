theorem bp_10 : (Int8.ofInt 10).toInt32 = 10 := by decide
theorem bp_100 : (Int8.ofInt 100).toInt32 = 100 := by decide
theorem bp_103 : (Int8.ofInt 103).toInt32 = 103 := by decide
theorem bp_104 : (Int8.ofInt 104).toInt32 = 104 := by decide
theorem bp_105 : (Int8.ofInt 105).toInt32 = 105 := by decide
theorem bp_108 : (Int8.ofInt 108).toInt32 = 108 := by decide
theorem bp_110 : (Int8.ofInt 110).toInt32 = 110 := by decide
theorem bp_112 : (Int8.ofInt 112).toInt32 = 112 := by decide
theorem bp_116 : (Int8.ofInt 116).toInt32 = 116 := by decide
theorem bp_117 : (Int8.ofInt 117).toInt32 = 117 := by decide
theorem bp_122 : (Int8.ofInt 122).toInt32 = 122 := by decide
theorem bp_18 : (Int8.ofInt 18).toInt32 = 18 := by decide
theorem bp_20 : (Int8.ofInt 20).toInt32 = 20 := by decide
theorem bp_32 : (Int8.ofInt 32).toInt32 = 32 := by decide
theorem bp_36 : (Int8.ofInt 36).toInt32 = 36 := by decide
theorem bp_37 : (Int8.ofInt 37).toInt32 = 37 := by decide
theorem bp_38 : (Int8.ofInt 38).toInt32 = 38 := by decide
theorem bp_40 : (Int8.ofInt 40).toInt32 = 40 := by decide
theorem bp_44 : (Int8.ofInt 44).toInt32 = 44 := by decide
theorem bp_48 : (Int8.ofInt 48).toInt32 = 48 := by decide
theorem bp_50 : (Int8.ofInt 50).toInt32 = 50 := by decide
theorem bp_57 : (Int8.ofInt 57).toInt32 = 57 := by decide
theorem bp_59 : (Int8.ofInt 59).toInt32 = 59 := by decide
theorem bp_6 : (Int8.ofInt 6).toInt32 = 6 := by decide
theorem bp_63 : (Int8.ofInt 63).toInt32 = 63 := by decide
theorem bp_8 : (Int8.ofInt 8).toInt32 = 8 := by decide
theorem bp_9 : (Int8.ofInt 9).toInt32 = 9 := by decide
theorem bp_97 : (Int8.ofInt 97).toInt32 = 97 := by decide
theorem bp_99 : (Int8.ofInt 99).toInt32 = 99 := by decide
theorem bp_m10 : (Int8.ofInt (-10)).toInt32 = (-10) := by decide
theorem bp_m2 : (Int8.ofInt (-2)).toInt32 = (-2) := by decide
theorem ic_0 : Int32.ofInt 0 = 0 := by decide
theorem ic_1 : Int32.ofInt 1 = 1 := by decide
theorem ic_2 : Int32.ofInt 2 = 2 := by decide
theorem ic_3 : Int32.ofInt 3 = 3 := by decide
theorem ic_4 : Int32.ofInt 4 = 4 := by decide
theorem ic_5 : Int32.ofInt 5 = 5 := by decide
theorem ic_m1 : Int32.ofInt (-1) = (-1) := by decide
theorem lc_0 : Int64.ofNat ((0 : Fin 2) : Nat) = 0 := by decide
theorem lc_1 : Int64.ofNat ((1 : Fin 2) : Nat) = 1 := by decide
theorem nz_10 : ¬ (10 : Int32) = 0 := by decide
theorem nz_100 : ¬ (100 : Int32) = 0 := by decide
theorem nz_6 : ¬ (6 : Int32) = 0 := by decide
theorem nz_65536 : ¬ (65536 : Int32) = 0 := by decide
theorem nzl_100 : ¬ (100 : Int64) = 0 := by decide
theorem nzl_1000 : ¬ (1000 : Int64) = 0 := by decide
theorem nzl_1000000 : ¬ (1000000 : Int64) = 0 := by decide
theorem nzl_2147483648 : ¬ (2147483648 : Int64) = 0 := by decide
theorem sp_1000 : (Int16.ofInt 1000).toInt32 = 1000 := by decide
theorem sp_10000 : (Int16.ofInt 10000).toInt32 = 10000 := by decide
theorem sp_255 : (Int16.ofInt 255).toInt32 = 255 := by decide
theorem sp_300 : (Int16.ofInt 300).toInt32 = 300 := by decide
theorem sp_400 : (Int16.ofInt 400).toInt32 = 400 := by decide
theorem lk_X0_15 : Cond.fieldLink RX0 15 (TX0 5).1 (TX0 5).2.1 (TX0 5).2.2.1 ∈ tb := mem_tb (List.mem_of_getElem? (i := 228) (by decide +kernel)) rfl
theorem lk_X0_18 : Cond.fieldLink RX0 18 (TX0 6).1 (TX0 6).2.1 (TX0 6).2.2.1 ∈ tb := mem_tb (List.mem_of_getElem? (i := 231) (by decide +kernel)) rfl
theorem lk_X0_21 : Cond.fieldLink RX0 21 (TX0 7).1 (TX0 7).2.1 (TX0 7).2.2.1 ∈ tb := mem_tb (List.mem_of_getElem? (i := 232) (by decide +kernel)) rfl
theorem lk_X0_24 : Cond.fieldLink RX0 24 (TX0 8).1 (TX0 8).2.1 (TX0 8).2.2.1 ∈ tb := mem_tb (List.mem_of_getElem? (i := 234) (by decide +kernel)) rfl
theorem lk_X0_27 : Cond.fieldLink RX0 27 (TX0 9).1 (TX0 9).2.1 (TX0 9).2.2.1 ∈ tb := mem_tb (List.mem_of_getElem? (i := 236) (by decide +kernel)) rfl
theorem lk_X0_30 : Cond.fieldLink RX0 30 (TX0 10).1 (TX0 10).2.1 (TX0 10).2.2.1 ∈ tb := mem_tb (List.mem_of_getElem? (i := 238) (by decide +kernel)) rfl
theorem lk_X0_34 : Cond.fieldLink RX0 34 (TX0 0).1 (TX0 0).2.1 (TX0 0).2.2.1 ∈ tb := mem_tb (List.mem_of_getElem? (i := 219) (by decide +kernel)) rfl
theorem lk_X0_38 : Cond.fieldLink RX0 38 (TX0 1).1 (TX0 1).2.1 (TX0 1).2.2.1 ∈ tb := mem_tb (List.mem_of_getElem? (i := 222) (by decide +kernel)) rfl
theorem lk_X0_41 : Cond.fieldLink RX0 41 (TX5 1).1 (TX5 1).2.1 (TX5 1).2.2.1 ∈ tb := mem_tb (List.mem_of_getElem? (i := 195) (by decide +kernel)) rfl
theorem lk_X0_47 : Cond.fieldLink RX0 47 (TX0 2).1 (TX0 2).2.1 (TX0 2).2.2.1 ∈ tb := mem_tb (List.mem_of_getElem? (i := 224) (by decide +kernel)) rfl
theorem lk_X0_48 : Cond.fieldLink RX0 48 (TX5 2).1 (TX5 2).2.1 (TX5 2).2.2.1 ∈ tb := mem_tb (List.mem_of_getElem? (i := 198) (by decide +kernel)) rfl
theorem lk_X0_51 : Cond.fieldLink RX0 51 (TX0 3).1 (TX0 3).2.1 (TX0 3).2.2.1 ∈ tb := mem_tb (List.mem_of_getElem? (i := 226) (by decide +kernel)) rfl
theorem lk_X0_52 : Cond.fieldLink RX0 52 (TX3 1).1 (TX3 1).2.1 (TX3 1).2.2.1 ∈ tb := mem_tb (List.mem_of_getElem? (i := 149) (by decide +kernel)) rfl
theorem lk_X0_57 : Cond.fieldLink RX0 57 (TX5 0).1 (TX5 0).2.1 (TX5 0).2.2.1 ∈ tb := mem_tb (List.mem_of_getElem? (i := 193) (by decide +kernel)) rfl
theorem lk_X0_64 : Cond.fieldLink RX0 64 (TX3 3).1 (TX3 3).2.1 (TX3 3).2.2.1 ∈ tb := mem_tb (List.mem_of_getElem? (i := 156) (by decide +kernel)) rfl
theorem lk_X0_65 : Cond.fieldLink RX0 65 (TX3 4).1 (TX3 4).2.1 (TX3 4).2.2.1 ∈ tb := mem_tb (List.mem_of_getElem? (i := 160) (by decide +kernel)) rfl
theorem lk_X0_66 : Cond.fieldLink RX0 66 (TX3 5).1 (TX3 5).2.1 (TX3 5).2.2.1 ∈ tb := mem_tb (List.mem_of_getElem? (i := 164) (by decide +kernel)) rfl
theorem lk_X0_9 : Cond.fieldLink RX0 9 (TX0 4).1 (TX0 4).2.1 (TX0 4).2.2.1 ∈ tb := mem_tb (List.mem_of_getElem? (i := 227) (by decide +kernel)) rfl
theorem lk_X1_106 : Cond.fieldLink RX1 106 (TX0 9).1 (TX0 9).2.1 (TX0 9).2.2.1 ∈ tb := mem_tb (List.mem_of_getElem? (i := 237) (by decide +kernel)) rfl
theorem lk_X1_112 : Cond.fieldLink RX1 112 (TX0 7).1 (TX0 7).2.1 (TX0 7).2.2.1 ∈ tb := mem_tb (List.mem_of_getElem? (i := 233) (by decide +kernel)) rfl
theorem lk_X1_126 : Cond.fieldLink RX1 126 (TX0 8).1 (TX0 8).2.1 (TX0 8).2.2.1 ∈ tb := mem_tb (List.mem_of_getElem? (i := 235) (by decide +kernel)) rfl
theorem lk_X1_15 : Cond.fieldLink RX1 15 (TX1 1).1 (TX1 1).2.1 (TX1 1).2.2.1 ∈ tb := mem_tb (List.mem_of_getElem? (i := 270) (by decide +kernel)) rfl
theorem lk_X1_18 : Cond.fieldLink RX1 18 (TX1 2).1 (TX1 2).2.1 (TX1 2).2.2.1 ∈ tb := mem_tb (List.mem_of_getElem? (i := 271) (by decide +kernel)) rfl
theorem lk_X1_21 : Cond.fieldLink RX1 21 (TX1 4).1 (TX1 4).2.1 (TX1 4).2.2.1 ∈ tb := mem_tb (List.mem_of_getElem? (i := 273) (by decide +kernel)) rfl
theorem lk_X1_25 : Cond.fieldLink RX1 25 (TX0 0).1 (TX0 0).2.1 (TX0 0).2.2.1 ∈ tb := mem_tb (List.mem_of_getElem? (i := 218) (by decide +kernel)) rfl
theorem lk_X1_77 : Cond.fieldLink RX1 77 (TX1 3).1 (TX1 3).2.1 (TX1 3).2.2.1 ∈ tb := mem_tb (List.mem_of_getElem? (i := 272) (by decide +kernel)) rfl
theorem lk_X1_80 : Cond.fieldLink RX1 80 (TX1 5).1 (TX1 5).2.1 (TX1 5).2.2.1 ∈ tb := mem_tb (List.mem_of_getElem? (i := 274) (by decide +kernel)) rfl
theorem lk_X1_9 : Cond.fieldLink RX1 9 (TX1 0).1 (TX1 0).2.1 (TX1 0).2.2.1 ∈ tb := mem_tb (List.mem_of_getElem? (i := 269) (by decide +kernel)) rfl
theorem lk_X1_91 : Cond.fieldLink RX1 91 (TX0 5).1 (TX0 5).2.1 (TX0 5).2.2.1 ∈ tb := mem_tb (List.mem_of_getElem? (i := 229) (by decide +kernel)) rfl
theorem lk_X2_15 : Cond.fieldLink RX2 15 (TX2 2).1 (TX2 2).2.1 (TX2 2).2.2.1 ∈ tb := mem_tb (List.mem_of_getElem? (i := 116) (by decide +kernel)) rfl
theorem lk_X2_19 : Cond.fieldLink RX2 19 (TX2 1).1 (TX2 1).2.1 (TX2 1).2.2.1 ∈ tb := mem_tb (List.mem_of_getElem? (i := 114) (by decide +kernel)) rfl
theorem lk_X2_22 : Cond.fieldLink RX2 22 (TX2 4).1 (TX2 4).2.1 (TX2 4).2.2.1 ∈ tb := mem_tb (List.mem_of_getElem? (i := 119) (by decide +kernel)) rfl
theorem lk_X2_26 : Cond.fieldLink RX2 26 (TX3 0).1 (TX3 0).2.1 (TX3 0).2.2.1 ∈ tb := mem_tb (List.mem_of_getElem? (i := 147) (by decide +kernel)) rfl
theorem lk_X2_31 : Cond.fieldLink RX2 31 (TX3 1).1 (TX3 1).2.1 (TX3 1).2.2.1 ∈ tb := mem_tb (List.mem_of_getElem? (i := 150) (by decide +kernel)) rfl
theorem lk_X2_34 : Cond.fieldLink RX2 34 (TX2 3).1 (TX2 3).2.1 (TX2 3).2.2.1 ∈ tb := mem_tb (List.mem_of_getElem? (i := 118) (by decide +kernel)) rfl
theorem lk_X2_37 : Cond.fieldLink RX2 37 (TX2 5).1 (TX2 5).2.1 (TX2 5).2.2.1 ∈ tb := mem_tb (List.mem_of_getElem? (i := 120) (by decide +kernel)) rfl
theorem lk_X2_43 : Cond.fieldLink RX2 43 (TX2 7).1 (TX2 7).2.1 (TX2 7).2.2.1 ∈ tb := mem_tb (List.mem_of_getElem? (i := 122) (by decide +kernel)) rfl
theorem lk_X2_60 : Cond.fieldLink RX2 60 (TX2 6).1 (TX2 6).2.1 (TX2 6).2.2.1 ∈ tb := mem_tb (List.mem_of_getElem? (i := 121) (by decide +kernel)) rfl
theorem lk_X2_77 : Cond.fieldLink RX2 77 (TX3 2).1 (TX3 2).2.1 (TX3 2).2.2.1 ∈ tb := mem_tb (List.mem_of_getElem? (i := 153) (by decide +kernel)) rfl
theorem lk_X2_89 : Cond.fieldLink RX2 89 (TX3 3).1 (TX3 3).2.1 (TX3 3).2.2.1 ∈ tb := mem_tb (List.mem_of_getElem? (i := 157) (by decide +kernel)) rfl
theorem lk_X2_9 : Cond.fieldLink RX2 9 (TX2 0).1 (TX2 0).2.1 (TX2 0).2.2.1 ∈ tb := mem_tb (List.mem_of_getElem? (i := 113) (by decide +kernel)) rfl
theorem lk_X2_92 : Cond.fieldLink RX2 92 (TX3 4).1 (TX3 4).2.1 (TX3 4).2.2.1 ∈ tb := mem_tb (List.mem_of_getElem? (i := 161) (by decide +kernel)) rfl
theorem lk_X2_95 : Cond.fieldLink RX2 95 (TX3 5).1 (TX3 5).2.1 (TX3 5).2.2.1 ∈ tb := mem_tb (List.mem_of_getElem? (i := 165) (by decide +kernel)) rfl
theorem lk_X2_98 : Cond.fieldLink RX2 98 (TX3 6).1 (TX3 6).2.1 (TX3 6).2.2.1 ∈ tb := mem_tb (List.mem_of_getElem? (i := 169) (by decide +kernel)) rfl
theorem lk_X3_9 : Cond.fieldLink RX3 9 (TX3 2).1 (TX3 2).2.1 (TX3 2).2.2.1 ∈ tb := mem_tb (List.mem_of_getElem? (i := 152) (by decide +kernel)) rfl
theorem lk_X4_13 : Cond.fieldLink RX4 13 (TX4 0).1 (TX4 0).2.1 (TX4 0).2.2.1 ∈ tb := mem_tb (List.mem_of_getElem? (i := 297) (by decide +kernel)) rfl
theorem lk_X4_18 : Cond.fieldLink RX4 18 (TX4 1).1 (TX4 1).2.1 (TX4 1).2.2.1 ∈ tb := mem_tb (List.mem_of_getElem? (i := 298) (by decide +kernel)) rfl
theorem lk_X4_22 : Cond.fieldLink RX4 22 (TX0 0).1 (TX0 0).2.1 (TX0 0).2.2.1 ∈ tb := mem_tb (List.mem_of_getElem? (i := 220) (by decide +kernel)) rfl
theorem lk_X4_27 : Cond.fieldLink RX4 27 (TX0 1).1 (TX0 1).2.1 (TX0 1).2.2.1 ∈ tb := mem_tb (List.mem_of_getElem? (i := 223) (by decide +kernel)) rfl
theorem lk_X5_21 : Cond.fieldLink RX5 21 (TX5 1).1 (TX5 1).2.1 (TX5 1).2.2.1 ∈ tb := mem_tb (List.mem_of_getElem? (i := 196) (by decide +kernel)) rfl
theorem lk_X5_25 : Cond.fieldLink RX5 25 (TX5 3).1 (TX5 3).2.1 (TX5 3).2.2.1 ∈ tb := mem_tb (List.mem_of_getElem? (i := 201) (by decide +kernel)) rfl
theorem lk_X5_29 : Cond.fieldLink RX5 29 (TX5 2).1 (TX5 2).2.1 (TX5 2).2.2.1 ∈ tb := mem_tb (List.mem_of_getElem? (i := 199) (by decide +kernel)) rfl
theorem lk_X5_9 : Cond.fieldLink RX5 9 (TX5 0).1 (TX5 0).2.1 (TX5 0).2.2.1 ∈ tb := mem_tb (List.mem_of_getElem? (i := 192) (by decide +kernel)) rfl
theorem lk_X6_100 : Cond.fieldLink RX6 100 (TX3 1).1 (TX3 1).2.1 (TX3 1).2.2.1 ∈ tb := mem_tb (List.mem_of_getElem? (i := 151) (by decide +kernel)) rfl
theorem lk_X6_103 : Cond.fieldLink RX6 103 (TX2 2).1 (TX2 2).2.1 (TX2 2).2.2.1 ∈ tb := mem_tb (List.mem_of_getElem? (i := 117) (by decide +kernel)) rfl
theorem lk_X6_106 : Cond.fieldLink RX6 106 (TX3 0).1 (TX3 0).2.1 (TX3 0).2.2.1 ∈ tb := mem_tb (List.mem_of_getElem? (i := 148) (by decide +kernel)) rfl
theorem lk_X6_109 : Cond.fieldLink RX6 109 (TX5 1).1 (TX5 1).2.1 (TX5 1).2.2.1 ∈ tb := mem_tb (List.mem_of_getElem? (i := 197) (by decide +kernel)) rfl
theorem lk_X6_113 : Cond.fieldLink RX6 113 (TX5 3).1 (TX5 3).2.1 (TX5 3).2.2.1 ∈ tb := mem_tb (List.mem_of_getElem? (i := 202) (by decide +kernel)) rfl
theorem lk_X6_12 : Cond.fieldLink RX6 12 (TX6 0).1 (TX6 0).2.1 (TX6 0).2.2.1 ∈ tb := mem_tb (List.mem_of_getElem? (i := 304) (by decide +kernel)) rfl
theorem lk_X6_121 : Cond.fieldLink RX6 121 (TX3 3).1 (TX3 3).2.1 (TX3 3).2.2.1 ∈ tb := mem_tb (List.mem_of_getElem? (i := 158) (by decide +kernel)) rfl
theorem lk_X6_124 : Cond.fieldLink RX6 124 (TX3 4).1 (TX3 4).2.1 (TX3 4).2.2.1 ∈ tb := mem_tb (List.mem_of_getElem? (i := 162) (by decide +kernel)) rfl
theorem lk_X6_127 : Cond.fieldLink RX6 127 (TX3 5).1 (TX3 5).2.1 (TX3 5).2.2.1 ∈ tb := mem_tb (List.mem_of_getElem? (i := 166) (by decide +kernel)) rfl
theorem lk_X6_140 : Cond.fieldLink RX6 140 (TX3 2).1 (TX3 2).2.1 (TX3 2).2.2.1 ∈ tb := mem_tb (List.mem_of_getElem? (i := 154) (by decide +kernel)) rfl
theorem lk_X6_143 : Cond.fieldLink RX6 143 (TX5 0).1 (TX5 0).2.1 (TX5 0).2.2.1 ∈ tb := mem_tb (List.mem_of_getElem? (i := 194) (by decide +kernel)) rfl
theorem lk_X6_19 : Cond.fieldLink RX6 19 (TX6 1).1 (TX6 1).2.1 (TX6 1).2.2.1 ∈ tb := mem_tb (List.mem_of_getElem? (i := 305) (by decide +kernel)) rfl
theorem lk_X6_200 : Cond.fieldLink RX6 200 (TX0 0).1 (TX0 0).2.1 (TX0 0).2.2.1 ∈ tb := mem_tb (List.mem_of_getElem? (i := 221) (by decide +kernel)) rfl
theorem lk_X6_23 : Cond.fieldLink RX6 23 (TX6 2).1 (TX6 2).2.1 (TX6 2).2.2.1 ∈ tb := mem_tb (List.mem_of_getElem? (i := 306) (by decide +kernel)) rfl
theorem lk_X6_241 : Cond.fieldLink RX6 241 (TX0 5).1 (TX0 5).2.1 (TX0 5).2.2.1 ∈ tb := mem_tb (List.mem_of_getElem? (i := 230) (by decide +kernel)) rfl
theorem lk_X6_247 : Cond.fieldLink RX6 247 (TX5 2).1 (TX5 2).2.1 (TX5 2).2.2.1 ∈ tb := mem_tb (List.mem_of_getElem? (i := 200) (by decide +kernel)) rfl
theorem lk_X6_254 : Cond.fieldLink RX6 254 (TX0 2).1 (TX0 2).2.1 (TX0 2).2.2.1 ∈ tb := mem_tb (List.mem_of_getElem? (i := 225) (by decide +kernel)) rfl
theorem lk_X6_29 : Cond.fieldLink RX6 29 (TX6 3).1 (TX6 3).2.1 (TX6 3).2.2.1 ∈ tb := mem_tb (List.mem_of_getElem? (i := 307) (by decide +kernel)) rfl
theorem lk_X6_33 : Cond.fieldLink RX6 33 (TX6 4).1 (TX6 4).2.1 (TX6 4).2.2.1 ∈ tb := mem_tb (List.mem_of_getElem? (i := 308) (by decide +kernel)) rfl
theorem lk_X6_36 : Cond.fieldLink RX6 36 (TX6 5).1 (TX6 5).2.1 (TX6 5).2.2.1 ∈ tb := mem_tb (List.mem_of_getElem? (i := 309) (by decide +kernel)) rfl
theorem lk_X6_39 : Cond.fieldLink RX6 39 (TX6 6).1 (TX6 6).2.1 (TX6 6).2.2.1 ∈ tb := mem_tb (List.mem_of_getElem? (i := 310) (by decide +kernel)) rfl
theorem lk_X6_42 : Cond.fieldLink RX6 42 (TX6 8).1 (TX6 8).2.1 (TX6 8).2.2.1 ∈ tb := mem_tb (List.mem_of_getElem? (i := 312) (by decide +kernel)) rfl
theorem lk_X6_49 : Cond.fieldLink RX6 49 (TX6 10).1 (TX6 10).2.1 (TX6 10).2.2.1 ∈ tb := mem_tb (List.mem_of_getElem? (i := 314) (by decide +kernel)) rfl
theorem lk_X6_56 : Cond.fieldLink RX6 56 (TX6 11).1 (TX6 11).2.1 (TX6 11).2.2.1 ∈ tb := mem_tb (List.mem_of_getElem? (i := 315) (by decide +kernel)) rfl
theorem lk_X6_63 : Cond.fieldLink RX6 63 (TX6 12).1 (TX6 12).2.1 (TX6 12).2.2.1 ∈ tb := mem_tb (List.mem_of_getElem? (i := 316) (by decide +kernel)) rfl
theorem lk_X6_67 : Cond.fieldLink RX6 67 (TX6 13).1 (TX6 13).2.1 (TX6 13).2.2.1 ∈ tb := mem_tb (List.mem_of_getElem? (i := 317) (by decide +kernel)) rfl
theorem lk_X6_71 : Cond.fieldLink RX6 71 (TX2 1).1 (TX2 1).2.1 (TX2 1).2.2.1 ∈ tb := mem_tb (List.mem_of_getElem? (i := 115) (by decide +kernel)) rfl
theorem lk_X6_84 : Cond.fieldLink RX6 84 (TX3 6).1 (TX3 6).2.1 (TX3 6).2.2.1 ∈ tb := mem_tb (List.mem_of_getElem? (i := 168) (by decide +kernel)) rfl
theorem lk_X6_91 : Cond.fieldLink RX6 91 (TX6 7).1 (TX6 7).2.1 (TX6 7).2.2.1 ∈ tb := mem_tb (List.mem_of_getElem? (i := 311) (by decide +kernel)) rfl
theorem lk_X6_94 : Cond.fieldLink RX6 94 (TX6 9).1 (TX6 9).2.1 (TX6 9).2.2.1 ∈ tb := mem_tb (List.mem_of_getElem? (i := 313) (by decide +kernel)) rfl
theorem lk_X7_102 : Cond.fieldLink RX7 102 (TX7 8).1 (TX7 8).2.1 (TX7 8).2.2.1 ∈ tb := mem_tb (List.mem_of_getElem? (i := 866) (by decide +kernel)) rfl
theorem lk_X7_108 : Cond.fieldLink RX7 108 (TX7 10).1 (TX7 10).2.1 (TX7 10).2.2.1 ∈ tb := mem_tb (List.mem_of_getElem? (i := 868) (by decide +kernel)) rfl
theorem lk_X7_115 : Cond.fieldLink RX7 115 (TX7 11).1 (TX7 11).2.1 (TX7 11).2.2.1 ∈ tb := mem_tb (List.mem_of_getElem? (i := 869) (by decide +kernel)) rfl
theorem lk_X7_119 : Cond.fieldLink RX7 119 (TX7 12).1 (TX7 12).2.1 (TX7 12).2.2.1 ∈ tb := mem_tb (List.mem_of_getElem? (i := 870) (by decide +kernel)) rfl
theorem lk_X7_13 : Cond.fieldLink RX7 13 (TX7 3).1 (TX7 3).2.1 (TX7 3).2.2.1 ∈ tb := mem_tb (List.mem_of_getElem? (i := 861) (by decide +kernel)) rfl
theorem lk_X7_142 : Cond.fieldLink RX7 142 (TX7 14).1 (TX7 14).2.1 (TX7 14).2.2.1 ∈ tb := mem_tb (List.mem_of_getElem? (i := 872) (by decide +kernel)) rfl
theorem lk_X7_145 : Cond.fieldLink RX7 145 (TX7 13).1 (TX7 13).2.1 (TX7 13).2.2.1 ∈ tb := mem_tb (List.mem_of_getElem? (i := 871) (by decide +kernel)) rfl
theorem lk_X7_148 : Cond.fieldLink RX7 148 (TX7 15).1 (TX7 15).2.1 (TX7 15).2.2.1 ∈ tb := mem_tb (List.mem_of_getElem? (i := 873) (by decide +kernel)) rfl
theorem lk_X7_16 : Cond.fieldLink RX7 16 (TX7 4).1 (TX7 4).2.1 (TX7 4).2.2.1 ∈ tb := mem_tb (List.mem_of_getElem? (i := 862) (by decide +kernel)) rfl
theorem lk_X7_167 : Cond.fieldLink RX7 167 (TX7 16).1 (TX7 16).2.1 (TX7 16).2.2.1 ∈ tb := mem_tb (List.mem_of_getElem? (i := 874) (by decide +kernel)) rfl
theorem lk_X7_183 : Cond.fieldLink RX7 183 (TX7 5).1 (TX7 5).2.1 (TX7 5).2.2.1 ∈ tb := mem_tb (List.mem_of_getElem? (i := 863) (by decide +kernel)) rfl
theorem lk_X7_187 : Cond.fieldLink RX7 187 (TX7 6).1 (TX7 6).2.1 (TX7 6).2.2.1 ∈ tb := mem_tb (List.mem_of_getElem? (i := 864) (by decide +kernel)) rfl
theorem lk_X7_19 : Cond.fieldLink RX7 19 (TX7 7).1 (TX7 7).2.1 (TX7 7).2.2.1 ∈ tb := mem_tb (List.mem_of_getElem? (i := 865) (by decide +kernel)) rfl
theorem lk_X7_190 : Cond.fieldLink RX7 190 (TX7 35).1 (TX7 35).2.1 (TX7 35).2.2.1 ∈ tb := mem_tb (List.mem_of_getElem? (i := 893) (by decide +kernel)) rfl
theorem lk_X7_207 : Cond.fieldLink RX7 207 (TX7 23).1 (TX7 23).2.1 (TX7 23).2.2.1 ∈ tb := mem_tb (List.mem_of_getElem? (i := 881) (by decide +kernel)) rfl
theorem lk_X7_22 : Cond.fieldLink RX7 22 (TX7 9).1 (TX7 9).2.1 (TX7 9).2.2.1 ∈ tb := mem_tb (List.mem_of_getElem? (i := 867) (by decide +kernel)) rfl
theorem lk_X7_26 : Cond.fieldLink RX7 26 (TX7 17).1 (TX7 17).2.1 (TX7 17).2.2.1 ∈ tb := mem_tb (List.mem_of_getElem? (i := 875) (by decide +kernel)) rfl
theorem lk_X7_29 : Cond.fieldLink RX7 29 (TX7 18).1 (TX7 18).2.1 (TX7 18).2.2.1 ∈ tb := mem_tb (List.mem_of_getElem? (i := 876) (by decide +kernel)) rfl
theorem lk_X7_310 : Cond.fieldLink RX7 310 (TX7 28).1 (TX7 28).2.1 (TX7 28).2.2.1 ∈ tb := mem_tb (List.mem_of_getElem? (i := 886) (by decide +kernel)) rfl
theorem lk_X7_32 : Cond.fieldLink RX7 32 (TX7 19).1 (TX7 19).2.1 (TX7 19).2.2.1 ∈ tb := mem_tb (List.mem_of_getElem? (i := 877) (by decide +kernel)) rfl
theorem lk_X7_336 : Cond.fieldLink RX7 336 (TX7 34).1 (TX7 34).2.1 (TX7 34).2.2.1 ∈ tb := mem_tb (List.mem_of_getElem? (i := 892) (by decide +kernel)) rfl
theorem lk_X7_35 : Cond.fieldLink RX7 35 (TX7 20).1 (TX7 20).2.1 (TX7 20).2.2.1 ∈ tb := mem_tb (List.mem_of_getElem? (i := 878) (by decide +kernel)) rfl
theorem lk_X7_38 : Cond.fieldLink RX7 38 (TX7 21).1 (TX7 21).2.1 (TX7 21).2.2.1 ∈ tb := mem_tb (List.mem_of_getElem? (i := 879) (by decide +kernel)) rfl
theorem lk_X7_41 : Cond.fieldLink RX7 41 (TX7 22).1 (TX7 22).2.1 (TX7 22).2.2.1 ∈ tb := mem_tb (List.mem_of_getElem? (i := 880) (by decide +kernel)) rfl
theorem lk_X7_45 : Cond.fieldLink RX7 45 (TX7 24).1 (TX7 24).2.1 (TX7 24).2.2.1 ∈ tb := mem_tb (List.mem_of_getElem? (i := 882) (by decide +kernel)) rfl
theorem lk_X7_48 : Cond.fieldLink RX7 48 (TX7 25).1 (TX7 25).2.1 (TX7 25).2.2.1 ∈ tb := mem_tb (List.mem_of_getElem? (i := 883) (by decide +kernel)) rfl
theorem lk_X7_51 : Cond.fieldLink RX7 51 (TX7 26).1 (TX7 26).2.1 (TX7 26).2.2.1 ∈ tb := mem_tb (List.mem_of_getElem? (i := 884) (by decide +kernel)) rfl
theorem lk_X7_54 : Cond.fieldLink RX7 54 (TX7 27).1 (TX7 27).2.1 (TX7 27).2.2.1 ∈ tb := mem_tb (List.mem_of_getElem? (i := 885) (by decide +kernel)) rfl
theorem lk_X7_58 : Cond.fieldLink RX7 58 (TX7 29).1 (TX7 29).2.1 (TX7 29).2.2.1 ∈ tb := mem_tb (List.mem_of_getElem? (i := 887) (by decide +kernel)) rfl
theorem lk_X7_61 : Cond.fieldLink RX7 61 (TX7 30).1 (TX7 30).2.1 (TX7 30).2.2.1 ∈ tb := mem_tb (List.mem_of_getElem? (i := 888) (by decide +kernel)) rfl
theorem lk_X7_64 : Cond.fieldLink RX7 64 (TX7 31).1 (TX7 31).2.1 (TX7 31).2.2.1 ∈ tb := mem_tb (List.mem_of_getElem? (i := 889) (by decide +kernel)) rfl
theorem lk_X7_68 : Cond.fieldLink RX7 68 (TX7 32).1 (TX7 32).2.1 (TX7 32).2.2.1 ∈ tb := mem_tb (List.mem_of_getElem? (i := 890) (by decide +kernel)) rfl
theorem lk_X7_7 : Cond.fieldLink RX7 7 (TX7 2).1 (TX7 2).2.1 (TX7 2).2.2.1 ∈ tb := mem_tb (List.mem_of_getElem? (i := 860) (by decide +kernel)) rfl
theorem lk_X7_71 : Cond.fieldLink RX7 71 (TX7 33).1 (TX7 33).2.1 (TX7 33).2.2.1 ∈ tb := mem_tb (List.mem_of_getElem? (i := 891) (by decide +kernel)) rfl
theorem lk_X7_74 : Cond.fieldLink RX7 74 (TX7 36).1 (TX7 36).2.1 (TX7 36).2.2.1 ∈ tb := mem_tb (List.mem_of_getElem? (i := 894) (by decide +kernel)) rfl
theorem lk_X7_77 : Cond.fieldLink RX7 77 (TX7 37).1 (TX7 37).2.1 (TX7 37).2.2.1 ∈ tb := mem_tb (List.mem_of_getElem? (i := 895) (by decide +kernel)) rfl
theorem lk_X7_80 : Cond.fieldLink RX7 80 (TX7 38).1 (TX7 38).2.1 (TX7 38).2.2.1 ∈ tb := mem_tb (List.mem_of_getElem? (i := 896) (by decide +kernel)) rfl
theorem lk_X7_83 : Cond.fieldLink RX7 83 (TX7 39).1 (TX7 39).2.1 (TX7 39).2.2.1 ∈ tb := mem_tb (List.mem_of_getElem? (i := 897) (by decide +kernel)) rfl
theorem lk_X7_86 : Cond.fieldLink RX7 86 (TX7 40).1 (TX7 40).2.1 (TX7 40).2.2.1 ∈ tb := mem_tb (List.mem_of_getElem? (i := 898) (by decide +kernel)) rfl
theorem lk_X7_89 : Cond.fieldLink RX7 89 (TX7 0).1 (TX7 0).2.1 (TX7 0).2.2.1 ∈ tb := mem_tb (List.mem_of_getElem? (i := 858) (by decide +kernel)) rfl
theorem lk_X7_96 : Cond.fieldLink RX7 96 (TX7 1).1 (TX7 1).2.1 (TX7 1).2.2.1 ∈ tb := mem_tb (List.mem_of_getElem? (i := 859) (by decide +kernel)) rfl
theorem qc_X0_142 : Cond.constant RX0 142 1000000 ∈ tb := mem_tb (List.mem_of_getElem? (i := 616) (by decide +kernel)) rfl
theorem qc_X0_89 : Cond.constant RX0 89 65536 ∈ tb := mem_tb (List.mem_of_getElem? (i := 550) (by decide +kernel)) rfl
theorem qc_X6_120 : Cond.constant RX6 120 (-1000001) ∈ tb := mem_tb (List.mem_of_getElem? (i := 483) (by decide +kernel)) rfl
theorem qc_X6_172 : Cond.constant RX6 172 (-1000003) ∈ tb := mem_tb (List.mem_of_getElem? (i := 625) (by decide +kernel)) rfl
theorem qc_X6_70 : Cond.constant RX6 70 (-1000002) ∈ tb := mem_tb (List.mem_of_getElem? (i := 351) (by decide +kernel)) rfl
theorem qc_X6_75 : Cond.constant RX6 75 (-1000004) ∈ tb := mem_tb (List.mem_of_getElem? (i := 352) (by decide +kernel)) rfl
theorem qc_X7_101 : Cond.constant RX7 101 (-1000002) ∈ tb := mem_tb (List.mem_of_getElem? (i := 990) (by decide +kernel)) rfl
theorem qc_X7_105 : Cond.constant RX7 105 (-1000004) ∈ tb := mem_tb (List.mem_of_getElem? (i := 991) (by decide +kernel)) rfl
theorem qc_X7_197 : Cond.constant RX7 197 (-1000001) ∈ tb := mem_tb (List.mem_of_getElem? (i := 1060) (by decide +kernel)) rfl
theorem qc_X7_216 : Cond.constant RX7 216 65536 ∈ tb := mem_tb (List.mem_of_getElem? (i := 1113) (by decide +kernel)) rfl
theorem qc_X7_275 : Cond.constant RX7 275 1000000 ∈ tb := mem_tb (List.mem_of_getElem? (i := 1150) (by decide +kernel)) rfl
theorem qc_X7_287 : Cond.constant RX7 287 (-1000003) ∈ tb := mem_tb (List.mem_of_getElem? (i := 1159) (by decide +kernel)) rfl
theorem ql_X0_128 : Cond.constantLong RX0 128 1000000 ∈ tb := mem_tb (List.mem_of_getElem? (i := 600) (by decide +kernel)) rfl
theorem ql_X0_130 : Cond.constantLong RX0 130 100 ∈ tb := mem_tb (List.mem_of_getElem? (i := 601) (by decide +kernel)) rfl
theorem ql_X0_143 : Cond.constantLong RX0 143 1000 ∈ tb := mem_tb (List.mem_of_getElem? (i := 615) (by decide +kernel)) rfl
theorem ql_X0_83 : Cond.constantLong RX0 83 1103515245 ∈ tb := mem_tb (List.mem_of_getElem? (i := 547) (by decide +kernel)) rfl
theorem ql_X0_85 : Cond.constantLong RX0 85 12345 ∈ tb := mem_tb (List.mem_of_getElem? (i := 548) (by decide +kernel)) rfl
theorem ql_X0_87 : Cond.constantLong RX0 87 2147483647 ∈ tb := mem_tb (List.mem_of_getElem? (i := 549) (by decide +kernel)) rfl
theorem ql_X1_129 : Cond.constantLong RX1 129 1000 ∈ tb := mem_tb (List.mem_of_getElem? (i := 699) (by decide +kernel)) rfl
theorem ql_X1_131 : Cond.constantLong RX1 131 1000000 ∈ tb := mem_tb (List.mem_of_getElem? (i := 708) (by decide +kernel)) rfl
theorem ql_X1_44 : Cond.constantLong RX1 44 1000000000 ∈ tb := mem_tb (List.mem_of_getElem? (i := 638) (by decide +kernel)) rfl
theorem ql_X1_65 : Cond.constantLong RX1 65 100 ∈ tb := mem_tb (List.mem_of_getElem? (i := 660) (by decide +kernel)) rfl
theorem ql_X7_106 : Cond.constantLong RX7 106 255 ∈ tb := mem_tb (List.mem_of_getElem? (i := 992) (by decide +kernel)) rfl
theorem ql_X7_122 : Cond.constantLong RX7 122 97 ∈ tb := mem_tb (List.mem_of_getElem? (i := 1009) (by decide +kernel)) rfl
theorem ql_X7_124 : Cond.constantLong RX7 124 122 ∈ tb := mem_tb (List.mem_of_getElem? (i := 1010) (by decide +kernel)) rfl
theorem ql_X7_126 : Cond.constantLong RX7 126 1000000000000 ∈ tb := mem_tb (List.mem_of_getElem? (i := 1011) (by decide +kernel)) rfl
theorem ql_X7_128 : Cond.constantLong RX7 128 2000000000000 ∈ tb := mem_tb (List.mem_of_getElem? (i := 1012) (by decide +kernel)) rfl
theorem ql_X7_130 : Cond.constantLong RX7 130 27 ∈ tb := mem_tb (List.mem_of_getElem? (i := 1013) (by decide +kernel)) rfl
theorem ql_X7_132 : Cond.constantLong RX7 132 96 ∈ tb := mem_tb (List.mem_of_getElem? (i := 1014) (by decide +kernel)) rfl
theorem ql_X7_134 : Cond.constantLong RX7 134 48 ∈ tb := mem_tb (List.mem_of_getElem? (i := 1031) (by decide +kernel)) rfl
theorem ql_X7_136 : Cond.constantLong RX7 136 57 ∈ tb := mem_tb (List.mem_of_getElem? (i := 1032) (by decide +kernel)) rfl
theorem ql_X7_154 : Cond.constantLong RX7 154 419 ∈ tb := mem_tb (List.mem_of_getElem? (i := 1026) (by decide +kernel)) rfl
theorem ql_X7_198 : Cond.constantLong RX7 198 4 ∈ tb := mem_tb (List.mem_of_getElem? (i := 1061) (by decide +kernel)) rfl
theorem ql_X7_210 : Cond.constantLong RX7 210 1103515245 ∈ tb := mem_tb (List.mem_of_getElem? (i := 1110) (by decide +kernel)) rfl
theorem ql_X7_212 : Cond.constantLong RX7 212 12345 ∈ tb := mem_tb (List.mem_of_getElem? (i := 1111) (by decide +kernel)) rfl
theorem ql_X7_214 : Cond.constantLong RX7 214 2147483648 ∈ tb := mem_tb (List.mem_of_getElem? (i := 1112) (by decide +kernel)) rfl
theorem ql_X7_240 : Cond.constantLong RX7 240 6 ∈ tb := mem_tb (List.mem_of_getElem? (i := 1125) (by decide +kernel)) rfl
theorem ql_X7_256 : Cond.constantLong RX7 256 1000000 ∈ tb := mem_tb (List.mem_of_getElem? (i := 1143) (by decide +kernel)) rfl
theorem ql_X7_258 : Cond.constantLong RX7 258 100 ∈ tb := mem_tb (List.mem_of_getElem? (i := 1144) (by decide +kernel)) rfl
theorem ql_X7_260 : Cond.constantLong RX7 260 1000 ∈ tb := mem_tb (List.mem_of_getElem? (i := 1149) (by decide +kernel)) rfl
theorem ql_X7_262 : Cond.constantLong RX7 262 3 ∈ tb := mem_tb (List.mem_of_getElem? (i := 1138) (by decide +kernel)) rfl
theorem ql_X7_282 : Cond.constantLong RX7 282 2 ∈ tb := mem_tb (List.mem_of_getElem? (i := 1158) (by decide +kernel)) rfl
theorem ql_X7_291 : Cond.constantLong RX7 291 99 ∈ tb := mem_tb (List.mem_of_getElem? (i := 1176) (by decide +kernel)) rfl
theorem ql_X7_299 : Cond.constantLong RX7 299 9 ∈ tb := mem_tb (List.mem_of_getElem? (i := 1193) (by decide +kernel)) rfl
theorem ql_X7_364 : Cond.constantLong RX7 364 1000000000 ∈ tb := mem_tb (List.mem_of_getElem? (i := 1278) (by decide +kernel)) rfl
theorem ql_X7_369 : Cond.constantLong RX7 369 20 ∈ tb := mem_tb (List.mem_of_getElem? (i := 1273) (by decide +kernel)) rfl
theorem ql_X7_99 : Cond.constantLong RX7 99 8 ∈ tb := mem_tb (List.mem_of_getElem? (i := 986) (by decide +kernel)) rfl
theorem wc_J7_fill_d0a16 : Cond.code yJ7_fill_d0a16 cJ7_fill_d0a16 5 none ∈ tb := mem_tb (List.mem_of_getElem? (i := 633) (by decide +kernel)) rfl
theorem wc_J7_fill_fda19 : Cond.code yJ7_fill_fda19 cJ7_fill_fda19 5 none ∈ tb := mem_tb (List.mem_of_getElem? (i := 761) (by decide +kernel)) rfl
theorem wc_J7_rangeCheck_23922 : Cond.code yJ7_rangeCheck_23922 cJ7_rangeCheck_23922 3 none ∈ tb := mem_tb (List.mem_of_getElem? (i := 764) (by decide +kernel)) rfl
theorem wc_X0_after : Cond.code yX0_after cX0_after 2 (some .int) ∈ tb := mem_tb (List.mem_of_getElem? (i := 694) (by decide +kernel)) rfl
theorem wc_X0_chosen : Cond.code yX0_chosen cX0_chosen 3 (some .int) ∈ tb := mem_tb (List.mem_of_getElem? (i := 646) (by decide +kernel)) rfl
theorem wc_X0_code : Cond.code yX0_code cX0_code 3 (some .int) ∈ tb := mem_tb (List.mem_of_getElem? (i := 637) (by decide +kernel)) rfl
theorem wc_X0_comes : Cond.code yX0_comes cX0_comes 3 (some .boolean) ∈ tb := mem_tb (List.mem_of_getElem? (i := 546) (by decide +kernel)) rfl
theorem wc_X0_endAgreed : Cond.code yX0_endAgreed cX0_endAgreed 4 (some .int) ∈ tb := mem_tb (List.mem_of_getElem? (i := 570) (by decide +kernel)) rfl
theorem wc_X0_endCorrected : Cond.code yX0_endCorrected cX0_endCorrected 3 (some .int) ∈ tb := mem_tb (List.mem_of_getElem? (i := 578) (by decide +kernel)) rfl
theorem wc_X0_endMisled : Cond.code yX0_endMisled cX0_endMisled 4 (some .int) ∈ tb := mem_tb (List.mem_of_getElem? (i := 582) (by decide +kernel)) rfl
theorem wc_X0_endShaken : Cond.code yX0_endShaken cX0_endShaken 3 (some .int) ∈ tb := mem_tb (List.mem_of_getElem? (i := 566) (by decide +kernel)) rfl
theorem wc_X0_greatestBelow : Cond.code yX0_greatestBelow cX0_greatestBelow 5 (some .int) ∈ tb := mem_tb (List.mem_of_getElem? (i := 654) (by decide +kernel)) rfl
theorem wc_X0_hold : Cond.code yX0_hold cX0_hold 6 (some .int) ∈ tb := mem_tb (List.mem_of_getElem? (i := 538) (by decide +kernel)) rfl
theorem wc_X0_isBarred : Cond.code yX0_isBarred cX0_isBarred 2 (some .boolean) ∈ tb := mem_tb (List.mem_of_getElem? (i := 750) (by decide +kernel)) rfl
theorem wc_X0_isGuestSurer : Cond.code yX0_isGuestSurer cX0_isGuestSurer 2 (some .boolean) ∈ tb := mem_tb (List.mem_of_getElem? (i := 562) (by decide +kernel)) rfl
theorem wc_X0_isSurer : Cond.code yX0_isSurer cX0_isSurer 3 (some .boolean) ∈ tb := mem_tb (List.mem_of_getElem? (i := 554) (by decide +kernel)) rfl
theorem wc_X0_knowing : Cond.code yX0_knowing cX0_knowing 3 (some .int) ∈ tb := mem_tb (List.mem_of_getElem? (i := 722) (by decide +kernel)) rfl
theorem wc_X0_least : Cond.code yX0_least cX0_least 7 (some .int) ∈ tb := mem_tb (List.mem_of_getElem? (i := 650) (by decide +kernel)) rfl
theorem wc_X0_leave : Cond.code yX0_leave cX0_leave 4 none ∈ tb := mem_tb (List.mem_of_getElem? (i := 590) (by decide +kernel)) rfl
theorem wc_X0_mayBelieve : Cond.code yX0_mayBelieve cX0_mayBelieve 3 (some .boolean) ∈ tb := mem_tb (List.mem_of_getElem? (i := 586) (by decide +kernel)) rfl
theorem wc_X0_mean : Cond.code yX0_mean cX0_mean 11 (some .int) ∈ tb := mem_tb (List.mem_of_getElem? (i := 605) (by decide +kernel)) rfl
theorem wc_X0_noChance : Cond.code yX0_noChance cX0_noChance 3 (some .int) ∈ tb := mem_tb (List.mem_of_getElem? (i := 558) (by decide +kernel)) rfl
theorem wc_X0_rightChance : Cond.code yX0_rightChance cX0_rightChance 2 (some .int) ∈ tb := mem_tb (List.mem_of_getElem? (i := 542) (by decide +kernel)) rfl
theorem wc_X0_rise : Cond.code yX0_rise cX0_rise 3 none ∈ tb := mem_tb (List.mem_of_getElem? (i := 574) (by decide +kernel)) rfl
theorem wc_X0_room : Cond.code yX0_room cX0_room 2 (some .int) ∈ tb := mem_tb (List.mem_of_getElem? (i := 523) (by decide +kernel)) rfl
theorem wc_X0_setLevels : Cond.code yX0_setLevels cX0_setLevels 4 none ∈ tb := mem_tb (List.mem_of_getElem? (i := 642) (by decide +kernel)) rfl
theorem wc_X0_share : Cond.code yX0_share cX0_share 5 (some .long) ∈ tb := mem_tb (List.mem_of_getElem? (i := 614) (by decide +kernel)) rfl
theorem wc_X0_sit : Cond.code yX0_sit cX0_sit 6 none ∈ tb := mem_tb (List.mem_of_getElem? (i := 515) (by decide +kernel)) rfl
theorem wc_X0_someNo : Cond.code yX0_someNo cX0_someNo 6 (some .int) ∈ tb := mem_tb (List.mem_of_getElem? (i := 599) (by decide +kernel)) rfl
theorem wc_X0_tell : Cond.code yX0_tell cX0_tell 4 (some .int) ∈ tb := mem_tb (List.mem_of_getElem? (i := 730) (by decide +kernel)) rfl
theorem wc_X1_begin : Cond.code yX1_begin cX1_begin 3 none ∈ tb := mem_tb (List.mem_of_getElem? (i := 668) (by decide +kernel)) rfl
theorem wc_X1_endMisled : Cond.code yX1_endMisled cX1_endMisled 7 none ∈ tb := mem_tb (List.mem_of_getElem? (i := 689) (by decide +kernel)) rfl
theorem wc_X1_endRight : Cond.code yX1_endRight cX1_endRight 8 none ∈ tb := mem_tb (List.mem_of_getElem? (i := 679) (by decide +kernel)) rfl
theorem wc_X1_endWrong : Cond.code yX1_endWrong cX1_endWrong 9 none ∈ tb := mem_tb (List.mem_of_getElem? (i := 684) (by decide +kernel)) rfl
theorem wc_X1_follow : Cond.code yX1_follow cX1_follow 9 none ∈ tb := mem_tb (List.mem_of_getElem? (i := 629) (by decide +kernel)) rfl
theorem wc_X1_meanLevel : Cond.code yX1_meanLevel cX1_meanLevel 6 (some .int) ∈ tb := mem_tb (List.mem_of_getElem? (i := 707) (by decide +kernel)) rfl
theorem wc_X1_partByNo : Cond.code yX1_partByNo cX1_partByNo 7 none ∈ tb := mem_tb (List.mem_of_getElem? (i := 664) (by decide +kernel)) rfl
theorem wc_X1_split : Cond.code yX1_split cX1_split 6 none ∈ tb := mem_tb (List.mem_of_getElem? (i := 674) (by decide +kernel)) rfl
theorem wc_X1_teach : Cond.code yX1_teach cX1_teach 6 none ∈ tb := mem_tb (List.mem_of_getElem? (i := 658) (by decide +kernel)) rfl
theorem wc_X1_thatAllKnow : Cond.code yX1_thatAllKnow cX1_thatAllKnow 2 (some .int) ∈ tb := mem_tb (List.mem_of_getElem? (i := 698) (by decide +kernel)) rfl
theorem wc_X1_thatNobodyKnows : Cond.code yX1_thatNobodyKnows cX1_thatNobodyKnows 7 (some .int) ∈ tb := mem_tb (List.mem_of_getElem? (i := 703) (by decide +kernel)) rfl
theorem wc_X2_add : Cond.code yX2_add cX2_add 2 none ∈ tb := mem_tb (List.mem_of_getElem? (i := 356) (by decide +kernel)) rfl
theorem wc_X2_advance : Cond.code yX2_advance cX2_advance 1 none ∈ tb := mem_tb (List.mem_of_getElem? (i := 368) (by decide +kernel)) rfl
theorem wc_X2_isSign : Cond.code yX2_isSign cX2_isSign 2 (some .boolean) ∈ tb := mem_tb (List.mem_of_getElem? (i := 446) (by decide +kernel)) rfl
theorem wc_X2_isWord : Cond.code yX2_isWord cX2_isWord 3 (some .boolean) ∈ tb := mem_tb (List.mem_of_getElem? (i := 377) (by decide +kernel)) rfl
theorem wc_X2_kindAt : Cond.code yX2_kindAt cX2_kindAt 2 (some .int) ∈ tb := mem_tb (List.mem_of_getElem? (i := 372) (by decide +kernel)) rfl
theorem wc_X2_read : Cond.code yX2_read cX2_read 3 (some .int) ∈ tb := mem_tb (List.mem_of_getElem? (i := 364) (by decide +kernel)) rfl
theorem wc_X2_readLeaning : Cond.code yX2_readLeaning cX2_readLeaning 6 (some .int) ∈ tb := mem_tb (List.mem_of_getElem? (i := 438) (by decide +kernel)) rfl
theorem wc_X2_readPupil : Cond.code yX2_readPupil cX2_readPupil 3 none ∈ tb := mem_tb (List.mem_of_getElem? (i := 455) (by decide +kernel)) rfl
theorem wc_X2_readThing : Cond.code yX2_readThing cX2_readThing 2 none ∈ tb := mem_tb (List.mem_of_getElem? (i := 429) (by decide +kernel)) rfl
theorem wc_X2_refuse : Cond.code yX2_refuse cX2_refuse 3 none ∈ tb := mem_tb (List.mem_of_getElem? (i := 433) (by decide +kernel)) rfl
theorem wc_X2_takeNumber : Cond.code yX2_takeNumber cX2_takeNumber 5 (some .int) ∈ tb := mem_tb (List.mem_of_getElem? (i := 442) (by decide +kernel)) rfl
theorem wc_X2_takeSign : Cond.code yX2_takeSign cX2_takeSign 2 none ∈ tb := mem_tb (List.mem_of_getElem? (i := 450) (by decide +kernel)) rfl
theorem wc_X3_topOf : Cond.code yX3_topOf cX3_topOf 5 (some .int) ∈ tb := mem_tb (List.mem_of_getElem? (i := 519) (by decide +kernel)) rfl
theorem wc_X4_forget : Cond.code yX4_forget cX4_forget 1 none ∈ tb := mem_tb (List.mem_of_getElem? (i := 466) (by decide +kernel)) rfl
theorem wc_X4_lessonsFrom : Cond.code yX4_lessonsFrom cX4_lessonsFrom 2 (some .int) ∈ tb := mem_tb (List.mem_of_getElem? (i := 758) (by decide +kernel)) rfl
theorem wc_X4_look : Cond.code yX4_look cX4_look 8 (some .int) ∈ tb := mem_tb (List.mem_of_getElem? (i := 769) (by decide +kernel)) rfl
theorem wc_X4_standsUp : Cond.code yX4_standsUp cX4_standsUp 7 (some .int) ∈ tb := mem_tb (List.mem_of_getElem? (i := 780) (by decide +kernel)) rfl
theorem wc_X5_begin : Cond.code yX5_begin cX5_begin 2 none ∈ tb := mem_tb (List.mem_of_getElem? (i := 459) (by decide +kernel)) rfl
theorem wc_X5_take : Cond.code yX5_take cX5_take 2 none ∈ tb := mem_tb (List.mem_of_getElem? (i := 813) (by decide +kernel)) rfl
theorem wc_X6_allLevels : Cond.code yX6_allLevels cX6_allLevels 4 (some .int) ∈ tb := mem_tb (List.mem_of_getElem? (i := 491) (by decide +kernel)) rfl
theorem wc_X6_fewest : Cond.code yX6_fewest cX6_fewest 2 (some .int) ∈ tb := mem_tb (List.mem_of_getElem? (i := 742) (by decide +kernel)) rfl
theorem wc_X6_fewestOfAll : Cond.code yX6_fewestOfAll cX6_fewestOfAll 4 (some .int) ∈ tb := mem_tb (List.mem_of_getElem? (i := 746) (by decide +kernel)) rfl
theorem wc_X6_fewestOfPart : Cond.code yX6_fewestOfPart cX6_fewestOfPart 3 (some .int) ∈ tb := mem_tb (List.mem_of_getElem? (i := 821) (by decide +kernel)) rfl
theorem wc_X6_imageOf : Cond.code yX6_imageOf cX6_imageOf 2 (some (.object "LeastTeaches$Standing")) ∈ tb := mem_tb (List.mem_of_getElem? (i := 846) (by decide +kernel)) rfl
theorem wc_X6_isPupil : Cond.code yX6_isPupil cX6_isPupil 2 (some .boolean) ∈ tb := mem_tb (List.mem_of_getElem? (i := 482) (by decide +kernel)) rfl
theorem wc_X6_isRule : Cond.code yX6_isRule cX6_isRule 2 (some .boolean) ∈ tb := mem_tb (List.mem_of_getElem? (i := 624) (by decide +kernel)) rfl
theorem wc_X6_isThing : Cond.code yX6_isThing cX6_isThing 2 (some .boolean) ∈ tb := mem_tb (List.mem_of_getElem? (i := 499) (by decide +kernel)) rfl
theorem wc_X6_knownThings : Cond.code yX6_knownThings cX6_knownThings 4 (some .int) ∈ tb := mem_tb (List.mem_of_getElem? (i := 487) (by decide +kernel)) rfl
theorem wc_X6_lessonsAsTold : Cond.code yX6_lessonsAsTold cX6_lessonsAsTold 5 (some .int) ∈ tb := mem_tb (List.mem_of_getElem? (i := 809) (by decide +kernel)) rfl
theorem wc_X6_levelBehind : Cond.code yX6_levelBehind cX6_levelBehind 6 (some .int) ∈ tb := mem_tb (List.mem_of_getElem? (i := 800) (by decide +kernel)) rfl
theorem wc_X6_searchFor : Cond.code yX6_searchFor cX6_searchFor 2 (some (.object "LeastTeaches$Search")) ∈ tb := mem_tb (List.mem_of_getElem? (i := 754) (by decide +kernel)) rfl
theorem wc_X6_sitAll : Cond.code yX6_sitAll cX6_sitAll 2 none ∈ tb := mem_tb (List.mem_of_getElem? (i := 511) (by decide +kernel)) rfl
theorem wc_X7_asNow : Cond.code yX7_asNow cX7_asNow 2 none ∈ tb := mem_tb (List.mem_of_getElem? (i := 1302) (by decide +kernel)) rfl
theorem wc_X7_believe : Cond.code yX7_believe cX7_believe 6 none ∈ tb := mem_tb (List.mem_of_getElem? (i := 1124) (by decide +kernel)) rfl
theorem wc_X7_bits : Cond.code yX7_bits cX7_bits 3 (some .int) ∈ tb := mem_tb (List.mem_of_getElem? (i := 1220) (by decide +kernel)) rfl
theorem wc_X7_capOf : Cond.code yX7_capOf cX7_capOf 6 (some .int) ∈ tb := mem_tb (List.mem_of_getElem? (i := 1081) (by decide +kernel)) rfl
theorem wc_X7_chanceOf : Cond.code yX7_chanceOf cX7_chanceOf 3 (some .int) ∈ tb := mem_tb (List.mem_of_getElem? (i := 1294) (by decide +kernel)) rfl
theorem wc_X7_code : Cond.code yX7_code cX7_code 5 (some .long) ∈ tb := mem_tb (List.mem_of_getElem? (i := 1017) (by decide +kernel)) rfl
theorem wc_X7_come : Cond.code yX7_come cX7_come 5 none ∈ tb := mem_tb (List.mem_of_getElem? (i := 1306) (by decide +kernel)) rfl
theorem wc_X7_draw : Cond.code yX7_draw cX7_draw 2 (some .int) ∈ tb := mem_tb (List.mem_of_getElem? (i := 1109) (by decide +kernel)) rfl
theorem wc_X7_everybody : Cond.code yX7_everybody cX7_everybody 1 (some .int) ∈ tb := mem_tb (List.mem_of_getElem? (i := 1097) (by decide +kernel)) rfl
theorem wc_X7_fails : Cond.code yX7_fails cX7_fails 3 (some .int) ∈ tb := mem_tb (List.mem_of_getElem? (i := 1021) (by decide +kernel)) rfl
theorem wc_X7_fewestOf : Cond.code yX7_fewestOf cX7_fewestOf 4 (some .int) ∈ tb := mem_tb (List.mem_of_getElem? (i := 1209) (by decide +kernel)) rfl
theorem wc_X7_findOdds : Cond.code yX7_findOdds cX7_findOdds 5 none ∈ tb := mem_tb (List.mem_of_getElem? (i := 1277) (by decide +kernel)) rfl
theorem wc_X7_findOrder : Cond.code yX7_findOrder cX7_findOrder 7 none ∈ tb := mem_tb (List.mem_of_getElem? (i := 1264) (by decide +kernel)) rfl
theorem wc_X7_firstWrong : Cond.code yX7_firstWrong cX7_firstWrong 3 (some .int) ∈ tb := mem_tb (List.mem_of_getElem? (i := 1326) (by decide +kernel)) rfl
theorem wc_X7_follow : Cond.code yX7_follow cX7_follow 4 none ∈ tb := mem_tb (List.mem_of_getElem? (i := 1129) (by decide +kernel)) rfl
theorem wc_X7_goal : Cond.code yX7_goal cX7_goal 4 (some .int) ∈ tb := mem_tb (List.mem_of_getElem? (i := 1217) (by decide +kernel)) rfl
theorem wc_X7_greatestBelow : Cond.code yX7_greatestBelow cX7_greatestBelow 3 (some .int) ∈ tb := mem_tb (List.mem_of_getElem? (i := 1171) (by decide +kernel)) rfl
theorem wc_X7_has : Cond.code yX7_has cX7_has 2 (some .boolean) ∈ tb := mem_tb (List.mem_of_getElem? (i := 1035) (by decide +kernel)) rfl
theorem wc_X7_here : Cond.code yX7_here cX7_here 1 (some .int) ∈ tb := mem_tb (List.mem_of_getElem? (i := 1000) (by decide +kernel)) rfl
theorem wc_X7_in : Cond.code yX7_in cX7_in 6 (some .boolean) ∈ tb := mem_tb (List.mem_of_getElem? (i := 989) (by decide +kernel)) rfl
theorem wc_X7_isComma : Cond.code yX7_isComma cX7_isComma 2 (some .boolean) ∈ tb := mem_tb (List.mem_of_getElem? (i := 1039) (by decide +kernel)) rfl
theorem wc_X7_isPupil : Cond.code yX7_isPupil cX7_isPupil 2 (some .boolean) ∈ tb := mem_tb (List.mem_of_getElem? (i := 1059) (by decide +kernel)) rfl
theorem wc_X7_isRule : Cond.code yX7_isRule cX7_isRule 1 (some .boolean) ∈ tb := mem_tb (List.mem_of_getElem? (i := 1157) (by decide +kernel)) rfl
theorem wc_X7_isSmall : Cond.code yX7_isSmall cX7_isSmall 1 (some .boolean) ∈ tb := mem_tb (List.mem_of_getElem? (i := 1205) (by decide +kernel)) rfl
theorem wc_X7_isSo : Cond.code yX7_isSo cX7_isSo 3 (some .boolean) ∈ tb := mem_tb (List.mem_of_getElem? (i := 1105) (by decide +kernel)) rfl
theorem wc_X7_isThing : Cond.code yX7_isThing cX7_isThing 2 (some .boolean) ∈ tb := mem_tb (List.mem_of_getElem? (i := 1069) (by decide +kernel)) rfl
theorem wc_X7_knownNow : Cond.code yX7_knownNow cX7_knownNow 3 (some .int) ∈ tb := mem_tb (List.mem_of_getElem? (i := 1180) (by decide +kernel)) rfl
theorem wc_X7_leastOf : Cond.code yX7_leastOf cX7_leastOf 7 (some .int) ∈ tb := mem_tb (List.mem_of_getElem? (i := 1167) (by decide +kernel)) rfl
theorem wc_X7_levelBehind : Cond.code yX7_levelBehind cX7_levelBehind 7 (some .int) ∈ tb := mem_tb (List.mem_of_getElem? (i := 1256) (by decide +kernel)) rfl
theorem wc_X7_listSurer : Cond.code yX7_listSurer cX7_listSurer 3 none ∈ tb := mem_tb (List.mem_of_getElem? (i := 1290) (by decide +kernel)) rfl
theorem wc_X7_next : Cond.code yX7_next cX7_next 6 (some .int) ∈ tb := mem_tb (List.mem_of_getElem? (i := 1228) (by decide +kernel)) rfl
theorem wc_X7_noChance : Cond.code yX7_noChance cX7_noChance 2 (some .int) ∈ tb := mem_tb (List.mem_of_getElem? (i := 1116) (by decide +kernel)) rfl
theorem wc_X7_noOdds : Cond.code yX7_noOdds cX7_noOdds 9 (some .int) ∈ tb := mem_tb (List.mem_of_getElem? (i := 1142) (by decide +kernel)) rfl
theorem wc_X7_part : Cond.code yX7_part cX7_part 3 (some .long) ∈ tb := mem_tb (List.mem_of_getElem? (i := 1148) (by decide +kernel)) rfl
theorem wc_X7_partAll : Cond.code yX7_partAll cX7_partAll 7 none ∈ tb := mem_tb (List.mem_of_getElem? (i := 1282) (by decide +kernel)) rfl
theorem wc_X7_partBelief : Cond.code yX7_partBelief cX7_partBelief 10 none ∈ tb := mem_tb (List.mem_of_getElem? (i := 1310) (by decide +kernel)) rfl
theorem wc_X7_partNo : Cond.code yX7_partNo cX7_partNo 8 none ∈ tb := mem_tb (List.mem_of_getElem? (i := 1298) (by decide +kernel)) rfl
theorem wc_X7_partRight : Cond.code yX7_partRight cX7_partRight 12 none ∈ tb := mem_tb (List.mem_of_getElem? (i := 1286) (by decide +kernel)) rfl
theorem wc_X7_put : Cond.code yX7_put cX7_put 3 none ∈ tb := mem_tb (List.mem_of_getElem? (i := 1133) (by decide +kernel)) rfl
theorem wc_X7_readWord : Cond.code yX7_readWord cX7_readWord 2 none ∈ tb := mem_tb (List.mem_of_getElem? (i := 1008) (by decide +kernel)) rfl
theorem wc_X7_rise : Cond.code yX7_rise cX7_rise 4 none ∈ tb := mem_tb (List.mem_of_getElem? (i := 1120) (by decide +kernel)) rfl
theorem wc_X7_rises : Cond.code yX7_rises cX7_rises 4 (some .int) ∈ tb := mem_tb (List.mem_of_getElem? (i := 1077) (by decide +kernel)) rfl
theorem wc_X7_setState : Cond.code yX7_setState cX7_setState 5 none ∈ tb := mem_tb (List.mem_of_getElem? (i := 1232) (by decide +kernel)) rfl
theorem wc_X7_spread : Cond.code yX7_spread cX7_spread 7 (some .int) ∈ tb := mem_tb (List.mem_of_getElem? (i := 1213) (by decide +kernel)) rfl
theorem wc_X7_stateNow : Cond.code yX7_stateNow cX7_stateNow 4 (some .int) ∈ tb := mem_tb (List.mem_of_getElem? (i := 1224) (by decide +kernel)) rfl
theorem wc_X7_take : Cond.code yX7_take cX7_take 4 none ∈ tb := mem_tb (List.mem_of_getElem? (i := 1093) (by decide +kernel)) rfl
theorem wc_X7_takeClause : Cond.code yX7_takeClause cX7_takeClause 3 (some .int) ∈ tb := mem_tb (List.mem_of_getElem? (i := 1004) (by decide +kernel)) rfl
theorem wc_X7_takeNumber : Cond.code yX7_takeNumber cX7_takeNumber 4 (some .int) ∈ tb := mem_tb (List.mem_of_getElem? (i := 1030) (by decide +kernel)) rfl
theorem wc_X7_takePupil : Cond.code yX7_takePupil cX7_takePupil 4 (some .int) ∈ tb := mem_tb (List.mem_of_getElem? (i := 1043) (by decide +kernel)) rfl
theorem wc_X7_takeThing : Cond.code yX7_takeThing cX7_takeThing 3 (some .int) ∈ tb := mem_tb (List.mem_of_getElem? (i := 1025) (by decide +kernel)) rfl
theorem wc_X7_teach : Cond.code yX7_teach cX7_teach 10 (some .int) ∈ tb := mem_tb (List.mem_of_getElem? (i := 1101) (by decide +kernel)) rfl
theorem wc_X7_tellNow : Cond.code yX7_tellNow cX7_tellNow 4 (some .int) ∈ tb := mem_tb (List.mem_of_getElem? (i := 1188) (by decide +kernel)) rfl
theorem wc_X7_upBy : Cond.code yX7_upBy cX7_upBy 3 (some .int) ∈ tb := mem_tb (List.mem_of_getElem? (i := 1163) (by decide +kernel)) rfl
theorem wi_X0_after : Cond.instanceMethod yX0_after ∈ tb := mem_tb (List.mem_of_getElem? (i := 692) (by decide +kernel)) rfl
theorem wi_X0_chosen : Cond.instanceMethod yX0_chosen ∈ tb := mem_tb (List.mem_of_getElem? (i := 644) (by decide +kernel)) rfl
theorem wi_X0_code : Cond.instanceMethod yX0_code ∈ tb := mem_tb (List.mem_of_getElem? (i := 635) (by decide +kernel)) rfl
theorem wi_X0_comes : Cond.instanceMethod yX0_comes ∈ tb := mem_tb (List.mem_of_getElem? (i := 545) (by decide +kernel)) rfl
theorem wi_X0_endAgreed : Cond.instanceMethod yX0_endAgreed ∈ tb := mem_tb (List.mem_of_getElem? (i := 569) (by decide +kernel)) rfl
theorem wi_X0_endCorrected : Cond.instanceMethod yX0_endCorrected ∈ tb := mem_tb (List.mem_of_getElem? (i := 577) (by decide +kernel)) rfl
theorem wi_X0_endMisled : Cond.instanceMethod yX0_endMisled ∈ tb := mem_tb (List.mem_of_getElem? (i := 581) (by decide +kernel)) rfl
theorem wi_X0_endShaken : Cond.instanceMethod yX0_endShaken ∈ tb := mem_tb (List.mem_of_getElem? (i := 565) (by decide +kernel)) rfl
theorem wi_X0_greatestBelow : Cond.instanceMethod yX0_greatestBelow ∈ tb := mem_tb (List.mem_of_getElem? (i := 653) (by decide +kernel)) rfl
theorem wi_X0_hold : Cond.instanceMethod yX0_hold ∈ tb := mem_tb (List.mem_of_getElem? (i := 536) (by decide +kernel)) rfl
theorem wi_X0_isBarred : Cond.instanceMethod yX0_isBarred ∈ tb := mem_tb (List.mem_of_getElem? (i := 748) (by decide +kernel)) rfl
theorem wi_X0_isGuestSurer : Cond.instanceMethod yX0_isGuestSurer ∈ tb := mem_tb (List.mem_of_getElem? (i := 560) (by decide +kernel)) rfl
theorem wi_X0_isSurer : Cond.instanceMethod yX0_isSurer ∈ tb := mem_tb (List.mem_of_getElem? (i := 552) (by decide +kernel)) rfl
theorem wi_X0_knowing : Cond.instanceMethod yX0_knowing ∈ tb := mem_tb (List.mem_of_getElem? (i := 720) (by decide +kernel)) rfl
theorem wi_X0_least : Cond.instanceMethod yX0_least ∈ tb := mem_tb (List.mem_of_getElem? (i := 648) (by decide +kernel)) rfl
theorem wi_X0_leave : Cond.instanceMethod yX0_leave ∈ tb := mem_tb (List.mem_of_getElem? (i := 588) (by decide +kernel)) rfl
theorem wi_X0_mayBelieve : Cond.instanceMethod yX0_mayBelieve ∈ tb := mem_tb (List.mem_of_getElem? (i := 584) (by decide +kernel)) rfl
theorem wi_X0_mean : Cond.instanceMethod yX0_mean ∈ tb := mem_tb (List.mem_of_getElem? (i := 603) (by decide +kernel)) rfl
theorem wi_X0_noChance : Cond.instanceMethod yX0_noChance ∈ tb := mem_tb (List.mem_of_getElem? (i := 556) (by decide +kernel)) rfl
theorem wi_X0_rightChance : Cond.instanceMethod yX0_rightChance ∈ tb := mem_tb (List.mem_of_getElem? (i := 540) (by decide +kernel)) rfl
theorem wi_X0_rise : Cond.instanceMethod yX0_rise ∈ tb := mem_tb (List.mem_of_getElem? (i := 573) (by decide +kernel)) rfl
theorem wi_X0_room : Cond.instanceMethod yX0_room ∈ tb := mem_tb (List.mem_of_getElem? (i := 521) (by decide +kernel)) rfl
theorem wi_X0_setLevels : Cond.instanceMethod yX0_setLevels ∈ tb := mem_tb (List.mem_of_getElem? (i := 640) (by decide +kernel)) rfl
theorem wi_X0_share : Cond.instanceMethod yX0_share ∈ tb := mem_tb (List.mem_of_getElem? (i := 613) (by decide +kernel)) rfl
theorem wi_X0_sit : Cond.instanceMethod yX0_sit ∈ tb := mem_tb (List.mem_of_getElem? (i := 513) (by decide +kernel)) rfl
theorem wi_X0_someNo : Cond.instanceMethod yX0_someNo ∈ tb := mem_tb (List.mem_of_getElem? (i := 597) (by decide +kernel)) rfl
theorem wi_X0_tell : Cond.instanceMethod yX0_tell ∈ tb := mem_tb (List.mem_of_getElem? (i := 728) (by decide +kernel)) rfl
theorem wi_X1_begin : Cond.instanceMethod yX1_begin ∈ tb := mem_tb (List.mem_of_getElem? (i := 667) (by decide +kernel)) rfl
theorem wi_X1_endMisled : Cond.instanceMethod yX1_endMisled ∈ tb := mem_tb (List.mem_of_getElem? (i := 688) (by decide +kernel)) rfl
theorem wi_X1_endRight : Cond.instanceMethod yX1_endRight ∈ tb := mem_tb (List.mem_of_getElem? (i := 678) (by decide +kernel)) rfl
theorem wi_X1_endWrong : Cond.instanceMethod yX1_endWrong ∈ tb := mem_tb (List.mem_of_getElem? (i := 683) (by decide +kernel)) rfl
theorem wi_X1_follow : Cond.instanceMethod yX1_follow ∈ tb := mem_tb (List.mem_of_getElem? (i := 627) (by decide +kernel)) rfl
theorem wi_X1_meanLevel : Cond.instanceMethod yX1_meanLevel ∈ tb := mem_tb (List.mem_of_getElem? (i := 705) (by decide +kernel)) rfl
theorem wi_X1_partByNo : Cond.instanceMethod yX1_partByNo ∈ tb := mem_tb (List.mem_of_getElem? (i := 663) (by decide +kernel)) rfl
theorem wi_X1_split : Cond.instanceMethod yX1_split ∈ tb := mem_tb (List.mem_of_getElem? (i := 673) (by decide +kernel)) rfl
theorem wi_X1_teach : Cond.instanceMethod yX1_teach ∈ tb := mem_tb (List.mem_of_getElem? (i := 657) (by decide +kernel)) rfl
theorem wi_X1_thatAllKnow : Cond.instanceMethod yX1_thatAllKnow ∈ tb := mem_tb (List.mem_of_getElem? (i := 696) (by decide +kernel)) rfl
theorem wi_X1_thatNobodyKnows : Cond.instanceMethod yX1_thatNobodyKnows ∈ tb := mem_tb (List.mem_of_getElem? (i := 701) (by decide +kernel)) rfl
theorem wi_X2_add : Cond.instanceMethod yX2_add ∈ tb := mem_tb (List.mem_of_getElem? (i := 354) (by decide +kernel)) rfl
theorem wi_X2_advance : Cond.instanceMethod yX2_advance ∈ tb := mem_tb (List.mem_of_getElem? (i := 367) (by decide +kernel)) rfl
theorem wi_X2_isSign : Cond.instanceMethod yX2_isSign ∈ tb := mem_tb (List.mem_of_getElem? (i := 445) (by decide +kernel)) rfl
theorem wi_X2_isWord : Cond.instanceMethod yX2_isWord ∈ tb := mem_tb (List.mem_of_getElem? (i := 376) (by decide +kernel)) rfl
theorem wi_X2_kindAt : Cond.instanceMethod yX2_kindAt ∈ tb := mem_tb (List.mem_of_getElem? (i := 371) (by decide +kernel)) rfl
theorem wi_X2_read : Cond.instanceMethod yX2_read ∈ tb := mem_tb (List.mem_of_getElem? (i := 362) (by decide +kernel)) rfl
theorem wi_X2_readLeaning : Cond.instanceMethod yX2_readLeaning ∈ tb := mem_tb (List.mem_of_getElem? (i := 437) (by decide +kernel)) rfl
theorem wi_X2_readPupil : Cond.instanceMethod yX2_readPupil ∈ tb := mem_tb (List.mem_of_getElem? (i := 454) (by decide +kernel)) rfl
theorem wi_X2_readThing : Cond.instanceMethod yX2_readThing ∈ tb := mem_tb (List.mem_of_getElem? (i := 428) (by decide +kernel)) rfl
theorem wi_X2_refuse : Cond.instanceMethod yX2_refuse ∈ tb := mem_tb (List.mem_of_getElem? (i := 432) (by decide +kernel)) rfl
theorem wi_X2_takeNumber : Cond.instanceMethod yX2_takeNumber ∈ tb := mem_tb (List.mem_of_getElem? (i := 441) (by decide +kernel)) rfl
theorem wi_X2_takeSign : Cond.instanceMethod yX2_takeSign ∈ tb := mem_tb (List.mem_of_getElem? (i := 449) (by decide +kernel)) rfl
theorem wi_X3_topOf : Cond.instanceMethod yX3_topOf ∈ tb := mem_tb (List.mem_of_getElem? (i := 517) (by decide +kernel)) rfl
theorem wi_X4_forget : Cond.instanceMethod yX4_forget ∈ tb := mem_tb (List.mem_of_getElem? (i := 464) (by decide +kernel)) rfl
theorem wi_X4_lessonsFrom : Cond.instanceMethod yX4_lessonsFrom ∈ tb := mem_tb (List.mem_of_getElem? (i := 756) (by decide +kernel)) rfl
theorem wi_X4_look : Cond.instanceMethod yX4_look ∈ tb := mem_tb (List.mem_of_getElem? (i := 768) (by decide +kernel)) rfl
theorem wi_X4_standsUp : Cond.instanceMethod yX4_standsUp ∈ tb := mem_tb (List.mem_of_getElem? (i := 778) (by decide +kernel)) rfl
theorem wi_X5_begin : Cond.instanceMethod yX5_begin ∈ tb := mem_tb (List.mem_of_getElem? (i := 457) (by decide +kernel)) rfl
theorem wi_X5_take : Cond.instanceMethod yX5_take ∈ tb := mem_tb (List.mem_of_getElem? (i := 811) (by decide +kernel)) rfl
theorem wi_X6_allLevels : Cond.instanceMethod yX6_allLevels ∈ tb := mem_tb (List.mem_of_getElem? (i := 490) (by decide +kernel)) rfl
theorem wi_X6_fewest : Cond.instanceMethod yX6_fewest ∈ tb := mem_tb (List.mem_of_getElem? (i := 740) (by decide +kernel)) rfl
theorem wi_X6_fewestOfAll : Cond.instanceMethod yX6_fewestOfAll ∈ tb := mem_tb (List.mem_of_getElem? (i := 745) (by decide +kernel)) rfl
theorem wi_X6_fewestOfPart : Cond.instanceMethod yX6_fewestOfPart ∈ tb := mem_tb (List.mem_of_getElem? (i := 820) (by decide +kernel)) rfl
theorem wi_X6_imageOf : Cond.instanceMethod yX6_imageOf ∈ tb := mem_tb (List.mem_of_getElem? (i := 845) (by decide +kernel)) rfl
theorem wi_X6_isPupil : Cond.instanceMethod yX6_isPupil ∈ tb := mem_tb (List.mem_of_getElem? (i := 481) (by decide +kernel)) rfl
theorem wi_X6_isRule : Cond.instanceMethod yX6_isRule ∈ tb := mem_tb (List.mem_of_getElem? (i := 623) (by decide +kernel)) rfl
theorem wi_X6_isThing : Cond.instanceMethod yX6_isThing ∈ tb := mem_tb (List.mem_of_getElem? (i := 498) (by decide +kernel)) rfl
theorem wi_X6_knownThings : Cond.instanceMethod yX6_knownThings ∈ tb := mem_tb (List.mem_of_getElem? (i := 486) (by decide +kernel)) rfl
theorem wi_X6_lessonsAsTold : Cond.instanceMethod yX6_lessonsAsTold ∈ tb := mem_tb (List.mem_of_getElem? (i := 808) (by decide +kernel)) rfl
theorem wi_X6_levelBehind : Cond.instanceMethod yX6_levelBehind ∈ tb := mem_tb (List.mem_of_getElem? (i := 799) (by decide +kernel)) rfl
theorem wi_X6_searchFor : Cond.instanceMethod yX6_searchFor ∈ tb := mem_tb (List.mem_of_getElem? (i := 753) (by decide +kernel)) rfl
theorem wi_X6_sitAll : Cond.instanceMethod yX6_sitAll ∈ tb := mem_tb (List.mem_of_getElem? (i := 510) (by decide +kernel)) rfl
theorem wi_X7_asNow : Cond.instanceMethod yX7_asNow ∈ tb := mem_tb (List.mem_of_getElem? (i := 1301) (by decide +kernel)) rfl
theorem wi_X7_believe : Cond.instanceMethod yX7_believe ∈ tb := mem_tb (List.mem_of_getElem? (i := 1123) (by decide +kernel)) rfl
theorem wi_X7_capOf : Cond.instanceMethod yX7_capOf ∈ tb := mem_tb (List.mem_of_getElem? (i := 1080) (by decide +kernel)) rfl
theorem wi_X7_chanceOf : Cond.instanceMethod yX7_chanceOf ∈ tb := mem_tb (List.mem_of_getElem? (i := 1293) (by decide +kernel)) rfl
theorem wi_X7_come : Cond.instanceMethod yX7_come ∈ tb := mem_tb (List.mem_of_getElem? (i := 1305) (by decide +kernel)) rfl
theorem wi_X7_draw : Cond.instanceMethod yX7_draw ∈ tb := mem_tb (List.mem_of_getElem? (i := 1108) (by decide +kernel)) rfl
theorem wi_X7_everybody : Cond.instanceMethod yX7_everybody ∈ tb := mem_tb (List.mem_of_getElem? (i := 1096) (by decide +kernel)) rfl
theorem wi_X7_fails : Cond.instanceMethod yX7_fails ∈ tb := mem_tb (List.mem_of_getElem? (i := 1020) (by decide +kernel)) rfl
theorem wi_X7_fewestOf : Cond.instanceMethod yX7_fewestOf ∈ tb := mem_tb (List.mem_of_getElem? (i := 1208) (by decide +kernel)) rfl
theorem wi_X7_findOdds : Cond.instanceMethod yX7_findOdds ∈ tb := mem_tb (List.mem_of_getElem? (i := 1276) (by decide +kernel)) rfl
theorem wi_X7_findOrder : Cond.instanceMethod yX7_findOrder ∈ tb := mem_tb (List.mem_of_getElem? (i := 1263) (by decide +kernel)) rfl
theorem wi_X7_firstWrong : Cond.instanceMethod yX7_firstWrong ∈ tb := mem_tb (List.mem_of_getElem? (i := 1325) (by decide +kernel)) rfl
theorem wi_X7_follow : Cond.instanceMethod yX7_follow ∈ tb := mem_tb (List.mem_of_getElem? (i := 1128) (by decide +kernel)) rfl
theorem wi_X7_goal : Cond.instanceMethod yX7_goal ∈ tb := mem_tb (List.mem_of_getElem? (i := 1216) (by decide +kernel)) rfl
theorem wi_X7_greatestBelow : Cond.instanceMethod yX7_greatestBelow ∈ tb := mem_tb (List.mem_of_getElem? (i := 1170) (by decide +kernel)) rfl
theorem wi_X7_here : Cond.instanceMethod yX7_here ∈ tb := mem_tb (List.mem_of_getElem? (i := 999) (by decide +kernel)) rfl
theorem wi_X7_isComma : Cond.instanceMethod yX7_isComma ∈ tb := mem_tb (List.mem_of_getElem? (i := 1038) (by decide +kernel)) rfl
theorem wi_X7_isPupil : Cond.instanceMethod yX7_isPupil ∈ tb := mem_tb (List.mem_of_getElem? (i := 1058) (by decide +kernel)) rfl
theorem wi_X7_isSmall : Cond.instanceMethod yX7_isSmall ∈ tb := mem_tb (List.mem_of_getElem? (i := 1204) (by decide +kernel)) rfl
theorem wi_X7_isSo : Cond.instanceMethod yX7_isSo ∈ tb := mem_tb (List.mem_of_getElem? (i := 1104) (by decide +kernel)) rfl
theorem wi_X7_isThing : Cond.instanceMethod yX7_isThing ∈ tb := mem_tb (List.mem_of_getElem? (i := 1068) (by decide +kernel)) rfl
theorem wi_X7_knownNow : Cond.instanceMethod yX7_knownNow ∈ tb := mem_tb (List.mem_of_getElem? (i := 1179) (by decide +kernel)) rfl
theorem wi_X7_leastOf : Cond.instanceMethod yX7_leastOf ∈ tb := mem_tb (List.mem_of_getElem? (i := 1166) (by decide +kernel)) rfl
theorem wi_X7_levelBehind : Cond.instanceMethod yX7_levelBehind ∈ tb := mem_tb (List.mem_of_getElem? (i := 1255) (by decide +kernel)) rfl
theorem wi_X7_listSurer : Cond.instanceMethod yX7_listSurer ∈ tb := mem_tb (List.mem_of_getElem? (i := 1289) (by decide +kernel)) rfl
theorem wi_X7_next : Cond.instanceMethod yX7_next ∈ tb := mem_tb (List.mem_of_getElem? (i := 1227) (by decide +kernel)) rfl
theorem wi_X7_noOdds : Cond.instanceMethod yX7_noOdds ∈ tb := mem_tb (List.mem_of_getElem? (i := 1141) (by decide +kernel)) rfl
theorem wi_X7_partAll : Cond.instanceMethod yX7_partAll ∈ tb := mem_tb (List.mem_of_getElem? (i := 1281) (by decide +kernel)) rfl
theorem wi_X7_partBelief : Cond.instanceMethod yX7_partBelief ∈ tb := mem_tb (List.mem_of_getElem? (i := 1309) (by decide +kernel)) rfl
theorem wi_X7_partNo : Cond.instanceMethod yX7_partNo ∈ tb := mem_tb (List.mem_of_getElem? (i := 1297) (by decide +kernel)) rfl
theorem wi_X7_partRight : Cond.instanceMethod yX7_partRight ∈ tb := mem_tb (List.mem_of_getElem? (i := 1285) (by decide +kernel)) rfl
theorem wi_X7_put : Cond.instanceMethod yX7_put ∈ tb := mem_tb (List.mem_of_getElem? (i := 1132) (by decide +kernel)) rfl
theorem wi_X7_readWord : Cond.instanceMethod yX7_readWord ∈ tb := mem_tb (List.mem_of_getElem? (i := 1007) (by decide +kernel)) rfl
theorem wi_X7_rise : Cond.instanceMethod yX7_rise ∈ tb := mem_tb (List.mem_of_getElem? (i := 1119) (by decide +kernel)) rfl
theorem wi_X7_rises : Cond.instanceMethod yX7_rises ∈ tb := mem_tb (List.mem_of_getElem? (i := 1075) (by decide +kernel)) rfl
theorem wi_X7_setState : Cond.instanceMethod yX7_setState ∈ tb := mem_tb (List.mem_of_getElem? (i := 1231) (by decide +kernel)) rfl
theorem wi_X7_spread : Cond.instanceMethod yX7_spread ∈ tb := mem_tb (List.mem_of_getElem? (i := 1212) (by decide +kernel)) rfl
theorem wi_X7_stateNow : Cond.instanceMethod yX7_stateNow ∈ tb := mem_tb (List.mem_of_getElem? (i := 1223) (by decide +kernel)) rfl
theorem wi_X7_take : Cond.instanceMethod yX7_take ∈ tb := mem_tb (List.mem_of_getElem? (i := 1092) (by decide +kernel)) rfl
theorem wi_X7_takeClause : Cond.instanceMethod yX7_takeClause ∈ tb := mem_tb (List.mem_of_getElem? (i := 1003) (by decide +kernel)) rfl
theorem wi_X7_takeNumber : Cond.instanceMethod yX7_takeNumber ∈ tb := mem_tb (List.mem_of_getElem? (i := 1029) (by decide +kernel)) rfl
theorem wi_X7_takePupil : Cond.instanceMethod yX7_takePupil ∈ tb := mem_tb (List.mem_of_getElem? (i := 1042) (by decide +kernel)) rfl
theorem wi_X7_takeThing : Cond.instanceMethod yX7_takeThing ∈ tb := mem_tb (List.mem_of_getElem? (i := 1024) (by decide +kernel)) rfl
theorem wi_X7_teach : Cond.instanceMethod yX7_teach ∈ tb := mem_tb (List.mem_of_getElem? (i := 1100) (by decide +kernel)) rfl
theorem wi_X7_tellNow : Cond.instanceMethod yX7_tellNow ∈ tb := mem_tb (List.mem_of_getElem? (i := 1187) (by decide +kernel)) rfl
theorem wi_X7_upBy : Cond.instanceMethod yX7_upBy ∈ tb := mem_tb (List.mem_of_getElem? (i := 1162) (by decide +kernel)) rfl
theorem wl_J7_13 : Cond.methodLink RJ7 13 yJ7_rangeCheck_23922 ∈ tb := mem_tb (List.mem_of_getElem? (i := 762) (by decide +kernel)) rfl
theorem wl_X0_101 : Cond.methodLink RX0 101 yX0_noChance ∈ tb := mem_tb (List.mem_of_getElem? (i := 555) (by decide +kernel)) rfl
theorem wl_X0_105 : Cond.methodLink RX0 105 yX0_isGuestSurer ∈ tb := mem_tb (List.mem_of_getElem? (i := 559) (by decide +kernel)) rfl
theorem wl_X0_109 : Cond.methodLink RX0 109 yX0_endShaken ∈ tb := mem_tb (List.mem_of_getElem? (i := 563) (by decide +kernel)) rfl
theorem wl_X0_112 : Cond.methodLink RX0 112 yX0_endAgreed ∈ tb := mem_tb (List.mem_of_getElem? (i := 567) (by decide +kernel)) rfl
theorem wl_X0_115 : Cond.methodLink RX0 115 yX0_endCorrected ∈ tb := mem_tb (List.mem_of_getElem? (i := 575) (by decide +kernel)) rfl
theorem wl_X0_118 : Cond.methodLink RX0 118 yX0_endMisled ∈ tb := mem_tb (List.mem_of_getElem? (i := 579) (by decide +kernel)) rfl
theorem wl_X0_121 : Cond.methodLink RX0 121 yX0_rise ∈ tb := mem_tb (List.mem_of_getElem? (i := 571) (by decide +kernel)) rfl
theorem wl_X0_125 : Cond.methodLink RX0 125 yX0_mayBelieve ∈ tb := mem_tb (List.mem_of_getElem? (i := 583) (by decide +kernel)) rfl
theorem wl_X0_132 : Cond.methodLink RX0 132 yX0_someNo ∈ tb := mem_tb (List.mem_of_getElem? (i := 606) (by decide +kernel)) rfl
theorem wl_X0_138 : Cond.methodLink RX0 138 yX0_share ∈ tb := mem_tb (List.mem_of_getElem? (i := 611) (by decide +kernel)) rfl
theorem wl_X0_60 : Cond.methodLink RX0 60 yX3_topOf ∈ tb := mem_tb (List.mem_of_getElem? (i := 516) (by decide +kernel)) rfl
theorem wl_X0_73 : Cond.methodLink RX0 73 yX0_least ∈ tb := mem_tb (List.mem_of_getElem? (i := 647) (by decide +kernel)) rfl
theorem wl_X0_76 : Cond.methodLink RX0 76 yX0_greatestBelow ∈ tb := mem_tb (List.mem_of_getElem? (i := 651) (by decide +kernel)) rfl
theorem wl_X0_80 : Cond.methodLink RX0 80 yX0_room ∈ tb := mem_tb (List.mem_of_getElem? (i := 607) (by decide +kernel)) rfl
theorem wl_X0_90 : Cond.methodLink RX0 90 yX0_rightChance ∈ tb := mem_tb (List.mem_of_getElem? (i := 539) (by decide +kernel)) rfl
theorem wl_X0_93 : Cond.methodLink RX0 93 yX0_comes ∈ tb := mem_tb (List.mem_of_getElem? (i := 543) (by decide +kernel)) rfl
theorem wl_X0_97 : Cond.methodLink RX0 97 yX0_isSurer ∈ tb := mem_tb (List.mem_of_getElem? (i := 551) (by decide +kernel)) rfl
theorem wl_X1_102 : Cond.methodLink RX1 102 yX0_isGuestSurer ∈ tb := mem_tb (List.mem_of_getElem? (i := 675) (by decide +kernel)) rfl
theorem wl_X1_109 : Cond.methodLink RX1 109 yX0_room ∈ tb := mem_tb (List.mem_of_getElem? (i := 680) (by decide +kernel)) rfl
theorem wl_X1_120 : Cond.methodLink RX1 120 yX1_endMisled ∈ tb := mem_tb (List.mem_of_getElem? (i := 686) (by decide +kernel)) rfl
theorem wl_X1_123 : Cond.methodLink RX1 123 yX0_mayBelieve ∈ tb := mem_tb (List.mem_of_getElem? (i := 690) (by decide +kernel)) rfl
theorem wl_X1_34 : Cond.methodLink RX1 34 yJ7_fill_d0a16 ∈ tb := mem_tb (List.mem_of_getElem? (i := 631) (by decide +kernel)) rfl
theorem wl_X1_40 : Cond.methodLink RX1 40 yX0_code ∈ tb := mem_tb (List.mem_of_getElem? (i := 634) (by decide +kernel)) rfl
theorem wl_X1_46 : Cond.methodLink RX1 46 yX0_setLevels ∈ tb := mem_tb (List.mem_of_getElem? (i := 639) (by decide +kernel)) rfl
theorem wl_X1_50 : Cond.methodLink RX1 50 yX0_chosen ∈ tb := mem_tb (List.mem_of_getElem? (i := 643) (by decide +kernel)) rfl
theorem wl_X1_54 : Cond.methodLink RX1 54 yX1_teach ∈ tb := mem_tb (List.mem_of_getElem? (i := 655) (by decide +kernel)) rfl
theorem wl_X1_58 : Cond.methodLink RX1 58 yX0_after ∈ tb := mem_tb (List.mem_of_getElem? (i := 691) (by decide +kernel)) rfl
theorem wl_X1_62 : Cond.methodLink RX1 62 yX0_rightChance ∈ tb := mem_tb (List.mem_of_getElem? (i := 659) (by decide +kernel)) rfl
theorem wl_X1_67 : Cond.methodLink RX1 67 yX1_partByNo ∈ tb := mem_tb (List.mem_of_getElem? (i := 661) (by decide +kernel)) rfl
theorem wl_X1_71 : Cond.methodLink RX1 71 yX1_endRight ∈ tb := mem_tb (List.mem_of_getElem? (i := 676) (by decide +kernel)) rfl
theorem wl_X1_74 : Cond.methodLink RX1 74 yX1_endWrong ∈ tb := mem_tb (List.mem_of_getElem? (i := 681) (by decide +kernel)) rfl
theorem wl_X1_83 : Cond.methodLink RX1 83 yX1_begin ∈ tb := mem_tb (List.mem_of_getElem? (i := 665) (by decide +kernel)) rfl
theorem wl_X1_87 : Cond.methodLink RX1 87 yX0_isSurer ∈ tb := mem_tb (List.mem_of_getElem? (i := 669) (by decide +kernel)) rfl
theorem wl_X1_94 : Cond.methodLink RX1 94 yX0_noChance ∈ tb := mem_tb (List.mem_of_getElem? (i := 670) (by decide +kernel)) rfl
theorem wl_X1_98 : Cond.methodLink RX1 98 yX1_split ∈ tb := mem_tb (List.mem_of_getElem? (i := 671) (by decide +kernel)) rfl
theorem wl_X2_109 : Cond.methodLink RX2 109 yX2_kindAt ∈ tb := mem_tb (List.mem_of_getElem? (i := 369) (by decide +kernel)) rfl
theorem wl_X2_40 : Cond.methodLink RX2 40 yX2_advance ∈ tb := mem_tb (List.mem_of_getElem? (i := 365) (by decide +kernel)) rfl
theorem wl_X2_48 : Cond.methodLink RX2 48 yX2_isWord ∈ tb := mem_tb (List.mem_of_getElem? (i := 374) (by decide +kernel)) rfl
theorem wl_X2_52 : Cond.methodLink RX2 52 yX2_readThing ∈ tb := mem_tb (List.mem_of_getElem? (i := 426) (by decide +kernel)) rfl
theorem wl_X2_57 : Cond.methodLink RX2 57 yX2_readPupil ∈ tb := mem_tb (List.mem_of_getElem? (i := 452) (by decide +kernel)) rfl
theorem wl_X2_63 : Cond.methodLink RX2 63 yX2_refuse ∈ tb := mem_tb (List.mem_of_getElem? (i := 430) (by decide +kernel)) rfl
theorem wl_X2_69 : Cond.methodLink RX2 69 yX2_readLeaning ∈ tb := mem_tb (List.mem_of_getElem? (i := 435) (by decide +kernel)) rfl
theorem wl_X2_73 : Cond.methodLink RX2 73 yX2_takeSign ∈ tb := mem_tb (List.mem_of_getElem? (i := 447) (by decide +kernel)) rfl
theorem wl_X2_81 : Cond.methodLink RX2 81 yX2_takeNumber ∈ tb := mem_tb (List.mem_of_getElem? (i := 439) (by decide +kernel)) rfl
theorem wl_X2_85 : Cond.methodLink RX2 85 yX2_isSign ∈ tb := mem_tb (List.mem_of_getElem? (i := 443) (by decide +kernel)) rfl
theorem wl_X4_30 : Cond.methodLink RX4 30 yJ7_fill_fda19 ∈ tb := mem_tb (List.mem_of_getElem? (i := 759) (by decide +kernel)) rfl
theorem wl_X4_36 : Cond.methodLink RX4 36 yX0_code ∈ tb := mem_tb (List.mem_of_getElem? (i := 765) (by decide +kernel)) rfl
theorem wl_X4_40 : Cond.methodLink RX4 40 yX4_look ∈ tb := mem_tb (List.mem_of_getElem? (i := 766) (by decide +kernel)) rfl
theorem wl_X4_44 : Cond.methodLink RX4 44 yX0_setLevels ∈ tb := mem_tb (List.mem_of_getElem? (i := 770) (by decide +kernel)) rfl
theorem wl_X4_48 : Cond.methodLink RX4 48 yX0_hold ∈ tb := mem_tb (List.mem_of_getElem? (i := 771) (by decide +kernel)) rfl
theorem wl_X6_116 : Cond.methodLink RX6 116 yX6_isPupil ∈ tb := mem_tb (List.mem_of_getElem? (i := 479) (by decide +kernel)) rfl
theorem wl_X6_130 : Cond.methodLink RX6 130 yX6_knownThings ∈ tb := mem_tb (List.mem_of_getElem? (i := 484) (by decide +kernel)) rfl
theorem wl_X6_134 : Cond.methodLink RX6 134 yX6_allLevels ∈ tb := mem_tb (List.mem_of_getElem? (i := 488) (by decide +kernel)) rfl
theorem wl_X6_137 : Cond.methodLink RX6 137 yX6_isThing ∈ tb := mem_tb (List.mem_of_getElem? (i := 496) (by decide +kernel)) rfl
theorem wl_X6_146 : Cond.methodLink RX6 146 yX6_sitAll ∈ tb := mem_tb (List.mem_of_getElem? (i := 508) (by decide +kernel)) rfl
theorem wl_X6_149 : Cond.methodLink RX6 149 yX0_room ∈ tb := mem_tb (List.mem_of_getElem? (i := 520) (by decide +kernel)) rfl
theorem wl_X6_152 : Cond.methodLink RX6 152 yX0_hold ∈ tb := mem_tb (List.mem_of_getElem? (i := 535) (by decide +kernel)) rfl
theorem wl_X6_156 : Cond.methodLink RX6 156 yX0_leave ∈ tb := mem_tb (List.mem_of_getElem? (i := 587) (by decide +kernel)) rfl
theorem wl_X6_160 : Cond.methodLink RX6 160 yX0_rightChance ∈ tb := mem_tb (List.mem_of_getElem? (i := 595) (by decide +kernel)) rfl
theorem wl_X6_163 : Cond.methodLink RX6 163 yX0_someNo ∈ tb := mem_tb (List.mem_of_getElem? (i := 596) (by decide +kernel)) rfl
theorem wl_X6_166 : Cond.methodLink RX6 166 yX0_mean ∈ tb := mem_tb (List.mem_of_getElem? (i := 602) (by decide +kernel)) rfl
theorem wl_X6_169 : Cond.methodLink RX6 169 yX6_isRule ∈ tb := mem_tb (List.mem_of_getElem? (i := 621) (by decide +kernel)) rfl
theorem wl_X6_173 : Cond.methodLink RX6 173 yX1_follow ∈ tb := mem_tb (List.mem_of_getElem? (i := 626) (by decide +kernel)) rfl
theorem wl_X6_177 : Cond.methodLink RX6 177 yX1_thatAllKnow ∈ tb := mem_tb (List.mem_of_getElem? (i := 695) (by decide +kernel)) rfl
theorem wl_X6_180 : Cond.methodLink RX6 180 yX1_thatNobodyKnows ∈ tb := mem_tb (List.mem_of_getElem? (i := 700) (by decide +kernel)) rfl
theorem wl_X6_183 : Cond.methodLink RX6 183 yX1_meanLevel ∈ tb := mem_tb (List.mem_of_getElem? (i := 704) (by decide +kernel)) rfl
theorem wl_X6_187 : Cond.methodLink RX6 187 yX0_chosen ∈ tb := mem_tb (List.mem_of_getElem? (i := 713) (by decide +kernel)) rfl
theorem wl_X6_190 : Cond.methodLink RX6 190 yX0_after ∈ tb := mem_tb (List.mem_of_getElem? (i := 718) (by decide +kernel)) rfl
theorem wl_X6_193 : Cond.methodLink RX6 193 yX0_knowing ∈ tb := mem_tb (List.mem_of_getElem? (i := 719) (by decide +kernel)) rfl
theorem wl_X6_197 : Cond.methodLink RX6 197 yX0_tell ∈ tb := mem_tb (List.mem_of_getElem? (i := 727) (by decide +kernel)) rfl
theorem wl_X6_203 : Cond.methodLink RX6 203 yX6_fewestOfAll ∈ tb := mem_tb (List.mem_of_getElem? (i := 743) (by decide +kernel)) rfl
theorem wl_X6_207 : Cond.methodLink RX6 207 yX6_fewest ∈ tb := mem_tb (List.mem_of_getElem? (i := 776) (by decide +kernel)) rfl
theorem wl_X6_210 : Cond.methodLink RX6 210 yX6_searchFor ∈ tb := mem_tb (List.mem_of_getElem? (i := 751) (by decide +kernel)) rfl
theorem wl_X6_214 : Cond.methodLink RX6 214 yX4_standsUp ∈ tb := mem_tb (List.mem_of_getElem? (i := 777) (by decide +kernel)) rfl
theorem wl_X6_218 : Cond.methodLink RX6 218 yX6_levelBehind ∈ tb := mem_tb (List.mem_of_getElem? (i := 797) (by decide +kernel)) rfl
theorem wl_X6_222 : Cond.methodLink RX6 222 yX6_lessonsAsTold ∈ tb := mem_tb (List.mem_of_getElem? (i := 806) (by decide +kernel)) rfl
theorem wl_X6_225 : Cond.methodLink RX6 225 yX6_fewestOfPart ∈ tb := mem_tb (List.mem_of_getElem? (i := 818) (by decide +kernel)) rfl
theorem wl_X6_233 : Cond.methodLink RX6 233 yX5_take ∈ tb := mem_tb (List.mem_of_getElem? (i := 810) (by decide +kernel)) rfl
theorem wl_X6_237 : Cond.methodLink RX6 237 yX0_sit ∈ tb := mem_tb (List.mem_of_getElem? (i := 512) (by decide +kernel)) rfl
theorem wl_X6_244 : Cond.methodLink RX6 244 yX0_least ∈ tb := mem_tb (List.mem_of_getElem? (i := 801) (by decide +kernel)) rfl
theorem wl_X6_250 : Cond.methodLink RX6 250 yX6_imageOf ∈ tb := mem_tb (List.mem_of_getElem? (i := 843) (by decide +kernel)) rfl
theorem wl_X6_255 : Cond.methodLink RX6 255 yX0_isBarred ∈ tb := mem_tb (List.mem_of_getElem? (i := 747) (by decide +kernel)) rfl
theorem wl_X6_259 : Cond.methodLink RX6 259 yX4_lessonsFrom ∈ tb := mem_tb (List.mem_of_getElem? (i := 755) (by decide +kernel)) rfl
theorem wl_X6_76 : Cond.methodLink RX6 76 yX2_add ∈ tb := mem_tb (List.mem_of_getElem? (i := 353) (by decide +kernel)) rfl
theorem wl_X6_80 : Cond.methodLink RX6 80 yX2_read ∈ tb := mem_tb (List.mem_of_getElem? (i := 361) (by decide +kernel)) rfl
theorem wl_X6_87 : Cond.methodLink RX6 87 yX5_begin ∈ tb := mem_tb (List.mem_of_getElem? (i := 456) (by decide +kernel)) rfl
theorem wl_X6_97 : Cond.methodLink RX6 97 yX4_forget ∈ tb := mem_tb (List.mem_of_getElem? (i := 463) (by decide +kernel)) rfl
theorem wl_X7_111 : Cond.methodLink RX7 111 yX7_here ∈ tb := mem_tb (List.mem_of_getElem? (i := 997) (by decide +kernel)) rfl
theorem wl_X7_138 : Cond.methodLink RX7 138 yX7_fails ∈ tb := mem_tb (List.mem_of_getElem? (i := 1018) (by decide +kernel)) rfl
theorem wl_X7_151 : Cond.methodLink RX7 151 yX7_readWord ∈ tb := mem_tb (List.mem_of_getElem? (i := 1005) (by decide +kernel)) rfl
theorem wl_X7_156 : Cond.methodLink RX7 156 yX7_takeNumber ∈ tb := mem_tb (List.mem_of_getElem? (i := 1027) (by decide +kernel)) rfl
theorem wl_X7_159 : Cond.methodLink RX7 159 yX7_has ∈ tb := mem_tb (List.mem_of_getElem? (i := 1033) (by decide +kernel)) rfl
theorem wl_X7_163 : Cond.methodLink RX7 163 yX7_isComma ∈ tb := mem_tb (List.mem_of_getElem? (i := 1036) (by decide +kernel)) rfl
theorem wl_X7_170 : Cond.methodLink RX7 170 yX7_code ∈ tb := mem_tb (List.mem_of_getElem? (i := 1015) (by decide +kernel)) rfl
theorem wl_X7_174 : Cond.methodLink RX7 174 yX7_takeThing ∈ tb := mem_tb (List.mem_of_getElem? (i := 1022) (by decide +kernel)) rfl
theorem wl_X7_177 : Cond.methodLink RX7 177 yX7_takePupil ∈ tb := mem_tb (List.mem_of_getElem? (i := 1040) (by decide +kernel)) rfl
theorem wl_X7_180 : Cond.methodLink RX7 180 yX7_takeClause ∈ tb := mem_tb (List.mem_of_getElem? (i := 1001) (by decide +kernel)) rfl
theorem wl_X7_193 : Cond.methodLink RX7 193 yX7_isPupil ∈ tb := mem_tb (List.mem_of_getElem? (i := 1056) (by decide +kernel)) rfl
theorem wl_X7_200 : Cond.methodLink RX7 200 yX7_isThing ∈ tb := mem_tb (List.mem_of_getElem? (i := 1066) (by decide +kernel)) rfl
theorem wl_X7_203 : Cond.methodLink RX7 203 yX7_capOf ∈ tb := mem_tb (List.mem_of_getElem? (i := 1078) (by decide +kernel)) rfl
theorem wl_X7_217 : Cond.methodLink RX7 217 yX7_draw ∈ tb := mem_tb (List.mem_of_getElem? (i := 1106) (by decide +kernel)) rfl
theorem wl_X7_221 : Cond.methodLink RX7 221 yX7_isSo ∈ tb := mem_tb (List.mem_of_getElem? (i := 1102) (by decide +kernel)) rfl
theorem wl_X7_225 : Cond.methodLink RX7 225 yX7_noChance ∈ tb := mem_tb (List.mem_of_getElem? (i := 1114) (by decide +kernel)) rfl
theorem wl_X7_229 : Cond.methodLink RX7 229 yX7_rise ∈ tb := mem_tb (List.mem_of_getElem? (i := 1117) (by decide +kernel)) rfl
theorem wl_X7_233 : Cond.methodLink RX7 233 yX7_believe ∈ tb := mem_tb (List.mem_of_getElem? (i := 1121) (by decide +kernel)) rfl
theorem wl_X7_237 : Cond.methodLink RX7 237 yX7_follow ∈ tb := mem_tb (List.mem_of_getElem? (i := 1126) (by decide +kernel)) rfl
theorem wl_X7_242 : Cond.methodLink RX7 242 yX7_take ∈ tb := mem_tb (List.mem_of_getElem? (i := 1090) (by decide +kernel)) rfl
theorem wl_X7_245 : Cond.methodLink RX7 245 yX7_everybody ∈ tb := mem_tb (List.mem_of_getElem? (i := 1094) (by decide +kernel)) rfl
theorem wl_X7_248 : Cond.methodLink RX7 248 yX7_teach ∈ tb := mem_tb (List.mem_of_getElem? (i := 1098) (by decide +kernel)) rfl
theorem wl_X7_252 : Cond.methodLink RX7 252 yX7_put ∈ tb := mem_tb (List.mem_of_getElem? (i := 1130) (by decide +kernel)) rfl
theorem wl_X7_264 : Cond.methodLink RX7 264 yX7_noOdds ∈ tb := mem_tb (List.mem_of_getElem? (i := 1139) (by decide +kernel)) rfl
theorem wl_X7_268 : Cond.methodLink RX7 268 yX7_rises ∈ tb := mem_tb (List.mem_of_getElem? (i := 1145) (by decide +kernel)) rfl
theorem wl_X7_271 : Cond.methodLink RX7 271 yX7_part ∈ tb := mem_tb (List.mem_of_getElem? (i := 1146) (by decide +kernel)) rfl
theorem wl_X7_276 : Cond.methodLink RX7 276 yX7_leastOf ∈ tb := mem_tb (List.mem_of_getElem? (i := 1164) (by decide +kernel)) rfl
theorem wl_X7_279 : Cond.methodLink RX7 279 yX7_greatestBelow ∈ tb := mem_tb (List.mem_of_getElem? (i := 1168) (by decide +kernel)) rfl
theorem wl_X7_284 : Cond.methodLink RX7 284 yX7_isRule ∈ tb := mem_tb (List.mem_of_getElem? (i := 1155) (by decide +kernel)) rfl
theorem wl_X7_288 : Cond.methodLink RX7 288 yX7_upBy ∈ tb := mem_tb (List.mem_of_getElem? (i := 1160) (by decide +kernel)) rfl
theorem wl_X7_293 : Cond.methodLink RX7 293 yX7_knownNow ∈ tb := mem_tb (List.mem_of_getElem? (i := 1177) (by decide +kernel)) rfl
theorem wl_X7_296 : Cond.methodLink RX7 296 yX7_tellNow ∈ tb := mem_tb (List.mem_of_getElem? (i := 1185) (by decide +kernel)) rfl
theorem wl_X7_301 : Cond.methodLink RX7 301 yX7_bits ∈ tb := mem_tb (List.mem_of_getElem? (i := 1218) (by decide +kernel)) rfl
theorem wl_X7_304 : Cond.methodLink RX7 304 yX7_setState ∈ tb := mem_tb (List.mem_of_getElem? (i := 1229) (by decide +kernel)) rfl
theorem wl_X7_307 : Cond.methodLink RX7 307 yX7_stateNow ∈ tb := mem_tb (List.mem_of_getElem? (i := 1221) (by decide +kernel)) rfl
theorem wl_X7_313 : Cond.methodLink RX7 313 yX7_goal ∈ tb := mem_tb (List.mem_of_getElem? (i := 1214) (by decide +kernel)) rfl
theorem wl_X7_316 : Cond.methodLink RX7 316 yX7_next ∈ tb := mem_tb (List.mem_of_getElem? (i := 1225) (by decide +kernel)) rfl
theorem wl_X7_320 : Cond.methodLink RX7 320 yX7_spread ∈ tb := mem_tb (List.mem_of_getElem? (i := 1210) (by decide +kernel)) rfl
theorem wl_X7_323 : Cond.methodLink RX7 323 yX7_isSmall ∈ tb := mem_tb (List.mem_of_getElem? (i := 1202) (by decide +kernel)) rfl
theorem wl_X7_326 : Cond.methodLink RX7 326 yX7_fewestOf ∈ tb := mem_tb (List.mem_of_getElem? (i := 1206) (by decide +kernel)) rfl
theorem wl_X7_329 : Cond.methodLink RX7 329 yX7_levelBehind ∈ tb := mem_tb (List.mem_of_getElem? (i := 1253) (by decide +kernel)) rfl
theorem wl_X7_333 : Cond.methodLink RX7 333 yX7_findOrder ∈ tb := mem_tb (List.mem_of_getElem? (i := 1261) (by decide +kernel)) rfl
theorem wl_X7_339 : Cond.methodLink RX7 339 yX7_asNow ∈ tb := mem_tb (List.mem_of_getElem? (i := 1299) (by decide +kernel)) rfl
theorem wl_X7_342 : Cond.methodLink RX7 342 yX7_come ∈ tb := mem_tb (List.mem_of_getElem? (i := 1303) (by decide +kernel)) rfl
theorem wl_X7_346 : Cond.methodLink RX7 346 yX7_partBelief ∈ tb := mem_tb (List.mem_of_getElem? (i := 1307) (by decide +kernel)) rfl
theorem wl_X7_350 : Cond.methodLink RX7 350 yX7_listSurer ∈ tb := mem_tb (List.mem_of_getElem? (i := 1287) (by decide +kernel)) rfl
theorem wl_X7_353 : Cond.methodLink RX7 353 yX7_chanceOf ∈ tb := mem_tb (List.mem_of_getElem? (i := 1291) (by decide +kernel)) rfl
theorem wl_X7_356 : Cond.methodLink RX7 356 yX7_partNo ∈ tb := mem_tb (List.mem_of_getElem? (i := 1295) (by decide +kernel)) rfl
theorem wl_X7_360 : Cond.methodLink RX7 360 yX7_partRight ∈ tb := mem_tb (List.mem_of_getElem? (i := 1283) (by decide +kernel)) rfl
theorem wl_X7_366 : Cond.methodLink RX7 366 yX7_partAll ∈ tb := mem_tb (List.mem_of_getElem? (i := 1279) (by decide +kernel)) rfl
theorem wl_X7_371 : Cond.methodLink RX7 371 yX7_findOdds ∈ tb := mem_tb (List.mem_of_getElem? (i := 1274) (by decide +kernel)) rfl
theorem wl_X7_375 : Cond.methodLink RX7 375 yX7_firstWrong ∈ tb := mem_tb (List.mem_of_getElem? (i := 1323) (by decide +kernel)) rfl
theorem wl_X7_92 : Cond.methodLink RX7 92 yX7_in ∈ tb := mem_tb (List.mem_of_getElem? (i := 987) (by decide +kernel)) rfl
theorem wm_X0_135 : Cond.methodLink RX0 135 Lib.Math.min.name ∈ tb := mem_tb (List.mem_of_getElem? (i := 608) (by decide +kernel)) rfl
theorem wm_X0_67 : Cond.methodLink RX0 67 Lib.Math.max.name ∈ tb := mem_tb (List.mem_of_getElem? (i := 524) (by decide +kernel)) rfl
theorem wm_X1_115 : Cond.methodLink RX1 115 Lib.Math.min.name ∈ tb := mem_tb (List.mem_of_getElem? (i := 685) (by decide +kernel)) rfl
theorem wm_X5_15 : Cond.methodLink RX5 15 arraycopyName ∈ tb := mem_tb (List.mem_of_getElem? (i := 460) (by decide +kernel)) rfl
theorem wm_X6_228 : Cond.methodLink RX6 228 Lib.Math.max.name ∈ tb := mem_tb (List.mem_of_getElem? (i := 822) (by decide +kernel)) rfl
theorem wn_X0 : Cond.initialized RX0 ∈ tb := mem_tb (List.mem_of_getElem? (i := 88) (by decide +kernel)) rfl
theorem wn_X1 : Cond.initialized RX1 ∈ tb := mem_tb (List.mem_of_getElem? (i := 89) (by decide +kernel)) rfl
theorem wn_X2 : Cond.initialized RX2 ∈ tb := mem_tb (List.mem_of_getElem? (i := 85) (by decide +kernel)) rfl
theorem wn_X3 : Cond.initialized RX3 ∈ tb := mem_tb (List.mem_of_getElem? (i := 86) (by decide +kernel)) rfl
theorem wn_X4 : Cond.initialized RX4 ∈ tb := mem_tb (List.mem_of_getElem? (i := 90) (by decide +kernel)) rfl
theorem wn_X5 : Cond.initialized RX5 ∈ tb := mem_tb (List.mem_of_getElem? (i := 87) (by decide +kernel)) rfl
theorem wn_X6 : Cond.initialized RX6 ∈ tb := mem_tb (List.mem_of_getElem? (i := 84) (by decide +kernel)) rfl
theorem wn_X7 : Cond.initialized RX7 ∈ tb := mem_tb (List.mem_of_getElem? (i := 91) (by decide +kernel)) rfl
theorem ws_X0_after : Cond.selects RX0 yX0_after yX0_after ∈ tb := mem_tb (List.mem_of_getElem? (i := 693) (by decide +kernel)) rfl
theorem ws_X0_chosen : Cond.selects RX0 yX0_chosen yX0_chosen ∈ tb := mem_tb (List.mem_of_getElem? (i := 645) (by decide +kernel)) rfl
theorem ws_X0_code : Cond.selects RX0 yX0_code yX0_code ∈ tb := mem_tb (List.mem_of_getElem? (i := 636) (by decide +kernel)) rfl
theorem ws_X0_comes : Cond.selects RX0 yX0_comes yX0_comes ∈ tb := mem_tb (List.mem_of_getElem? (i := 15) (by decide +kernel)) rfl
theorem ws_X0_endAgreed : Cond.selects RX0 yX0_endAgreed yX0_endAgreed ∈ tb := mem_tb (List.mem_of_getElem? (i := 17) (by decide +kernel)) rfl
theorem ws_X0_endCorrected : Cond.selects RX0 yX0_endCorrected yX0_endCorrected ∈ tb := mem_tb (List.mem_of_getElem? (i := 19) (by decide +kernel)) rfl
theorem ws_X0_endMisled : Cond.selects RX0 yX0_endMisled yX0_endMisled ∈ tb := mem_tb (List.mem_of_getElem? (i := 20) (by decide +kernel)) rfl
theorem ws_X0_endShaken : Cond.selects RX0 yX0_endShaken yX0_endShaken ∈ tb := mem_tb (List.mem_of_getElem? (i := 16) (by decide +kernel)) rfl
theorem ws_X0_greatestBelow : Cond.selects RX0 yX0_greatestBelow yX0_greatestBelow ∈ tb := mem_tb (List.mem_of_getElem? (i := 23) (by decide +kernel)) rfl
theorem ws_X0_hold : Cond.selects RX0 yX0_hold yX0_hold ∈ tb := mem_tb (List.mem_of_getElem? (i := 537) (by decide +kernel)) rfl
theorem ws_X0_isBarred : Cond.selects RX0 yX0_isBarred yX0_isBarred ∈ tb := mem_tb (List.mem_of_getElem? (i := 749) (by decide +kernel)) rfl
theorem ws_X0_isGuestSurer : Cond.selects RX0 yX0_isGuestSurer yX0_isGuestSurer ∈ tb := mem_tb (List.mem_of_getElem? (i := 561) (by decide +kernel)) rfl
theorem ws_X0_isSurer : Cond.selects RX0 yX0_isSurer yX0_isSurer ∈ tb := mem_tb (List.mem_of_getElem? (i := 553) (by decide +kernel)) rfl
theorem ws_X0_knowing : Cond.selects RX0 yX0_knowing yX0_knowing ∈ tb := mem_tb (List.mem_of_getElem? (i := 721) (by decide +kernel)) rfl
theorem ws_X0_least : Cond.selects RX0 yX0_least yX0_least ∈ tb := mem_tb (List.mem_of_getElem? (i := 649) (by decide +kernel)) rfl
theorem ws_X0_leave : Cond.selects RX0 yX0_leave yX0_leave ∈ tb := mem_tb (List.mem_of_getElem? (i := 589) (by decide +kernel)) rfl
theorem ws_X0_mayBelieve : Cond.selects RX0 yX0_mayBelieve yX0_mayBelieve ∈ tb := mem_tb (List.mem_of_getElem? (i := 585) (by decide +kernel)) rfl
theorem ws_X0_mean : Cond.selects RX0 yX0_mean yX0_mean ∈ tb := mem_tb (List.mem_of_getElem? (i := 604) (by decide +kernel)) rfl
theorem ws_X0_noChance : Cond.selects RX0 yX0_noChance yX0_noChance ∈ tb := mem_tb (List.mem_of_getElem? (i := 557) (by decide +kernel)) rfl
theorem ws_X0_rightChance : Cond.selects RX0 yX0_rightChance yX0_rightChance ∈ tb := mem_tb (List.mem_of_getElem? (i := 541) (by decide +kernel)) rfl
theorem ws_X0_rise : Cond.selects RX0 yX0_rise yX0_rise ∈ tb := mem_tb (List.mem_of_getElem? (i := 18) (by decide +kernel)) rfl
theorem ws_X0_room : Cond.selects RX0 yX0_room yX0_room ∈ tb := mem_tb (List.mem_of_getElem? (i := 522) (by decide +kernel)) rfl
theorem ws_X0_setLevels : Cond.selects RX0 yX0_setLevels yX0_setLevels ∈ tb := mem_tb (List.mem_of_getElem? (i := 641) (by decide +kernel)) rfl
theorem ws_X0_share : Cond.selects RX0 yX0_share yX0_share ∈ tb := mem_tb (List.mem_of_getElem? (i := 21) (by decide +kernel)) rfl
theorem ws_X0_sit : Cond.selects RX0 yX0_sit yX0_sit ∈ tb := mem_tb (List.mem_of_getElem? (i := 514) (by decide +kernel)) rfl
theorem ws_X0_someNo : Cond.selects RX0 yX0_someNo yX0_someNo ∈ tb := mem_tb (List.mem_of_getElem? (i := 598) (by decide +kernel)) rfl
theorem ws_X0_tell : Cond.selects RX0 yX0_tell yX0_tell ∈ tb := mem_tb (List.mem_of_getElem? (i := 729) (by decide +kernel)) rfl
theorem ws_X1_begin : Cond.selects RX1 yX1_begin yX1_begin ∈ tb := mem_tb (List.mem_of_getElem? (i := 26) (by decide +kernel)) rfl
theorem ws_X1_endMisled : Cond.selects RX1 yX1_endMisled yX1_endMisled ∈ tb := mem_tb (List.mem_of_getElem? (i := 30) (by decide +kernel)) rfl
theorem ws_X1_endRight : Cond.selects RX1 yX1_endRight yX1_endRight ∈ tb := mem_tb (List.mem_of_getElem? (i := 28) (by decide +kernel)) rfl
theorem ws_X1_endWrong : Cond.selects RX1 yX1_endWrong yX1_endWrong ∈ tb := mem_tb (List.mem_of_getElem? (i := 29) (by decide +kernel)) rfl
theorem ws_X1_follow : Cond.selects RX1 yX1_follow yX1_follow ∈ tb := mem_tb (List.mem_of_getElem? (i := 628) (by decide +kernel)) rfl
theorem ws_X1_meanLevel : Cond.selects RX1 yX1_meanLevel yX1_meanLevel ∈ tb := mem_tb (List.mem_of_getElem? (i := 706) (by decide +kernel)) rfl
theorem ws_X1_partByNo : Cond.selects RX1 yX1_partByNo yX1_partByNo ∈ tb := mem_tb (List.mem_of_getElem? (i := 25) (by decide +kernel)) rfl
theorem ws_X1_split : Cond.selects RX1 yX1_split yX1_split ∈ tb := mem_tb (List.mem_of_getElem? (i := 27) (by decide +kernel)) rfl
theorem ws_X1_teach : Cond.selects RX1 yX1_teach yX1_teach ∈ tb := mem_tb (List.mem_of_getElem? (i := 24) (by decide +kernel)) rfl
theorem ws_X1_thatAllKnow : Cond.selects RX1 yX1_thatAllKnow yX1_thatAllKnow ∈ tb := mem_tb (List.mem_of_getElem? (i := 697) (by decide +kernel)) rfl
theorem ws_X1_thatNobodyKnows : Cond.selects RX1 yX1_thatNobodyKnows yX1_thatNobodyKnows ∈ tb := mem_tb (List.mem_of_getElem? (i := 702) (by decide +kernel)) rfl
theorem ws_X2_add : Cond.selects RX2 yX2_add yX2_add ∈ tb := mem_tb (List.mem_of_getElem? (i := 355) (by decide +kernel)) rfl
theorem ws_X2_advance : Cond.selects RX2 yX2_advance yX2_advance ∈ tb := mem_tb (List.mem_of_getElem? (i := 0) (by decide +kernel)) rfl
theorem ws_X2_isSign : Cond.selects RX2 yX2_isSign yX2_isSign ∈ tb := mem_tb (List.mem_of_getElem? (i := 7) (by decide +kernel)) rfl
theorem ws_X2_isWord : Cond.selects RX2 yX2_isWord yX2_isWord ∈ tb := mem_tb (List.mem_of_getElem? (i := 2) (by decide +kernel)) rfl
theorem ws_X2_kindAt : Cond.selects RX2 yX2_kindAt yX2_kindAt ∈ tb := mem_tb (List.mem_of_getElem? (i := 1) (by decide +kernel)) rfl
theorem ws_X2_read : Cond.selects RX2 yX2_read yX2_read ∈ tb := mem_tb (List.mem_of_getElem? (i := 363) (by decide +kernel)) rfl
theorem ws_X2_readLeaning : Cond.selects RX2 yX2_readLeaning yX2_readLeaning ∈ tb := mem_tb (List.mem_of_getElem? (i := 5) (by decide +kernel)) rfl
theorem ws_X2_readPupil : Cond.selects RX2 yX2_readPupil yX2_readPupil ∈ tb := mem_tb (List.mem_of_getElem? (i := 9) (by decide +kernel)) rfl
theorem ws_X2_readThing : Cond.selects RX2 yX2_readThing yX2_readThing ∈ tb := mem_tb (List.mem_of_getElem? (i := 3) (by decide +kernel)) rfl
theorem ws_X2_refuse : Cond.selects RX2 yX2_refuse yX2_refuse ∈ tb := mem_tb (List.mem_of_getElem? (i := 4) (by decide +kernel)) rfl
theorem ws_X2_takeNumber : Cond.selects RX2 yX2_takeNumber yX2_takeNumber ∈ tb := mem_tb (List.mem_of_getElem? (i := 6) (by decide +kernel)) rfl
theorem ws_X2_takeSign : Cond.selects RX2 yX2_takeSign yX2_takeSign ∈ tb := mem_tb (List.mem_of_getElem? (i := 8) (by decide +kernel)) rfl
theorem ws_X3_topOf : Cond.selects RX3 yX3_topOf yX3_topOf ∈ tb := mem_tb (List.mem_of_getElem? (i := 518) (by decide +kernel)) rfl
theorem ws_X4_forget : Cond.selects RX4 yX4_forget yX4_forget ∈ tb := mem_tb (List.mem_of_getElem? (i := 465) (by decide +kernel)) rfl
theorem ws_X4_lessonsFrom : Cond.selects RX4 yX4_lessonsFrom yX4_lessonsFrom ∈ tb := mem_tb (List.mem_of_getElem? (i := 757) (by decide +kernel)) rfl
theorem ws_X4_look : Cond.selects RX4 yX4_look yX4_look ∈ tb := mem_tb (List.mem_of_getElem? (i := 33) (by decide +kernel)) rfl
theorem ws_X4_standsUp : Cond.selects RX4 yX4_standsUp yX4_standsUp ∈ tb := mem_tb (List.mem_of_getElem? (i := 779) (by decide +kernel)) rfl
theorem ws_X5_begin : Cond.selects RX5 yX5_begin yX5_begin ∈ tb := mem_tb (List.mem_of_getElem? (i := 458) (by decide +kernel)) rfl
theorem ws_X5_take : Cond.selects RX5 yX5_take yX5_take ∈ tb := mem_tb (List.mem_of_getElem? (i := 812) (by decide +kernel)) rfl
theorem ws_X6_allLevels : Cond.selects RX6 yX6_allLevels yX6_allLevels ∈ tb := mem_tb (List.mem_of_getElem? (i := 12) (by decide +kernel)) rfl
theorem ws_X6_fewest : Cond.selects RX6 yX6_fewest yX6_fewest ∈ tb := mem_tb (List.mem_of_getElem? (i := 741) (by decide +kernel)) rfl
theorem ws_X6_fewestOfAll : Cond.selects RX6 yX6_fewestOfAll yX6_fewestOfAll ∈ tb := mem_tb (List.mem_of_getElem? (i := 31) (by decide +kernel)) rfl
theorem ws_X6_fewestOfPart : Cond.selects RX6 yX6_fewestOfPart yX6_fewestOfPart ∈ tb := mem_tb (List.mem_of_getElem? (i := 36) (by decide +kernel)) rfl
theorem ws_X6_imageOf : Cond.selects RX6 yX6_imageOf yX6_imageOf ∈ tb := mem_tb (List.mem_of_getElem? (i := 37) (by decide +kernel)) rfl
theorem ws_X6_isPupil : Cond.selects RX6 yX6_isPupil yX6_isPupil ∈ tb := mem_tb (List.mem_of_getElem? (i := 10) (by decide +kernel)) rfl
theorem ws_X6_isRule : Cond.selects RX6 yX6_isRule yX6_isRule ∈ tb := mem_tb (List.mem_of_getElem? (i := 22) (by decide +kernel)) rfl
theorem ws_X6_isThing : Cond.selects RX6 yX6_isThing yX6_isThing ∈ tb := mem_tb (List.mem_of_getElem? (i := 13) (by decide +kernel)) rfl
theorem ws_X6_knownThings : Cond.selects RX6 yX6_knownThings yX6_knownThings ∈ tb := mem_tb (List.mem_of_getElem? (i := 11) (by decide +kernel)) rfl
theorem ws_X6_lessonsAsTold : Cond.selects RX6 yX6_lessonsAsTold yX6_lessonsAsTold ∈ tb := mem_tb (List.mem_of_getElem? (i := 35) (by decide +kernel)) rfl
theorem ws_X6_levelBehind : Cond.selects RX6 yX6_levelBehind yX6_levelBehind ∈ tb := mem_tb (List.mem_of_getElem? (i := 34) (by decide +kernel)) rfl
theorem ws_X6_searchFor : Cond.selects RX6 yX6_searchFor yX6_searchFor ∈ tb := mem_tb (List.mem_of_getElem? (i := 32) (by decide +kernel)) rfl
theorem ws_X6_sitAll : Cond.selects RX6 yX6_sitAll yX6_sitAll ∈ tb := mem_tb (List.mem_of_getElem? (i := 14) (by decide +kernel)) rfl
theorem ws_X7_asNow : Cond.selects RX7 yX7_asNow yX7_asNow ∈ tb := mem_tb (List.mem_of_getElem? (i := 79) (by decide +kernel)) rfl
theorem ws_X7_believe : Cond.selects RX7 yX7_believe yX7_believe ∈ tb := mem_tb (List.mem_of_getElem? (i := 55) (by decide +kernel)) rfl
theorem ws_X7_capOf : Cond.selects RX7 yX7_capOf yX7_capOf ∈ tb := mem_tb (List.mem_of_getElem? (i := 48) (by decide +kernel)) rfl
theorem ws_X7_chanceOf : Cond.selects RX7 yX7_chanceOf yX7_chanceOf ∈ tb := mem_tb (List.mem_of_getElem? (i := 77) (by decide +kernel)) rfl
theorem ws_X7_come : Cond.selects RX7 yX7_come yX7_come ∈ tb := mem_tb (List.mem_of_getElem? (i := 80) (by decide +kernel)) rfl
theorem ws_X7_draw : Cond.selects RX7 yX7_draw yX7_draw ∈ tb := mem_tb (List.mem_of_getElem? (i := 53) (by decide +kernel)) rfl
theorem ws_X7_everybody : Cond.selects RX7 yX7_everybody yX7_everybody ∈ tb := mem_tb (List.mem_of_getElem? (i := 50) (by decide +kernel)) rfl
theorem ws_X7_fails : Cond.selects RX7 yX7_fails yX7_fails ∈ tb := mem_tb (List.mem_of_getElem? (i := 41) (by decide +kernel)) rfl
theorem ws_X7_fewestOf : Cond.selects RX7 yX7_fewestOf yX7_fewestOf ∈ tb := mem_tb (List.mem_of_getElem? (i := 65) (by decide +kernel)) rfl
theorem ws_X7_findOdds : Cond.selects RX7 yX7_findOdds yX7_findOdds ∈ tb := mem_tb (List.mem_of_getElem? (i := 73) (by decide +kernel)) rfl
theorem ws_X7_findOrder : Cond.selects RX7 yX7_findOrder yX7_findOrder ∈ tb := mem_tb (List.mem_of_getElem? (i := 72) (by decide +kernel)) rfl
theorem ws_X7_firstWrong : Cond.selects RX7 yX7_firstWrong yX7_firstWrong ∈ tb := mem_tb (List.mem_of_getElem? (i := 82) (by decide +kernel)) rfl
theorem ws_X7_follow : Cond.selects RX7 yX7_follow yX7_follow ∈ tb := mem_tb (List.mem_of_getElem? (i := 56) (by decide +kernel)) rfl
theorem ws_X7_goal : Cond.selects RX7 yX7_goal yX7_goal ∈ tb := mem_tb (List.mem_of_getElem? (i := 67) (by decide +kernel)) rfl
theorem ws_X7_greatestBelow : Cond.selects RX7 yX7_greatestBelow yX7_greatestBelow ∈ tb := mem_tb (List.mem_of_getElem? (i := 61) (by decide +kernel)) rfl
theorem ws_X7_here : Cond.selects RX7 yX7_here yX7_here ∈ tb := mem_tb (List.mem_of_getElem? (i := 38) (by decide +kernel)) rfl
theorem ws_X7_isComma : Cond.selects RX7 yX7_isComma yX7_isComma ∈ tb := mem_tb (List.mem_of_getElem? (i := 44) (by decide +kernel)) rfl
theorem ws_X7_isPupil : Cond.selects RX7 yX7_isPupil yX7_isPupil ∈ tb := mem_tb (List.mem_of_getElem? (i := 46) (by decide +kernel)) rfl
theorem ws_X7_isSmall : Cond.selects RX7 yX7_isSmall yX7_isSmall ∈ tb := mem_tb (List.mem_of_getElem? (i := 64) (by decide +kernel)) rfl
theorem ws_X7_isSo : Cond.selects RX7 yX7_isSo yX7_isSo ∈ tb := mem_tb (List.mem_of_getElem? (i := 52) (by decide +kernel)) rfl
theorem ws_X7_isThing : Cond.selects RX7 yX7_isThing yX7_isThing ∈ tb := mem_tb (List.mem_of_getElem? (i := 47) (by decide +kernel)) rfl
theorem ws_X7_knownNow : Cond.selects RX7 yX7_knownNow yX7_knownNow ∈ tb := mem_tb (List.mem_of_getElem? (i := 62) (by decide +kernel)) rfl
theorem ws_X7_leastOf : Cond.selects RX7 yX7_leastOf yX7_leastOf ∈ tb := mem_tb (List.mem_of_getElem? (i := 60) (by decide +kernel)) rfl
theorem ws_X7_levelBehind : Cond.selects RX7 yX7_levelBehind yX7_levelBehind ∈ tb := mem_tb (List.mem_of_getElem? (i := 71) (by decide +kernel)) rfl
theorem ws_X7_listSurer : Cond.selects RX7 yX7_listSurer yX7_listSurer ∈ tb := mem_tb (List.mem_of_getElem? (i := 76) (by decide +kernel)) rfl
theorem ws_X7_next : Cond.selects RX7 yX7_next yX7_next ∈ tb := mem_tb (List.mem_of_getElem? (i := 69) (by decide +kernel)) rfl
theorem ws_X7_noOdds : Cond.selects RX7 yX7_noOdds yX7_noOdds ∈ tb := mem_tb (List.mem_of_getElem? (i := 58) (by decide +kernel)) rfl
theorem ws_X7_partAll : Cond.selects RX7 yX7_partAll yX7_partAll ∈ tb := mem_tb (List.mem_of_getElem? (i := 74) (by decide +kernel)) rfl
theorem ws_X7_partBelief : Cond.selects RX7 yX7_partBelief yX7_partBelief ∈ tb := mem_tb (List.mem_of_getElem? (i := 81) (by decide +kernel)) rfl
theorem ws_X7_partNo : Cond.selects RX7 yX7_partNo yX7_partNo ∈ tb := mem_tb (List.mem_of_getElem? (i := 78) (by decide +kernel)) rfl
theorem ws_X7_partRight : Cond.selects RX7 yX7_partRight yX7_partRight ∈ tb := mem_tb (List.mem_of_getElem? (i := 75) (by decide +kernel)) rfl
theorem ws_X7_put : Cond.selects RX7 yX7_put yX7_put ∈ tb := mem_tb (List.mem_of_getElem? (i := 57) (by decide +kernel)) rfl
theorem ws_X7_readWord : Cond.selects RX7 yX7_readWord yX7_readWord ∈ tb := mem_tb (List.mem_of_getElem? (i := 40) (by decide +kernel)) rfl
theorem ws_X7_rise : Cond.selects RX7 yX7_rise yX7_rise ∈ tb := mem_tb (List.mem_of_getElem? (i := 54) (by decide +kernel)) rfl
theorem ws_X7_rises : Cond.selects RX7 yX7_rises yX7_rises ∈ tb := mem_tb (List.mem_of_getElem? (i := 1076) (by decide +kernel)) rfl
theorem ws_X7_setState : Cond.selects RX7 yX7_setState yX7_setState ∈ tb := mem_tb (List.mem_of_getElem? (i := 70) (by decide +kernel)) rfl
theorem ws_X7_spread : Cond.selects RX7 yX7_spread yX7_spread ∈ tb := mem_tb (List.mem_of_getElem? (i := 66) (by decide +kernel)) rfl
theorem ws_X7_stateNow : Cond.selects RX7 yX7_stateNow yX7_stateNow ∈ tb := mem_tb (List.mem_of_getElem? (i := 68) (by decide +kernel)) rfl
theorem ws_X7_take : Cond.selects RX7 yX7_take yX7_take ∈ tb := mem_tb (List.mem_of_getElem? (i := 49) (by decide +kernel)) rfl
theorem ws_X7_takeClause : Cond.selects RX7 yX7_takeClause yX7_takeClause ∈ tb := mem_tb (List.mem_of_getElem? (i := 39) (by decide +kernel)) rfl
theorem ws_X7_takeNumber : Cond.selects RX7 yX7_takeNumber yX7_takeNumber ∈ tb := mem_tb (List.mem_of_getElem? (i := 43) (by decide +kernel)) rfl
theorem ws_X7_takePupil : Cond.selects RX7 yX7_takePupil yX7_takePupil ∈ tb := mem_tb (List.mem_of_getElem? (i := 45) (by decide +kernel)) rfl
theorem ws_X7_takeThing : Cond.selects RX7 yX7_takeThing yX7_takeThing ∈ tb := mem_tb (List.mem_of_getElem? (i := 42) (by decide +kernel)) rfl
theorem ws_X7_teach : Cond.selects RX7 yX7_teach yX7_teach ∈ tb := mem_tb (List.mem_of_getElem? (i := 51) (by decide +kernel)) rfl
theorem ws_X7_tellNow : Cond.selects RX7 yX7_tellNow yX7_tellNow ∈ tb := mem_tb (List.mem_of_getElem? (i := 63) (by decide +kernel)) rfl
theorem ws_X7_upBy : Cond.selects RX7 yX7_upBy yX7_upBy ∈ tb := mem_tb (List.mem_of_getElem? (i := 59) (by decide +kernel)) rfl
theorem wt_J7_fill_d0a16 : Cond.static yJ7_fill_d0a16 ∈ tb := mem_tb (List.mem_of_getElem? (i := 632) (by decide +kernel)) rfl
theorem wt_J7_fill_fda19 : Cond.static yJ7_fill_fda19 ∈ tb := mem_tb (List.mem_of_getElem? (i := 760) (by decide +kernel)) rfl
theorem wt_J7_rangeCheck_23922 : Cond.static yJ7_rangeCheck_23922 ∈ tb := mem_tb (List.mem_of_getElem? (i := 763) (by decide +kernel)) rfl
theorem wt_X7_bits : Cond.static yX7_bits ∈ tb := mem_tb (List.mem_of_getElem? (i := 1219) (by decide +kernel)) rfl
theorem wt_X7_code : Cond.static yX7_code ∈ tb := mem_tb (List.mem_of_getElem? (i := 1016) (by decide +kernel)) rfl
theorem wt_X7_has : Cond.static yX7_has ∈ tb := mem_tb (List.mem_of_getElem? (i := 1034) (by decide +kernel)) rfl
theorem wt_X7_in : Cond.static yX7_in ∈ tb := mem_tb (List.mem_of_getElem? (i := 988) (by decide +kernel)) rfl
theorem wt_X7_isRule : Cond.static yX7_isRule ∈ tb := mem_tb (List.mem_of_getElem? (i := 1156) (by decide +kernel)) rfl
theorem wt_X7_noChance : Cond.static yX7_noChance ∈ tb := mem_tb (List.mem_of_getElem? (i := 1115) (by decide +kernel)) rfl
theorem wt_X7_part : Cond.static yX7_part ∈ tb := mem_tb (List.mem_of_getElem? (i := 1147) (by decide +kernel)) rfl
theorem wy_J7 : Cond.initialized RJ7 ∈ tb := mem_tb (List.mem_of_getElem? (i := 98) (by decide +kernel)) rfl
theorem wy_X7 : Cond.initialized RX7 ∈ tb := mem_tb (List.mem_of_getElem? (i := 91) (by decide +kernel)) rfl
theorem cw_J7_13 : CS RJ7 13 yJ7_rangeCheck_23922 cJ7_rangeCheck_23922 3 none 3 := ⟨wl_J7_13, wt_J7_rangeCheck_23922, wy_J7, wc_J7_rangeCheck_23922, by decide +kernel, by decide⟩
theorem cw_X0_101 : CW RX0 101 RX0 yX0_noChance cX0_noChance 3 (some .int) 2 := ⟨wl_X0_101, wi_X0_noChance, ws_X0_noChance, wn_X0, wc_X0_noChance, by decide +kernel, by decide⟩
theorem cw_X0_105 : CW RX0 105 RX0 yX0_isGuestSurer cX0_isGuestSurer 2 (some .boolean) 1 := ⟨wl_X0_105, wi_X0_isGuestSurer, ws_X0_isGuestSurer, wn_X0, wc_X0_isGuestSurer, by decide +kernel, by decide⟩
theorem cw_X0_109 : CW RX0 109 RX0 yX0_endShaken cX0_endShaken 3 (some .int) 2 := ⟨wl_X0_109, wi_X0_endShaken, ws_X0_endShaken, wn_X0, wc_X0_endShaken, by decide +kernel, by decide⟩
theorem cw_X0_112 : CW RX0 112 RX0 yX0_endAgreed cX0_endAgreed 4 (some .int) 1 := ⟨wl_X0_112, wi_X0_endAgreed, ws_X0_endAgreed, wn_X0, wc_X0_endAgreed, by decide +kernel, by decide⟩
theorem cw_X0_115 : CW RX0 115 RX0 yX0_endCorrected cX0_endCorrected 3 (some .int) 1 := ⟨wl_X0_115, wi_X0_endCorrected, ws_X0_endCorrected, wn_X0, wc_X0_endCorrected, by decide +kernel, by decide⟩
theorem cw_X0_118 : CW RX0 118 RX0 yX0_endMisled cX0_endMisled 4 (some .int) 2 := ⟨wl_X0_118, wi_X0_endMisled, ws_X0_endMisled, wn_X0, wc_X0_endMisled, by decide +kernel, by decide⟩
theorem cw_X0_121 : CW RX0 121 RX0 yX0_rise cX0_rise 3 none 2 := ⟨wl_X0_121, wi_X0_rise, ws_X0_rise, wn_X0, wc_X0_rise, by decide +kernel, by decide⟩
theorem cw_X0_125 : CW RX0 125 RX0 yX0_mayBelieve cX0_mayBelieve 3 (some .boolean) 2 := ⟨wl_X0_125, wi_X0_mayBelieve, ws_X0_mayBelieve, wn_X0, wc_X0_mayBelieve, by decide +kernel, by decide⟩
theorem cw_X0_132 : CW RX0 132 RX0 yX0_someNo cX0_someNo 6 (some .int) 2 := ⟨wl_X0_132, wi_X0_someNo, ws_X0_someNo, wn_X0, wc_X0_someNo, by decide +kernel, by decide⟩
theorem cw_X0_138 : CW RX0 138 RX0 yX0_share cX0_share 5 (some .long) 3 := ⟨wl_X0_138, wi_X0_share, ws_X0_share, wn_X0, wc_X0_share, by decide +kernel, by decide⟩
theorem cw_X0_60 : CW RX0 60 RX3 yX3_topOf cX3_topOf 5 (some .int) 3 := ⟨wl_X0_60, wi_X3_topOf, ws_X3_topOf, wn_X3, wc_X3_topOf, by decide +kernel, by decide⟩
theorem cw_X0_73 : CW RX0 73 RX0 yX0_least cX0_least 7 (some .int) 2 := ⟨wl_X0_73, wi_X0_least, ws_X0_least, wn_X0, wc_X0_least, by decide +kernel, by decide⟩
theorem cw_X0_76 : CW RX0 76 RX0 yX0_greatestBelow cX0_greatestBelow 5 (some .int) 1 := ⟨wl_X0_76, wi_X0_greatestBelow, ws_X0_greatestBelow, wn_X0, wc_X0_greatestBelow, by decide +kernel, by decide⟩
theorem cw_X0_80 : CW RX0 80 RX0 yX0_room cX0_room 2 (some .int) 1 := ⟨wl_X0_80, wi_X0_room, ws_X0_room, wn_X0, wc_X0_room, by decide +kernel, by decide⟩
theorem cw_X0_90 : CW RX0 90 RX0 yX0_rightChance cX0_rightChance 2 (some .int) 1 := ⟨wl_X0_90, wi_X0_rightChance, ws_X0_rightChance, wn_X0, wc_X0_rightChance, by decide +kernel, by decide⟩
theorem cw_X0_93 : CW RX0 93 RX0 yX0_comes cX0_comes 3 (some .boolean) 2 := ⟨wl_X0_93, wi_X0_comes, ws_X0_comes, wn_X0, wc_X0_comes, by decide +kernel, by decide⟩
theorem cw_X0_97 : CW RX0 97 RX0 yX0_isSurer cX0_isSurer 3 (some .boolean) 2 := ⟨wl_X0_97, wi_X0_isSurer, ws_X0_isSurer, wn_X0, wc_X0_isSurer, by decide +kernel, by decide⟩
theorem cw_X1_102 : CW RX1 102 RX0 yX0_isGuestSurer cX0_isGuestSurer 2 (some .boolean) 1 := ⟨wl_X1_102, wi_X0_isGuestSurer, ws_X0_isGuestSurer, wn_X0, wc_X0_isGuestSurer, by decide +kernel, by decide⟩
theorem cw_X1_109 : CW RX1 109 RX0 yX0_room cX0_room 2 (some .int) 1 := ⟨wl_X1_109, wi_X0_room, ws_X0_room, wn_X0, wc_X0_room, by decide +kernel, by decide⟩
theorem cw_X1_120 : CW RX1 120 RX1 yX1_endMisled cX1_endMisled 7 none 3 := ⟨wl_X1_120, wi_X1_endMisled, ws_X1_endMisled, wn_X1, wc_X1_endMisled, by decide +kernel, by decide⟩
theorem cw_X1_123 : CW RX1 123 RX0 yX0_mayBelieve cX0_mayBelieve 3 (some .boolean) 2 := ⟨wl_X1_123, wi_X0_mayBelieve, ws_X0_mayBelieve, wn_X0, wc_X0_mayBelieve, by decide +kernel, by decide⟩
theorem cw_X1_34 : CS RX1 34 yJ7_fill_d0a16 cJ7_fill_d0a16 5 none 2 := ⟨wl_X1_34, wt_J7_fill_d0a16, wy_J7, wc_J7_fill_d0a16, by decide +kernel, by decide⟩
theorem cw_X1_40 : CW RX1 40 RX0 yX0_code cX0_code 3 (some .int) 0 := ⟨wl_X1_40, wi_X0_code, ws_X0_code, wn_X0, wc_X0_code, by decide +kernel, by decide⟩
theorem cw_X1_46 : CW RX1 46 RX0 yX0_setLevels cX0_setLevels 4 none 1 := ⟨wl_X1_46, wi_X0_setLevels, ws_X0_setLevels, wn_X0, wc_X0_setLevels, by decide +kernel, by decide⟩
theorem cw_X1_50 : CW RX1 50 RX0 yX0_chosen cX0_chosen 3 (some .int) 2 := ⟨wl_X1_50, wi_X0_chosen, ws_X0_chosen, wn_X0, wc_X0_chosen, by decide +kernel, by decide⟩
theorem cw_X1_54 : CW RX1 54 RX1 yX1_teach cX1_teach 6 none 3 := ⟨wl_X1_54, wi_X1_teach, ws_X1_teach, wn_X1, wc_X1_teach, by decide +kernel, by decide⟩
theorem cw_X1_58 : CW RX1 58 RX0 yX0_after cX0_after 2 (some .int) 1 := ⟨wl_X1_58, wi_X0_after, ws_X0_after, wn_X0, wc_X0_after, by decide +kernel, by decide⟩
theorem cw_X1_62 : CW RX1 62 RX0 yX0_rightChance cX0_rightChance 2 (some .int) 1 := ⟨wl_X1_62, wi_X0_rightChance, ws_X0_rightChance, wn_X0, wc_X0_rightChance, by decide +kernel, by decide⟩
theorem cw_X1_67 : CW RX1 67 RX1 yX1_partByNo cX1_partByNo 7 none 4 := ⟨wl_X1_67, wi_X1_partByNo, ws_X1_partByNo, wn_X1, wc_X1_partByNo, by decide +kernel, by decide⟩
theorem cw_X1_71 : CW RX1 71 RX1 yX1_endRight cX1_endRight 8 none 3 := ⟨wl_X1_71, wi_X1_endRight, ws_X1_endRight, wn_X1, wc_X1_endRight, by decide +kernel, by decide⟩
theorem cw_X1_74 : CW RX1 74 RX1 yX1_endWrong cX1_endWrong 9 none 3 := ⟨wl_X1_74, wi_X1_endWrong, ws_X1_endWrong, wn_X1, wc_X1_endWrong, by decide +kernel, by decide⟩
theorem cw_X1_83 : CW RX1 83 RX1 yX1_begin cX1_begin 3 none 1 := ⟨wl_X1_83, wi_X1_begin, ws_X1_begin, wn_X1, wc_X1_begin, by decide +kernel, by decide⟩
theorem cw_X1_87 : CW RX1 87 RX0 yX0_isSurer cX0_isSurer 3 (some .boolean) 2 := ⟨wl_X1_87, wi_X0_isSurer, ws_X0_isSurer, wn_X0, wc_X0_isSurer, by decide +kernel, by decide⟩
theorem cw_X1_94 : CW RX1 94 RX0 yX0_noChance cX0_noChance 3 (some .int) 2 := ⟨wl_X1_94, wi_X0_noChance, ws_X0_noChance, wn_X0, wc_X0_noChance, by decide +kernel, by decide⟩
theorem cw_X1_98 : CW RX1 98 RX1 yX1_split cX1_split 6 none 2 := ⟨wl_X1_98, wi_X1_split, ws_X1_split, wn_X1, wc_X1_split, by decide +kernel, by decide⟩
theorem cw_X2_109 : CW RX2 109 RX2 yX2_kindAt cX2_kindAt 2 (some .int) 1 := ⟨wl_X2_109, wi_X2_kindAt, ws_X2_kindAt, wn_X2, wc_X2_kindAt, by decide +kernel, by decide⟩
theorem cw_X2_40 : CW RX2 40 RX2 yX2_advance cX2_advance 1 none 0 := ⟨wl_X2_40, wi_X2_advance, ws_X2_advance, wn_X2, wc_X2_advance, by decide +kernel, by decide⟩
theorem cw_X2_48 : CW RX2 48 RX2 yX2_isWord cX2_isWord 3 (some .boolean) 1 := ⟨wl_X2_48, wi_X2_isWord, ws_X2_isWord, wn_X2, wc_X2_isWord, by decide +kernel, by decide⟩
theorem cw_X2_52 : CW RX2 52 RX2 yX2_readThing cX2_readThing 2 none 0 := ⟨wl_X2_52, wi_X2_readThing, ws_X2_readThing, wn_X2, wc_X2_readThing, by decide +kernel, by decide⟩
theorem cw_X2_57 : CW RX2 57 RX2 yX2_readPupil cX2_readPupil 3 none 0 := ⟨wl_X2_57, wi_X2_readPupil, ws_X2_readPupil, wn_X2, wc_X2_readPupil, by decide +kernel, by decide⟩
theorem cw_X2_63 : CW RX2 63 RX2 yX2_refuse cX2_refuse 3 none 2 := ⟨wl_X2_63, wi_X2_refuse, ws_X2_refuse, wn_X2, wc_X2_refuse, by decide +kernel, by decide⟩
theorem cw_X2_69 : CW RX2 69 RX2 yX2_readLeaning cX2_readLeaning 6 (some .int) 0 := ⟨wl_X2_69, wi_X2_readLeaning, ws_X2_readLeaning, wn_X2, wc_X2_readLeaning, by decide +kernel, by decide⟩
theorem cw_X2_73 : CW RX2 73 RX2 yX2_takeSign cX2_takeSign 2 none 1 := ⟨wl_X2_73, wi_X2_takeSign, ws_X2_takeSign, wn_X2, wc_X2_takeSign, by decide +kernel, by decide⟩
theorem cw_X2_81 : CW RX2 81 RX2 yX2_takeNumber cX2_takeNumber 5 (some .int) 2 := ⟨wl_X2_81, wi_X2_takeNumber, ws_X2_takeNumber, wn_X2, wc_X2_takeNumber, by decide +kernel, by decide⟩
theorem cw_X2_85 : CW RX2 85 RX2 yX2_isSign cX2_isSign 2 (some .boolean) 1 := ⟨wl_X2_85, wi_X2_isSign, ws_X2_isSign, wn_X2, wc_X2_isSign, by decide +kernel, by decide⟩
theorem cw_X4_30 : CS RX4 30 yJ7_fill_fda19 cJ7_fill_fda19 5 none 4 := ⟨wl_X4_30, wt_J7_fill_fda19, wy_J7, wc_J7_fill_fda19, by decide +kernel, by decide⟩
theorem cw_X4_36 : CW RX4 36 RX0 yX0_code cX0_code 3 (some .int) 0 := ⟨wl_X4_36, wi_X0_code, ws_X0_code, wn_X0, wc_X0_code, by decide +kernel, by decide⟩
theorem cw_X4_40 : CW RX4 40 RX4 yX4_look cX4_look 8 (some .int) 3 := ⟨wl_X4_40, wi_X4_look, ws_X4_look, wn_X4, wc_X4_look, by decide +kernel, by decide⟩
theorem cw_X4_44 : CW RX4 44 RX0 yX0_setLevels cX0_setLevels 4 none 1 := ⟨wl_X4_44, wi_X0_setLevels, ws_X0_setLevels, wn_X0, wc_X0_setLevels, by decide +kernel, by decide⟩
theorem cw_X4_48 : CW RX4 48 RX0 yX0_hold cX0_hold 6 (some .int) 2 := ⟨wl_X4_48, wi_X0_hold, ws_X0_hold, wn_X0, wc_X0_hold, by decide +kernel, by decide⟩
theorem cw_X6_116 : CW RX6 116 RX6 yX6_isPupil cX6_isPupil 2 (some .boolean) 1 := ⟨wl_X6_116, wi_X6_isPupil, ws_X6_isPupil, wn_X6, wc_X6_isPupil, by decide +kernel, by decide⟩
theorem cw_X6_130 : CW RX6 130 RX6 yX6_knownThings cX6_knownThings 4 (some .int) 1 := ⟨wl_X6_130, wi_X6_knownThings, ws_X6_knownThings, wn_X6, wc_X6_knownThings, by decide +kernel, by decide⟩
theorem cw_X6_134 : CW RX6 134 RX6 yX6_allLevels cX6_allLevels 4 (some .int) 1 := ⟨wl_X6_134, wi_X6_allLevels, ws_X6_allLevels, wn_X6, wc_X6_allLevels, by decide +kernel, by decide⟩
theorem cw_X6_137 : CW RX6 137 RX6 yX6_isThing cX6_isThing 2 (some .boolean) 1 := ⟨wl_X6_137, wi_X6_isThing, ws_X6_isThing, wn_X6, wc_X6_isThing, by decide +kernel, by decide⟩
theorem cw_X6_146 : CW RX6 146 RX6 yX6_sitAll cX6_sitAll 2 none 1 := ⟨wl_X6_146, wi_X6_sitAll, ws_X6_sitAll, wn_X6, wc_X6_sitAll, by decide +kernel, by decide⟩
theorem cw_X6_149 : CW RX6 149 RX0 yX0_room cX0_room 2 (some .int) 1 := ⟨wl_X6_149, wi_X0_room, ws_X0_room, wn_X0, wc_X0_room, by decide +kernel, by decide⟩
theorem cw_X6_152 : CW RX6 152 RX0 yX0_hold cX0_hold 6 (some .int) 2 := ⟨wl_X6_152, wi_X0_hold, ws_X0_hold, wn_X0, wc_X0_hold, by decide +kernel, by decide⟩
theorem cw_X6_156 : CW RX6 156 RX0 yX0_leave cX0_leave 4 none 2 := ⟨wl_X6_156, wi_X0_leave, ws_X0_leave, wn_X0, wc_X0_leave, by decide +kernel, by decide⟩
theorem cw_X6_160 : CW RX6 160 RX0 yX0_rightChance cX0_rightChance 2 (some .int) 1 := ⟨wl_X6_160, wi_X0_rightChance, ws_X0_rightChance, wn_X0, wc_X0_rightChance, by decide +kernel, by decide⟩
theorem cw_X6_163 : CW RX6 163 RX0 yX0_someNo cX0_someNo 6 (some .int) 2 := ⟨wl_X6_163, wi_X0_someNo, ws_X0_someNo, wn_X0, wc_X0_someNo, by decide +kernel, by decide⟩
theorem cw_X6_166 : CW RX6 166 RX0 yX0_mean cX0_mean 11 (some .int) 1 := ⟨wl_X6_166, wi_X0_mean, ws_X0_mean, wn_X0, wc_X0_mean, by decide +kernel, by decide⟩
theorem cw_X6_169 : CW RX6 169 RX6 yX6_isRule cX6_isRule 2 (some .boolean) 1 := ⟨wl_X6_169, wi_X6_isRule, ws_X6_isRule, wn_X6, wc_X6_isRule, by decide +kernel, by decide⟩
theorem cw_X6_173 : CW RX6 173 RX1 yX1_follow cX1_follow 9 none 4 := ⟨wl_X6_173, wi_X1_follow, ws_X1_follow, wn_X1, wc_X1_follow, by decide +kernel, by decide⟩
theorem cw_X6_177 : CW RX6 177 RX1 yX1_thatAllKnow cX1_thatAllKnow 2 (some .int) 1 := ⟨wl_X6_177, wi_X1_thatAllKnow, ws_X1_thatAllKnow, wn_X1, wc_X1_thatAllKnow, by decide +kernel, by decide⟩
theorem cw_X6_180 : CW RX6 180 RX1 yX1_thatNobodyKnows cX1_thatNobodyKnows 7 (some .int) 1 := ⟨wl_X6_180, wi_X1_thatNobodyKnows, ws_X1_thatNobodyKnows, wn_X1, wc_X1_thatNobodyKnows, by decide +kernel, by decide⟩
theorem cw_X6_183 : CW RX6 183 RX1 yX1_meanLevel cX1_meanLevel 6 (some .int) 2 := ⟨wl_X6_183, wi_X1_meanLevel, ws_X1_meanLevel, wn_X1, wc_X1_meanLevel, by decide +kernel, by decide⟩
theorem cw_X6_187 : CW RX6 187 RX0 yX0_chosen cX0_chosen 3 (some .int) 2 := ⟨wl_X6_187, wi_X0_chosen, ws_X0_chosen, wn_X0, wc_X0_chosen, by decide +kernel, by decide⟩
theorem cw_X6_190 : CW RX6 190 RX0 yX0_after cX0_after 2 (some .int) 1 := ⟨wl_X6_190, wi_X0_after, ws_X0_after, wn_X0, wc_X0_after, by decide +kernel, by decide⟩
theorem cw_X6_193 : CW RX6 193 RX0 yX0_knowing cX0_knowing 3 (some .int) 0 := ⟨wl_X6_193, wi_X0_knowing, ws_X0_knowing, wn_X0, wc_X0_knowing, by decide +kernel, by decide⟩
theorem cw_X6_197 : CW RX6 197 RX0 yX0_tell cX0_tell 4 (some .int) 0 := ⟨wl_X6_197, wi_X0_tell, ws_X0_tell, wn_X0, wc_X0_tell, by decide +kernel, by decide⟩
theorem cw_X6_203 : CW RX6 203 RX6 yX6_fewestOfAll cX6_fewestOfAll 4 (some .int) 3 := ⟨wl_X6_203, wi_X6_fewestOfAll, ws_X6_fewestOfAll, wn_X6, wc_X6_fewestOfAll, by decide +kernel, by decide⟩
theorem cw_X6_207 : CW RX6 207 RX6 yX6_fewest cX6_fewest 2 (some .int) 1 := ⟨wl_X6_207, wi_X6_fewest, ws_X6_fewest, wn_X6, wc_X6_fewest, by decide +kernel, by decide⟩
theorem cw_X6_210 : CW RX6 210 RX6 yX6_searchFor cX6_searchFor 2 (some (.object "LeastTeaches$Search")) 1 := ⟨wl_X6_210, wi_X6_searchFor, ws_X6_searchFor, wn_X6, wc_X6_searchFor, by decide +kernel, by decide⟩
theorem cw_X6_214 : CW RX6 214 RX4 yX4_standsUp cX4_standsUp 7 (some .int) 2 := ⟨wl_X6_214, wi_X4_standsUp, ws_X4_standsUp, wn_X4, wc_X4_standsUp, by decide +kernel, by decide⟩
theorem cw_X6_218 : CW RX6 218 RX6 yX6_levelBehind cX6_levelBehind 6 (some .int) 4 := ⟨wl_X6_218, wi_X6_levelBehind, ws_X6_levelBehind, wn_X6, wc_X6_levelBehind, by decide +kernel, by decide⟩
theorem cw_X6_222 : CW RX6 222 RX6 yX6_lessonsAsTold cX6_lessonsAsTold 5 (some .int) 0 := ⟨wl_X6_222, wi_X6_lessonsAsTold, ws_X6_lessonsAsTold, wn_X6, wc_X6_lessonsAsTold, by decide +kernel, by decide⟩
theorem cw_X6_225 : CW RX6 225 RX6 yX6_fewestOfPart cX6_fewestOfPart 3 (some .int) 2 := ⟨wl_X6_225, wi_X6_fewestOfPart, ws_X6_fewestOfPart, wn_X6, wc_X6_fewestOfPart, by decide +kernel, by decide⟩
theorem cw_X6_233 : CW RX6 233 RX5 yX5_take cX5_take 2 none 1 := ⟨wl_X6_233, wi_X5_take, ws_X5_take, wn_X5, wc_X5_take, by decide +kernel, by decide⟩
theorem cw_X6_237 : CW RX6 237 RX0 yX0_sit cX0_sit 6 none 4 := ⟨wl_X6_237, wi_X0_sit, ws_X0_sit, wn_X0, wc_X0_sit, by decide +kernel, by decide⟩
theorem cw_X6_244 : CW RX6 244 RX0 yX0_least cX0_least 7 (some .int) 2 := ⟨wl_X6_244, wi_X0_least, ws_X0_least, wn_X0, wc_X0_least, by decide +kernel, by decide⟩
theorem cw_X6_250 : CW RX6 250 RX6 yX6_imageOf cX6_imageOf 2 (some (.object "LeastTeaches$Standing")) 1 := ⟨wl_X6_250, wi_X6_imageOf, ws_X6_imageOf, wn_X6, wc_X6_imageOf, by decide +kernel, by decide⟩
theorem cw_X6_255 : CW RX6 255 RX0 yX0_isBarred cX0_isBarred 2 (some .boolean) 0 := ⟨wl_X6_255, wi_X0_isBarred, ws_X0_isBarred, wn_X0, wc_X0_isBarred, by decide +kernel, by decide⟩
theorem cw_X6_259 : CW RX6 259 RX4 yX4_lessonsFrom cX4_lessonsFrom 2 (some .int) 1 := ⟨wl_X6_259, wi_X4_lessonsFrom, ws_X4_lessonsFrom, wn_X4, wc_X4_lessonsFrom, by decide +kernel, by decide⟩
theorem cw_X6_76 : CW RX6 76 RX2 yX2_add cX2_add 2 none 1 := ⟨wl_X6_76, wi_X2_add, ws_X2_add, wn_X2, wc_X2_add, by decide +kernel, by decide⟩
theorem cw_X6_80 : CW RX6 80 RX2 yX2_read cX2_read 3 (some .int) 1 := ⟨wl_X6_80, wi_X2_read, ws_X2_read, wn_X2, wc_X2_read, by decide +kernel, by decide⟩
theorem cw_X6_87 : CW RX6 87 RX5 yX5_begin cX5_begin 2 none 1 := ⟨wl_X6_87, wi_X5_begin, ws_X5_begin, wn_X5, wc_X5_begin, by decide +kernel, by decide⟩
theorem cw_X6_97 : CW RX6 97 RX4 yX4_forget cX4_forget 1 none 0 := ⟨wl_X6_97, wi_X4_forget, ws_X4_forget, wn_X4, wc_X4_forget, by decide +kernel, by decide⟩
theorem cw_X7_111 : CW RX7 111 RX7 yX7_here cX7_here 1 (some .int) 0 := ⟨wl_X7_111, wi_X7_here, ws_X7_here, wn_X7, wc_X7_here, by decide +kernel, by decide⟩
theorem cw_X7_138 : CW RX7 138 RX7 yX7_fails cX7_fails 3 (some .int) 2 := ⟨wl_X7_138, wi_X7_fails, ws_X7_fails, wn_X7, wc_X7_fails, by decide +kernel, by decide⟩
theorem cw_X7_151 : CW RX7 151 RX7 yX7_readWord cX7_readWord 2 none 0 := ⟨wl_X7_151, wi_X7_readWord, ws_X7_readWord, wn_X7, wc_X7_readWord, by decide +kernel, by decide⟩
theorem cw_X7_156 : CW RX7 156 RX7 yX7_takeNumber cX7_takeNumber 4 (some .int) 2 := ⟨wl_X7_156, wi_X7_takeNumber, ws_X7_takeNumber, wn_X7, wc_X7_takeNumber, by decide +kernel, by decide⟩
theorem cw_X7_159 : CS RX7 159 yX7_has cX7_has 2 (some .boolean) 2 := ⟨wl_X7_159, wt_X7_has, wy_X7, wc_X7_has, by decide +kernel, by decide⟩
theorem cw_X7_163 : CW RX7 163 RX7 yX7_isComma cX7_isComma 2 (some .boolean) 0 := ⟨wl_X7_163, wi_X7_isComma, ws_X7_isComma, wn_X7, wc_X7_isComma, by decide +kernel, by decide⟩
theorem cw_X7_170 : CS RX7 170 yX7_code cX7_code 5 (some .long) 5 := ⟨wl_X7_170, wt_X7_code, wy_X7, wc_X7_code, by decide +kernel, by decide⟩
theorem cw_X7_174 : CW RX7 174 RX7 yX7_takeThing cX7_takeThing 3 (some .int) 0 := ⟨wl_X7_174, wi_X7_takeThing, ws_X7_takeThing, wn_X7, wc_X7_takeThing, by decide +kernel, by decide⟩
theorem cw_X7_177 : CW RX7 177 RX7 yX7_takePupil cX7_takePupil 4 (some .int) 0 := ⟨wl_X7_177, wi_X7_takePupil, ws_X7_takePupil, wn_X7, wc_X7_takePupil, by decide +kernel, by decide⟩
theorem cw_X7_180 : CW RX7 180 RX7 yX7_takeClause cX7_takeClause 3 (some .int) 0 := ⟨wl_X7_180, wi_X7_takeClause, ws_X7_takeClause, wn_X7, wc_X7_takeClause, by decide +kernel, by decide⟩
theorem cw_X7_193 : CW RX7 193 RX7 yX7_isPupil cX7_isPupil 2 (some .boolean) 1 := ⟨wl_X7_193, wi_X7_isPupil, ws_X7_isPupil, wn_X7, wc_X7_isPupil, by decide +kernel, by decide⟩
theorem cw_X7_200 : CW RX7 200 RX7 yX7_isThing cX7_isThing 2 (some .boolean) 1 := ⟨wl_X7_200, wi_X7_isThing, ws_X7_isThing, wn_X7, wc_X7_isThing, by decide +kernel, by decide⟩
theorem cw_X7_203 : CW RX7 203 RX7 yX7_capOf cX7_capOf 6 (some .int) 3 := ⟨wl_X7_203, wi_X7_capOf, ws_X7_capOf, wn_X7, wc_X7_capOf, by decide +kernel, by decide⟩
theorem cw_X7_217 : CW RX7 217 RX7 yX7_draw cX7_draw 2 (some .int) 1 := ⟨wl_X7_217, wi_X7_draw, ws_X7_draw, wn_X7, wc_X7_draw, by decide +kernel, by decide⟩
theorem cw_X7_221 : CW RX7 221 RX7 yX7_isSo cX7_isSo 3 (some .boolean) 2 := ⟨wl_X7_221, wi_X7_isSo, ws_X7_isSo, wn_X7, wc_X7_isSo, by decide +kernel, by decide⟩
theorem cw_X7_225 : CS RX7 225 yX7_noChance cX7_noChance 2 (some .int) 2 := ⟨wl_X7_225, wt_X7_noChance, wy_X7, wc_X7_noChance, by decide +kernel, by decide⟩
theorem cw_X7_229 : CW RX7 229 RX7 yX7_rise cX7_rise 4 none 2 := ⟨wl_X7_229, wi_X7_rise, ws_X7_rise, wn_X7, wc_X7_rise, by decide +kernel, by decide⟩
theorem cw_X7_233 : CW RX7 233 RX7 yX7_believe cX7_believe 6 none 3 := ⟨wl_X7_233, wi_X7_believe, ws_X7_believe, wn_X7, wc_X7_believe, by decide +kernel, by decide⟩
theorem cw_X7_237 : CW RX7 237 RX7 yX7_follow cX7_follow 4 none 2 := ⟨wl_X7_237, wi_X7_follow, ws_X7_follow, wn_X7, wc_X7_follow, by decide +kernel, by decide⟩
theorem cw_X7_242 : CW RX7 242 RX7 yX7_take cX7_take 4 none 2 := ⟨wl_X7_242, wi_X7_take, ws_X7_take, wn_X7, wc_X7_take, by decide +kernel, by decide⟩
theorem cw_X7_245 : CW RX7 245 RX7 yX7_everybody cX7_everybody 1 (some .int) 0 := ⟨wl_X7_245, wi_X7_everybody, ws_X7_everybody, wn_X7, wc_X7_everybody, by decide +kernel, by decide⟩
theorem cw_X7_248 : CW RX7 248 RX7 yX7_teach cX7_teach 10 (some .int) 4 := ⟨wl_X7_248, wi_X7_teach, ws_X7_teach, wn_X7, wc_X7_teach, by decide +kernel, by decide⟩
theorem cw_X7_252 : CW RX7 252 RX7 yX7_put cX7_put 3 none 1 := ⟨wl_X7_252, wi_X7_put, ws_X7_put, wn_X7, wc_X7_put, by decide +kernel, by decide⟩
theorem cw_X7_264 : CW RX7 264 RX7 yX7_noOdds cX7_noOdds 9 (some .int) 3 := ⟨wl_X7_264, wi_X7_noOdds, ws_X7_noOdds, wn_X7, wc_X7_noOdds, by decide +kernel, by decide⟩
theorem cw_X7_268 : CW RX7 268 RX7 yX7_rises cX7_rises 4 (some .int) 2 := ⟨wl_X7_268, wi_X7_rises, ws_X7_rises, wn_X7, wc_X7_rises, by decide +kernel, by decide⟩
theorem cw_X7_271 : CS RX7 271 yX7_part cX7_part 3 (some .long) 3 := ⟨wl_X7_271, wt_X7_part, wy_X7, wc_X7_part, by decide +kernel, by decide⟩
theorem cw_X7_276 : CW RX7 276 RX7 yX7_leastOf cX7_leastOf 7 (some .int) 2 := ⟨wl_X7_276, wi_X7_leastOf, ws_X7_leastOf, wn_X7, wc_X7_leastOf, by decide +kernel, by decide⟩
theorem cw_X7_279 : CW RX7 279 RX7 yX7_greatestBelow cX7_greatestBelow 3 (some .int) 0 := ⟨wl_X7_279, wi_X7_greatestBelow, ws_X7_greatestBelow, wn_X7, wc_X7_greatestBelow, by decide +kernel, by decide⟩
theorem cw_X7_284 : CS RX7 284 yX7_isRule cX7_isRule 1 (some .boolean) 1 := ⟨wl_X7_284, wt_X7_isRule, wy_X7, wc_X7_isRule, by decide +kernel, by decide⟩
theorem cw_X7_288 : CW RX7 288 RX7 yX7_upBy cX7_upBy 3 (some .int) 2 := ⟨wl_X7_288, wi_X7_upBy, ws_X7_upBy, wn_X7, wc_X7_upBy, by decide +kernel, by decide⟩
theorem cw_X7_293 : CW RX7 293 RX7 yX7_knownNow cX7_knownNow 3 (some .int) 0 := ⟨wl_X7_293, wi_X7_knownNow, ws_X7_knownNow, wn_X7, wc_X7_knownNow, by decide +kernel, by decide⟩
theorem cw_X7_296 : CW RX7 296 RX7 yX7_tellNow cX7_tellNow 4 (some .int) 0 := ⟨wl_X7_296, wi_X7_tellNow, ws_X7_tellNow, wn_X7, wc_X7_tellNow, by decide +kernel, by decide⟩
theorem cw_X7_301 : CS RX7 301 yX7_bits cX7_bits 3 (some .int) 1 := ⟨wl_X7_301, wt_X7_bits, wy_X7, wc_X7_bits, by decide +kernel, by decide⟩
theorem cw_X7_304 : CW RX7 304 RX7 yX7_setState cX7_setState 5 none 2 := ⟨wl_X7_304, wi_X7_setState, ws_X7_setState, wn_X7, wc_X7_setState, by decide +kernel, by decide⟩
theorem cw_X7_307 : CW RX7 307 RX7 yX7_stateNow cX7_stateNow 4 (some .int) 1 := ⟨wl_X7_307, wi_X7_stateNow, ws_X7_stateNow, wn_X7, wc_X7_stateNow, by decide +kernel, by decide⟩
theorem cw_X7_313 : CW RX7 313 RX7 yX7_goal cX7_goal 4 (some .int) 1 := ⟨wl_X7_313, wi_X7_goal, ws_X7_goal, wn_X7, wc_X7_goal, by decide +kernel, by decide⟩
theorem cw_X7_316 : CW RX7 316 RX7 yX7_next cX7_next 6 (some .int) 4 := ⟨wl_X7_316, wi_X7_next, ws_X7_next, wn_X7, wc_X7_next, by decide +kernel, by decide⟩
theorem cw_X7_320 : CW RX7 320 RX7 yX7_spread cX7_spread 7 (some .int) 2 := ⟨wl_X7_320, wi_X7_spread, ws_X7_spread, wn_X7, wc_X7_spread, by decide +kernel, by decide⟩
theorem cw_X7_323 : CW RX7 323 RX7 yX7_isSmall cX7_isSmall 1 (some .boolean) 0 := ⟨wl_X7_323, wi_X7_isSmall, ws_X7_isSmall, wn_X7, wc_X7_isSmall, by decide +kernel, by decide⟩
theorem cw_X7_326 : CW RX7 326 RX7 yX7_fewestOf cX7_fewestOf 4 (some .int) 3 := ⟨wl_X7_326, wi_X7_fewestOf, ws_X7_fewestOf, wn_X7, wc_X7_fewestOf, by decide +kernel, by decide⟩
theorem cw_X7_329 : CW RX7 329 RX7 yX7_levelBehind cX7_levelBehind 7 (some .int) 4 := ⟨wl_X7_329, wi_X7_levelBehind, ws_X7_levelBehind, wn_X7, wc_X7_levelBehind, by decide +kernel, by decide⟩
theorem cw_X7_333 : CW RX7 333 RX7 yX7_findOrder cX7_findOrder 7 none 0 := ⟨wl_X7_333, wi_X7_findOrder, ws_X7_findOrder, wn_X7, wc_X7_findOrder, by decide +kernel, by decide⟩
theorem cw_X7_339 : CW RX7 339 RX7 yX7_asNow cX7_asNow 2 none 0 := ⟨wl_X7_339, wi_X7_asNow, ws_X7_asNow, wn_X7, wc_X7_asNow, by decide +kernel, by decide⟩
theorem cw_X7_342 : CW RX7 342 RX7 yX7_come cX7_come 5 none 1 := ⟨wl_X7_342, wi_X7_come, ws_X7_come, wn_X7, wc_X7_come, by decide +kernel, by decide⟩
theorem cw_X7_346 : CW RX7 346 RX7 yX7_partBelief cX7_partBelief 10 none 2 := ⟨wl_X7_346, wi_X7_partBelief, ws_X7_partBelief, wn_X7, wc_X7_partBelief, by decide +kernel, by decide⟩
theorem cw_X7_350 : CW RX7 350 RX7 yX7_listSurer cX7_listSurer 3 none 1 := ⟨wl_X7_350, wi_X7_listSurer, ws_X7_listSurer, wn_X7, wc_X7_listSurer, by decide +kernel, by decide⟩
theorem cw_X7_353 : CW RX7 353 RX7 yX7_chanceOf cX7_chanceOf 3 (some .int) 2 := ⟨wl_X7_353, wi_X7_chanceOf, ws_X7_chanceOf, wn_X7, wc_X7_chanceOf, by decide +kernel, by decide⟩
theorem cw_X7_356 : CW RX7 356 RX7 yX7_partNo cX7_partNo 8 none 4 := ⟨wl_X7_356, wi_X7_partNo, ws_X7_partNo, wn_X7, wc_X7_partNo, by decide +kernel, by decide⟩
theorem cw_X7_360 : CW RX7 360 RX7 yX7_partRight cX7_partRight 12 none 3 := ⟨wl_X7_360, wi_X7_partRight, ws_X7_partRight, wn_X7, wc_X7_partRight, by decide +kernel, by decide⟩
theorem cw_X7_366 : CW RX7 366 RX7 yX7_partAll cX7_partAll 7 none 2 := ⟨wl_X7_366, wi_X7_partAll, ws_X7_partAll, wn_X7, wc_X7_partAll, by decide +kernel, by decide⟩
theorem cw_X7_371 : CW RX7 371 RX7 yX7_findOdds cX7_findOdds 5 none 3 := ⟨wl_X7_371, wi_X7_findOdds, ws_X7_findOdds, wn_X7, wc_X7_findOdds, by decide +kernel, by decide⟩
theorem cw_X7_375 : CW RX7 375 RX7 yX7_firstWrong cX7_firstWrong 3 (some .int) 0 := ⟨wl_X7_375, wi_X7_firstWrong, ws_X7_firstWrong, wn_X7, wc_X7_firstWrong, by decide +kernel, by decide⟩
theorem cw_X7_92 : CS RX7 92 yX7_in cX7_in 6 (some .boolean) 3 := ⟨wl_X7_92, wt_X7_in, wy_X7, wc_X7_in, by decide +kernel, by decide⟩
