theorem kz_45 : Cond.initialized RX3 ∈ zW := zmem 45 (by decide +kernel) rfl
theorem kz_46 : Cond.initialized RX7 ∈ zW := zmem 46 (by decide +kernel) rfl
theorem kz_48 : Cond.initialized RX6 ∈ zW := zmem 48 (by decide +kernel) rfl
theorem kz_49 : Cond.initialized RX1 ∈ zW := zmem 49 (by decide +kernel) rfl
theorem kz_50 : Cond.initialized RX5 ∈ zW := zmem 50 (by decide +kernel) rfl
theorem kz_51 : Cond.initialized RX0 ∈ zW := zmem 51 (by decide +kernel) rfl
theorem kz_52 : Cond.initialized RX4 ∈ zW := zmem 52 (by decide +kernel) rfl
theorem kz_53 : Cond.initialized RX2 ∈ zW := zmem 53 (by decide +kernel) rfl
theorem kz_63 : Cond.methodLink RX8 1 Lib.objectInit ∈ zW := zmem 63 (by decide +kernel) rfl
theorem kz_66 : Cond.classLink RX8 7 RX3 ∈ zW := zmem 66 (by decide +kernel) rfl
theorem kz_67 : Cond.instantiable RX3 2 ∈ zW := zmem 67 (by decide +kernel) rfl
theorem kz_71 : Cond.methodLink RX3 1 Lib.objectInit ∈ zW := zmem 71 (by decide +kernel) rfl
theorem kz_81 : Cond.classLink RX8 16 RX7 ∈ zW := zmem 81 (by decide +kernel) rfl
theorem kz_82 : Cond.instantiable RX7 3 ∈ zW := zmem 82 (by decide +kernel) rfl
theorem kz_83 : Cond.methodLink RX8 18 yX7_init ∈ zW := zmem 83 (by decide +kernel) rfl
theorem kz_86 : Cond.methodLink RX7 3 Lib.objectInit ∈ zW := zmem 86 (by decide +kernel) rfl
theorem kz_87 : Cond.classLink RX7 18 ("[" ++ (FieldType.array .long).toString) ∈ zW := zmem 87 (by decide +kernel) rfl
theorem kz_89 : Cond.methodLink RX7 23 yJ7_fill_53178 ∈ zW := zmem 89 (by decide +kernel) rfl
theorem kz_105 : Cond.arrayClass .int ∈ zW := zmem 105 (by decide +kernel) rfl
theorem kz_106 : Cond.arrayClass .long ∈ zW := zmem 106 (by decide +kernel) rfl
theorem kz_107 : Cond.classLink RX8 23 RX6 ∈ zW := zmem 107 (by decide +kernel) rfl
theorem kz_108 : Cond.instantiable RX6 4 ∈ zW := zmem 108 (by decide +kernel) rfl
theorem kz_109 : Cond.methodLink RX8 25 yX6_init ∈ zW := zmem 109 (by decide +kernel) rfl
theorem kz_112 : Cond.methodLink RX6 3 Lib.objectInit ∈ zW := zmem 112 (by decide +kernel) rfl
theorem kz_113 : Cond.classLink RX6 15 ("[" ++ (FieldType.array .int).toString) ∈ zW := zmem 113 (by decide +kernel) rfl
theorem kz_115 : Cond.methodLink RX6 26 yJ7_fill_53178 ∈ zW := zmem 115 (by decide +kernel) rfl
theorem kz_134 : Cond.classLink RX8 30 RX1 ∈ zW := zmem 134 (by decide +kernel) rfl
theorem kz_135 : Cond.instantiable RX1 7 ∈ zW := zmem 135 (by decide +kernel) rfl
theorem kz_139 : Cond.methodLink RX1 3 Lib.objectInit ∈ zW := zmem 139 (by decide +kernel) rfl
theorem kz_140 : Cond.classLink RX1 31 ("[" ++ (FieldType.array .int).toString) ∈ zW := zmem 140 (by decide +kernel) rfl
theorem kz_172 : Cond.classLink RX8 37 RX5 ∈ zW := zmem 172 (by decide +kernel) rfl
theorem kz_173 : Cond.instantiable RX5 15 ∈ zW := zmem 173 (by decide +kernel) rfl
theorem kz_174 : Cond.methodLink RX8 39 yX5_init ∈ zW := zmem 174 (by decide +kernel) rfl
theorem kz_177 : Cond.methodLink RX5 3 Lib.objectInit ∈ zW := zmem 177 (by decide +kernel) rfl
theorem kz_229 : Cond.classLink RX8 46 RX0 ∈ zW := zmem 229 (by decide +kernel) rfl
theorem kz_230 : Cond.instantiable RX0 7 ∈ zW := zmem 230 (by decide +kernel) rfl
theorem kz_231 : Cond.methodLink RX8 48 yX0_init ∈ zW := zmem 231 (by decide +kernel) rfl
theorem kz_234 : Cond.methodLink RX0 3 Lib.objectInit ∈ zW := zmem 234 (by decide +kernel) rfl
theorem kz_235 : Cond.classLink RX0 9 ("[" ++ (FieldType.array .int).toString) ∈ zW := zmem 235 (by decide +kernel) rfl
theorem kz_236 : Cond.classLink RX0 19 ("[" ++ (FieldType.array .long).toString) ∈ zW := zmem 236 (by decide +kernel) rfl
theorem kz_262 : Cond.classLink RX8 53 RX4 ∈ zW := zmem 262 (by decide +kernel) rfl
theorem kz_263 : Cond.instantiable RX4 6 ∈ zW := zmem 263 (by decide +kernel) rfl
theorem kz_267 : Cond.methodLink RX4 3 Lib.objectInit ∈ zW := zmem 267 (by decide +kernel) rfl
theorem kz_268 : Cond.classLink RX4 19 ("[" ++ (FieldType.array .int).toString) ∈ zW := zmem 268 (by decide +kernel) rfl
theorem kz_269 : Cond.classLink RX4 30 ("[" ++ (FieldType.array .long).toString) ∈ zW := zmem 269 (by decide +kernel) rfl
theorem kz_293 : Cond.classLink RX8 60 RX2 ∈ zW := zmem 293 (by decide +kernel) rfl
theorem kz_294 : Cond.instantiable RX2 3 ∈ zW := zmem 294 (by decide +kernel) rfl
theorem kz_298 : Cond.methodLink RX2 3 Lib.objectInit ∈ zW := zmem 298 (by decide +kernel) rfl
theorem kz_299 : Cond.classLink RX2 15 ("[" ++ (FieldType.array .int).toString) ∈ zW := zmem 299 (by decide +kernel) rfl
theorem kz_796 : Cond.methodLink RX9 1 Lib.objectInit ∈ zW := zmem 796 (by decide +kernel) rfl
theorem kz_933 : Cond.arrayClass .boolean ∈ zW := zmem 933 (by decide +kernel) rfl
theorem M_X0_init : zMw yX0_init cX0_init 3 none 2 := ⟨zmem 233 (by decide +kernel) rfl, zmem 51 (by decide +kernel) rfl, by decide +kernel, by decide⟩
theorem Mi_X0_init : Cond.instanceMethod yX0_init ∈ zW := zmem 232 (by decide +kernel) rfl
theorem M_X1_init : zMw yX1_init cX1_init 1 none 0 := ⟨zmem 138 (by decide +kernel) rfl, zmem 49 (by decide +kernel) rfl, by decide +kernel, by decide⟩
theorem Mi_X1_init : Cond.instanceMethod yX1_init ∈ zW := zmem 137 (by decide +kernel) rfl
theorem M_X2_init : zMw yX2_init cX2_init 1 none 0 := ⟨zmem 297 (by decide +kernel) rfl, zmem 53 (by decide +kernel) rfl, by decide +kernel, by decide⟩
theorem Mi_X2_init : Cond.instanceMethod yX2_init ∈ zW := zmem 296 (by decide +kernel) rfl
theorem M_X3_init : zMw yX3_init cX3_init 1 none 0 := ⟨zmem 70 (by decide +kernel) rfl, zmem 45 (by decide +kernel) rfl, by decide +kernel, by decide⟩
theorem Mi_X3_init : Cond.instanceMethod yX3_init ∈ zW := zmem 69 (by decide +kernel) rfl
theorem M_X4_init : zMw yX4_init cX4_init 1 none 0 := ⟨zmem 266 (by decide +kernel) rfl, zmem 52 (by decide +kernel) rfl, by decide +kernel, by decide⟩
theorem Mi_X4_init : Cond.instanceMethod yX4_init ∈ zW := zmem 265 (by decide +kernel) rfl
theorem M_X5_init : zMw yX5_init cX5_init 3 none 2 := ⟨zmem 176 (by decide +kernel) rfl, zmem 50 (by decide +kernel) rfl, by decide +kernel, by decide⟩
theorem Mi_X5_init : Cond.instanceMethod yX5_init ∈ zW := zmem 175 (by decide +kernel) rfl
theorem M_X6_init : zMw yX6_init cX6_init 2 none 0 := ⟨zmem 111 (by decide +kernel) rfl, zmem 48 (by decide +kernel) rfl, by decide +kernel, by decide⟩
theorem Mi_X6_init : Cond.instanceMethod yX6_init ∈ zW := zmem 110 (by decide +kernel) rfl
theorem M_X7_init : zMw yX7_init cX7_init 1 none 0 := ⟨zmem 85 (by decide +kernel) rfl, zmem 46 (by decide +kernel) rfl, by decide +kernel, by decide⟩
theorem Mi_X7_init : Cond.instanceMethod yX7_init ∈ zW := zmem 84 (by decide +kernel) rfl
theorem M_X8_init : zMw yX8_init cX8_init 1 none 0 := ⟨zmem 62 (by decide +kernel) rfl, zmem 44 (by decide +kernel) rfl, by decide +kernel, by decide⟩
theorem Mi_X8_init : Cond.instanceMethod yX8_init ∈ zW := zmem 61 (by decide +kernel) rfl
theorem M_X9_init : zMw yX9_init cX9_init 1 none 0 := ⟨zmem 795 (by decide +kernel) rfl, zmem 54 (by decide +kernel) rfl, by decide +kernel, by decide⟩
theorem Mi_X9_init : Cond.instanceMethod yX9_init ∈ zW := zmem 794 (by decide +kernel) rfl
theorem kw_obj : Cond.instanceMethod Lib.objectInit ∈ zW ∧ Cond.code Lib.objectInit ⟨#[0xb1]⟩ 1 none ∈ zW := ⟨zmem 64 (by decide +kernel) rfl, zmem 65 (by decide +kernel) rfl⟩
theorem dX0_init_0 : decode cX0_init 0 = .ok (.aload_n 0, 1) := by decide +kernel
theorem dX0_init_1 : decode cX0_init 1 = .ok (.invokespecial 3, 3) := by decide +kernel
theorem dX0_init_4 : decode cX0_init 4 = .ok (.aload_n 0, 1) := by decide +kernel
theorem dX0_init_5 : decode cX0_init 5 = .ok (.bipush 10, 2) := by decide +kernel
theorem dX0_init_7 : decode cX0_init 7 = .ok (.bipush 10, 2) := by decide +kernel
theorem dX0_init_9 : decode cX0_init 9 = .ok (.multianewarray 9 2, 4) := by decide +kernel
theorem dX0_init_13 : decode cX0_init 13 = .ok (.putfield 11, 3) := by decide +kernel
theorem dX0_init_16 : decode cX0_init 16 = .ok (.aload_n 0, 1) := by decide +kernel
theorem dX0_init_17 : decode cX0_init 17 = .ok (.bipush 10, 2) := by decide +kernel
theorem dX0_init_19 : decode cX0_init 19 = .ok (.bipush 10, 2) := by decide +kernel
theorem dX0_init_21 : decode cX0_init 21 = .ok (.multianewarray 9 2, 4) := by decide +kernel
theorem dX0_init_25 : decode cX0_init 25 = .ok (.putfield 16, 3) := by decide +kernel
theorem dX0_init_28 : decode cX0_init 28 = .ok (.aload_n 0, 1) := by decide +kernel
theorem dX0_init_29 : decode cX0_init 29 = .ok (.bipush 11, 2) := by decide +kernel
theorem dX0_init_31 : decode cX0_init 31 = .ok (.bipush 61, 2) := by decide +kernel
theorem dX0_init_33 : decode cX0_init 33 = .ok (.multianewarray 19 2, 4) := by decide +kernel
theorem dX0_init_37 : decode cX0_init 37 = .ok (.putfield 21, 3) := by decide +kernel
theorem dX0_init_40 : decode cX0_init 40 = .ok (.aload_n 0, 1) := by decide +kernel
theorem dX0_init_41 : decode cX0_init 41 = .ok (.bipush 10, 2) := by decide +kernel
theorem dX0_init_43 : decode cX0_init 43 = .ok (.bipush 61, 2) := by decide +kernel
theorem dX0_init_45 : decode cX0_init 45 = .ok (.multianewarray 9 2, 4) := by decide +kernel
theorem dX0_init_49 : decode cX0_init 49 = .ok (.putfield 24, 3) := by decide +kernel
theorem dX0_init_52 : decode cX0_init 52 = .ok (.aload_n 0, 1) := by decide +kernel
theorem dX0_init_53 : decode cX0_init 53 = .ok (.bipush 10, 2) := by decide +kernel
theorem dX0_init_55 : decode cX0_init 55 = .ok (.newarray .int, 2) := by decide +kernel
theorem dX0_init_57 : decode cX0_init 57 = .ok (.putfield 27, 3) := by decide +kernel
theorem dX0_init_60 : decode cX0_init 60 = .ok (.aload_n 0, 1) := by decide +kernel
theorem dX0_init_61 : decode cX0_init 61 = .ok (.aload_n 1, 1) := by decide +kernel
theorem dX0_init_62 : decode cX0_init 62 = .ok (.putfield 31, 3) := by decide +kernel
theorem dX0_init_65 : decode cX0_init 65 = .ok (.aload_n 0, 1) := by decide +kernel
theorem dX0_init_66 : decode cX0_init 66 = .ok (.aload_n 2, 1) := by decide +kernel
theorem dX0_init_67 : decode cX0_init 67 = .ok (.putfield 35, 3) := by decide +kernel
theorem dX0_init_70 : decode cX0_init 70 = .ok (.return_, 1) := by decide +kernel
theorem dX1_init_0 : decode cX1_init 0 = .ok (.aload_n 0, 1) := by decide +kernel
theorem dX1_init_1 : decode cX1_init 1 = .ok (.invokespecial 3, 3) := by decide +kernel
theorem dX1_init_4 : decode cX1_init 4 = .ok (.aload_n 0, 1) := by decide +kernel
theorem dX1_init_5 : decode cX1_init 5 = .ok (.iconst 0, 1) := by decide +kernel
theorem dX1_init_6 : decode cX1_init 6 = .ok (.putfield 9, 3) := by decide +kernel
theorem dX1_init_9 : decode cX1_init 9 = .ok (.aload_n 0, 1) := by decide +kernel
theorem dX1_init_10 : decode cX1_init 10 = .ok (.bipush 60, 2) := by decide +kernel
theorem dX1_init_12 : decode cX1_init 12 = .ok (.newarray .int, 2) := by decide +kernel
theorem dX1_init_14 : decode cX1_init 14 = .ok (.putfield 15, 3) := by decide +kernel
theorem dX1_init_17 : decode cX1_init 17 = .ok (.aload_n 0, 1) := by decide +kernel
theorem dX1_init_18 : decode cX1_init 18 = .ok (.bipush 60, 2) := by decide +kernel
theorem dX1_init_20 : decode cX1_init 20 = .ok (.newarray .int, 2) := by decide +kernel
theorem dX1_init_22 : decode cX1_init 22 = .ok (.putfield 19, 3) := by decide +kernel
theorem dX1_init_25 : decode cX1_init 25 = .ok (.aload_n 0, 1) := by decide +kernel
theorem dX1_init_26 : decode cX1_init 26 = .ok (.bipush 60, 2) := by decide +kernel
theorem dX1_init_28 : decode cX1_init 28 = .ok (.newarray .int, 2) := by decide +kernel
theorem dX1_init_30 : decode cX1_init 30 = .ok (.putfield 22, 3) := by decide +kernel
theorem dX1_init_33 : decode cX1_init 33 = .ok (.aload_n 0, 1) := by decide +kernel
theorem dX1_init_34 : decode cX1_init 34 = .ok (.bipush 60, 2) := by decide +kernel
theorem dX1_init_36 : decode cX1_init 36 = .ok (.newarray .int, 2) := by decide +kernel
theorem dX1_init_38 : decode cX1_init 38 = .ok (.putfield 25, 3) := by decide +kernel
theorem dX1_init_41 : decode cX1_init 41 = .ok (.aload_n 0, 1) := by decide +kernel
theorem dX1_init_42 : decode cX1_init 42 = .ok (.bipush 60, 2) := by decide +kernel
theorem dX1_init_44 : decode cX1_init 44 = .ok (.newarray .int, 2) := by decide +kernel
theorem dX1_init_46 : decode cX1_init 46 = .ok (.putfield 28, 3) := by decide +kernel
theorem dX1_init_49 : decode cX1_init 49 = .ok (.aload_n 0, 1) := by decide +kernel
theorem dX1_init_50 : decode cX1_init 50 = .ok (.bipush 10, 2) := by decide +kernel
theorem dX1_init_52 : decode cX1_init 52 = .ok (.bipush 10, 2) := by decide +kernel
theorem dX1_init_54 : decode cX1_init 54 = .ok (.multianewarray 31 2, 4) := by decide +kernel
theorem dX1_init_58 : decode cX1_init 58 = .ok (.putfield 33, 3) := by decide +kernel
theorem dX1_init_61 : decode cX1_init 61 = .ok (.return_, 1) := by decide +kernel
theorem dX2_init_0 : decode cX2_init 0 = .ok (.aload_n 0, 1) := by decide +kernel
theorem dX2_init_1 : decode cX2_init 1 = .ok (.invokespecial 3, 3) := by decide +kernel
theorem dX2_init_4 : decode cX2_init 4 = .ok (.aload_n 0, 1) := by decide +kernel
theorem dX2_init_5 : decode cX2_init 5 = .ok (.bipush 10, 2) := by decide +kernel
theorem dX2_init_7 : decode cX2_init 7 = .ok (.newarray .int, 2) := by decide +kernel
theorem dX2_init_9 : decode cX2_init 9 = .ok (.putfield 9, 3) := by decide +kernel
theorem dX2_init_12 : decode cX2_init 12 = .ok (.aload_n 0, 1) := by decide +kernel
theorem dX2_init_13 : decode cX2_init 13 = .ok (.bipush 10, 2) := by decide +kernel
theorem dX2_init_15 : decode cX2_init 15 = .ok (.bipush 10, 2) := by decide +kernel
theorem dX2_init_17 : decode cX2_init 17 = .ok (.multianewarray 15 2, 4) := by decide +kernel
theorem dX2_init_21 : decode cX2_init 21 = .ok (.putfield 17, 3) := by decide +kernel
theorem dX2_init_24 : decode cX2_init 24 = .ok (.aload_n 0, 1) := by decide +kernel
theorem dX2_init_25 : decode cX2_init 25 = .ok (.bipush 10, 2) := by decide +kernel
theorem dX2_init_27 : decode cX2_init 27 = .ok (.bipush 10, 2) := by decide +kernel
theorem dX2_init_29 : decode cX2_init 29 = .ok (.multianewarray 15 2, 4) := by decide +kernel
theorem dX2_init_33 : decode cX2_init 33 = .ok (.putfield 20, 3) := by decide +kernel
theorem dX2_init_36 : decode cX2_init 36 = .ok (.return_, 1) := by decide +kernel
theorem dX3_init_0 : decode cX3_init 0 = .ok (.aload_n 0, 1) := by decide +kernel
theorem dX3_init_1 : decode cX3_init 1 = .ok (.invokespecial 1, 3) := by decide +kernel
theorem dX3_init_4 : decode cX3_init 4 = .ok (.aload_n 0, 1) := by decide +kernel
theorem dX3_init_5 : decode cX3_init 5 = .ok (.lconst 0, 1) := by decide +kernel
theorem dX3_init_6 : decode cX3_init 6 = .ok (.putfield 7, 3) := by decide +kernel
theorem dX3_init_9 : decode cX3_init 9 = .ok (.aload_n 0, 1) := by decide +kernel
theorem dX3_init_10 : decode cX3_init 10 = .ok (.lconst 1, 1) := by decide +kernel
theorem dX3_init_11 : decode cX3_init 11 = .ok (.putfield 13, 3) := by decide +kernel
theorem dX3_init_14 : decode cX3_init 14 = .ok (.return_, 1) := by decide +kernel
theorem dX4_init_0 : decode cX4_init 0 = .ok (.aload_n 0, 1) := by decide +kernel
theorem dX4_init_1 : decode cX4_init 1 = .ok (.invokespecial 3, 3) := by decide +kernel
theorem dX4_init_4 : decode cX4_init 4 = .ok (.aload_n 0, 1) := by decide +kernel
theorem dX4_init_5 : decode cX4_init 5 = .ok (.iconst 0, 1) := by decide +kernel
theorem dX4_init_6 : decode cX4_init 6 = .ok (.putfield 9, 3) := by decide +kernel
theorem dX4_init_9 : decode cX4_init 9 = .ok (.aload_n 0, 1) := by decide +kernel
theorem dX4_init_10 : decode cX4_init 10 = .ok (.bipush 40, 2) := by decide +kernel
theorem dX4_init_12 : decode cX4_init 12 = .ok (.newarray .int, 2) := by decide +kernel
theorem dX4_init_14 : decode cX4_init 14 = .ok (.putfield 15, 3) := by decide +kernel
theorem dX4_init_17 : decode cX4_init 17 = .ok (.aload_n 0, 1) := by decide +kernel
theorem dX4_init_18 : decode cX4_init 18 = .ok (.bipush 40, 2) := by decide +kernel
theorem dX4_init_20 : decode cX4_init 20 = .ok (.bipush 40, 2) := by decide +kernel
theorem dX4_init_22 : decode cX4_init 22 = .ok (.multianewarray 19 2, 4) := by decide +kernel
theorem dX4_init_26 : decode cX4_init 26 = .ok (.putfield 21, 3) := by decide +kernel
theorem dX4_init_29 : decode cX4_init 29 = .ok (.aload_n 0, 1) := by decide +kernel
theorem dX4_init_30 : decode cX4_init 30 = .ok (.bipush 40, 2) := by decide +kernel
theorem dX4_init_32 : decode cX4_init 32 = .ok (.iconst 3, 1) := by decide +kernel
theorem dX4_init_33 : decode cX4_init 33 = .ok (.multianewarray 19 2, 4) := by decide +kernel
theorem dX4_init_37 : decode cX4_init 37 = .ok (.putfield 24, 3) := by decide +kernel
theorem dX4_init_40 : decode cX4_init 40 = .ok (.aload_n 0, 1) := by decide +kernel
theorem dX4_init_41 : decode cX4_init 41 = .ok (.bipush 40, 2) := by decide +kernel
theorem dX4_init_43 : decode cX4_init 43 = .ok (.bipush 10, 2) := by decide +kernel
theorem dX4_init_45 : decode cX4_init 45 = .ok (.multianewarray 19 2, 4) := by decide +kernel
theorem dX4_init_49 : decode cX4_init 49 = .ok (.putfield 27, 3) := by decide +kernel
theorem dX4_init_52 : decode cX4_init 52 = .ok (.aload_n 0, 1) := by decide +kernel
theorem dX4_init_53 : decode cX4_init 53 = .ok (.bipush 40, 2) := by decide +kernel
theorem dX4_init_55 : decode cX4_init 55 = .ok (.bipush 10, 2) := by decide +kernel
theorem dX4_init_57 : decode cX4_init 57 = .ok (.multianewarray 30 2, 4) := by decide +kernel
theorem dX4_init_61 : decode cX4_init 61 = .ok (.putfield 32, 3) := by decide +kernel
theorem dX4_init_64 : decode cX4_init 64 = .ok (.return_, 1) := by decide +kernel
theorem dX5_init_0 : decode cX5_init 0 = .ok (.aload_n 0, 1) := by decide +kernel
theorem dX5_init_1 : decode cX5_init 1 = .ok (.invokespecial 3, 3) := by decide +kernel
theorem dX5_init_4 : decode cX5_init 4 = .ok (.aload_n 0, 1) := by decide +kernel
theorem dX5_init_5 : decode cX5_init 5 = .ok (.iconst 4, 1) := by decide +kernel
theorem dX5_init_6 : decode cX5_init 6 = .ok (.newarray .int, 2) := by decide +kernel
theorem dX5_init_8 : decode cX5_init 8 = .ok (.putfield 9, 3) := by decide +kernel
theorem dX5_init_11 : decode cX5_init 11 = .ok (.aload_n 0, 1) := by decide +kernel
theorem dX5_init_12 : decode cX5_init 12 = .ok (.iconst 3, 1) := by decide +kernel
theorem dX5_init_13 : decode cX5_init 13 = .ok (.newarray .int, 2) := by decide +kernel
theorem dX5_init_15 : decode cX5_init 15 = .ok (.putfield 15, 3) := by decide +kernel
theorem dX5_init_18 : decode cX5_init 18 = .ok (.aload_n 0, 1) := by decide +kernel
theorem dX5_init_19 : decode cX5_init 19 = .ok (.iconst 3, 1) := by decide +kernel
theorem dX5_init_20 : decode cX5_init 20 = .ok (.newarray .int, 2) := by decide +kernel
theorem dX5_init_22 : decode cX5_init 22 = .ok (.putfield 18, 3) := by decide +kernel
theorem dX5_init_25 : decode cX5_init 25 = .ok (.aload_n 0, 1) := by decide +kernel
theorem dX5_init_26 : decode cX5_init 26 = .ok (.iconst (-1), 1) := by decide +kernel
theorem dX5_init_27 : decode cX5_init 27 = .ok (.putfield 21, 3) := by decide +kernel
theorem dX5_init_30 : decode cX5_init 30 = .ok (.aload_n 0, 1) := by decide +kernel
theorem dX5_init_31 : decode cX5_init 31 = .ok (.iconst 0, 1) := by decide +kernel
theorem dX5_init_32 : decode cX5_init 32 = .ok (.putfield 25, 3) := by decide +kernel
theorem dX5_init_35 : decode cX5_init 35 = .ok (.aload_n 0, 1) := by decide +kernel
theorem dX5_init_36 : decode cX5_init 36 = .ok (.iconst 1, 1) := by decide +kernel
theorem dX5_init_37 : decode cX5_init 37 = .ok (.putfield 28, 3) := by decide +kernel
theorem dX5_init_40 : decode cX5_init 40 = .ok (.aload_n 0, 1) := by decide +kernel
theorem dX5_init_41 : decode cX5_init 41 = .ok (.iconst (-1), 1) := by decide +kernel
theorem dX5_init_42 : decode cX5_init 42 = .ok (.putfield 31, 3) := by decide +kernel
theorem dX5_init_45 : decode cX5_init 45 = .ok (.aload_n 0, 1) := by decide +kernel
theorem dX5_init_46 : decode cX5_init 46 = .ok (.iconst 0, 1) := by decide +kernel
theorem dX5_init_47 : decode cX5_init 47 = .ok (.putfield 34, 3) := by decide +kernel
theorem dX5_init_50 : decode cX5_init 50 = .ok (.aload_n 0, 1) := by decide +kernel
theorem dX5_init_51 : decode cX5_init 51 = .ok (.iconst 4, 1) := by decide +kernel
theorem dX5_init_52 : decode cX5_init 52 = .ok (.newarray .int, 2) := by decide +kernel
theorem dX5_init_54 : decode cX5_init 54 = .ok (.putfield 37, 3) := by decide +kernel
theorem dX5_init_57 : decode cX5_init 57 = .ok (.aload_n 0, 1) := by decide +kernel
theorem dX5_init_58 : decode cX5_init 58 = .ok (.iconst 3, 1) := by decide +kernel
theorem dX5_init_59 : decode cX5_init 59 = .ok (.newarray .int, 2) := by decide +kernel
theorem dX5_init_61 : decode cX5_init 61 = .ok (.putfield 40, 3) := by decide +kernel
theorem dX5_init_64 : decode cX5_init 64 = .ok (.aload_n 0, 1) := by decide +kernel
theorem dX5_init_65 : decode cX5_init 65 = .ok (.iconst 0, 1) := by decide +kernel
theorem dX5_init_66 : decode cX5_init 66 = .ok (.putfield 43, 3) := by decide +kernel
theorem dX5_init_69 : decode cX5_init 69 = .ok (.aload_n 0, 1) := by decide +kernel
theorem dX5_init_70 : decode cX5_init 70 = .ok (.lconst 0, 1) := by decide +kernel
theorem dX5_init_71 : decode cX5_init 71 = .ok (.putfield 46, 3) := by decide +kernel
theorem dX5_init_74 : decode cX5_init 74 = .ok (.aload_n 0, 1) := by decide +kernel
theorem dX5_init_75 : decode cX5_init 75 = .ok (.lconst 1, 1) := by decide +kernel
theorem dX5_init_76 : decode cX5_init 76 = .ok (.putfield 50, 3) := by decide +kernel
theorem dX5_init_79 : decode cX5_init 79 = .ok (.aload_n 0, 1) := by decide +kernel
theorem dX5_init_80 : decode cX5_init 80 = .ok (.aload_n 1, 1) := by decide +kernel
theorem dX5_init_81 : decode cX5_init 81 = .ok (.putfield 53, 3) := by decide +kernel
theorem dX5_init_84 : decode cX5_init 84 = .ok (.aload_n 0, 1) := by decide +kernel
theorem dX5_init_85 : decode cX5_init 85 = .ok (.aload_n 2, 1) := by decide +kernel
theorem dX5_init_86 : decode cX5_init 86 = .ok (.putfield 57, 3) := by decide +kernel
theorem dX5_init_89 : decode cX5_init 89 = .ok (.return_, 1) := by decide +kernel
theorem dX6_init_0 : decode cX6_init 0 = .ok (.aload_n 0, 1) := by decide +kernel
theorem dX6_init_1 : decode cX6_init 1 = .ok (.invokespecial 3, 3) := by decide +kernel
theorem dX6_init_4 : decode cX6_init 4 = .ok (.aload_n 0, 1) := by decide +kernel
theorem dX6_init_5 : decode cX6_init 5 = .ok (.iconst 0, 1) := by decide +kernel
theorem dX6_init_6 : decode cX6_init 6 = .ok (.putfield 9, 3) := by decide +kernel
theorem dX6_init_9 : decode cX6_init 9 = .ok (.aload_n 0, 1) := by decide +kernel
theorem dX6_init_10 : decode cX6_init 10 = .ok (.bipush 10, 2) := by decide +kernel
theorem dX6_init_12 : decode cX6_init 12 = .ok (.bipush 10, 2) := by decide +kernel
theorem dX6_init_14 : decode cX6_init 14 = .ok (.multianewarray 15 2, 4) := by decide +kernel
theorem dX6_init_18 : decode cX6_init 18 = .ok (.putfield 17, 3) := by decide +kernel
theorem dX6_init_21 : decode cX6_init 21 = .ok (.aload_n 0, 1) := by decide +kernel
theorem dX6_init_22 : decode cX6_init 22 = .ok (.bipush 10, 2) := by decide +kernel
theorem dX6_init_24 : decode cX6_init 24 = .ok (.bipush 10, 2) := by decide +kernel
theorem dX6_init_26 : decode cX6_init 26 = .ok (.multianewarray 15 2, 4) := by decide +kernel
theorem dX6_init_30 : decode cX6_init 30 = .ok (.putfield 20, 3) := by decide +kernel
theorem dX6_init_33 : decode cX6_init 33 = .ok (.aload_n 0, 1) := by decide +kernel
theorem dX6_init_34 : decode cX6_init 34 = .ok (.bipush 10, 2) := by decide +kernel
theorem dX6_init_36 : decode cX6_init 36 = .ok (.bipush 10, 2) := by decide +kernel
theorem dX6_init_38 : decode cX6_init 38 = .ok (.multianewarray 15 2, 4) := by decide +kernel
theorem dX6_init_42 : decode cX6_init 42 = .ok (.putfield 23, 3) := by decide +kernel
theorem dX6_init_45 : decode cX6_init 45 = .ok (.iconst 0, 1) := by decide +kernel
theorem dX6_init_46 : decode cX6_init 46 = .ok (.istore_n 1, 1) := by decide +kernel
theorem dX6_init_47 : decode cX6_init 47 = .ok (.iload_n 1, 1) := by decide +kernel
theorem dX6_init_48 : decode cX6_init 48 = .ok (.bipush 10, 2) := by decide +kernel
theorem dX6_init_50 : decode cX6_init 50 = .ok (.if_icmp .ge 20, 3) := by decide +kernel
theorem dX6_init_53 : decode cX6_init 53 = .ok (.aload_n 0, 1) := by decide +kernel
theorem dX6_init_54 : decode cX6_init 54 = .ok (.getfield 23, 3) := by decide +kernel
theorem dX6_init_57 : decode cX6_init 57 = .ok (.iload_n 1, 1) := by decide +kernel
theorem dX6_init_58 : decode cX6_init 58 = .ok (.aaload, 1) := by decide +kernel
theorem dX6_init_59 : decode cX6_init 59 = .ok (.bipush 10, 2) := by decide +kernel
theorem dX6_init_61 : decode cX6_init 61 = .ok (.invokestatic 26, 3) := by decide +kernel
theorem dX6_init_64 : decode cX6_init 64 = .ok (.iinc 1 1, 3) := by decide +kernel
theorem dX6_init_67 : decode cX6_init 67 = .ok (.goto (-20), 3) := by decide +kernel
theorem dX6_init_70 : decode cX6_init 70 = .ok (.return_, 1) := by decide +kernel
theorem dX7_init_0 : decode cX7_init 0 = .ok (.aload_n 0, 1) := by decide +kernel
theorem dX7_init_1 : decode cX7_init 1 = .ok (.invokespecial 3, 3) := by decide +kernel
theorem dX7_init_4 : decode cX7_init 4 = .ok (.aload_n 0, 1) := by decide +kernel
theorem dX7_init_5 : decode cX7_init 5 = .ok (.iconst 4, 1) := by decide +kernel
theorem dX7_init_6 : decode cX7_init 6 = .ok (.newarray .int, 2) := by decide +kernel
theorem dX7_init_8 : decode cX7_init 8 = .ok (.putfield 9, 3) := by decide +kernel
theorem dX7_init_11 : decode cX7_init 11 = .ok (.aload_n 0, 1) := by decide +kernel
theorem dX7_init_12 : decode cX7_init 12 = .ok (.iconst 4, 1) := by decide +kernel
theorem dX7_init_13 : decode cX7_init 13 = .ok (.newarray .int, 2) := by decide +kernel
theorem dX7_init_15 : decode cX7_init 15 = .ok (.putfield 15, 3) := by decide +kernel
theorem dX7_init_18 : decode cX7_init 18 = .ok (.aload_n 0, 1) := by decide +kernel
theorem dX7_init_19 : decode cX7_init 19 = .ok (.iconst 4, 1) := by decide +kernel
theorem dX7_init_20 : decode cX7_init 20 = .ok (.bipush 60, 2) := by decide +kernel
theorem dX7_init_22 : decode cX7_init 22 = .ok (.multianewarray 18 2, 4) := by decide +kernel
theorem dX7_init_26 : decode cX7_init 26 = .ok (.putfield 20, 3) := by decide +kernel
theorem dX7_init_29 : decode cX7_init 29 = .ok (.aload_n 0, 1) := by decide +kernel
theorem dX7_init_30 : decode cX7_init 30 = .ok (.getfield 9, 3) := by decide +kernel
theorem dX7_init_33 : decode cX7_init 33 = .ok (.iconst (-1), 1) := by decide +kernel
theorem dX7_init_34 : decode cX7_init 34 = .ok (.invokestatic 23, 3) := by decide +kernel
theorem dX7_init_37 : decode cX7_init 37 = .ok (.return_, 1) := by decide +kernel
theorem dX8_init_0 : decode cX8_init 0 = .ok (.aload_n 0, 1) := by decide +kernel
theorem dX8_init_1 : decode cX8_init 1 = .ok (.invokespecial 1, 3) := by decide +kernel
theorem dX8_init_4 : decode cX8_init 4 = .ok (.aload_n 0, 1) := by decide +kernel
theorem dX8_init_5 : decode cX8_init 5 = .ok (.new 7, 3) := by decide +kernel
theorem dX8_init_8 : decode cX8_init 8 = .ok (.dup, 1) := by decide +kernel
theorem dX8_init_9 : decode cX8_init 9 = .ok (.invokespecial 9, 3) := by decide +kernel
theorem dX8_init_12 : decode cX8_init 12 = .ok (.putfield 10, 3) := by decide +kernel
theorem dX8_init_15 : decode cX8_init 15 = .ok (.aload_n 0, 1) := by decide +kernel
theorem dX8_init_16 : decode cX8_init 16 = .ok (.new 16, 3) := by decide +kernel
theorem dX8_init_19 : decode cX8_init 19 = .ok (.dup, 1) := by decide +kernel
theorem dX8_init_20 : decode cX8_init 20 = .ok (.invokespecial 18, 3) := by decide +kernel
theorem dX8_init_23 : decode cX8_init 23 = .ok (.putfield 19, 3) := by decide +kernel
theorem dX8_init_26 : decode cX8_init 26 = .ok (.aload_n 0, 1) := by decide +kernel
theorem dX8_init_27 : decode cX8_init 27 = .ok (.new 23, 3) := by decide +kernel
theorem dX8_init_30 : decode cX8_init 30 = .ok (.dup, 1) := by decide +kernel
theorem dX8_init_31 : decode cX8_init 31 = .ok (.invokespecial 25, 3) := by decide +kernel
theorem dX8_init_34 : decode cX8_init 34 = .ok (.putfield 26, 3) := by decide +kernel
theorem dX8_init_37 : decode cX8_init 37 = .ok (.aload_n 0, 1) := by decide +kernel
theorem dX8_init_38 : decode cX8_init 38 = .ok (.new 30, 3) := by decide +kernel
theorem dX8_init_41 : decode cX8_init 41 = .ok (.dup, 1) := by decide +kernel
theorem dX8_init_42 : decode cX8_init 42 = .ok (.invokespecial 32, 3) := by decide +kernel
theorem dX8_init_45 : decode cX8_init 45 = .ok (.putfield 33, 3) := by decide +kernel
theorem dX8_init_48 : decode cX8_init 48 = .ok (.aload_n 0, 1) := by decide +kernel
theorem dX8_init_49 : decode cX8_init 49 = .ok (.new 37, 3) := by decide +kernel
theorem dX8_init_52 : decode cX8_init 52 = .ok (.dup, 1) := by decide +kernel
theorem dX8_init_53 : decode cX8_init 53 = .ok (.aload_n 0, 1) := by decide +kernel
theorem dX8_init_54 : decode cX8_init 54 = .ok (.getfield 26, 3) := by decide +kernel
theorem dX8_init_57 : decode cX8_init 57 = .ok (.aload_n 0, 1) := by decide +kernel
theorem dX8_init_58 : decode cX8_init 58 = .ok (.getfield 33, 3) := by decide +kernel
theorem dX8_init_61 : decode cX8_init 61 = .ok (.invokespecial 39, 3) := by decide +kernel
theorem dX8_init_64 : decode cX8_init 64 = .ok (.putfield 42, 3) := by decide +kernel
theorem dX8_init_67 : decode cX8_init 67 = .ok (.aload_n 0, 1) := by decide +kernel
theorem dX8_init_68 : decode cX8_init 68 = .ok (.new 46, 3) := by decide +kernel
theorem dX8_init_71 : decode cX8_init 71 = .ok (.dup, 1) := by decide +kernel
theorem dX8_init_72 : decode cX8_init 72 = .ok (.aload_n 0, 1) := by decide +kernel
theorem dX8_init_73 : decode cX8_init 73 = .ok (.getfield 26, 3) := by decide +kernel
theorem dX8_init_76 : decode cX8_init 76 = .ok (.aload_n 0, 1) := by decide +kernel
theorem dX8_init_77 : decode cX8_init 77 = .ok (.getfield 33, 3) := by decide +kernel
theorem dX8_init_80 : decode cX8_init 80 = .ok (.invokespecial 48, 3) := by decide +kernel
theorem dX8_init_83 : decode cX8_init 83 = .ok (.putfield 49, 3) := by decide +kernel
theorem dX8_init_86 : decode cX8_init 86 = .ok (.aload_n 0, 1) := by decide +kernel
theorem dX8_init_87 : decode cX8_init 87 = .ok (.new 53, 3) := by decide +kernel
theorem dX8_init_90 : decode cX8_init 90 = .ok (.dup, 1) := by decide +kernel
theorem dX8_init_91 : decode cX8_init 91 = .ok (.invokespecial 55, 3) := by decide +kernel
theorem dX8_init_94 : decode cX8_init 94 = .ok (.putfield 56, 3) := by decide +kernel
theorem dX8_init_97 : decode cX8_init 97 = .ok (.aload_n 0, 1) := by decide +kernel
theorem dX8_init_98 : decode cX8_init 98 = .ok (.new 60, 3) := by decide +kernel
theorem dX8_init_101 : decode cX8_init 101 = .ok (.dup, 1) := by decide +kernel
theorem dX8_init_102 : decode cX8_init 102 = .ok (.invokespecial 62, 3) := by decide +kernel
theorem dX8_init_105 : decode cX8_init 105 = .ok (.putfield 63, 3) := by decide +kernel
theorem dX8_init_108 : decode cX8_init 108 = .ok (.aload_n 0, 1) := by decide +kernel
theorem dX8_init_109 : decode cX8_init 109 = .ok (.iconst 0, 1) := by decide +kernel
theorem dX8_init_110 : decode cX8_init 110 = .ok (.putfield 67, 3) := by decide +kernel
theorem dX8_init_113 : decode cX8_init 113 = .ok (.aload_n 0, 1) := by decide +kernel
theorem dX8_init_114 : decode cX8_init 114 = .ok (.iconst 0, 1) := by decide +kernel
theorem dX8_init_115 : decode cX8_init 115 = .ok (.putfield 71, 3) := by decide +kernel
theorem dX8_init_118 : decode cX8_init 118 = .ok (.return_, 1) := by decide +kernel
theorem dX9_init_0 : decode cX9_init 0 = .ok (.aload_n 0, 1) := by decide +kernel
theorem dX9_init_1 : decode cX9_init 1 = .ok (.invokespecial 1, 3) := by decide +kernel
theorem dX9_init_4 : decode cX9_init 4 = .ok (.aload_n 0, 1) := by decide +kernel
theorem dX9_init_5 : decode cX9_init 5 = .ok (.lconst 1, 1) := by decide +kernel
theorem dX9_init_6 : decode cX9_init 6 = .ok (.putfield 7, 3) := by decide +kernel
theorem dX9_init_9 : decode cX9_init 9 = .ok (.aload_n 0, 1) := by decide +kernel
theorem dX9_init_10 : decode cX9_init 10 = .ok (.iconst 4, 1) := by decide +kernel
theorem dX9_init_11 : decode cX9_init 11 = .ok (.newarray .int, 2) := by decide +kernel
theorem dX9_init_13 : decode cX9_init 13 = .ok (.putfield 13, 3) := by decide +kernel
theorem dX9_init_16 : decode cX9_init 16 = .ok (.aload_n 0, 1) := by decide +kernel
theorem dX9_init_17 : decode cX9_init 17 = .ok (.iconst 4, 1) := by decide +kernel
theorem dX9_init_18 : decode cX9_init 18 = .ok (.newarray .int, 2) := by decide +kernel
theorem dX9_init_20 : decode cX9_init 20 = .ok (.dup, 1) := by decide +kernel
theorem dX9_init_21 : decode cX9_init 21 = .ok (.iconst 0, 1) := by decide +kernel
theorem dX9_init_22 : decode cX9_init 22 = .ok (.iconst (-1), 1) := by decide +kernel
theorem dX9_init_23 : decode cX9_init 23 = .ok (.iastore, 1) := by decide +kernel
theorem dX9_init_24 : decode cX9_init 24 = .ok (.dup, 1) := by decide +kernel
theorem dX9_init_25 : decode cX9_init 25 = .ok (.iconst 1, 1) := by decide +kernel
theorem dX9_init_26 : decode cX9_init 26 = .ok (.iconst (-1), 1) := by decide +kernel
theorem dX9_init_27 : decode cX9_init 27 = .ok (.iastore, 1) := by decide +kernel
theorem dX9_init_28 : decode cX9_init 28 = .ok (.dup, 1) := by decide +kernel
theorem dX9_init_29 : decode cX9_init 29 = .ok (.iconst 2, 1) := by decide +kernel
theorem dX9_init_30 : decode cX9_init 30 = .ok (.iconst (-1), 1) := by decide +kernel
theorem dX9_init_31 : decode cX9_init 31 = .ok (.iastore, 1) := by decide +kernel
theorem dX9_init_32 : decode cX9_init 32 = .ok (.dup, 1) := by decide +kernel
theorem dX9_init_33 : decode cX9_init 33 = .ok (.iconst 3, 1) := by decide +kernel
theorem dX9_init_34 : decode cX9_init 34 = .ok (.iconst (-1), 1) := by decide +kernel
theorem dX9_init_35 : decode cX9_init 35 = .ok (.iastore, 1) := by decide +kernel
theorem dX9_init_36 : decode cX9_init 36 = .ok (.putfield 17, 3) := by decide +kernel
theorem dX9_init_39 : decode cX9_init 39 = .ok (.aload_n 0, 1) := by decide +kernel
theorem dX9_init_40 : decode cX9_init 40 = .ok (.sipush 240, 3) := by decide +kernel
theorem dX9_init_43 : decode cX9_init 43 = .ok (.newarray .long, 2) := by decide +kernel
theorem dX9_init_45 : decode cX9_init 45 = .ok (.putfield 20, 3) := by decide +kernel
theorem dX9_init_48 : decode cX9_init 48 = .ok (.aload_n 0, 1) := by decide +kernel
theorem dX9_init_49 : decode cX9_init 49 = .ok (.bipush 100, 2) := by decide +kernel
theorem dX9_init_51 : decode cX9_init 51 = .ok (.newarray .int, 2) := by decide +kernel
theorem dX9_init_53 : decode cX9_init 53 = .ok (.putfield 24, 3) := by decide +kernel
theorem dX9_init_56 : decode cX9_init 56 = .ok (.aload_n 0, 1) := by decide +kernel
theorem dX9_init_57 : decode cX9_init 57 = .ok (.bipush 100, 2) := by decide +kernel
theorem dX9_init_59 : decode cX9_init 59 = .ok (.newarray .int, 2) := by decide +kernel
theorem dX9_init_61 : decode cX9_init 61 = .ok (.putfield 27, 3) := by decide +kernel
theorem dX9_init_64 : decode cX9_init 64 = .ok (.aload_n 0, 1) := by decide +kernel
theorem dX9_init_65 : decode cX9_init 65 = .ok (.bipush 100, 2) := by decide +kernel
theorem dX9_init_67 : decode cX9_init 67 = .ok (.newarray .int, 2) := by decide +kernel
theorem dX9_init_69 : decode cX9_init 69 = .ok (.putfield 30, 3) := by decide +kernel
theorem dX9_init_72 : decode cX9_init 72 = .ok (.aload_n 0, 1) := by decide +kernel
theorem dX9_init_73 : decode cX9_init 73 = .ok (.bipush 100, 2) := by decide +kernel
theorem dX9_init_75 : decode cX9_init 75 = .ok (.newarray .int, 2) := by decide +kernel
theorem dX9_init_77 : decode cX9_init 77 = .ok (.putfield 33, 3) := by decide +kernel
theorem dX9_init_80 : decode cX9_init 80 = .ok (.aload_n 0, 1) := by decide +kernel
theorem dX9_init_81 : decode cX9_init 81 = .ok (.bipush 100, 2) := by decide +kernel
theorem dX9_init_83 : decode cX9_init 83 = .ok (.newarray .int, 2) := by decide +kernel
theorem dX9_init_85 : decode cX9_init 85 = .ok (.putfield 36, 3) := by decide +kernel
theorem dX9_init_88 : decode cX9_init 88 = .ok (.aload_n 0, 1) := by decide +kernel
theorem dX9_init_89 : decode cX9_init 89 = .ok (.bipush 60, 2) := by decide +kernel
theorem dX9_init_91 : decode cX9_init 91 = .ok (.newarray .int, 2) := by decide +kernel
theorem dX9_init_93 : decode cX9_init 93 = .ok (.putfield 39, 3) := by decide +kernel
theorem dX9_init_96 : decode cX9_init 96 = .ok (.aload_n 0, 1) := by decide +kernel
theorem dX9_init_97 : decode cX9_init 97 = .ok (.bipush 60, 2) := by decide +kernel
theorem dX9_init_99 : decode cX9_init 99 = .ok (.newarray .int, 2) := by decide +kernel
theorem dX9_init_101 : decode cX9_init 101 = .ok (.putfield 42, 3) := by decide +kernel
theorem dX9_init_104 : decode cX9_init 104 = .ok (.aload_n 0, 1) := by decide +kernel
theorem dX9_init_105 : decode cX9_init 105 = .ok (.bipush 60, 2) := by decide +kernel
theorem dX9_init_107 : decode cX9_init 107 = .ok (.newarray .int, 2) := by decide +kernel
theorem dX9_init_109 : decode cX9_init 109 = .ok (.putfield 45, 3) := by decide +kernel
theorem dX9_init_112 : decode cX9_init 112 = .ok (.aload_n 0, 1) := by decide +kernel
theorem dX9_init_113 : decode cX9_init 113 = .ok (.bipush 60, 2) := by decide +kernel
theorem dX9_init_115 : decode cX9_init 115 = .ok (.newarray .int, 2) := by decide +kernel
theorem dX9_init_117 : decode cX9_init 117 = .ok (.putfield 48, 3) := by decide +kernel
theorem dX9_init_120 : decode cX9_init 120 = .ok (.aload_n 0, 1) := by decide +kernel
theorem dX9_init_121 : decode cX9_init 121 = .ok (.bipush 60, 2) := by decide +kernel
theorem dX9_init_123 : decode cX9_init 123 = .ok (.newarray .int, 2) := by decide +kernel
theorem dX9_init_125 : decode cX9_init 125 = .ok (.putfield 51, 3) := by decide +kernel
theorem dX9_init_128 : decode cX9_init 128 = .ok (.aload_n 0, 1) := by decide +kernel
theorem dX9_init_129 : decode cX9_init 129 = .ok (.iconst 4, 1) := by decide +kernel
theorem dX9_init_130 : decode cX9_init 130 = .ok (.newarray .int, 2) := by decide +kernel
theorem dX9_init_132 : decode cX9_init 132 = .ok (.putfield 54, 3) := by decide +kernel
theorem dX9_init_135 : decode cX9_init 135 = .ok (.aload_n 0, 1) := by decide +kernel
theorem dX9_init_136 : decode cX9_init 136 = .ok (.iconst 3, 1) := by decide +kernel
theorem dX9_init_137 : decode cX9_init 137 = .ok (.newarray .int, 2) := by decide +kernel
theorem dX9_init_139 : decode cX9_init 139 = .ok (.putfield 57, 3) := by decide +kernel
theorem dX9_init_142 : decode cX9_init 142 = .ok (.aload_n 0, 1) := by decide +kernel
theorem dX9_init_143 : decode cX9_init 143 = .ok (.iconst 4, 1) := by decide +kernel
theorem dX9_init_144 : decode cX9_init 144 = .ok (.newarray .int, 2) := by decide +kernel
theorem dX9_init_146 : decode cX9_init 146 = .ok (.putfield 60, 3) := by decide +kernel
theorem dX9_init_149 : decode cX9_init 149 = .ok (.aload_n 0, 1) := by decide +kernel
theorem dX9_init_150 : decode cX9_init 150 = .ok (.iconst 3, 1) := by decide +kernel
theorem dX9_init_151 : decode cX9_init 151 = .ok (.newarray .int, 2) := by decide +kernel
theorem dX9_init_153 : decode cX9_init 153 = .ok (.putfield 63, 3) := by decide +kernel
theorem dX9_init_156 : decode cX9_init 156 = .ok (.aload_n 0, 1) := by decide +kernel
theorem dX9_init_157 : decode cX9_init 157 = .ok (.iconst 4, 1) := by decide +kernel
theorem dX9_init_158 : decode cX9_init 158 = .ok (.newarray .int, 2) := by decide +kernel
theorem dX9_init_160 : decode cX9_init 160 = .ok (.putfield 66, 3) := by decide +kernel
theorem dX9_init_163 : decode cX9_init 163 = .ok (.aload_n 0, 1) := by decide +kernel
theorem dX9_init_164 : decode cX9_init 164 = .ok (.iconst 3, 1) := by decide +kernel
theorem dX9_init_165 : decode cX9_init 165 = .ok (.newarray .int, 2) := by decide +kernel
theorem dX9_init_167 : decode cX9_init 167 = .ok (.putfield 69, 3) := by decide +kernel
theorem dX9_init_170 : decode cX9_init 170 = .ok (.aload_n 0, 1) := by decide +kernel
theorem dX9_init_171 : decode cX9_init 171 = .ok (.sipush 671, 3) := by decide +kernel
theorem dX9_init_174 : decode cX9_init 174 = .ok (.newarray .long, 2) := by decide +kernel
theorem dX9_init_176 : decode cX9_init 176 = .ok (.putfield 72, 3) := by decide +kernel
theorem dX9_init_179 : decode cX9_init 179 = .ok (.aload_n 0, 1) := by decide +kernel
theorem dX9_init_180 : decode cX9_init 180 = .ok (.bipush 10, 2) := by decide +kernel
theorem dX9_init_182 : decode cX9_init 182 = .ok (.newarray .int, 2) := by decide +kernel
theorem dX9_init_184 : decode cX9_init 184 = .ok (.putfield 75, 3) := by decide +kernel
theorem dX9_init_187 : decode cX9_init 187 = .ok (.aload_n 0, 1) := by decide +kernel
theorem dX9_init_188 : decode cX9_init 188 = .ok (.bipush 40, 2) := by decide +kernel
theorem dX9_init_190 : decode cX9_init 190 = .ok (.newarray .int, 2) := by decide +kernel
theorem dX9_init_192 : decode cX9_init 192 = .ok (.putfield 78, 3) := by decide +kernel
theorem dX9_init_195 : decode cX9_init 195 = .ok (.aload_n 0, 1) := by decide +kernel
theorem dX9_init_196 : decode cX9_init 196 = .ok (.bipush 40, 2) := by decide +kernel
theorem dX9_init_198 : decode cX9_init 198 = .ok (.newarray .int, 2) := by decide +kernel
theorem dX9_init_200 : decode cX9_init 200 = .ok (.putfield 81, 3) := by decide +kernel
theorem dX9_init_203 : decode cX9_init 203 = .ok (.aload_n 0, 1) := by decide +kernel
theorem dX9_init_204 : decode cX9_init 204 = .ok (.bipush 40, 2) := by decide +kernel
theorem dX9_init_206 : decode cX9_init 206 = .ok (.newarray .int, 2) := by decide +kernel
theorem dX9_init_208 : decode cX9_init 208 = .ok (.putfield 84, 3) := by decide +kernel
theorem dX9_init_211 : decode cX9_init 211 = .ok (.aload_n 0, 1) := by decide +kernel
theorem dX9_init_212 : decode cX9_init 212 = .ok (.bipush 40, 2) := by decide +kernel
theorem dX9_init_214 : decode cX9_init 214 = .ok (.newarray .int, 2) := by decide +kernel
theorem dX9_init_216 : decode cX9_init 216 = .ok (.putfield 87, 3) := by decide +kernel
theorem dX9_init_219 : decode cX9_init 219 = .ok (.aload_n 0, 1) := by decide +kernel
theorem dX9_init_220 : decode cX9_init 220 = .ok (.sipush 1600, 3) := by decide +kernel
theorem dX9_init_223 : decode cX9_init 223 = .ok (.newarray .int, 2) := by decide +kernel
theorem dX9_init_225 : decode cX9_init 225 = .ok (.putfield 90, 3) := by decide +kernel
theorem dX9_init_228 : decode cX9_init 228 = .ok (.aload_n 0, 1) := by decide +kernel
theorem dX9_init_229 : decode cX9_init 229 = .ok (.sipush 400, 3) := by decide +kernel
theorem dX9_init_232 : decode cX9_init 232 = .ok (.newarray .int, 2) := by decide +kernel
theorem dX9_init_234 : decode cX9_init 234 = .ok (.putfield 93, 3) := by decide +kernel
theorem dX9_init_237 : decode cX9_init 237 = .ok (.aload_n 0, 1) := by decide +kernel
theorem dX9_init_238 : decode cX9_init 238 = .ok (.sipush 16000, 3) := by decide +kernel
theorem dX9_init_241 : decode cX9_init 241 = .ok (.newarray .boolean, 2) := by decide +kernel
theorem dX9_init_243 : decode cX9_init 243 = .ok (.putfield 96, 3) := by decide +kernel
theorem dX9_init_246 : decode cX9_init 246 = .ok (.aload_n 0, 1) := by decide +kernel
theorem dX9_init_247 : decode cX9_init 247 = .ok (.bipush 10, 2) := by decide +kernel
theorem dX9_init_249 : decode cX9_init 249 = .ok (.newarray .int, 2) := by decide +kernel
theorem dX9_init_251 : decode cX9_init 251 = .ok (.putfield 100, 3) := by decide +kernel
theorem dX9_init_254 : decode cX9_init 254 = .ok (.aload_n 0, 1) := by decide +kernel
theorem dX9_init_255 : decode cX9_init 255 = .ok (.bipush 100, 2) := by decide +kernel
theorem dX9_init_257 : decode cX9_init 257 = .ok (.newarray .int, 2) := by decide +kernel
theorem dX9_init_259 : decode cX9_init 259 = .ok (.putfield 103, 3) := by decide +kernel
theorem dX9_init_262 : decode cX9_init 262 = .ok (.aload_n 0, 1) := by decide +kernel
theorem dX9_init_263 : decode cX9_init 263 = .ok (.bipush 100, 2) := by decide +kernel
theorem dX9_init_265 : decode cX9_init 265 = .ok (.newarray .int, 2) := by decide +kernel
theorem dX9_init_267 : decode cX9_init 267 = .ok (.putfield 106, 3) := by decide +kernel
theorem dX9_init_270 : decode cX9_init 270 = .ok (.return_, 1) := by decide +kernel
/-! ===== the making of the world: its cells come one behind another ===== -/
def zwl (b : Nat) (cs : List va_E) : va_W := cs.mapIdx (fun i e => (b + i, e))
theorem zwl_get {b i : Nat} {cs : List va_E} : (zwl b cs)[i]? = cs[i]?.map (fun e => (b + i, e)) := by
  unfold zwl
  rw [List.getElem?_mapIdx]
theorem zwl_D {b : Nat} {cs : List va_E} : va_D (fun q : Nat => b ≤ q) (zwl b cs) := by
  have key : ∀ (i : Nat) (x : Nat × va_E), (zwl b cs)[i]? = some x → x.1 = b + i := by
    intro i x h
    rw [zwl_get] at h
    cases hq : cs[i]? with
    | none => rw [hq] at h; cases h
    | some e => rw [hq] at h; cases h; rfl
  refine ⟨fun i j x y hi hj hxy => ?_, fun i x hi => ?_⟩
  · have := key i x hi
    have := key j y hj
    omega
  · show b ≤ x.1
    have := key i x hi
    omega
theorem zwl_set {b i : Nat} {cs : List va_E} {e : va_E} : (zwl b cs).set i (b + i, e) = zwl b (cs.set i e) := by
  apply List.ext_getElem?
  intro j
  rw [List.getElem?_set, zwl_get, zwl_get, List.getElem?_set]
  have hlen : (zwl b cs).length = cs.length := by unfold zwl; exact List.length_mapIdx
  rw [hlen]
  by_cases h : i = j
  · subst h
    by_cases h2 : i < cs.length
    · simp [h2]
    · simp [h2]
  · simp [h]
theorem zwl_app {b : Nat} {cs ds : List va_E} : zwl b (cs ++ ds) = zwl b cs ++ zwl (b + cs.length) ds := by
  apply List.ext_getElem?
  intro j
  have hlen : (zwl b cs).length = cs.length := by unfold zwl; exact List.length_mapIdx
  rw [zwl_get]
  by_cases h : j < cs.length
  · rw [List.getElem?_append_left h, List.getElem?_append_left (by rw [hlen]; exact h), zwl_get]
  · rw [List.getElem?_append_right (by omega), List.getElem?_append_right (by rw [hlen]; omega), zwl_get, hlen]
    cases ds[j - cs.length]? with
    | none => rfl
    | some e => show some (b + j, e) = some (b + cs.length + (j - cs.length), e); rw [show b + j = b + cs.length + (j - cs.length) by omega]
/-- the heap holds, from base on, the cells pre (n0 of them) and L, and no more -/
def zHp (D : va_G) (base n0 : Nat) (pre L : List va_E) (H : Heap) : Prop := pre.length = n0 ∧ H.size = base + (n0 + L.length) ∧ va_P D zCl (zwl base (pre ++ L)) H
theorem zHp_at {D : va_G} {base n0 j : Nat} {pre L : List va_E} {H : Heap} {e : va_E} (h : zHp D base n0 pre L H) (hj : L[j]? = some e) : (zwl base (pre ++ L))[n0 + j]? = some (base + (n0 + j), e) := by
  rw [zwl_get, List.getElem?_append_right (by rw [h.1]; omega), h.1, Nat.add_sub_cancel_left, hj]
  rfl
theorem zHp_set {D : va_G} {base n0 j : Nat} {pre L : List va_E} {H H1 : Heap} {e0 e : va_E} (h : zHp D base n0 pre L H) (hj : L[j]? = some e0) (hz : H1.size = H.size) (hP : va_P D zCl ((zwl base (pre ++ L)).set (n0 + j) (base + (n0 + j), e)) H1) : zHp D base n0 pre (L.set j e) H1 := by
  refine ⟨h.1, by rw [hz, List.length_set]; exact h.2.1, ?_⟩
  rw [zwl_set] at hP
  have q : (pre ++ L).set (n0 + j) e = pre ++ L.set j e := by
    rw [List.set_append_right (n0 + j) e (by rw [h.1]; omega), h.1, Nat.add_sub_cancel_left]
  rw [q] at hP
  exact hP
theorem zHp_push {D : va_G} {base n0 : Nat} {pre L M : List va_E} {H H1 : Heap} (h : zHp D base n0 pre L H) (hz : H1.size = H.size + M.length) (ho : ∀ q, q < H.size → H1[q]? = H[q]?) (hM : ∀ (i : Nat) (e : va_E), M[i]? = some e → va_at D zCl (H.size + i, e) H1) : zHp D base n0 pre (L ++ M) H1 := by
  refine ⟨h.1, by rw [hz, h.2.1, List.length_append]; omega, ?_⟩
  rw [← List.append_assoc, zwl_app]
  refine va_P.app (h.2.2.kept (fun k q hk => ho q.1 ((h.2.2 k q hk).lt))) (fun k q hk => ?_)
  rw [zwl_get] at hk
  cases hq : M[k]? with
  | none => rw [hq] at hk; cases hk
  | some e =>
    rw [hq] at hk
    cases hk
    have := hM k e hq
    rw [h.2.1] at this
    rw [List.length_append, h.1]
    exact this
theorem zHp_part {D : va_G} {base n0 : Nat} {pre L M : List va_E} {H : Heap} : zHp D base n0 pre (L ++ M) H ↔ pre.length = n0 ∧ zHp D base (n0 + L.length) (pre ++ L) M H := by
  unfold zHp
  rw [List.append_assoc, List.length_append, List.length_append]
  constructor
  · intro h
    exact ⟨h.1, by rw [h.1], by rw [h.2.1]; omega, h.2.2⟩
  · intro h
    exact ⟨h.1, by rw [h.2.2.1]; omega, h.2.2.2⟩
def zOv (U : State) : Prop := (Cond.arrayOver (.array .int)).before #[] U = true ∧ (Cond.arrayOver (.array .long)).before #[] U = true
theorem zOv_moved {s U : State} (hal : s.vm.Alike U.vm) (h : zOv s) : zOv U := ⟨Jvm.Stand.arrayOver_alikeB hal h.1, Jvm.Stand.arrayOver_alikeB hal h.2⟩
def zTa (cA : Nat → ClassId) : List (ClassId × FieldType) := [(cA 0, .int), (cA 1, .long), (cA 2, .boolean), (cA 3, .array .int), (cA 4, .array .long)]
abbrev zY : Type := Program × Launch × Env × Room × State × MethodId × Array Value × List Frame × Method × Code × (State → Prop) × va_G × (Nat → ClassId) × Nat × Nat × List va_E × Nat
def zU (Y : zY) (nc ns pc : Nat) (lv : List (Nat × Value)) (st : List Value) (L : List va_E) : Prop := match Y with
  | (p, l, e, R, s, m, args, below, meth, c, Qf, D, cA, base, n0, pre, nL) => ∀ (H : Heap) (locs : List Loc) (ls : Array Slot), zHp D base n0 pre L H → va_S (fun q : Nat => base ≤ q) s.heap H locs → lv_has ls nL lv → W p l e R s m args below meth c H locs nc ns Qf (F0 m pc ls st)
def zUC (Y : zY) (cc : ByteArray) (own : String) (nL0 mc ms d : Nat) : Prop := match Y with
  | (p, l, e, R, s, m, args, below, meth, c, Qf, D, cA, base, n0, pre, nL) => p.tables.exec = Jvm.exec ∧ c.code = cc ∧ (nL = nL0 ∧ c.maxLocals = nL0) ∧ s.vm.findClass own = some m.cls ∧ (∀ w ∈ zW, w.before args s = true) ∧ va_K D zCl (zTa cA) s ∧ (∀ w ∈ zNst, va_Nw w s) ∧ zOv s ∧ base ≤ s.heap.size ∧ mc ≤ R.cells ∧ ms ≤ R.slots ∧ d ≤ R.frames ∧ 40 * d ≤ R.locals
def zYl (Y : zY) : Launch := Y.2.1
def zYD (Y : zY) : va_G := Y.2.2.2.2.2.2.2.2.2.2.2.1
def zYa (Y : zY) : Nat → ClassId := Y.2.2.2.2.2.2.2.2.2.2.2.2.1
def zYb (Y : zY) : Nat := Y.2.2.2.2.2.2.2.2.2.2.2.2.2.1
def zYn (Y : zY) : Nat := Y.2.2.2.2.2.2.2.2.2.2.2.2.2.2.1
def zYp (Y : zY) : List va_E := Y.2.2.2.2.2.2.2.2.2.2.2.2.2.2.2.1
/-- how a constructor's walk ends: with the cells L, mc new ones of ms slots -/
def zUR (Y : zY) (mc ms : Nat) (P2 : List va_E → Prop) : Prop := match Y with
  | (p, l, e, R, s, m, args, below, meth, c, Qf, D, cA, base, n0, pre, nL) => meth.sig.returnType = none ∧ meth.locks = false ∧ meth.name = "<init>" ∧ Qf = MQ below (fun _ st oc t => (oc = .returned none ∧ ∃ L2, P2 L2 ∧ zHp D base n0 pre L2 t.heap) ∧ va_F (fun q : Nat => base ≤ q) st t) args s mc ms (fun q : Nat => base ≤ q)
def zUrm (d mc ms : Nat) : Room := { frames := d, cells := mc, slots := ms, locals := 40 * d }
def zUPc (D : va_G) (cA : Nat → ClassId) (base n0 : Nat) (pre : List va_E) (vs : List Value) (L : List va_E) : Array Value → State → Prop := va_Pc vs (fun U => zHp D base n0 pre L U.heap ∧ va_K D zCl (zTa cA) U ∧ (∀ w ∈ zNst, va_Nw w U) ∧ zOv U ∧ base ≤ U.heap.size)
/-- constructor y, called with vs where the cells are L, comes back where they are L2 -/
def zUT (l : Launch) (d mc ms : Nat) (D : va_G) (cA : Nat → ClassId) (base n0 : Nat) (pre : List va_E) (y : MethodName) (cc : ByteArray) (nL : Nat) (vs : List Value) (L : List va_E) (P2 : List va_E → Prop) : Prop :=
  Met l y (.code y cc nL none :: zW) (zUrm d mc ms) (zUPc D cA base n0 pre vs L) (fun _ st oc t => (oc = .returned none ∧ ∃ L2, P2 L2 ∧ zHp D base n0 pre L2 t.heap) ∧ va_F (fun q : Nat => base ≤ q) st t) mc ms (fun q : Nat => base ≤ q)
theorem zUPc_blind {D : va_G} {cA : Nat → ClassId} {base n0 : Nat} {pre : List va_E} {vs : List Value} {L : List va_E} : FrameBlind (zUPc D cA base n0 pre vs L) := fun a U g mk q => ⟨q.1, q.2.1, va_K.moved (u := U) (U := U.calling g mk a) (Vm.Alike.refl U.vm) q.2.2.1, fun w hw => va_Nw.same (u := U) (zNst_on w hw) rfl (q.2.2.2.1 w hw), zOv_moved (s := U) (U := U.calling g mk a) (Vm.Alike.refl U.vm) q.2.2.2.2.1, q.2.2.2.2.2⟩
theorem u_entry {l : Launch} {d mc ms : Nat} {D : va_G} {cA : Nat → ClassId} {base n0 : Nat} {pre : List va_E} {y : MethodName} {cc : ByteArray} {nL : Nat} {vs : List Value} {L : List va_E} {P2 : List va_E → Prop} {lv : List (Nat × Value)} (hpl : plainName y.cls = true) (hy : y.name = "<init>") (hlen : (lg_sl vs).length ≤ nL) (hlv : lv_args 0 vs = lv)
    (K : ∀ Y : zY, zUC Y cc y.cls nL mc ms d → zUR Y mc ms P2 → zYl Y = l → zYD Y = D → zYa Y = cA → zYb Y = base → zYn Y = n0 → zYp Y = pre → zU Y 0 0 0 lv [] L) : zUT l d mc ms D cA base n0 pre y cc nL vs L P2 := by
  refine Met.ofW (cc := cc) (maxL := nL) (ret := none) hpl rfl ?_
  intro p e s m args below meth c s₁ B hml hv
  obtain ⟨rfl, hP, hK, hN, hO, hbs⟩ := hv
  have hts := atoms_spec (ws := .code y cc nL none :: zW) B.pre
  have hown : s.vm.findClass y.cls = some m.cls := findClass_of_methodNamed B.named
  have hin : meth.name = "<init>" := (name_of_methodNamed B.named B.method).1.trans hy
  have k := K (p, l, e, (headSpec (.code y cc nL none :: zW) (zUrm d mc ms)).room, s, m, vs.toArray, below, meth, c, MQ below (fun _ st oc t => (oc = .returned none ∧ ∃ L2, P2 L2 ∧ zHp D base n0 pre L2 t.heap) ∧ va_F (fun q : Nat => base ≤ q) st t) vs.toArray s mc ms (fun q : Nat => base ≤ q), D, cA, base, n0, pre, nL)
    ⟨B.exec, B.bytes, ⟨rfl, hml⟩, hown, fun w hw => hts w (List.mem_cons_of_mem _ hw), hK, hN, hO, hbs, Nat.le_refl mc, Nat.le_refl ms, Nat.le_refl d, Nat.le_refl (40 * d)⟩
    ⟨B.returns, B.notSynchronized, hin, rfl⟩ rfl rfl rfl rfl rfl rfl
  have hl := lv_entry vs (n := nL) hlen
  rw [hlv] at hl
  rw [lg_entry_eq]
  exact k s.heap [] _ hP va_S.rf hl
theorem fl_met (l : Launch) (a n : Nat) (cA : ClassId) (v : Int32) (f : Nat → Int32) (hn : n < 2 ^ 31) : Met l yJ7_fill_53178 (.code yJ7_fill_53178 cJ7_fill_53178 4 none :: zW) (zUrm 1 0 0) (va_Pc [.ref a, .int v] (fun U => U.heap[a]? = some (vp_cell cA (n, .inl f)) ∧ ArrOfT U cA .int)) (fun _ st o t => o = .returned none ∧ t.heap.size = st.heap.size ∧ (∃ g : Nat → Int32, (∀ i, i < n → g i = v) ∧ t.heap[a]? = some (vp_cell cA (n, .inl g))) ∧ ∀ q : Nat, q ≠ a → t.heap[q]? = st.heap[q]?) 0 0 (fun q => q = a) := by
  refine Met.ofW (cc := cJ7_fill_53178) (maxL := 4) (ret := none) (by decide) rfl ?_
  intro p e s m args below meth c s₁ B hml hv
  obtain ⟨rfl, hP, hA⟩ := hv
  have hx := B.exec
  have hb := B.bytes
  have hr := B.returns
  have hlocks := B.notSynchronized
  have hl := lv_entry ([.ref a, .int v]) (n := 4) (Nat.le_of_ble_eq_true rfl)
  rw [lg_entry_eq]
  generalize (lg_sl ([.ref a, .int v]) ++ List.replicate (4 - (lg_sl ([.ref a, .int v])).length) Slot.unset).toArray = ls at hl ⊢
  have hl : lv_has ls 4 [(0, .ref a), (1, .int v)] := hl
  generalize hRm : (headSpec (.code yJ7_fill_53178 cJ7_fill_53178 4 none :: zW) (zUrm 1 0 0)).room = R
  have key : ∀ (k i : Nat) (g : Nat → Int32) (H : Heap) (locs : List Loc) (ls : Array Slot), n - i = k → i ≤ n → (∀ j, j < i → g j = v) → H[a]? = some (vp_cell cA (n, .inl g)) → H.size = s.heap.size → (∀ q : Nat, q ≠ a → H[q]? = s.heap[q]?) → (∀ q ∈ locs, q.base = a) → lv_has ls 4 [(3, .int (nI n)), (2, .int (nI i)), (0, .ref a), (1, .int v)] →
      W p l e R s m [Value.ref a, Value.int v].toArray below meth c H locs 0 0 (MQ below (fun _ st o t => o = .returned none ∧ t.heap.size = st.heap.size ∧ (∃ g : Nat → Int32, (∀ i, i < n → g i = v) ∧ t.heap[a]? = some (vp_cell cA (n, .inl g))) ∧ ∀ q : Nat, q ≠ a → t.heap[q]? = st.heap[q]?) [Value.ref a, Value.int v].toArray s 0 0 (fun q => q = a)) (F0 m 5 ls []) := by
    intro k
    induction k with
    | zero =>
      intro i g H locs ls hk hi hg hc9 hz ho hlo hl
      refine lv_iload_n hx hb dJ7_fill_53178_5 rfl (lv_at hl 1 rfl) ?_
      refine lv_iload_n hx hb dJ7_fill_53178_6 rfl (lv_at hl 0 rfl) ?_
      refine lv_icmp_ge (tgt := 20) hx hb dJ7_fill_53178_7 (by decide) (fun _ => ?_) (fun hc => ?_)
      · exact W.vret hx hb hr (fun t ht hW => ⟨rfl, by rw [ht]; exact hz, ⟨g, fun j hj => hg j (by omega), by rw [ht]; exact hc9⟩, fun q hq => by rw [ht]; exact ho q hq⟩) hlo dJ7_fill_53178_20
      · exact absurd (nI_le (show n ≤ i by omega) (by omega)) hc
    | succ k ih =>
      intro i g H locs ls hk hi hg hc9 hz ho hlo hl
      have hlt : i < n := by omega
      refine lv_iload_n hx hb dJ7_fill_53178_5 rfl (lv_at hl 1 rfl) ?_
      refine lv_iload_n hx hb dJ7_fill_53178_6 rfl (lv_at hl 0 rfl) ?_
      refine lv_icmp_ge (tgt := 20) hx hb dJ7_fill_53178_7 (by decide) (fun hc => absurd hc (nI_ge hlt hn)) (fun _ => ?_)
      refine lv_aload_n hx hb dJ7_fill_53178_10 rfl (lv_at hl 2 rfl) ?_
      refine lv_iload_n hx hb dJ7_fill_53178_11 rfl (lv_at hl 1 rfl) ?_
      refine lv_iload_n hx hb dJ7_fill_53178_12 rfl (lv_at hl 3 rfl) ?_
      refine W.iast hx hb hc9 (hA n (fun j => .int (g j))) (fun q => by cases q) (by show ¬ (nI i < 0 ∨ (arrV _ _ _).slots.size ≤ _); rw [arrV_size]; exact nI_in hlt hn) rfl rfl dJ7_fill_53178_13 fun H1 e1 z oq => ?_
      refine W.eq (g2 := F0 m 14 ls []) rfl ?_
      refine lv_iinc (v := nI (i + 1)) (lv' := [(2, .int (nI (i + 1))), (3, .int (nI n)), (0, .ref a), (1, .int v)]) hx hb dJ7_fill_53178_14 hl (k := 1) rfl (by rw [nI_succ]; rfl) (by decide) rfl (fun ls hl => ?_)
      refine lv_goto (tgt := 5) hx hb dJ7_fill_53178_17 (by decide) ?_
      refine ih (i + 1) (upd g i v) H1 _ ls (by omega) (by omega) (fun j hj => ?_) ?_ (z.trans hz) (fun q hq => (oq q hq).trans (ho q hq)) (fun q hq => ?_) (lv_sub hl [1, 0, 2, 3] rfl)
      · by_cases hji : j = i
        · subst hji
          simp [upd]
        · simp only [upd, if_neg hji]
          exact hg j (by omega)
      · rw [e1, vp_cell_i, vp_cell_i, arrV_store, nI_clamp (by omega : i < 2 ^ 31)]
        congr 2
        funext q
        by_cases hq : q = i
        · subst hq
          simp [updV, upd]
        · simp [updV, upd, hq]
      · rcases List.mem_append.mp hq with h | h
        · exact hlo q h
        · rw [List.mem_singleton] at h
          rw [h]
  refine lv_iconst (v := 0) hx hb dJ7_fill_53178_0 (by decide) ?_
  refine lv_istore_n (lv' := [(2, .int 0), (0, .ref a), (1, .int v)]) hx hb dJ7_fill_53178_1 rfl hl (by decide) rfl (fun ls hl => ?_)
  refine lv_aload_n hx hb dJ7_fill_53178_2 rfl (lv_at hl 1 rfl) ?_
  refine W.alen (n := nI n) hx hb hP (hA n (fun j => .int (f j))) (by rw [vp_cell_i, arrV_size] <;> rfl) rfl rfl dJ7_fill_53178_3 ?_
  refine lv_istore_n (lv' := [(3, .int (nI n)), (2, .int 0), (0, .ref a), (1, .int v)]) hx hb dJ7_fill_53178_4 rfl hl (by decide) rfl (fun ls hl => ?_)
  exact key n 0 f s.heap [] ls rfl (Nat.zero_le n) (fun j hj => absurd hj (Nat.not_lt_zero j)) hP rfl (fun _ _ => rfl) (fun q h => by cases h) hl
section ZUROWS
variable {Y : zY} {cc : ByteArray} {own : String} {nL mc ms d nc ns pc : Nat} {lv : List (Nat × Value)} {st : List Value} {L : List va_E}
theorem u_iconst (C : zUC Y cc own nL mc ms d) {n : Int} (v : Int32) (hd : decode cc pc = .ok (.iconst n, 1)) (hv : Int32.ofInt n = v) (K : zU Y nc ns (pc + 1) lv (.int v :: st) L) : zU Y nc ns pc lv (st) L := by
  obtain ⟨p, l, e, R, s, m, args, below, meth, c, Qf, D, cA, base, n0, pre, nX⟩ := Y
  obtain ⟨hx, hb, ⟨hnX, hml⟩, hown, hts, hK, hN, hO, hbs, hRc, hRs, hf, hlo⟩ := C
  exact fun H locs ls hP hS hL => lv_iconst hx hb hd hv (K H locs ls hP hS hL)
theorem u_bipush (C : zUC Y cc own nL mc ms d) {n : Int} (v : Int32) (hd : decode cc pc = .ok (.bipush n, 2)) (hv : (Int8.ofInt n).toInt32 = v) (K : zU Y nc ns (pc + 2) lv (.int v :: st) L) : zU Y nc ns pc lv (st) L := by
  obtain ⟨p, l, e, R, s, m, args, below, meth, c, Qf, D, cA, base, n0, pre, nX⟩ := Y
  obtain ⟨hx, hb, ⟨hnX, hml⟩, hown, hts, hK, hN, hO, hbs, hRc, hRs, hf, hlo⟩ := C
  exact fun H locs ls hP hS hL => lv_bipush hx hb hd hv (K H locs ls hP hS hL)
theorem u_sipush (C : zUC Y cc own nL mc ms d) {n : Int} (v : Int32) (hd : decode cc pc = .ok (.sipush n, 3)) (hv : (Int16.ofInt n).toInt32 = v) (K : zU Y nc ns (pc + 3) lv (.int v :: st) L) : zU Y nc ns pc lv (st) L := by
  obtain ⟨p, l, e, R, s, m, args, below, meth, c, Qf, D, cA, base, n0, pre, nX⟩ := Y
  obtain ⟨hx, hb, ⟨hnX, hml⟩, hown, hts, hK, hN, hO, hbs, hRc, hRs, hf, hlo⟩ := C
  exact fun H locs ls hP hS hL => lv_sipush hx hb hd hv (K H locs ls hP hS hL)
theorem u_lconst (C : zUC Y cc own nL mc ms d) {n : Fin 2} (v : Int64) (hd : decode cc pc = .ok (.lconst n, 1)) (hv : Int64.ofNat (n : Nat) = v) (K : zU Y nc ns (pc + 1) lv (.long v :: st) L) : zU Y nc ns pc lv (st) L := by
  obtain ⟨p, l, e, R, s, m, args, below, meth, c, Qf, D, cA, base, n0, pre, nX⟩ := Y
  obtain ⟨hx, hb, ⟨hnX, hml⟩, hown, hts, hK, hN, hO, hbs, hRc, hRs, hf, hlo⟩ := C
  exact fun H locs ls hP hS hL => lv_lconst hx hb hd hv (K H locs ls hP hS hL)
theorem u_aload_n (C : zUC Y cc own nL mc ms d) {k : Fin 4} {i : Nat} {x : Nat} (hd : decode cc pc = .ok (.aload_n k, 1)) (hi : (k : Nat) = i) (j : Nat) (h : lv[j]? = some (i, .ref x)) (K : zU Y nc ns (pc + 1) lv (.ref x :: st) L) : zU Y nc ns pc lv (st) L := by
  obtain ⟨p, l, e, R, s, m, args, below, meth, c, Qf, D, cA, base, n0, pre, nX⟩ := Y
  obtain ⟨hx, hb, ⟨hnX, hml⟩, hown, hts, hK, hN, hO, hbs, hRc, hRs, hf, hlo⟩ := C
  exact fun H locs ls hP hS hL => lv_aload_n hx hb hd hi (lv_at hL j h) (K H locs ls hP hS hL)
theorem u_iload_n (C : zUC Y cc own nL mc ms d) {k : Fin 4} {i : Nat} {x : Int32} (hd : decode cc pc = .ok (.iload_n k, 1)) (hi : (k : Nat) = i) (j : Nat) (h : lv[j]? = some (i, .int x)) (K : zU Y nc ns (pc + 1) lv (.int x :: st) L) : zU Y nc ns pc lv (st) L := by
  obtain ⟨p, l, e, R, s, m, args, below, meth, c, Qf, D, cA, base, n0, pre, nX⟩ := Y
  obtain ⟨hx, hb, ⟨hnX, hml⟩, hown, hts, hK, hN, hO, hbs, hRc, hRs, hf, hlo⟩ := C
  exact fun H locs ls hP hS hL => lv_iload_n hx hb hd hi (lv_at hL j h) (K H locs ls hP hS hL)
theorem u_dup (C : zUC Y cc own nL mc ms d) {a : Value} (hd : decode cc pc = .ok (.dup, 1)) (h1 : a.category = 1) (K : zU Y nc ns (pc + 1) lv (a :: a :: st) L) : zU Y nc ns pc lv (a :: st) L := by
  obtain ⟨p, l, e, R, s, m, args, below, meth, c, Qf, D, cA, base, n0, pre, nX⟩ := Y
  obtain ⟨hx, hb, ⟨hnX, hml⟩, hown, hts, hK, hN, hO, hbs, hRc, hRs, hf, hlo⟩ := C
  exact fun H locs ls hP hS hL => lv_dup hx hb hd h1 (K H locs ls hP hS hL)
theorem u_istore_n (C : zUC Y cc own nL mc ms d) {k : Fin 4} {i : Nat} {x : Int32} (lv' : List (Nat × Value)) (hd : decode cc pc = .ok (.istore_n k, 1)) (hi : (k : Nat) = i) (hn : i < nL) (hl : (i, Value.int x) :: lv.filter (fun q => !(q.1 == i) && !(q.1 + 1 == i && q.2.category == 2)) = lv') (K : zU Y nc ns (pc + 1) lv' st L) : zU Y nc ns pc lv (.int x :: st) L := by
  obtain ⟨p, l, e, R, s, m, args, below, meth, c, Qf, D, cA, base, n0, pre, nX⟩ := Y
  obtain ⟨hx, hb, ⟨hnX, hml⟩, hown, hts, hK, hN, hO, hbs, hRc, hRs, hf, hlo⟩ := C
  subst hnX
  exact fun H locs ls hP hS hL => lv_istore_n hx hb hd hi hL hn hl (fun ls' hL' => K H locs ls' hP hS hL')
theorem u_iinc (C : zUC Y cc own nL mc ms d) {i : Nat} {n : Int} {x : Int32} (v : Int32) (lv' : List (Nat × Value)) (hd : decode cc pc = .ok (.iinc i n, 3)) (j : Nat) (hk : lv[j]? = some (i, .int x)) (hv : x + Int32.ofInt n = v) (hn : i < nL) (hl : (i, Value.int v) :: lv.filter (fun q => !(q.1 == i) && !(q.1 + 1 == i && q.2.category == 2)) = lv') (K : zU Y nc ns (pc + 3) lv' st L) : zU Y nc ns pc lv st L := by
  obtain ⟨p, l, e, R, s, m, args, below, meth, c, Qf, D, cA, base, n0, pre, nX⟩ := Y
  obtain ⟨hx, hb, ⟨hnX, hml⟩, hown, hts, hK, hN, hO, hbs, hRc, hRs, hf, hlo⟩ := C
  subst hnX
  exact fun H locs ls hP hS hL => lv_iinc hx hb hd hL hk hv hn hl (fun ls' hL' => K H locs ls' hP hS hL')
theorem u_icmp_ge (C : zUC Y cc own nL mc ms d) {x y : Int32} {off : Int} {tgt : Nat} (hd : decode cc pc = .ok (.if_icmp .ge off, 3)) (ht : (pc : Int) + off = (tgt : Int)) (kt : y ≤ x → zU Y nc ns tgt lv st L) (kf : ¬ y ≤ x → zU Y nc ns (pc + 3) lv st L) : zU Y nc ns pc lv (.int y :: .int x :: st) L := by
  obtain ⟨p, l, e, R, s, m, args, below, meth, c, Qf, D, cA, base, n0, pre, nX⟩ := Y
  obtain ⟨hx, hb, ⟨hnX, hml⟩, hown, hts, hK, hN, hO, hbs, hRc, hRs, hf, hlo⟩ := C
  exact fun H locs ls hP hS hL => lv_icmp_ge hx hb hd ht (fun h => kt h H locs ls hP hS hL) (fun h => kf h H locs ls hP hS hL)
theorem u_goto (C : zUC Y cc own nL mc ms d) {off : Int} {tgt : Nat} (hd : decode cc pc = .ok (.goto off, 3)) (ht : (pc : Int) + off = (tgt : Int)) (K : zU Y nc ns tgt lv st L) : zU Y nc ns pc lv st L := by
  obtain ⟨p, l, e, R, s, m, args, below, meth, c, Qf, D, cA, base, n0, pre, nX⟩ := Y
  obtain ⟨hx, hb, ⟨hnX, hml⟩, hown, hts, hK, hN, hO, hbs, hRc, hRs, hf, hlo⟩ := C
  exact fun H locs ls hP hS hL => lv_goto hx hb hd ht (K H locs ls hP hS hL)
theorem u_obj (C : zUC Y cc own nL mc ms d) {idx a : Nat} (hd1 : 1 ≤ d) (hl : Cond.methodLink own idx Lib.objectInit ∈ zW) (hcat : (st.map fun v => v.category).sum ≤ 8) (hd : decode cc pc = .ok (.invokespecial idx, 3)) (K : zU Y nc ns (pc + 3) lv st L) : zU Y nc ns pc lv (.ref a :: st) L := by
  obtain ⟨p, l, e, R, s, m, args, below, meth, c, Qf, D, cA, base, n0, pre, nX⟩ := Y
  obtain ⟨hx, hb, ⟨hnX, hml⟩, hown, hts, hK, hN, hO, hbs, hRc, hRs, hf, hlo⟩ := C
  refine fun H locs ls hP hS hL => W.objInit hx hb hown (hts _ hl) (hts _ kw_obj.1) (hts _ kw_obj.2) rfl (by show ls.size = _; rw [hL.1, hml, hnX]) rfl hd (Nat.le_trans hd1 hf) ?_ (W.eq (g2 := F0 m (pc + 3) ls st) rfl (K H locs ls hP hS hL))
  have := Nat.le_trans (Nat.mul_le_mul_left 40 hd1) hlo
  show 2 * 0 + _ + 12 ≤ _
  omega
theorem u_get (C : zUC Y cc own nL mc ms d) {Cn : String} {T : u_T} {N ci j fj index : Nat} {fs : List Value} {v : Value} {a : Nat} (ha : zYb Y + (zYn Y + j) = a) (hcl : zCl[ci]? = some (Cn, T, N)) (hin : ∀ w ∈ u_ws Cn T N, w ∈ zW) (hj : L[j]? = some (.inr (ci, fs))) (hfj : fj < N) (hw : Cond.fieldLink own index Cn (T fj).2.1 (T fj).2.2.1 ∈ zW) (hC : (T fj).1 = Cn) (hv : fs[fj]? = some v) (hd : decode cc pc = .ok (.getfield index, 3)) (K : zU Y nc ns (pc + 3) lv (v :: st) L) : zU Y nc ns pc lv (.ref a :: st) L := by
  obtain ⟨p, l, e, R, s, m, args, below, meth, c, Qf, D, cA, base, n0, pre, nX⟩ := Y
  obtain ⟨hx, hb, ⟨hnX, hml⟩, hown, hts, hK, hN, hO, hbs, hRc, hRs, hf, hlo⟩ := C
  subst ha
  exact fun H locs ls hP hS hL => va_get (C := Cn) (T := T) (N := N) (ci := ci) (fs := fs) hx hb hts hin hown hK hP.2.2 (n0 + j) (zHp_at hP hj) hcl fj hfj (hts _ hw) (fun x h => by rw [hC] at h; exact h) hv hd (K H locs ls hP hS hL)
theorem u_putF (C : zUC Y cc own nL mc ms d) {M9 : List va_E → Prop} (hR : zUR Y mc ms M9) {Cn : String} {T : u_T} {N ci j fj index : Nat} {fs : List Value} {v : Value} {ty : FieldType} {a : Nat} (ha : zYb Y + (zYn Y + j) = a) (hcl : zCl[ci]? = some (Cn, T, N)) (hin : ∀ w ∈ u_ws Cn T N, w ∈ zW) (ty0 : Nat → FieldType) (hty : ∀ k, k < N → parseFieldDescriptor (T k).2.2.1 = some (ty0 k)) (hnm : ∀ a, a < N → ∀ b, b < N → a ≠ b → (T a).2.1 ≠ (T b).2.1) (hj : L[j]? = some (.inr (ci, fs))) (hfj : fj < N) (hw : Cond.fieldLink own index Cn (T fj).2.1 (T fj).2.2.1 ∈ zW) (hC : (T fj).1 = Cn) (hown2 : own = Cn) (hfin : (T fj).2.2.2 = true) (hde : parseFieldDescriptor (T fj).2.2.1 = some ty) (hnr : narrow ty v = v) (hfit : fits ty v = true) (hlen : fj < fs.length) (hd : decode cc pc = .ok (.putfield index, 3)) (K : zU Y nc ns (pc + 3) lv st (L.set j (.inr (ci, fs.set fj v)))) : zU Y nc ns pc lv (v :: .ref a :: st) L := by
  obtain ⟨p, l, e, R, s, m, args, below, meth, c, Qf, D, cA, base, n0, pre, nX⟩ := Y
  obtain ⟨hx, hb, ⟨hnX, hml⟩, hown, hts, hK, hN, hO, hbs, hRc, hRs, hf, hlo⟩ := C
  subst ha
  obtain ⟨hr9, hlk9, hin9, -⟩ := hR
  intro H locs ls hP hS hL
  have he := zHp_at hP hj
  have hap := va_apart (own := own) hts hin ty0 hty hnm hK hcl
  obtain ⟨r, h1, cell, q1, q2, q3, q4⟩ := hP.2.2 _ _ he
  have hr : r = (Cn, T, N) := Option.some.inj (h1.symm.trans hcl)
  subst hr
  obtain ⟨hSl, hfc, kC, hkC, hkind⟩ := hK.1 ci _ hcl
  obtain ⟨cf, kf, fi, f, hi, hsl⟩ := hSl fj hfj
  have hlay := hts _ (hin _ (u_in_lay hfj))
  unfold u_lay at hlay
  rw [if_pos hfin] at hlay
  have hst := (u_facts hfc hkC (u_lays hts hin hfj) hi).1
  have hcf : m.cls = cf := by
    obtain ⟨_, _, c', _, _, _, -, -, hf', -, -, -, hown3, -⟩ := Cond.laysFinal_spec hlay
    have e1 : c' = cf := by have := hi.symm.trans hf'; simp at this; exact this.1.symm
    rw [hC, ← hown2] at hown3
    rw [← e1]; exact Option.some.inj (hown.symm.trans hown3)
  have h6 := u_fits hfc hkC hkind (Or.inr hlay) hi hde hnr hfit
  refine W.putFinK hx hb hown (hts _ hw) (by rw [hC] at hi; exact hi) hst hcf hin9 (by rw [q2]; exact h6) q1 q3 (by rw [hsl]; exact k2_hasslot (q4 fj hfj)) rfl rfl hd fun H' e1 e2 e3 => ?_
  rw [hsl] at e1 ⊢
  have hP1 := hP.2.2.set zwl_D he (e := .inr (ci, fs.set fj v)) ⟨_, hcl, t_OB.to (V := updV (vp_V fs) fj v) ⟨_, e1, q2, q3, t_set q4 hap hfj v⟩ (fun j _ => vp_updV_set hlen v j)⟩ e3
  exact K H' _ ls (zHp_set hP hj e2 hP1) (hS.put e2 e3 (Nat.le_add_right base _)) hL
theorem u_put (C : zUC Y cc own nL mc ms d) {Cn : String} {T : u_T} {N ci j fj index : Nat} {fs : List Value} {v : Value} {ty : FieldType} {a : Nat} (ha : zYb Y + (zYn Y + j) = a) (hcl : zCl[ci]? = some (Cn, T, N)) (hin : ∀ w ∈ u_ws Cn T N, w ∈ zW) (ty0 : Nat → FieldType) (hty : ∀ k, k < N → parseFieldDescriptor (T k).2.2.1 = some (ty0 k)) (hnm : ∀ a, a < N → ∀ b, b < N → a ≠ b → (T a).2.1 ≠ (T b).2.1) (hj : L[j]? = some (.inr (ci, fs))) (hfj : fj < N) (hw : Cond.fieldLink own index Cn (T fj).2.1 (T fj).2.2.1 ∈ zW) (hC : (T fj).1 = Cn) (hfin : (T fj).2.2.2 = false) (hde : parseFieldDescriptor (T fj).2.2.1 = some ty) (hnr : narrow ty v = v) (hfit : fits ty v = true) (hlen : fj < fs.length) (hd : decode cc pc = .ok (.putfield index, 3)) (K : zU Y nc ns (pc + 3) lv st (L.set j (.inr (ci, fs.set fj v)))) : zU Y nc ns pc lv (v :: .ref a :: st) L := by
  obtain ⟨p, l, e, R, s, m, args, below, meth, c, Qf, D, cA, base, n0, pre, nX⟩ := Y
  obtain ⟨hx, hb, ⟨hnX, hml⟩, hown, hts, hK, hN, hO, hbs, hRc, hRs, hf, hlo⟩ := C
  subst ha
  intro H locs ls hP hS hL
  have he := zHp_at hP hj
  have hap := va_apart (own := own) hts hin ty0 hty hnm hK hcl
  obtain ⟨r, h1, cell, q1, q2, q3, q4⟩ := hP.2.2 _ _ he
  have hr : r = (Cn, T, N) := Option.some.inj (h1.symm.trans hcl)
  subst hr
  obtain ⟨hSl, hfc, kC, hkC, hkind⟩ := hK.1 ci _ hcl
  obtain ⟨cf, kf, fi, f, hi, hsl⟩ := hSl fj hfj
  have hlay := hts _ (hin _ (u_in_lay hfj))
  unfold u_lay at hlay
  rw [if_neg (by rw [hfin]; decide)] at hlay
  have hst := (u_facts hfc hkC (u_lays hts hin hfj) hi).1
  have h6 := u_store hfc hkC hkind hlay hi hde hnr hfit
  refine W.putK hx hb (f := f) ⟨hown, hts _ hw, ⟨_, _, _, by rw [hC] at hi; exact hi⟩, hst⟩ (by rw [q2]; exact h6) q1 q3 (by rw [hsl]; exact k2_hasslot (q4 fj hfj)) rfl rfl hd fun H' e1 e2 e3 => ?_
  rw [hsl] at e1 ⊢
  have hP1 := hP.2.2.set zwl_D he (e := .inr (ci, fs.set fj v)) ⟨_, hcl, t_OB.to (V := updV (vp_V fs) fj v) ⟨_, e1, q2, q3, t_set q4 hap hfj v⟩ (fun j _ => vp_updV_set hlen v j)⟩ e3
  exact K H' _ ls (zHp_set hP hj e2 hP1) (hS.put e2 e3 (Nat.le_add_right base _)) hL
theorem u_iast (C : zUC Y cc own nL mc ms d) {j n : Nat} {f : Nat → Int32} {a : Nat} (ha : zYb Y + (zYn Y + j) = a) (hj : L[j]? = some (.inl (zYa Y 0, n, .inl f))) {i x : Int32} (hin : vp_in i n) (hd : decode cc pc = .ok (.iastore, 1)) (K : zU Y nc ns (pc + 1) lv st (L.set j (.inl (zYa Y 0, n, .inl (upd f i.toNatClampNeg x))))) : zU Y nc ns pc lv (.int x :: .int i :: .ref a :: st) L := by
  obtain ⟨p, l, e, R, s, m, args, below, meth, c, Qf, D, cA, base, n0, pre, nX⟩ := Y
  obtain ⟨hx, hb, ⟨hnX, hml⟩, hown, hts, hK, hN, hO, hbs, hRc, hRs, hf, hlo⟩ := C
  subst ha
  intro H locs ls hP hS hL
  have he := zHp_at hP hj
  refine W.iast hx hb (hP.2.2 _ _ he) ((hK.2 0 _ rfl).1 n (fun j => .int (f j))) (fun q => by cases q) (by show ¬ (i < 0 ∨ (arrV _ _ _).slots.size ≤ _); rw [arrV_size]; exact hin) rfl rfl hd fun H1 e z oq => ?_
  refine K H1 _ ls (zHp_set hP hj z (hP.2.2.set zwl_D he ?_ oq)) (hS.put z oq (Nat.le_add_right base _)) hL
  show H1[_]? = some (vp_cell _ _)
  rw [e]
  rw [vp_cell_i, vp_cell_i, arrV_store]
  congr 2
  funext q
  simp only [updV, upd]
  split <;> rfl
theorem u_aald (C : zUC Y cc own nL mc ms d) {j n a t : Nat} {g : Nat → Option Nat} {ty : FieldType} {a0 : Nat} (ha : zYb Y + (zYn Y + j) = a0) (hj : L[j]? = some (.inl (zYa Y t, n, .inr (.inr (.inr (.inr g)))))) (ht : (zTa (zYa Y))[t]? = some (zYa Y t, .array ty)) {i : Int32} (hin : vp_in i n) (hg : g i.toNatClampNeg = some a) (hd : decode cc pc = .ok (.aaload, 1)) (K : zU Y nc ns (pc + 1) lv (.ref a :: st) L) : zU Y nc ns pc lv (.int i :: .ref a0 :: st) L := by
  obtain ⟨p, l, e, R, s, m, args, below, meth, c, Qf, D, cA, base, n0, pre, nX⟩ := Y
  obtain ⟨hx, hb, ⟨hnX, hml⟩, hown, hts, hK, hN, hO, hbs, hRc, hRs, hf, hlo⟩ := C
  subst ha
  intro H locs ls hP hS hL
  have he := zHp_at hP hj
  have hlt := zin_lt hin
  refine W.aald (v := va_rf (g i.toNatClampNeg)) (ty := .array ty) hx hb (hP.2.2 _ _ he) ((hK.2 t _ ht).1 n (fun j => va_rf (g j))) rfl (fun q => by cases q) (by show ¬ (i < 0 ∨ (arrV _ _ _).slots.size ≤ _); rw [arrV_size]; exact hin) (by show (arrV _ _ _).slots[_]? = _; rw [arrV_read _ _ hlt]) rfl rfl hd ?_
  rw [hg]
  exact K H locs ls hP hS hL
theorem u_new (C : zUC Y cc own nL mc ms d) {Cn : String} {T : u_T} {N ci index : Nat} {fs : List Value} (n : Nat) (hn : zYn Y + L.length = n) (hcl : zCl[ci]? = some (Cn, T, N)) (hin : ∀ w ∈ u_ws Cn T N, w ∈ zW) (ty : Nat → FieldType) (hty : ∀ k, k < N → parseFieldDescriptor (T k).2.2.1 = some (ty k)) (hc1 : Cond.classLink own index Cn ∈ zW) (hc2 : Cond.instantiable Cn N ∈ zW) (hc3 : Cond.initialized Cn ∈ zW) (hfs : ∀ j, j < N → defaultValue (ty j) = vp_V fs j) (h1 : nc + 1 ≤ mc) (h2 : ns + N ≤ ms) (hd : decode cc pc = .ok (.new index, 3)) (K : zU Y (nc + 1) (ns + N) (pc + 3) lv (.ref (zYb Y + n) :: st) (L ++ [.inr (ci, fs)])) : zU Y nc ns pc lv st L := by
  obtain ⟨p, l, e, R, s, m, args, below, meth, c, Qf, D, cA, base, n0, pre, nX⟩ := Y
  obtain ⟨hx, hb, ⟨hnX, hml⟩, hown, hts, hK, hN, hO, hbs, hRc, hRs, hf, hlo⟩ := C
  subst hn
  intro H locs ls hP hS hL
  have hKn := hK.1 ci _ hcl
  refine W.newcK hx hb hown (hts _ hc1) (hts _ hc2) (hts _ hc3) rfl hd (Nat.le_trans h1 hRc) (Nat.le_trans h2 hRs) hKn.2.1 rfl fun H1 kC hkC e1 z1 o1 => ?_
  have k := K H1 locs ls (zHp_push hP z1 o1 (fun i e hi => ?_)) ⟨Nat.le_trans hS.1 (by omega), fun x g1 g2 => (o1 x (Nat.lt_of_lt_of_le g1 hS.1)).trans (hS.2.1 x g1 g2), hS.2.2⟩ hL
  · rw [hP.2.1]
    exact k
  · have hi0 : i = 0 := by have := (List.getElem?_eq_some_iff.mp hi).1; simp at this; exact this
    subst hi0
    cases hi
    exact ⟨_, hcl, (u_born ty hts hin hKn hkC e1 hty).to hfs⟩
theorem u_newa (C : zUC Y cc own nL mc ms d) {atype : ArrayType} {ty : FieldType} {t : Nat} {a0 : vp_A} {k : Int32} {N : Nat} (n : Nat) (hn : zYn Y + L.length = n) (hty : newarray.typeOf atype = ty) (ht : (zTa (zYa Y))[t]? = some (zYa Y t, ty)) (hra : ∀ (s : State) (cA : ClassId), va_RA s cA ty = (s.vm.findClass ("[" ++ ty.toString) = some cA)) (ha : ∀ cA : ClassId, vp_cell cA a0 = arrV cA N (fun _ => defaultValue ty)) (hcl : Cond.arrayClass ty ∈ zW) (hk : ¬ k < 0) (hNk : k.toNatClampNeg = N) (hby : N * componentBytes ty ≤ 536870912) (h1 : nc + 1 ≤ mc) (h2 : ns + N ≤ ms) (hd : decode cc pc = .ok (.newarray atype, 2)) (K : zU Y (nc + 1) (ns + N) (pc + 2) lv (.ref (zYb Y + n) :: st) (L ++ [.inl (zYa Y t, a0)])) : zU Y nc ns pc lv (.int k :: st) L := by
  obtain ⟨p, l, e, R, s, m, args, below, meth, c, Qf, D, cA, base, n0, pre, nX⟩ := Y
  obtain ⟨hx, hb, ⟨hnX, hml⟩, hown, hts, hK, hN, hO, hbs, hRc, hRs, hf, hlo⟩ := C
  subst hn; subst hty
  intro H locs ls hP hS hL
  refine va_newaK hx hb (hts _ hcl) rfl hd rfl hk hNk hby (Nat.le_trans h1 hRc) (Nat.le_trans h2 hRs) rfl fun H1 cB e1 z1 o1 hAr hNm => ?_
  have hB : cB = cA t := by
    have := (hK.2 t _ ht).2
    rw [hra] at this
    exact Option.some.inj (hNm.symm.trans this)
  subst hB
  have k := K H1 locs ls (zHp_push hP z1 o1 (fun i e hi => ?_)) ⟨Nat.le_trans hS.1 (by omega), fun x g1 g2 => (o1 x (Nat.lt_of_lt_of_le g1 hS.1)).trans (hS.2.1 x g1 g2), hS.2.2⟩ hL
  · rw [hP.2.1]
    exact k
  · have hi0 : i = 0 := by have := (List.getElem?_eq_some_iff.mp hi).1; simp at this; exact this
    subst hi0
    cases hi
    show H1[H.size]? = some (vp_cell _ _)
    rw [ha]
    exact e1
theorem zouter (c : ClassId) (N h0 : Nat) : ∀ i : Nat, Jvm.Free.Multi.outerC c N h0 i = arrV c N (fun j => va_rf (if j < i then some (h0 + 1 + j) else none))
  | 0 => by
    show ({ cls := c, slots := Array.replicate N .null, vm := .none } : Cell) = _
    rw [arrV_new]
    refine congrArg (arrV c N) (funext fun j => ?_)
    simp [va_rf]
  | i + 1 => by
    show (Jvm.Free.Multi.outerC c N h0 i).setSlot i (.ref (h0 + 1 + i)) = _
    rw [zouter c N h0 i, arrV_store]
    refine congrArg (arrV c N) (funext fun j => ?_)
    by_cases e : j = i
    · subst e
      simp [updV, va_rf]
    · by_cases h : j < i
      · simp [updV, e, h, Nat.lt_succ_of_lt h]
      · simp [updV, e, h, show ¬ j < i + 1 by omega]
theorem u_mna (C : zUC Y cc own nL mc ms d) {index : Nat} {ty : FieldType} {t t2 : Nat} {z : vp_A} {a b : Int32} {N K' : Nat} (n : Nat) (hn : zYn Y + L.length = n) (ht : (zTa (zYa Y))[t]? = some (zYa Y t, ty)) (ht2 : (zTa (zYa Y))[t2]? = some (zYa Y t2, .array ty)) (hra : ∀ (s : State) (cA : ClassId), va_RA s cA ty = (s.vm.findClass ("[" ++ ty.toString) = some cA)) (hts2 : "[" ++ ty.toString = (FieldType.array ty).toString) (hov : ∀ s : State, zOv s → (Cond.arrayOver (.array ty)).before #[] s = true) (hc1 : Cond.classLink own index ("[" ++ (FieldType.array ty).toString) ∈ zW) (hc2 : Cond.arrayClass ty ∈ zW) (ha : ¬ a < 0) (hb0 : ¬ b < 0) (hNk : a.toNatClampNeg = N) (hM : b.toNatClampNeg = K') (hb1 : N * 4 ≤ 536870912) (hb2 : K' * componentBytes ty ≤ 536870912) (hb3 : K' ≤ 536870912) (hdf : fits ty (defaultValue ty) = true) (hdd : (defaultValue ty).isDefault = true) (hz : ∀ c : ClassId, Jvm.Free.Multi.innerC c K' (defaultValue ty) = vp_cell c z) (h1 : nc + (1 + N) ≤ mc) (h2 : ns + (N + N * K') ≤ ms) (hd : decode cc pc = .ok (.multianewarray index 2, 4)) (K : zU Y (nc + 1 + N) (ns + N + N * K') (pc + 4) lv (.ref (zYb Y + n) :: st) (L ++ (.inl (zYa Y t2, N, .inr (.inr (.inr (.inr (fun i => if i < N then some (zYb Y + (n + 1 + i)) else none))))) :: List.replicate N (.inl (zYa Y t, z))))) : zU Y nc ns pc lv (.int b :: .int a :: st) L := by
  obtain ⟨p, l, e, R, s, m, args, below, meth, c, Qf, D, cA, base, n0, pre, nX⟩ := Y
  obtain ⟨hx, hb, ⟨hnX, hml⟩, hown, hts, hK, hN, hO, hbs, hRc, hRs, hf, hlo⟩ := C
  subst hn; subst hNk; subst hM
  intro H locs ls hP hS hL T hT Xs
  obtain ⟨vm₁, cB, comp, -, fA, fC, hOv, -, X', step⟩ := Xs.multianewarray2F hx hown (hts _ hc1) (hov s hO) (hts _ hc2) (g := F0 m pc ls (.int b :: .int a :: st)) rfl (by rw [hb]; exact hd) rfl ha hb0 hb1 hb2 hb3 hdf hdd (Nat.le_trans h1 hRc) (Nat.le_trans h2 hRs)
  have eB : cB = cA t2 := Option.some.inj (fA.symm.trans (hK.2 t2 _ ht2).2)
  have eC : comp = cA t := by
    have q := (hK.2 t _ ht).2
    rw [hra, hts2] at q
    exact Option.some.inj (fC.symm.trans q)
  subst eB; subst eC
  generalize hF : Jvm.Free.Multi.fill (T.setVm vm₁) (cA t2) (cA t) a.toNatClampNeg b.toNatClampNeg (defaultValue ty) a.toNatClampNeg = F at X' step
  have hTh : (T.setVm vm₁).heap = H := hT
  obtain ⟨f1, f2, -, -⟩ := Jvm.Free.Multi.fill_facts (T.setVm vm₁) (cA t2) (cA t) a.toNatClampNeg b.toNatClampNeg (defaultValue ty) a.toNatClampNeg
  rw [hF, hTh] at f1 f2
  have hold : ∀ x : Nat, x < H.size → F.heap[x]? = H[x]? := fun x hx9 => by
    have := Jvm.Free.Multi.fill_old (T.setVm vm₁) (cA t2) (cA t) a.toNatClampNeg b.toNatClampNeg (defaultValue ty) (a := x) (by rw [hTh]; exact hx9) a.toNatClampNeg
    rw [hF, hTh] at this
    exact this
  have hrow : ∀ j : Nat, j < a.toNatClampNeg → F.heap[H.size + 1 + j]? = some (vp_cell (cA t) z) := fun j hj => by
    have := Jvm.Free.Multi.fill_inner (T.setVm vm₁) (cA t2) (cA t) a.toNatClampNeg b.toNatClampNeg (defaultValue ty) a.toNatClampNeg j hj
    rw [hF, hTh, hz] at this
    exact this
  rw [zouter] at f2
  have hH : H.size = base + (n0 + L.length) := hP.2.1
  have k := K F.heap locs ls (zHp_push hP (by rw [f1, List.length_cons, List.length_replicate]; omega) hold (fun i e hi => ?_)) ⟨Nat.le_trans hS.1 (by rw [f1]; omega), fun x g1 g2 => (hold x (Nat.lt_of_lt_of_le g1 hS.1)).trans (hS.2.1 x g1 g2), hS.2.2⟩ hL
  · obtain ⟨t9, a1, b1⟩ := k F rfl X'
    refine ⟨t9, step t9 ?_, b1⟩
    have e : T.heap.size = base + (n0 + L.length) := by rw [← hH, hT]
    rw [e]
    exact a1
  · cases i with
    | zero =>
      cases hi
      show F.heap[H.size + 0]? = some (vp_cell _ _)
      rw [Nat.add_zero, f2, vp_cell_q]
      refine congrArg some (congrArg (arrV (cA t2) a.toNatClampNeg) (funext fun j => ?_))
      by_cases q : j < a.toNatClampNeg
      · rw [if_pos q, if_pos q]
        show Value.ref _ = Value.ref _
        rw [show H.size + 1 + j = base + (n0 + L.length + 1 + j) by omega]
        rfl
      · rw [if_neg q, if_neg q]
    | succ i =>
      rw [List.getElem?_cons_succ] at hi
      have hlt : i < a.toNatClampNeg := by have := (List.getElem?_eq_some_iff.mp hi).1; rw [List.length_replicate] at this; exact this
      rw [List.getElem?_replicate, if_pos hlt] at hi
      cases hi
      show F.heap[H.size + (i + 1)]? = some (vp_cell _ _)
      rw [show H.size + (i + 1) = H.size + 1 + i by omega]
      exact hrow i hlt
theorem u_vret (C : zUC Y cc own nL mc ms d) {P2 : List va_E → Prop} (hR : zUR Y mc ms P2) (hq : P2 L) (h1 : nc ≤ mc) (h2 : ns ≤ ms) (hd : decode cc pc = .ok (.return_, 1)) : zU Y nc ns pc lv [] L := by
  obtain ⟨p, l, e, R, s, m, args, below, meth, c, Qf, D, cA, base, n0, pre, nX⟩ := Y
  obtain ⟨hx, hb, ⟨hnX, hml⟩, hown, hts, hK, hN, hO, hbs, hRc, hRs, hf, hlo⟩ := C
  obtain ⟨hr, hlocks, -, rfl⟩ := hR
  refine fun H locs ls hP hS hL => W.widen (k := mc) (n := ms) h1 h2 ?_
  exact W.vret hx hb hr (fun t ht hW => ⟨⟨rfl, L, hq, by rw [ht]; exact hP⟩, hS.F ht⟩) hS.2.2 hd
theorem u_goes {p : Program} {l : Launch} {e : Env} {R : Room} {s : State} {m : MethodId} {args : Array Value} {below : List Frame} {meth : Method} {c : Code} {H : Heap} {locs : List Loc} {nc ns mc ms : Nat} {Qf : State → Prop} {D : va_G} {base n0 : Nat} {pre : List va_E} {a : Array Value} {ls : Array Slot} {rest st0 : List Value} {P2 : List va_E → Prop}
    (hS : va_S (fun q : Nat => base ≤ q) s.heap H locs) (hr : va_Run p l e R s m args below meth c H locs nc ns mc ms (F0 m pc ls st0) rest ((fun _ st oc t => (oc = .returned none ∧ ∃ L2, P2 L2 ∧ zHp D base n0 pre L2 t.heap) ∧ va_F (fun q : Nat => base ≤ q) st t) a) (fun q : Nat => base ≤ q))
    (kk : ∀ (L2 : List va_E) (H1 : Heap) (locs1 : List Loc), P2 L2 → zHp D base n0 pre L2 H1 → va_S (fun q : Nat => base ≤ q) s.heap H1 locs1 → W p l e R s m args below meth c H1 locs1 (nc + mc) (ns + ms) Qf (F0 m (pc + 3) ls rest)) : W p l e R s m args below meth c H locs nc ns Qf (F0 m pc ls st0) := by
  intro T hT X
  obtain ⟨v, st₀, t, T', L, h0, X', hL, e1, e2, ⟨⟨hv, L2, hq2, hP⟩, hz, hk⟩, st⟩ := hr T hT X
  cases hv
  rw [h0] at hz hk
  obtain ⟨t2, a1, b1⟩ := kk L2 T'.heap (locs ++ L) hq2 (by rw [e1]; exact hP)
    ⟨Nat.le_trans hS.1 (by rw [e1]; exact hz), fun q h1 h2 => by rw [e1, hk q (Nat.lt_of_lt_of_le h1 hS.1) h2]; exact hS.2.1 q h1 h2, fun q hq => by
      rcases List.mem_append.mp hq with h | h
      · exact hS.2.2 q h
      · exact hL q h⟩ T' rfl X'
  exact ⟨t2, st t2 a1, b1⟩
theorem u_call (C : zUC Y cc own nL mc ms d) {index n maxL d' mc' ms' : Nat} {y : MethodName} {bytes : ByteArray} {Lr L1 : List va_E} {P2 : List va_E → Prop} {b : Nat} {As rest : List Value} (hdd : d' + 1 ≤ d) (M : zMw y bytes maxL none n) (Mi : Cond.instanceMethod y ∈ zW) (hy : y.name = "<init>") (hl : Cond.methodLink own index y ∈ zW) (n1 : Nat) (hn1 : zYn Y + Lr.length = n1) (hL0 : L = Lr ++ L1) (hT : zUT (zYl Y) d' mc' ms' (zYD Y) (zYa Y) (zYb Y) n1 (zYp Y ++ Lr) y bytes maxL (.ref b :: As) L1 P2) (hn : As.length = n) (hst : st = As.reverse ++ .ref b :: rest) (hcat : (rest.map fun v => v.category).sum ≤ 8) (h1 : nc + mc' ≤ mc) (h2 : ns + ms' ≤ ms) (hd : decode cc pc = .ok (.invokespecial index, 3)) (K : ∀ L2 : List va_E, P2 L2 → zU Y (nc + mc') (ns + ms') (pc + 3) lv rest (Lr ++ L2)) : zU Y nc ns pc lv st L := by
  obtain ⟨p, l, e, R, s, m, args, below, meth, c, Qf, D, cA, base, n0, pre, nX⟩ := Y
  obtain ⟨hx, hb, ⟨hnX, hml⟩, hown, hts, hK, hN, hO, hbs, hRc, hRs, hf, hlo⟩ := C
  subst hst; subst hL0; subst hn1
  intro H locs ls hP hS hL
  have hp := zHp_part.mp hP
  refine u_goes (a := (Value.ref b :: As).toArray) hS (va_runI (As := As) (rest := rest) (nL := nX) ⟨hx, hb, hml.trans hnX.symm, hown, hts⟩ hT (cwI n hts (zgoodC M.1) rfl rfl rfl (hts _ M.2.1) (hts _ hl) (hts _ Mi) hy M.2.2.1 ⟨Nat.le_trans hdd hf, Nat.le_trans ?_ hlo⟩) ⟨zUPc_blind, fun U hU hW => ⟨rfl, by rw [hU]; exact hp.2, va_K.moved hW.alike hK, zNst_warm hW hN, zOv_moved hW.alike hO, by rw [hU]; exact Nat.le_trans hbs hS.1⟩⟩ rfl hn hL.1 rfl (lv_room hcat) hd ⟨Nat.le_trans h1 hRc, Nat.le_trans h2 hRs⟩) (fun L2 H1 locs1 hq2 hP1 hS1 => K L2 hq2 H1 locs1 ls (zHp_part.mpr ⟨hp.1, hP1⟩) hS1 hL)
  have := M.2.2.2
  show 8 + (maxL + 11) + 40 * d' ≤ 40 * d
  omega
theorem u_callN (C : zUC Y cc own nL mc ms d) {index n maxL d' mc' ms' : Nat} {host : String} {y : MethodName} {bytes : ByteArray} {Lr L1 : List va_E} {P2 : List va_E → Prop} {b : Nat} {As rest : List Value} (hdd : d' + 1 ≤ d) (M : zMw y bytes maxL none n) (Mi : Cond.instanceMethod y ∈ zW) (hy : y.name = "<init>") (hl : Cond.methodLinkNest own index y host ∈ zNst) (n1 : Nat) (hn1 : zYn Y + Lr.length = n1) (hL0 : L = Lr ++ L1) (hT : zUT (zYl Y) d' mc' ms' (zYD Y) (zYa Y) (zYb Y) n1 (zYp Y ++ Lr) y bytes maxL (.ref b :: As) L1 P2) (hn : As.length = n) (hst : st = As.reverse ++ .ref b :: rest) (hcat : (rest.map fun v => v.category).sum ≤ 8) (h1 : nc + mc' ≤ mc) (h2 : ns + ms' ≤ ms) (hd : decode cc pc = .ok (.invokespecial index, 3)) (K : ∀ L2 : List va_E, P2 L2 → zU Y (nc + mc') (ns + ms') (pc + 3) lv rest (Lr ++ L2)) : zU Y nc ns pc lv st L := by
  obtain ⟨p, l, e, R, s, m, args, below, meth, c, Qf, D, cA, base, n0, pre, nX⟩ := Y
  obtain ⟨hx, hb, ⟨hnX, hml⟩, hown, hts, hK, hN, hO, hbs, hRc, hRs, hf, hlo⟩ := C
  subst hst; subst hL0; subst hn1
  intro H locs ls hP hS hL
  have hp := zHp_part.mp hP
  refine u_goes (a := (Value.ref b :: As).toArray) hS (va_runIN (As := As) (rest := rest) (nL := nX) ⟨hx, hb, hml.trans hnX.symm, hown, hts⟩ hT (⟨va_cnB n hts (zgoodC M.1) rfl rfl rfl (hN _ hl) (hts _ M.2.1) M.2.2.1 ⟨Nat.le_trans hdd hf, Nat.le_trans ?_ hlo⟩, hy, hts _ Mi⟩) ⟨zUPc_blind, fun U hU hW => ⟨rfl, by rw [hU]; exact hp.2, va_K.moved hW.alike hK, zNst_warm hW hN, zOv_moved hW.alike hO, by rw [hU]; exact Nat.le_trans hbs hS.1⟩⟩ rfl hn hL.1 rfl (lv_room hcat) hd ⟨Nat.le_trans h1 hRc, Nat.le_trans h2 hRs⟩) (fun L2 H1 locs1 hq2 hP1 hS1 => K L2 hq2 H1 locs1 ls (zHp_part.mpr ⟨hp.1, hP1⟩) hS1 hL)
  have := M.2.2.2
  show 8 + (maxL + 11) + 40 * d' ≤ 40 * d
  omega
theorem u_fill (C : zUC Y cc own nL mc ms d) {index j n a : Nat} {f : Nat → Int32} {v : Int32} {rest : List Value} (ha : zYb Y + (zYn Y + j) = a) (hdd : 2 ≤ d) (hl : Cond.methodLink own index yJ7_fill_53178 ∈ zW) (hj : L[j]? = some (.inl (zYa Y 0, n, .inl f))) (hn : n < 2 ^ 31) (hcat : (rest.map fun v => v.category).sum ≤ 8) (h1 : nc ≤ mc) (h2 : ns ≤ ms) (hd : decode cc pc = .ok (.invokestatic index, 3)) (K : ∀ g : Nat → Int32, (∀ i, i < n → g i = v) → zU Y nc ns (pc + 3) lv rest (L.set j (.inl (zYa Y 0, n, .inl g)))) : zU Y nc ns pc lv (.int v :: .ref a :: rest) L := by
  obtain ⟨p, l, e, R, s, m, args, below, meth, c, Qf, D, cA, base, n0, pre, nX⟩ := Y
  obtain ⟨hx, hb, ⟨hnX, hml⟩, hown, hts, hK, hN, hO, hbs, hRc, hRs, hf, hlo⟩ := C
  subst ha
  intro H locs ls hP hS hL T hT X
  have he := hP.2.2 _ _ (zHp_at hP hj)
  have hr := va_runS (l := l) (e := e) (R := R) (below := below) (meth := meth) (H := H) (locs := locs) (cells := nc) (slots := ns) (g := F0 m pc ls (.int v :: .ref (base + (n0 + j)) :: rest)) (As := [.ref (base + (n0 + j)), .int v]) (rest := rest) (nL := nX) ⟨hx, hb, hml.trans hnX.symm, hown, hts⟩ (fl_met l (base + (n0 + j)) n (cA 0) v f hn) ⟨callB_of 2 hts (zgoodC M_J7_fill_53178.1) rfl rfl rfl (hts _ M_J7_fill_53178.2.1) (hts _ hl) M_J7_fill_53178.2.2.1 ⟨Nat.le_trans hdd hf, Nat.le_trans (by show 8 + (4 + 11) + 40 * 1 ≤ 40 * d; omega) hlo⟩, hts _ Ms_J7_fill_53178⟩ ⟨fun _ U g mk q => ⟨q.1, q.2.1, arrOfT_moved (u := U) (E := U.calling g mk _) (Vm.Alike.refl U.vm) q.2.2⟩, fun U hU hW => ⟨rfl, by rw [hU]; exact he, arrOfT_moved hW.alike (hK.2 0 _ rfl).1⟩⟩ rfl rfl hL.1 rfl (lv_room hcat) hd ⟨Nat.le_trans h1 hRc, Nat.le_trans h2 hRs⟩
  obtain ⟨v9, st₀, t, T', L9, h0, X', hL9, e1, e2, ⟨hv, hsz, ⟨g, hg, hga⟩, ho⟩, stp⟩ := hr T hT X
  cases hv
  rw [h0] at hsz ho
  have k := K g hg T'.heap (locs ++ L9) ls (zHp_set hP hj (by rw [e1]; exact hsz) (hP.2.2.set zwl_D (zHp_at hP hj) (by show T'.heap[_]? = _; rw [e1]; exact hga) (fun q hq => by rw [e1]; exact ho q hq))) ⟨by rw [e1, hsz]; exact hS.1, fun q g1 g2 => by rw [e1, ho q (fun z => g2 (by show base ≤ q; rw [z]; exact Nat.le_add_right base _))]; exact hS.2.1 q g1 g2, fun q hq => by
      rcases List.mem_append.mp hq with h | h
      · exact hS.2.2 q h
      · show base ≤ q.base
        rw [show q.base = base + (n0 + j) from hL9 q h]
        exact Nat.le_add_right base _⟩ hL
  obtain ⟨t2, a1, b1⟩ := k T' rfl X'
  exact ⟨t2, stp t2 a1, b1⟩
end ZUROWS
