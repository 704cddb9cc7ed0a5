theorem fp_X12_16 : FP RX12 16 12 4 2 (.array .int) true := ⟨_, rfl, rfl, in_TB (List.mem_of_getElem? (i := 1208) (by decide +kernel)) (by decide +kernel), rfl, by decide +kernel, fun _ => rfl⟩
theorem fl_X12_19 : FL RX12 19 12 5 2 := ⟨_, rfl, rfl, in_TB (List.mem_of_getElem? (i := 1209) (by decide +kernel)) (by decide +kernel)⟩
theorem fp_X12_19 : FP RX12 19 12 5 2 (.array .int) true := ⟨_, rfl, rfl, in_TB (List.mem_of_getElem? (i := 1209) (by decide +kernel)) (by decide +kernel), rfl, by decide +kernel, fun _ => rfl⟩
theorem fl_X12_116 : FL RX12 116 12 6 0 := ⟨_, rfl, rfl, in_TB (List.mem_of_getElem? (i := 1210) (by decide +kernel)) (by decide +kernel)⟩
theorem fp_X12_116 : FP RX12 116 12 6 0 .int false := ⟨_, rfl, rfl, in_TB (List.mem_of_getElem? (i := 1210) (by decide +kernel)) (by decide +kernel), rfl, by decide +kernel, fun _ => rfl⟩
theorem fl_X12_22 : FL RX12 22 12 7 0 := ⟨_, rfl, rfl, in_TB (List.mem_of_getElem? (i := 1211) (by decide +kernel)) (by decide +kernel)⟩
theorem fp_X12_22 : FP RX12 22 12 7 0 .int false := ⟨_, rfl, rfl, in_TB (List.mem_of_getElem? (i := 1211) (by decide +kernel)) (by decide +kernel), rfl, by decide +kernel, fun _ => rfl⟩
theorem fl_X12_26 : FL RX12 26 12 8 0 := ⟨_, rfl, rfl, in_TB (List.mem_of_getElem? (i := 1212) (by decide +kernel)) (by decide +kernel)⟩
theorem fp_X12_26 : FP RX12 26 12 8 0 .int false := ⟨_, rfl, rfl, in_TB (List.mem_of_getElem? (i := 1212) (by decide +kernel)) (by decide +kernel), rfl, by decide +kernel, fun _ => rfl⟩
theorem fl_X12_123 : FL RX12 123 12 9 0 := ⟨_, rfl, rfl, in_TB (List.mem_of_getElem? (i := 1213) (by decide +kernel)) (by decide +kernel)⟩
theorem fp_X12_123 : FP RX12 123 12 9 0 .int false := ⟨_, rfl, rfl, in_TB (List.mem_of_getElem? (i := 1213) (by decide +kernel)) (by decide +kernel), rfl, by decide +kernel, fun _ => rfl⟩
theorem fl_X12_129 : FL RX12 129 12 10 0 := ⟨_, rfl, rfl, in_TB (List.mem_of_getElem? (i := 1214) (by decide +kernel)) (by decide +kernel)⟩
theorem fp_X12_129 : FP RX12 129 12 10 0 .int false := ⟨_, rfl, rfl, in_TB (List.mem_of_getElem? (i := 1214) (by decide +kernel)) (by decide +kernel), rfl, by decide +kernel, fun _ => rfl⟩
theorem fl_X12_132 : FL RX12 132 12 11 0 := ⟨_, rfl, rfl, in_TB (List.mem_of_getElem? (i := 1215) (by decide +kernel)) (by decide +kernel)⟩
theorem fp_X12_132 : FP RX12 132 12 11 0 .int false := ⟨_, rfl, rfl, in_TB (List.mem_of_getElem? (i := 1215) (by decide +kernel)) (by decide +kernel), rfl, by decide +kernel, fun _ => rfl⟩
theorem fl_X12_138 : FL RX12 138 12 12 0 := ⟨_, rfl, rfl, in_TB (List.mem_of_getElem? (i := 1216) (by decide +kernel)) (by decide +kernel)⟩
theorem fp_X12_138 : FP RX12 138 12 12 0 .int false := ⟨_, rfl, rfl, in_TB (List.mem_of_getElem? (i := 1216) (by decide +kernel)) (by decide +kernel), rfl, by decide +kernel, fun _ => rfl⟩
theorem fl_X12_145 : FL RX12 145 12 13 1 := ⟨_, rfl, rfl, in_TB (List.mem_of_getElem? (i := 1217) (by decide +kernel)) (by decide +kernel)⟩
theorem fp_X12_145 : FP RX12 145 12 13 1 .long false := ⟨_, rfl, rfl, in_TB (List.mem_of_getElem? (i := 1217) (by decide +kernel)) (by decide +kernel), rfl, by decide +kernel, fun _ => rfl⟩
theorem fl_X12_157 : FL RX12 157 12 14 0 := ⟨_, rfl, rfl, in_TB (List.mem_of_getElem? (i := 1218) (by decide +kernel)) (by decide +kernel)⟩
theorem fp_X12_157 : FP RX12 157 12 14 0 .int false := ⟨_, rfl, rfl, in_TB (List.mem_of_getElem? (i := 1218) (by decide +kernel)) (by decide +kernel), rfl, by decide +kernel, fun _ => rfl⟩
theorem fl_X12_160 : FL RX12 160 12 16 0 := ⟨_, rfl, rfl, in_TB (List.mem_of_getElem? (i := 1219) (by decide +kernel)) (by decide +kernel)⟩
theorem fp_X12_160 : FP RX12 160 12 16 0 .int false := ⟨_, rfl, rfl, in_TB (List.mem_of_getElem? (i := 1219) (by decide +kernel)) (by decide +kernel), rfl, by decide +kernel, fun _ => rfl⟩
theorem fl_X12_29 : FL RX12 29 12 18 2 := ⟨_, rfl, rfl, in_TB (List.mem_of_getElem? (i := 1220) (by decide +kernel)) (by decide +kernel)⟩
theorem fp_X12_29 : FP RX12 29 12 18 2 (.array .int) true := ⟨_, rfl, rfl, in_TB (List.mem_of_getElem? (i := 1220) (by decide +kernel)) (by decide +kernel), rfl, by decide +kernel, fun _ => rfl⟩
theorem fl_X12_163 : FL RX12 163 12 19 0 := ⟨_, rfl, rfl, in_TB (List.mem_of_getElem? (i := 1221) (by decide +kernel)) (by decide +kernel)⟩
theorem fp_X12_163 : FP RX12 163 12 19 0 .int false := ⟨_, rfl, rfl, in_TB (List.mem_of_getElem? (i := 1221) (by decide +kernel)) (by decide +kernel), rfl, by decide +kernel, fun _ => rfl⟩
theorem fl_X12_173 : FL RX12 173 12 20 0 := ⟨_, rfl, rfl, in_TB (List.mem_of_getElem? (i := 1222) (by decide +kernel)) (by decide +kernel)⟩
theorem fp_X12_173 : FP RX12 173 12 20 0 .int false := ⟨_, rfl, rfl, in_TB (List.mem_of_getElem? (i := 1222) (by decide +kernel)) (by decide +kernel), rfl, by decide +kernel, fun _ => rfl⟩
theorem fl_X12_176 : FL RX12 176 12 21 0 := ⟨_, rfl, rfl, in_TB (List.mem_of_getElem? (i := 1223) (by decide +kernel)) (by decide +kernel)⟩
theorem fp_X12_176 : FP RX12 176 12 21 0 .boolean false := ⟨_, rfl, rfl, in_TB (List.mem_of_getElem? (i := 1223) (by decide +kernel)) (by decide +kernel), rfl, by decide +kernel, fun _ => rfl⟩
theorem fl_X12_245 : FL RX12 245 12 22 0 := ⟨_, rfl, rfl, in_TB (List.mem_of_getElem? (i := 1224) (by decide +kernel)) (by decide +kernel)⟩
theorem fp_X12_245 : FP RX12 245 12 22 0 .int false := ⟨_, rfl, rfl, in_TB (List.mem_of_getElem? (i := 1224) (by decide +kernel)) (by decide +kernel), rfl, by decide +kernel, fun _ => rfl⟩
theorem fl_X12_251 : FL RX12 251 12 23 0 := ⟨_, rfl, rfl, in_TB (List.mem_of_getElem? (i := 1225) (by decide +kernel)) (by decide +kernel)⟩
theorem fp_X12_251 : FP RX12 251 12 23 0 .int false := ⟨_, rfl, rfl, in_TB (List.mem_of_getElem? (i := 1225) (by decide +kernel)) (by decide +kernel), rfl, by decide +kernel, fun _ => rfl⟩
theorem fl_X12_32 : FL RX12 32 12 24 2 := ⟨_, rfl, rfl, in_TB (List.mem_of_getElem? (i := 1226) (by decide +kernel)) (by decide +kernel)⟩
theorem fp_X12_32 : FP RX12 32 12 24 2 (.array .int) true := ⟨_, rfl, rfl, in_TB (List.mem_of_getElem? (i := 1226) (by decide +kernel)) (by decide +kernel), rfl, by decide +kernel, fun _ => rfl⟩
theorem fl_X12_35 : FL RX12 35 12 25 2 := ⟨_, rfl, rfl, in_TB (List.mem_of_getElem? (i := 1227) (by decide +kernel)) (by decide +kernel)⟩
theorem fp_X12_35 : FP RX12 35 12 25 2 (.array .long) true := ⟨_, rfl, rfl, in_TB (List.mem_of_getElem? (i := 1227) (by decide +kernel)) (by decide +kernel), rfl, by decide +kernel, fun _ => rfl⟩
theorem fl_X12_39 : FL RX12 39 12 26 2 := ⟨_, rfl, rfl, in_TB (List.mem_of_getElem? (i := 1228) (by decide +kernel)) (by decide +kernel)⟩
theorem fp_X12_39 : FP RX12 39 12 26 2 (.array .boolean) true := ⟨_, rfl, rfl, in_TB (List.mem_of_getElem? (i := 1228) (by decide +kernel)) (by decide +kernel), rfl, by decide +kernel, fun _ => rfl⟩
theorem fl_X12_43 : FL RX12 43 12 27 2 := ⟨_, rfl, rfl, in_TB (List.mem_of_getElem? (i := 1229) (by decide +kernel)) (by decide +kernel)⟩
theorem fp_X12_43 : FP RX12 43 12 27 2 (.array .int) true := ⟨_, rfl, rfl, in_TB (List.mem_of_getElem? (i := 1229) (by decide +kernel)) (by decide +kernel), rfl, by decide +kernel, fun _ => rfl⟩
theorem fl_X12_46 : FL RX12 46 12 28 2 := ⟨_, rfl, rfl, in_TB (List.mem_of_getElem? (i := 1230) (by decide +kernel)) (by decide +kernel)⟩
theorem fp_X12_46 : FP RX12 46 12 28 2 (.array .int) true := ⟨_, rfl, rfl, in_TB (List.mem_of_getElem? (i := 1230) (by decide +kernel)) (by decide +kernel), rfl, by decide +kernel, fun _ => rfl⟩
theorem fl_X12_49 : FL RX12 49 12 29 2 := ⟨_, rfl, rfl, in_TB (List.mem_of_getElem? (i := 1231) (by decide +kernel)) (by decide +kernel)⟩
theorem fp_X12_49 : FP RX12 49 12 29 2 (.array .int) true := ⟨_, rfl, rfl, in_TB (List.mem_of_getElem? (i := 1231) (by decide +kernel)) (by decide +kernel), rfl, by decide +kernel, fun _ => rfl⟩
theorem fl_X12_52 : FL RX12 52 12 30 2 := ⟨_, rfl, rfl, in_TB (List.mem_of_getElem? (i := 1232) (by decide +kernel)) (by decide +kernel)⟩
theorem fp_X12_52 : FP RX12 52 12 30 2 (.array .int) true := ⟨_, rfl, rfl, in_TB (List.mem_of_getElem? (i := 1232) (by decide +kernel)) (by decide +kernel), rfl, by decide +kernel, fun _ => rfl⟩
theorem fl_X12_55 : FL RX12 55 12 31 2 := ⟨_, rfl, rfl, in_TB (List.mem_of_getElem? (i := 1233) (by decide +kernel)) (by decide +kernel)⟩
theorem fp_X12_55 : FP RX12 55 12 31 2 (.array .int) true := ⟨_, rfl, rfl, in_TB (List.mem_of_getElem? (i := 1233) (by decide +kernel)) (by decide +kernel), rfl, by decide +kernel, fun _ => rfl⟩
theorem fl_X12_58 : FL RX12 58 12 32 2 := ⟨_, rfl, rfl, in_TB (List.mem_of_getElem? (i := 1234) (by decide +kernel)) (by decide +kernel)⟩
theorem fp_X12_58 : FP RX12 58 12 32 2 (.array .int) true := ⟨_, rfl, rfl, in_TB (List.mem_of_getElem? (i := 1234) (by decide +kernel)) (by decide +kernel), rfl, by decide +kernel, fun _ => rfl⟩
theorem fl_X12_61 : FL RX12 61 12 33 2 := ⟨_, rfl, rfl, in_TB (List.mem_of_getElem? (i := 1235) (by decide +kernel)) (by decide +kernel)⟩
theorem fp_X12_61 : FP RX12 61 12 33 2 (.array .int) true := ⟨_, rfl, rfl, in_TB (List.mem_of_getElem? (i := 1235) (by decide +kernel)) (by decide +kernel), rfl, by decide +kernel, fun _ => rfl⟩
theorem fl_X12_316 : FL RX12 316 12 34 0 := ⟨_, rfl, rfl, in_TB (List.mem_of_getElem? (i := 1236) (by decide +kernel)) (by decide +kernel)⟩
theorem fp_X12_316 : FP RX12 316 12 34 0 .int false := ⟨_, rfl, rfl, in_TB (List.mem_of_getElem? (i := 1236) (by decide +kernel)) (by decide +kernel), rfl, by decide +kernel, fun _ => rfl⟩
theorem fl_X12_313 : FL RX12 313 12 35 0 := ⟨_, rfl, rfl, in_TB (List.mem_of_getElem? (i := 1237) (by decide +kernel)) (by decide +kernel)⟩
theorem fp_X12_313 : FP RX12 313 12 35 0 .int false := ⟨_, rfl, rfl, in_TB (List.mem_of_getElem? (i := 1237) (by decide +kernel)) (by decide +kernel), rfl, by decide +kernel, fun _ => rfl⟩
theorem fl_X12_64 : FL RX12 64 12 36 2 := ⟨_, rfl, rfl, in_TB (List.mem_of_getElem? (i := 1238) (by decide +kernel)) (by decide +kernel)⟩
theorem fp_X12_64 : FP RX12 64 12 36 2 (.array .long) true := ⟨_, rfl, rfl, in_TB (List.mem_of_getElem? (i := 1238) (by decide +kernel)) (by decide +kernel), rfl, by decide +kernel, fun _ => rfl⟩
theorem fl_X12_67 : FL RX12 67 12 37 2 := ⟨_, rfl, rfl, in_TB (List.mem_of_getElem? (i := 1239) (by decide +kernel)) (by decide +kernel)⟩
theorem fp_X12_67 : FP RX12 67 12 37 2 (.array .long) true := ⟨_, rfl, rfl, in_TB (List.mem_of_getElem? (i := 1239) (by decide +kernel)) (by decide +kernel), rfl, by decide +kernel, fun _ => rfl⟩
theorem fl_X12_70 : FL RX12 70 12 38 2 := ⟨_, rfl, rfl, in_TB (List.mem_of_getElem? (i := 1240) (by decide +kernel)) (by decide +kernel)⟩
theorem fp_X12_70 : FP RX12 70 12 38 2 (.array .long) true := ⟨_, rfl, rfl, in_TB (List.mem_of_getElem? (i := 1240) (by decide +kernel)) (by decide +kernel), rfl, by decide +kernel, fun _ => rfl⟩
theorem fl_X12_73 : FL RX12 73 12 39 2 := ⟨_, rfl, rfl, in_TB (List.mem_of_getElem? (i := 1241) (by decide +kernel)) (by decide +kernel)⟩
theorem fp_X12_73 : FP RX12 73 12 39 2 (.array .int) true := ⟨_, rfl, rfl, in_TB (List.mem_of_getElem? (i := 1241) (by decide +kernel)) (by decide +kernel), rfl, by decide +kernel, fun _ => rfl⟩
theorem fl_X12_76 : FL RX12 76 12 40 2 := ⟨_, rfl, rfl, in_TB (List.mem_of_getElem? (i := 1242) (by decide +kernel)) (by decide +kernel)⟩
theorem fp_X12_76 : FP RX12 76 12 40 2 (.array .int) true := ⟨_, rfl, rfl, in_TB (List.mem_of_getElem? (i := 1242) (by decide +kernel)) (by decide +kernel), rfl, by decide +kernel, fun _ => rfl⟩
theorem fl_X12_79 : FL RX12 79 12 41 2 := ⟨_, rfl, rfl, in_TB (List.mem_of_getElem? (i := 1243) (by decide +kernel)) (by decide +kernel)⟩
theorem fp_X12_79 : FP RX12 79 12 41 2 (.array .int) true := ⟨_, rfl, rfl, in_TB (List.mem_of_getElem? (i := 1243) (by decide +kernel)) (by decide +kernel), rfl, by decide +kernel, fun _ => rfl⟩
theorem fl_X12_82 : FL RX12 82 12 42 2 := ⟨_, rfl, rfl, in_TB (List.mem_of_getElem? (i := 1244) (by decide +kernel)) (by decide +kernel)⟩
theorem fp_X12_82 : FP RX12 82 12 42 2 (.array .int) true := ⟨_, rfl, rfl, in_TB (List.mem_of_getElem? (i := 1244) (by decide +kernel)) (by decide +kernel), rfl, by decide +kernel, fun _ => rfl⟩
theorem ml_L_15 : Cond.methodLink RL 15 yX11_init ∈ TB := in_TB (List.mem_of_getElem? (i := 133) (by decide +kernel)) (by decide +kernel)
theorem ml_X11_1 : Cond.methodLink RX11 1 Lib.objectInit ∈ TB := in_TB (List.mem_of_getElem? (i := 136) (by decide +kernel)) (by decide +kernel)
theorem ml_X11_11 : Cond.methodLink RX11 11 yX2_init ∈ TB := in_TB (List.mem_of_getElem? (i := 141) (by decide +kernel)) (by decide +kernel)
theorem ml_X2_1 : Cond.methodLink RX2 1 Lib.objectInit ∈ TB := in_TB (List.mem_of_getElem? (i := 144) (by decide +kernel)) (by decide +kernel)
theorem ml_X2_7 : Cond.methodLink RX2 7 Lib.Math.max.name ∈ TB := in_TB (List.mem_of_getElem? (i := 145) (by decide +kernel)) (by decide +kernel)
theorem ml_X5_3 : Cond.methodLink RX5 3 Lib.objectInit ∈ TB := in_TB (List.mem_of_getElem? (i := 161) (by decide +kernel)) (by decide +kernel)
theorem ml_X9_3 : Cond.methodLink RX9 3 Lib.objectInit ∈ TB := in_TB (List.mem_of_getElem? (i := 167) (by decide +kernel)) (by decide +kernel)
theorem ml_X9_11 : Cond.methodLink RX9 11 yX2_init ∈ TB := in_TB (List.mem_of_getElem? (i := 169) (by decide +kernel)) (by decide +kernel)
theorem ml_X4_3 : Cond.methodLink RX4 3 Lib.objectInit ∈ TB := in_TB (List.mem_of_getElem? (i := 216) (by decide +kernel)) (by decide +kernel)
theorem ml_X11_48 : Cond.methodLink RX11 48 yX8_init ∈ TB := in_TB (List.mem_of_getElem? (i := 229) (by decide +kernel)) (by decide +kernel)
theorem ml_X8_3 : Cond.methodLink RX8 3 Lib.objectInit ∈ TB := in_TB (List.mem_of_getElem? (i := 232) (by decide +kernel)) (by decide +kernel)
theorem ml_X8_11 : Cond.methodLink RX8 11 yX2_init ∈ TB := in_TB (List.mem_of_getElem? (i := 234) (by decide +kernel)) (by decide +kernel)
theorem ml_X8_53 : Cond.methodLink RX8 53 Lib.Math.min.name ∈ TB := in_TB (List.mem_of_getElem? (i := 237) (by decide +kernel)) (by decide +kernel)
theorem ml_X8_59 : Cond.methodLink RX8 59 Lib.Math.max.name ∈ TB := in_TB (List.mem_of_getElem? (i := 240) (by decide +kernel)) (by decide +kernel)
theorem ml_X8_72 : Cond.methodLink RX8 72 yX2_add ∈ TB := in_TB (List.mem_of_getElem? (i := 241) (by decide +kernel)) (by decide +kernel)
theorem ml_X11_60 : Cond.methodLink RX11 60 yX3_init ∈ TB := in_TB (List.mem_of_getElem? (i := 316) (by decide +kernel)) (by decide +kernel)
theorem ml_X3_3 : Cond.methodLink RX3 3 Lib.objectInit ∈ TB := in_TB (List.mem_of_getElem? (i := 319) (by decide +kernel)) (by decide +kernel)
theorem ml_X3_19 : Cond.methodLink RX3 19 yX8_posesInAll ∈ TB := in_TB (List.mem_of_getElem? (i := 320) (by decide +kernel)) (by decide +kernel)
theorem ml_X3_29 : Cond.methodLink RX3 29 yJ7_fill_53178 ∈ TB := in_TB (List.mem_of_getElem? (i := 324) (by decide +kernel)) (by decide +kernel)
theorem ml_X11_69 : Cond.methodLink RX11 69 yX10_init ∈ TB := in_TB (List.mem_of_getElem? (i := 339) (by decide +kernel)) (by decide +kernel)
theorem ml_X10_3 : Cond.methodLink RX10 3 Lib.objectInit ∈ TB := in_TB (List.mem_of_getElem? (i := 342) (by decide +kernel)) (by decide +kernel)
theorem ml_X11_76 : Cond.methodLink RX11 76 yX1_init ∈ TB := in_TB (List.mem_of_getElem? (i := 374) (by decide +kernel)) (by decide +kernel)
theorem ml_X1_3 : Cond.methodLink RX1 3 Lib.objectInit ∈ TB := in_TB (List.mem_of_getElem? (i := 377) (by decide +kernel)) (by decide +kernel)
theorem ml_L_21 : Cond.methodLink RL 21 yX11_cell ∈ TB := in_TB (List.mem_of_getElem? (i := 434) (by decide +kernel)) (by decide +kernel)
theorem ml_X11_83 : Cond.methodLink RX11 83 yX8_isCell ∈ TB := in_TB (List.mem_of_getElem? (i := 438) (by decide +kernel)) (by decide +kernel)
theorem ml_X11_87 : Cond.methodLink RX11 87 yX8_hasPairIn ∈ TB := in_TB (List.mem_of_getElem? (i := 442) (by decide +kernel)) (by decide +kernel)
theorem ml_X8_90 : Cond.methodLink RX8 90 yX2_size ∈ TB := in_TB (List.mem_of_getElem? (i := 446) (by decide +kernel)) (by decide +kernel)
theorem ml_X8_86 : Cond.methodLink RX8 86 yX2_at ∈ TB := in_TB (List.mem_of_getElem? (i := 450) (by decide +kernel)) (by decide +kernel)
theorem ml_X11_93 : Cond.methodLink RX11 93 yX2_put ∈ TB := in_TB (List.mem_of_getElem? (i := 454) (by decide +kernel)) (by decide +kernel)
theorem ml_X11_96 : Cond.methodLink RX11 96 yX8_forgetSteps ∈ TB := in_TB (List.mem_of_getElem? (i := 458) (by decide +kernel)) (by decide +kernel)
theorem ml_X8_96 : Cond.methodLink RX8 96 yX2_cutTo ∈ TB := in_TB (List.mem_of_getElem? (i := 462) (by decide +kernel)) (by decide +kernel)
theorem ml_X2_23 : Cond.methodLink RX2 23 Lib.Math.min.name ∈ TB := in_TB (List.mem_of_getElem? (i := 466) (by decide +kernel)) (by decide +kernel)
theorem ml_X11_99 : Cond.methodLink RX11 99 yX3_forget ∈ TB := in_TB (List.mem_of_getElem? (i := 467) (by decide +kernel)) (by decide +kernel)
theorem ml_L_25 : Cond.methodLink RL 25 yX11_pair ∈ TB := in_TB (List.mem_of_getElem? (i := 471) (by decide +kernel)) (by decide +kernel)
theorem ml_X11_102 : Cond.methodLink RX11 102 yX8_isPose ∈ TB := in_TB (List.mem_of_getElem? (i := 475) (by decide +kernel)) (by decide +kernel)
theorem ml_X8_82 : Cond.methodLink RX8 82 yX8_posesInAll ∈ TB := in_TB (List.mem_of_getElem? (i := 479) (by decide +kernel)) (by decide +kernel)
theorem ml_X11_105 : Cond.methodLink RX11 105 yX8_isText ∈ TB := in_TB (List.mem_of_getElem? (i := 480) (by decide +kernel)) (by decide +kernel)
theorem ml_X11_111 : Cond.methodLink RX11 111 yX2_size ∈ TB := in_TB (List.mem_of_getElem? (i := 484) (by decide +kernel)) (by decide +kernel)
theorem ml_X11_115 : Cond.methodLink RX11 115 yX2_add ∈ TB := in_TB (List.mem_of_getElem? (i := 485) (by decide +kernel)) (by decide +kernel)
theorem ml_L_30 : Cond.methodLink RL 30 yX11_feed ∈ TB := in_TB (List.mem_of_getElem? (i := 486) (by decide +kernel)) (by decide +kernel)
theorem ml_X11_121 : Cond.methodLink RX11 121 yX11_addBytes ∈ TB := in_TB (List.mem_of_getElem? (i := 490) (by decide +kernel)) (by decide +kernel)
theorem ml_L_35 : Cond.methodLink RL 35 yX11_end ∈ TB := in_TB (List.mem_of_getElem? (i := 494) (by decide +kernel)) (by decide +kernel)
theorem ml_X11_124 : Cond.methodLink RX11 124 yX2_cutTo ∈ TB := in_TB (List.mem_of_getElem? (i := 498) (by decide +kernel)) (by decide +kernel)
theorem ml_L_40 : Cond.methodLink RL 40 yX11_text ∈ TB := in_TB (List.mem_of_getElem? (i := 499) (by decide +kernel)) (by decide +kernel)
theorem ml_X11_130 : Cond.methodLink RX11 130 yX5_read ∈ TB := in_TB (List.mem_of_getElem? (i := 503) (by decide +kernel)) (by decide +kernel)
theorem ml_X5_32 : Cond.methodLink RX5 32 yX9_scan ∈ TB := in_TB (List.mem_of_getElem? (i := 507) (by decide +kernel)) (by decide +kernel)
theorem ml_X9_34 : Cond.methodLink RX9 34 yX2_cutTo ∈ TB := in_TB (List.mem_of_getElem? (i := 511) (by decide +kernel)) (by decide +kernel)
theorem ml_X9_26 : Cond.methodLink RX9 26 yX2_size ∈ TB := in_TB (List.mem_of_getElem? (i := 512) (by decide +kernel)) (by decide +kernel)
theorem ml_X9_37 : Cond.methodLink RX9 37 yX9_scanOne ∈ TB := in_TB (List.mem_of_getElem? (i := 513) (by decide +kernel)) (by decide +kernel)
theorem ml_X9_30 : Cond.methodLink RX9 30 yX2_at ∈ TB := in_TB (List.mem_of_getElem? (i := 517) (by decide +kernel)) (by decide +kernel)
theorem ml_X9_45 : Cond.methodLink RX9 45 yX9_isLetter ∈ TB := in_TB (List.mem_of_getElem? (i := 518) (by decide +kernel)) (by decide +kernel)
theorem ml_X9_49 : Cond.methodLink RX9 49 yX9_scanWord ∈ TB := in_TB (List.mem_of_getElem? (i := 521) (by decide +kernel)) (by decide +kernel)
theorem ml_X9_61 : Cond.methodLink RX9 61 yX9_spelling ∈ TB := in_TB (List.mem_of_getElem? (i := 525) (by decide +kernel)) (by decide +kernel)
theorem ml_X9_65 : Cond.methodLink RX9 65 yX9_isSpelled ∈ TB := in_TB (List.mem_of_getElem? (i := 548) (by decide +kernel)) (by decide +kernel)
theorem ml_X9_78 : Cond.methodLink RX9 78 yJ0_length_8abf5 ∈ TB := in_TB (List.mem_of_getElem? (i := 551) (by decide +kernel)) (by decide +kernel)
theorem ml_J0_335 : Cond.methodLink RJ0 335 yJ0_coder_7d493 ∈ TB := in_TB (List.mem_of_getElem? (i := 555) (by decide +kernel)) (by decide +kernel)
theorem ml_X9_83 : Cond.methodLink RX9 83 yJ0_charAt_5068e ∈ TB := in_TB (List.mem_of_getElem? (i := 561) (by decide +kernel)) (by decide +kernel)
theorem ml_J0_492 : Cond.methodLink RJ0 492 yJ0_isLatin1_aae02 ∈ TB := in_TB (List.mem_of_getElem? (i := 565) (by decide +kernel)) (by decide +kernel)
theorem ml_J0_495 : Cond.methodLink RJ0 495 yJ1_charAt_3b067 ∈ TB := in_TB (List.mem_of_getElem? (i := 569) (by decide +kernel)) (by decide +kernel)
theorem ml_J1_9 : Cond.methodLink RJ1 9 yJ0_checkIndex_df160 ∈ TB := in_TB (List.mem_of_getElem? (i := 572) (by decide +kernel)) (by decide +kernel)
theorem ml_J0_1059 : Cond.methodLink RJ0 1059 yJ3_checkIndex_8e157 ∈ TB := in_TB (List.mem_of_getElem? (i := 577) (by decide +kernel)) (by decide +kernel)
theorem ml_J0_498 : Cond.methodLink RJ0 498 yJ2_charAt_3b067 ∈ TB := in_TB (List.mem_of_getElem? (i := 580) (by decide +kernel)) (by decide +kernel)
theorem ml_J2_67 : Cond.methodLink RJ2 67 yJ2_checkIndex_2214a ∈ TB := in_TB (List.mem_of_getElem? (i := 583) (by decide +kernel)) (by decide +kernel)
theorem ml_J2_48 : Cond.methodLink RJ2 48 yJ2_length_9d52b ∈ TB := in_TB (List.mem_of_getElem? (i := 586) (by decide +kernel)) (by decide +kernel)
theorem ml_J2_414 : Cond.methodLink RJ2 414 yJ0_checkIndex_df160 ∈ TB := in_TB (List.mem_of_getElem? (i := 589) (by decide +kernel)) (by decide +kernel)
theorem ml_J2_71 : Cond.methodLink RJ2 71 yJ2_getChar_3b067 ∈ TB := in_TB (List.mem_of_getElem? (i := 590) (by decide +kernel)) (by decide +kernel)
theorem ml_X9_41 : Cond.methodLink RX9 41 yX9_note ∈ TB := in_TB (List.mem_of_getElem? (i := 599) (by decide +kernel)) (by decide +kernel)
theorem ml_X9_75 : Cond.methodLink RX9 75 yX2_add ∈ TB := in_TB (List.mem_of_getElem? (i := 603) (by decide +kernel)) (by decide +kernel)
theorem ml_X9_52 : Cond.methodLink RX9 52 yX9_isDigit ∈ TB := in_TB (List.mem_of_getElem? (i := 604) (by decide +kernel)) (by decide +kernel)
theorem ml_X9_55 : Cond.methodLink RX9 55 yX9_scanNumber ∈ TB := in_TB (List.mem_of_getElem? (i := 607) (by decide +kernel)) (by decide +kernel)
theorem ml_X9_69 : Cond.methodLink RX9 69 Lib.Math.min.name ∈ TB := in_TB (List.mem_of_getElem? (i := 611) (by decide +kernel)) (by decide +kernel)
theorem ml_X9_58 : Cond.methodLink RX9 58 yX9_kindOfSign ∈ TB := in_TB (List.mem_of_getElem? (i := 612) (by decide +kernel)) (by decide +kernel)
theorem ml_X5_36 : Cond.methodLink RX5 36 yJ7_fill_53178 ∈ TB := in_TB (List.mem_of_getElem? (i := 615) (by decide +kernel)) (by decide +kernel)
theorem ml_X5_48 : Cond.methodLink RX5 48 yX9_kindAt ∈ TB := in_TB (List.mem_of_getElem? (i := 616) (by decide +kernel)) (by decide +kernel)
theorem ml_X5_58 : Cond.methodLink RX5 58 yX5_readClause ∈ TB := in_TB (List.mem_of_getElem? (i := 620) (by decide +kernel)) (by decide +kernel)
theorem ml_X5_70 : Cond.methodLink RX5 70 yX5_fail ∈ TB := in_TB (List.mem_of_getElem? (i := 624) (by decide +kernel)) (by decide +kernel)
theorem ml_X5_130 : Cond.methodLink RX5 130 yX9_placeAt ∈ TB := in_TB (List.mem_of_getElem? (i := 628) (by decide +kernel)) (by decide +kernel)
theorem ml_X5_77 : Cond.methodLink RX5 77 yX5_next ∈ TB := in_TB (List.mem_of_getElem? (i := 632) (by decide +kernel)) (by decide +kernel)
theorem ml_X5_80 : Cond.methodLink RX5 80 yX5_readEither ∈ TB := in_TB (List.mem_of_getElem? (i := 636) (by decide +kernel)) (by decide +kernel)
theorem ml_X5_92 : Cond.methodLink RX5 92 yX5_readBoth ∈ TB := in_TB (List.mem_of_getElem? (i := 640) (by decide +kernel)) (by decide +kernel)
theorem ml_X5_95 : Cond.methodLink RX5 95 yX5_readAsk ∈ TB := in_TB (List.mem_of_getElem? (i := 644) (by decide +kernel)) (by decide +kernel)
theorem ml_X5_98 : Cond.methodLink RX5 98 yX5_opens ∈ TB := in_TB (List.mem_of_getElem? (i := 648) (by decide +kernel)) (by decide +kernel)
theorem ml_X5_89 : Cond.methodLink RX5 89 yX5_order ∈ TB := in_TB (List.mem_of_getElem? (i := 652) (by decide +kernel)) (by decide +kernel)
theorem ml_X5_83 : Cond.methodLink RX5 83 yX5_readSum ∈ TB := in_TB (List.mem_of_getElem? (i := 656) (by decide +kernel)) (by decide +kernel)
theorem ml_X5_102 : Cond.methodLink RX5 102 yX5_readProduct ∈ TB := in_TB (List.mem_of_getElem? (i := 660) (by decide +kernel)) (by decide +kernel)
theorem ml_X5_105 : Cond.methodLink RX5 105 yX5_readOne ∈ TB := in_TB (List.mem_of_getElem? (i := 664) (by decide +kernel)) (by decide +kernel)
theorem ml_X5_108 : Cond.methodLink RX5 108 yX5_readNumber ∈ TB := in_TB (List.mem_of_getElem? (i := 668) (by decide +kernel)) (by decide +kernel)
theorem ml_X5_117 : Cond.methodLink RX5 117 yX9_valueAt ∈ TB := in_TB (List.mem_of_getElem? (i := 672) (by decide +kernel)) (by decide +kernel)
theorem ml_X5_120 : Cond.methodLink RX5 120 yX5_orderWith ∈ TB := in_TB (List.mem_of_getElem? (i := 676) (by decide +kernel)) (by decide +kernel)
theorem ml_X5_111 : Cond.methodLink RX5 111 yX5_readName ∈ TB := in_TB (List.mem_of_getElem? (i := 680) (by decide +kernel)) (by decide +kernel)
theorem ml_X5_114 : Cond.methodLink RX5 114 yX5_readOpened ∈ TB := in_TB (List.mem_of_getElem? (i := 684) (by decide +kernel)) (by decide +kernel)
theorem ml_X5_86 : Cond.methodLink RX5 86 yX5_take ∈ TB := in_TB (List.mem_of_getElem? (i := 688) (by decide +kernel)) (by decide +kernel)
theorem ml_X5_124 : Cond.methodLink RX5 124 yX5_readIf ∈ TB := in_TB (List.mem_of_getElem? (i := 692) (by decide +kernel)) (by decide +kernel)
theorem ml_X5_127 : Cond.methodLink RX5 127 yX5_landHere ∈ TB := in_TB (List.mem_of_getElem? (i := 696) (by decide +kernel)) (by decide +kernel)
theorem ml_X5_63 : Cond.methodLink RX5 63 yJ7_copyOf_59c91 ∈ TB := in_TB (List.mem_of_getElem? (i := 702) (by decide +kernel)) (by decide +kernel)
theorem ml_J7_304 : Cond.methodLink RJ7 304 Lib.Math.min.name ∈ TB := in_TB (List.mem_of_getElem? (i := 712) (by decide +kernel)) (by decide +kernel)
theorem ml_J7_150 : Cond.methodLink RJ7 150 arraycopyName ∈ TB := in_TB (List.mem_of_getElem? (i := 713) (by decide +kernel)) (by decide +kernel)
theorem ml_X5_67 : Cond.methodLink RX5 67 yX6_init ∈ TB := in_TB (List.mem_of_getElem? (i := 716) (by decide +kernel)) (by decide +kernel)
theorem ml_X6_1 : Cond.methodLink RX6 1 Lib.objectInit ∈ TB := in_TB (List.mem_of_getElem? (i := 719) (by decide +kernel)) (by decide +kernel)
theorem ml_X11_134 : Cond.methodLink RX11 134 yX5_found ∈ TB := in_TB (List.mem_of_getElem? (i := 739) (by decide +kernel)) (by decide +kernel)
theorem ml_X11_137 : Cond.methodLink RX11 137 yX5_foundAt ∈ TB := in_TB (List.mem_of_getElem? (i := 743) (by decide +kernel)) (by decide +kernel)
theorem ml_X11_140 : Cond.methodLink RX11 140 yX8_addText ∈ TB := in_TB (List.mem_of_getElem? (i := 747) (by decide +kernel)) (by decide +kernel)
theorem ml_L_45 : Cond.methodLink RL 45 yX11_fault ∈ TB := in_TB (List.mem_of_getElem? (i := 751) (by decide +kernel)) (by decide +kernel)
theorem ml_L_49 : Cond.methodLink RL 49 yX11_goes ∈ TB := in_TB (List.mem_of_getElem? (i := 755) (by decide +kernel)) (by decide +kernel)
theorem ml_X11_144 : Cond.methodLink RX11 144 yX11_isTap ∈ TB := in_TB (List.mem_of_getElem? (i := 759) (by decide +kernel)) (by decide +kernel)
theorem ml_X11_147 : Cond.methodLink RX11 147 yX3_step ∈ TB := in_TB (List.mem_of_getElem? (i := 762) (by decide +kernel)) (by decide +kernel)
theorem ml_X3_35 : Cond.methodLink RX3 35 yX3_workOut ∈ TB := in_TB (List.mem_of_getElem? (i := 766) (by decide +kernel)) (by decide +kernel)
theorem ml_X3_39 : Cond.methodLink RX3 39 yX8_scriptOf ∈ TB := in_TB (List.mem_of_getElem? (i := 770) (by decide +kernel)) (by decide +kernel)
theorem ml_X3_43 : Cond.methodLink RX3 43 yX3_cellAhead ∈ TB := in_TB (List.mem_of_getElem? (i := 774) (by decide +kernel)) (by decide +kernel)
theorem ml_X3_51 : Cond.methodLink RX3 51 yX2_at ∈ TB := in_TB (List.mem_of_getElem? (i := 778) (by decide +kernel)) (by decide +kernel)
theorem ml_X3_56 : Cond.methodLink RX3 56 yX3_lookAround ∈ TB := in_TB (List.mem_of_getElem? (i := 779) (by decide +kernel)) (by decide +kernel)
theorem ml_X3_93 : Cond.methodLink RX3 93 yX4_name ∈ TB := in_TB (List.mem_of_getElem? (i := 783) (by decide +kernel)) (by decide +kernel)
theorem ml_X3_69 : Cond.methodLink RX3 69 yX4_value ∈ TB := in_TB (List.mem_of_getElem? (i := 787) (by decide +kernel)) (by decide +kernel)
theorem ml_X4_22 : Cond.methodLink RX4 22 yX4_push ∈ TB := in_TB (List.mem_of_getElem? (i := 791) (by decide +kernel)) (by decide +kernel)
theorem ml_X4_26 : Cond.methodLink RX4 26 yX4_pop ∈ TB := in_TB (List.mem_of_getElem? (i := 795) (by decide +kernel)) (by decide +kernel)
theorem ml_X4_30 : Cond.methodLink RX4 30 yX4_join ∈ TB := in_TB (List.mem_of_getElem? (i := 799) (by decide +kernel)) (by decide +kernel)
theorem ml_X4_34 : Cond.methodLink RX4 34 yX4_held ∈ TB := in_TB (List.mem_of_getElem? (i := 802) (by decide +kernel)) (by decide +kernel)
theorem ml_X4_42 : Cond.methodLink RX4 42 Lib.MathLoose.min_long.x ∈ TB := in_TB (List.mem_of_getElem? (i := 807) (by decide +kernel)) (by decide +kernel)
theorem ml_X4_48 : Cond.methodLink RX4 48 Lib.MathLoose.max_long.x ∈ TB := in_TB (List.mem_of_getElem? (i := 810) (by decide +kernel)) (by decide +kernel)
theorem ml_X3_78 : Cond.methodLink RX3 78 yX3_plainDeed ∈ TB := in_TB (List.mem_of_getElem? (i := 813) (by decide +kernel)) (by decide +kernel)
theorem ml_X3_81 : Cond.methodLink RX3 81 Lib.Math.min.name ∈ TB := in_TB (List.mem_of_getElem? (i := 816) (by decide +kernel)) (by decide +kernel)
theorem ml_X3_87 : Cond.methodLink RX3 87 Lib.Math.max.name ∈ TB := in_TB (List.mem_of_getElem? (i := 817) (by decide +kernel)) (by decide +kernel)
theorem ml_X3_90 : Cond.methodLink RX3 90 yX3_turned ∈ TB := in_TB (List.mem_of_getElem? (i := 818) (by decide +kernel)) (by decide +kernel)
theorem ml_L_54 : Cond.methodLink RL 54 yX11_tap ∈ TB := in_TB (List.mem_of_getElem? (i := 821) (by decide +kernel)) (by decide +kernel)
theorem ml_X11_151 : Cond.methodLink RX11 151 yX8_isPair ∈ TB := in_TB (List.mem_of_getElem? (i := 825) (by decide +kernel)) (by decide +kernel)
theorem ml_X11_154 : Cond.methodLink RX11 154 yX8_keepStep ∈ TB := in_TB (List.mem_of_getElem? (i := 829) (by decide +kernel)) (by decide +kernel)
theorem ml_X8_93 : Cond.methodLink RX8 93 yX2_dropFirst ∈ TB := in_TB (List.mem_of_getElem? (i := 833) (by decide +kernel)) (by decide +kernel)
theorem ml_X2_26 : Cond.methodLink RX2 26 arraycopyName ∈ TB := in_TB (List.mem_of_getElem? (i := 837) (by decide +kernel)) (by decide +kernel)
theorem ml_X11_157 : Cond.methodLink RX11 157 yX2_at ∈ TB := in_TB (List.mem_of_getElem? (i := 838) (by decide +kernel)) (by decide +kernel)
theorem ml_X11_161 : Cond.methodLink RX11 161 yX11_poseOf ∈ TB := in_TB (List.mem_of_getElem? (i := 839) (by decide +kernel)) (by decide +kernel)
theorem ml_L_58 : Cond.methodLink RL 58 yX11_row ∈ TB := in_TB (List.mem_of_getElem? (i := 842) (by decide +kernel)) (by decide +kernel)
theorem ml_L_62 : Cond.methodLink RL 62 yX11_walk ∈ TB := in_TB (List.mem_of_getElem? (i := 846) (by decide +kernel)) (by decide +kernel)
theorem ml_X11_167 : Cond.methodLink RX11 167 yX11_hasBumped ∈ TB := in_TB (List.mem_of_getElem? (i := 850) (by decide +kernel)) (by decide +kernel)
theorem ml_L_66 : Cond.methodLink RL 66 yX11_undo ∈ TB := in_TB (List.mem_of_getElem? (i := 853) (by decide +kernel)) (by decide +kernel)
theorem ml_L_70 : Cond.methodLink RL 70 yX11_of ∈ TB := in_TB (List.mem_of_getElem? (i := 857) (by decide +kernel)) (by decide +kernel)
theorem ml_L_74 : Cond.methodLink RL 74 yX11_fewest ∈ TB := in_TB (List.mem_of_getElem? (i := 861) (by decide +kernel)) (by decide +kernel)
theorem ml_X11_176 : Cond.methodLink RX11 176 yJ6_bitCount_0f7a4 ∈ TB := in_TB (List.mem_of_getElem? (i := 865) (by decide +kernel)) (by decide +kernel)
theorem ml_X11_181 : Cond.methodLink RX11 181 yX11_searcher ∈ TB := in_TB (List.mem_of_getElem? (i := 871) (by decide +kernel)) (by decide +kernel)
theorem ml_X11_205 : Cond.methodLink RX11 205 yX7_init ∈ TB := in_TB (List.mem_of_getElem? (i := 877) (by decide +kernel)) (by decide +kernel)
theorem ml_X7_5 : Cond.methodLink RX7 5 Lib.objectInit ∈ TB := in_TB (List.mem_of_getElem? (i := 880) (by decide +kernel)) (by decide +kernel)
theorem ml_X7_13 : Cond.methodLink RX7 13 yX2_init ∈ TB := in_TB (List.mem_of_getElem? (i := 882) (by decide +kernel)) (by decide +kernel)
theorem ml_X11_185 : Cond.methodLink RX11 185 yX7_goTo ∈ TB := in_TB (List.mem_of_getElem? (i := 908) (by decide +kernel)) (by decide +kernel)
theorem ml_X7_41 : Cond.methodLink RX7 41 yX2_cutTo ∈ TB := in_TB (List.mem_of_getElem? (i := 912) (by decide +kernel)) (by decide +kernel)
theorem ml_X11_190 : Cond.methodLink RX11 190 yX7_add ∈ TB := in_TB (List.mem_of_getElem? (i := 913) (by decide +kernel)) (by decide +kernel)
theorem ml_X7_44 : Cond.methodLink RX7 44 yX2_add ∈ TB := in_TB (List.mem_of_getElem? (i := 917) (by decide +kernel)) (by decide +kernel)
theorem ml_X11_191 : Cond.methodLink RX11 191 yX7_seek ∈ TB := in_TB (List.mem_of_getElem? (i := 918) (by decide +kernel)) (by decide +kernel)
theorem ml_X7_47 : Cond.methodLink RX7 47 yJ7_fill_53178 ∈ TB := in_TB (List.mem_of_getElem? (i := 922) (by decide +kernel)) (by decide +kernel)
theorem ml_X7_56 : Cond.methodLink RX7 56 yX2_size ∈ TB := in_TB (List.mem_of_getElem? (i := 923) (by decide +kernel)) (by decide +kernel)
theorem ml_X7_60 : Cond.methodLink RX7 60 yX7_slotOf ∈ TB := in_TB (List.mem_of_getElem? (i := 924) (by decide +kernel)) (by decide +kernel)
theorem ml_X7_64 : Cond.methodLink RX7 64 yX7_keep ∈ TB := in_TB (List.mem_of_getElem? (i := 929) (by decide +kernel)) (by decide +kernel)
theorem ml_X7_68 : Cond.methodLink RX7 68 yX7_isThere ∈ TB := in_TB (List.mem_of_getElem? (i := 933) (by decide +kernel)) (by decide +kernel)
theorem ml_X7_72 : Cond.methodLink RX7 72 yX7_rowBehind ∈ TB := in_TB (List.mem_of_getElem? (i := 937) (by decide +kernel)) (by decide +kernel)
theorem ml_X7_79 : Cond.methodLink RX7 79 yX2_at ∈ TB := in_TB (List.mem_of_getElem? (i := 941) (by decide +kernel)) (by decide +kernel)
theorem ml_X7_82 : Cond.methodLink RX7 82 yX3_step ∈ TB := in_TB (List.mem_of_getElem? (i := 942) (by decide +kernel)) (by decide +kernel)
theorem ml_X7_76 : Cond.methodLink RX7 76 yX7_tapsToLatest ∈ TB := in_TB (List.mem_of_getElem? (i := 944) (by decide +kernel)) (by decide +kernel)
theorem ml_X11_194 : Cond.methodLink RX11 194 yX11_tapOrCount ∈ TB := in_TB (List.mem_of_getElem? (i := 948) (by decide +kernel)) (by decide +kernel)
theorem ml_X11_208 : Cond.methodLink RX11 208 yX7_tapAt ∈ TB := in_TB (List.mem_of_getElem? (i := 951) (by decide +kernel)) (by decide +kernel)
theorem ml_L_79 : Cond.methodLink RL 79 yX11_tells ∈ TB := in_TB (List.mem_of_getElem? (i := 955) (by decide +kernel)) (by decide +kernel)
theorem ml_X11_198 : Cond.methodLink RX11 198 yX7_goApart ∈ TB := in_TB (List.mem_of_getElem? (i := 959) (by decide +kernel)) (by decide +kernel)
theorem ml_L_83 : Cond.methodLink RL 83 yX11_odds ∈ TB := in_TB (List.mem_of_getElem? (i := 963) (by decide +kernel)) (by decide +kernel)
theorem ml_X11_214 : Cond.methodLink RX11 214 yJ7_fill_d0a16 ∈ TB := in_TB (List.mem_of_getElem? (i := 968) (by decide +kernel)) (by decide +kernel)
theorem ml_X11_220 : Cond.methodLink RX11 220 yX11_spreadBy ∈ TB := in_TB (List.mem_of_getElem? (i := 971) (by decide +kernel)) (by decide +kernel)
theorem ml_X11_230 : Cond.methodLink RX11 230 yX8_posesInAll ∈ TB := in_TB (List.mem_of_getElem? (i := 975) (by decide +kernel)) (by decide +kernel)
theorem ml_X11_233 : Cond.methodLink RX11 233 arraycopyName ∈ TB := in_TB (List.mem_of_getElem? (i := 976) (by decide +kernel)) (by decide +kernel)
theorem ml_X11_226 : Cond.methodLink RX11 226 yX11_commonDivisor ∈ TB := in_TB (List.mem_of_getElem? (i := 978) (by decide +kernel)) (by decide +kernel)
theorem ml_X11_239 : Cond.methodLink RX11 239 Lib.MathLoose.max_long.x ∈ TB := in_TB (List.mem_of_getElem? (i := 981) (by decide +kernel)) (by decide +kernel)
theorem ml_L_88 : Cond.methodLink RL 88 yX11_seen ∈ TB := in_TB (List.mem_of_getElem? (i := 982) (by decide +kernel)) (by decide +kernel)
theorem ml_L_92 : Cond.methodLink RL 92 yX11_holds ∈ TB := in_TB (List.mem_of_getElem? (i := 986) (by decide +kernel)) (by decide +kernel)
theorem ml_X11_253 : Cond.methodLink RX11 253 yX11_isAllSeenBy ∈ TB := in_TB (List.mem_of_getElem? (i := 990) (by decide +kernel)) (by decide +kernel)
theorem ml_L_96 : Cond.methodLink RL 96 yX11_dark ∈ TB := in_TB (List.mem_of_getElem? (i := 994) (by decide +kernel)) (by decide +kernel)
theorem ml_X11_256 : Cond.methodLink RX11 256 yX11_bumpsFrom ∈ TB := in_TB (List.mem_of_getElem? (i := 998) (by decide +kernel)) (by decide +kernel)
theorem ml_L_100 : Cond.methodLink RL 100 yX11_rider ∈ TB := in_TB (List.mem_of_getElem? (i := 1002) (by decide +kernel)) (by decide +kernel)
theorem ml_X11_262 : Cond.methodLink RX11 262 yX11_addToSide ∈ TB := in_TB (List.mem_of_getElem? (i := 1006) (by decide +kernel)) (by decide +kernel)
theorem ml_L_104 : Cond.methodLink RL 104 yX11_carrier ∈ TB := in_TB (List.mem_of_getElem? (i := 1009) (by decide +kernel)) (by decide +kernel)
theorem ml_L_108 : Cond.methodLink RL 108 yX11_wed ∈ TB := in_TB (List.mem_of_getElem? (i := 1013) (by decide +kernel)) (by decide +kernel)
theorem ml_X11_269 : Cond.methodLink RX11 269 yX8_scriptOf ∈ TB := in_TB (List.mem_of_getElem? (i := 1017) (by decide +kernel)) (by decide +kernel)
theorem ml_X11_273 : Cond.methodLink RX11 273 yX10_carrierOf ∈ TB := in_TB (List.mem_of_getElem? (i := 1018) (by decide +kernel)) (by decide +kernel)
theorem ml_X10_42 : Cond.methodLink RX10 42 yX2_size ∈ TB := in_TB (List.mem_of_getElem? (i := 1022) (by decide +kernel)) (by decide +kernel)
theorem ml_X10_58 : Cond.methodLink RX10 58 yX10_begin ∈ TB := in_TB (List.mem_of_getElem? (i := 1023) (by decide +kernel)) (by decide +kernel)
theorem ml_X10_68 : Cond.methodLink RX10 68 yJ7_fill_53178 ∈ TB := in_TB (List.mem_of_getElem? (i := 1027) (by decide +kernel)) (by decide +kernel)
theorem ml_X10_61 : Cond.methodLink RX10 61 yX10_learn ∈ TB := in_TB (List.mem_of_getElem? (i := 1028) (by decide +kernel)) (by decide +kernel)
theorem ml_X10_74 : Cond.methodLink RX10 74 yX10_liking ∈ TB := in_TB (List.mem_of_getElem? (i := 1032) (by decide +kernel)) (by decide +kernel)
theorem ml_X10_83 : Cond.methodLink RX10 83 yX4_name ∈ TB := in_TB (List.mem_of_getElem? (i := 1036) (by decide +kernel)) (by decide +kernel)
theorem ml_X10_89 : Cond.methodLink RX10 89 yX2_at ∈ TB := in_TB (List.mem_of_getElem? (i := 1037) (by decide +kernel)) (by decide +kernel)
theorem ml_X10_96 : Cond.methodLink RX10 96 yX4_value ∈ TB := in_TB (List.mem_of_getElem? (i := 1038) (by decide +kernel)) (by decide +kernel)
theorem ml_X10_65 : Cond.methodLink RX10 65 yX10_oneAsks ∈ TB := in_TB (List.mem_of_getElem? (i := 1039) (by decide +kernel)) (by decide +kernel)
theorem ml_X10_100 : Cond.methodLink RX10 100 yX10_likedMost ∈ TB := in_TB (List.mem_of_getElem? (i := 1043) (by decide +kernel)) (by decide +kernel)
theorem ml_X10_103 : Cond.methodLink RX10 103 yX10_answer ∈ TB := in_TB (List.mem_of_getElem? (i := 1047) (by decide +kernel)) (by decide +kernel)
theorem ml_L_112 : Cond.methodLink RL 112 yX11_crowd ∈ TB := in_TB (List.mem_of_getElem? (i := 1051) (by decide +kernel)) (by decide +kernel)
theorem ml_X11_277 : Cond.methodLink RX11 277 yX1_rounds ∈ TB := in_TB (List.mem_of_getElem? (i := 1055) (by decide +kernel)) (by decide +kernel)
theorem ml_X1_23 : Cond.methodLink RX1 23 yX1_begin ∈ TB := in_TB (List.mem_of_getElem? (i := 1059) (by decide +kernel)) (by decide +kernel)
theorem ml_X1_33 : Cond.methodLink RX1 33 yX2_size ∈ TB := in_TB (List.mem_of_getElem? (i := 1063) (by decide +kernel)) (by decide +kernel)
theorem ml_X1_53 : Cond.methodLink RX1 53 Lib.Math.min.name ∈ TB := in_TB (List.mem_of_getElem? (i := 1064) (by decide +kernel)) (by decide +kernel)
theorem ml_X1_43 : Cond.methodLink RX1 43 yX2_at ∈ TB := in_TB (List.mem_of_getElem? (i := 1065) (by decide +kernel)) (by decide +kernel)
theorem ml_X1_63 : Cond.methodLink RX1 63 yX1_unlessHome ∈ TB := in_TB (List.mem_of_getElem? (i := 1066) (by decide +kernel)) (by decide +kernel)
theorem ml_X1_39 : Cond.methodLink RX1 39 yX1_isEmpty ∈ TB := in_TB (List.mem_of_getElem? (i := 1069) (by decide +kernel)) (by decide +kernel)
theorem ml_X1_47 : Cond.methodLink RX1 47 yX1_oneRound ∈ TB := in_TB (List.mem_of_getElem? (i := 1073) (by decide +kernel)) (by decide +kernel)
theorem ml_X1_69 : Cond.methodLink RX1 69 yX3_step ∈ TB := in_TB (List.mem_of_getElem? (i := 1077) (by decide +kernel)) (by decide +kernel)
theorem ml_X1_78 : Cond.methodLink RX1 78 yX1_hasPairIn ∈ TB := in_TB (List.mem_of_getElem? (i := 1079) (by decide +kernel)) (by decide +kernel)
theorem ml_L_116 : Cond.methodLink RL 116 yX11_chase ∈ TB := in_TB (List.mem_of_getElem? (i := 1083) (by decide +kernel)) (by decide +kernel)
theorem ml_X11_280 : Cond.methodLink RX11 280 yX11_isChase ∈ TB := in_TB (List.mem_of_getElem? (i := 1087) (by decide +kernel)) (by decide +kernel)
theorem ml_X11_284 : Cond.methodLink RX11 284 yX11_pursuer ∈ TB := in_TB (List.mem_of_getElem? (i := 1091) (by decide +kernel)) (by decide +kernel)
theorem ml_X11_301 : Cond.methodLink RX11 301 yX0_init ∈ TB := in_TB (List.mem_of_getElem? (i := 1097) (by decide +kernel)) (by decide +kernel)
theorem ml_X0_3 : Cond.methodLink RX0 3 Lib.objectInit ∈ TB := in_TB (List.mem_of_getElem? (i := 1100) (by decide +kernel)) (by decide +kernel)
theorem ml_X0_19 : Cond.methodLink RX0 19 yX8_posesInAll ∈ TB := in_TB (List.mem_of_getElem? (i := 1101) (by decide +kernel)) (by decide +kernel)
theorem ml_X11_288 : Cond.methodLink RX11 288 yX0_turns ∈ TB := in_TB (List.mem_of_getElem? (i := 1136) (by decide +kernel)) (by decide +kernel)
theorem ml_X0_51 : Cond.methodLink RX0 51 yX0_link ∈ TB := in_TB (List.mem_of_getElem? (i := 1140) (by decide +kernel)) (by decide +kernel)
theorem ml_X0_78 : Cond.methodLink RX0 78 yJ7_fill_53178 ∈ TB := in_TB (List.mem_of_getElem? (i := 1144) (by decide +kernel)) (by decide +kernel)
theorem ml_X0_84 : Cond.methodLink RX0 84 yX8_isPose ∈ TB := in_TB (List.mem_of_getElem? (i := 1145) (by decide +kernel)) (by decide +kernel)
theorem ml_X0_68 : Cond.methodLink RX0 68 yX3_step ∈ TB := in_TB (List.mem_of_getElem? (i := 1146) (by decide +kernel)) (by decide +kernel)
theorem ml_X0_55 : Cond.methodLink RX0 55 yX0_begin ∈ TB := in_TB (List.mem_of_getElem? (i := 1148) (by decide +kernel)) (by decide +kernel)
theorem ml_X0_88 : Cond.methodLink RX0 88 yX0_settle ∈ TB := in_TB (List.mem_of_getElem? (i := 1152) (by decide +kernel)) (by decide +kernel)
theorem ml_X0_61 : Cond.methodLink RX0 61 yX0_settleThiefs ∈ TB := in_TB (List.mem_of_getElem? (i := 1156) (by decide +kernel)) (by decide +kernel)
theorem ml_X0_65 : Cond.methodLink RX0 65 yX0_settleCatchers ∈ TB := in_TB (List.mem_of_getElem? (i := 1160) (by decide +kernel)) (by decide +kernel)
theorem ml_L_120 : Cond.methodLink RL 120 yX11_hunt ∈ TB := in_TB (List.mem_of_getElem? (i := 1164) (by decide +kernel)) (by decide +kernel)
theorem ml_X11_294 : Cond.methodLink RX11 294 yX0_firstTap ∈ TB := in_TB (List.mem_of_getElem? (i := 1168) (by decide +kernel)) (by decide +kernel)
theorem ml_L_124 : Cond.methodLink RL 124 yX11_image ∈ TB := in_TB (List.mem_of_getElem? (i := 1172) (by decide +kernel)) (by decide +kernel)
theorem ml_X11_302 : Cond.methodLink RX11 302 yX8_copyFrom ∈ TB := in_TB (List.mem_of_getElem? (i := 1176) (by decide +kernel)) (by decide +kernel)
theorem ml_X8_75 : Cond.methodLink RX8 75 yX2_copyFrom ∈ TB := in_TB (List.mem_of_getElem? (i := 1180) (by decide +kernel)) (by decide +kernel)
theorem ml_L_128 : Cond.methodLink RL 128 yX11_back ∈ TB := in_TB (List.mem_of_getElem? (i := 1184) (by decide +kernel)) (by decide +kernel)
theorem ml_L_132 : Cond.methodLink RL 132 yX11_about ∈ TB := in_TB (List.mem_of_getElem? (i := 1188) (by decide +kernel)) (by decide +kernel)
theorem ml_L_9 : Cond.methodLink RL 9 yL_cell ∈ TB := in_TB (List.mem_of_getElem? (i := 1192) (by decide +kernel)) (by decide +kernel)
theorem ml_L_20 : Cond.methodLink RL 20 yX12_init ∈ TB := in_TB (List.mem_of_getElem? (i := 1197) (by decide +kernel)) (by decide +kernel)
theorem ml_X12_1 : Cond.methodLink RX12 1 Lib.objectInit ∈ TB := in_TB (List.mem_of_getElem? (i := 1200) (by decide +kernel)) (by decide +kernel)
theorem ml_X12_91 : Cond.methodLink RX12 91 yX12_copy ∈ TB := in_TB (List.mem_of_getElem? (i := 1201) (by decide +kernel)) (by decide +kernel)
theorem ml_L_24 : Cond.methodLink RL 24 yX12_cell ∈ TB := in_TB (List.mem_of_getElem? (i := 1332) (by decide +kernel)) (by decide +kernel)
theorem ml_X12_103 : Cond.methodLink RX12 103 yX12_isCell ∈ TB := in_TB (List.mem_of_getElem? (i := 1336) (by decide +kernel)) (by decide +kernel)
theorem ml_X12_95 : Cond.methodLink RX12 95 yX12_isIn ∈ TB := in_TB (List.mem_of_getElem? (i := 1340) (by decide +kernel)) (by decide +kernel)
theorem ml_X12_106 : Cond.methodLink RX12 106 yX12_poseOf ∈ TB := in_TB (List.mem_of_getElem? (i := 1343) (by decide +kernel)) (by decide +kernel)
theorem ml_L_29 : Cond.methodLink RL 29 yX12_pair ∈ TB := in_TB (List.mem_of_getElem? (i := 1347) (by decide +kernel)) (by decide +kernel)
theorem ml_X12_110 : Cond.methodLink RX12 110 yX12_isPose ∈ TB := in_TB (List.mem_of_getElem? (i := 1351) (by decide +kernel)) (by decide +kernel)
theorem ml_X12_99 : Cond.methodLink RX12 99 yX12_isWall ∈ TB := in_TB (List.mem_of_getElem? (i := 1355) (by decide +kernel)) (by decide +kernel)
theorem ml_X12_113 : Cond.methodLink RX12 113 yX12_isText ∈ TB := in_TB (List.mem_of_getElem? (i := 1359) (by decide +kernel)) (by decide +kernel)
theorem ml_L_103 : Cond.methodLink RL 103 yX12_rider ∈ TB := in_TB (List.mem_of_getElem? (i := 1363) (by decide +kernel)) (by decide +kernel)
theorem ml_L_107 : Cond.methodLink RL 107 yX12_carrier ∈ TB := in_TB (List.mem_of_getElem? (i := 1367) (by decide +kernel)) (by decide +kernel)
theorem ml_L_34 : Cond.methodLink RL 34 yX12_feed ∈ TB := in_TB (List.mem_of_getElem? (i := 1371) (by decide +kernel)) (by decide +kernel)
theorem ml_X12_119 : Cond.methodLink RX12 119 yX12_four ∈ TB := in_TB (List.mem_of_getElem? (i := 1375) (by decide +kernel)) (by decide +kernel)
theorem ml_L_39 : Cond.methodLink RL 39 yX12_end ∈ TB := in_TB (List.mem_of_getElem? (i := 1379) (by decide +kernel)) (by decide +kernel)
theorem ml_L_44 : Cond.methodLink RL 44 yX12_text ∈ TB := in_TB (List.mem_of_getElem? (i := 1383) (by decide +kernel)) (by decide +kernel)
theorem ml_X12_260 : Cond.methodLink RX12 260 yX12_readText ∈ TB := in_TB (List.mem_of_getElem? (i := 1387) (by decide +kernel)) (by decide +kernel)
theorem ml_X12_194 : Cond.methodLink RX12 194 yX12_nextToken ∈ TB := in_TB (List.mem_of_getElem? (i := 1391) (by decide +kernel)) (by decide +kernel)
theorem ml_X12_126 : Cond.methodLink RX12 126 yX12_byteAt ∈ TB := in_TB (List.mem_of_getElem? (i := 1395) (by decide +kernel)) (by decide +kernel)
theorem ml_X12_135 : Cond.methodLink RX12 135 yX12_isDigit ∈ TB := in_TB (List.mem_of_getElem? (i := 1399) (by decide +kernel)) (by decide +kernel)
theorem ml_X12_142 : Cond.methodLink RX12 142 yX12_isLetter ∈ TB := in_TB (List.mem_of_getElem? (i := 1403) (by decide +kernel)) (by decide +kernel)
theorem ml_X12_257 : Cond.methodLink RX12 257 yX12_clause ∈ TB := in_TB (List.mem_of_getElem? (i := 1406) (by decide +kernel)) (by decide +kernel)
theorem ml_X12_248 : Cond.methodLink RX12 248 yX12_sortOf ∈ TB := in_TB (List.mem_of_getElem? (i := 1410) (by decide +kernel)) (by decide +kernel)
theorem ml_X12_237 : Cond.methodLink RX12 237 yX12_w4 ∈ TB := in_TB (List.mem_of_getElem? (i := 1414) (by decide +kernel)) (by decide +kernel)
theorem ml_X12_149 : Cond.methodLink RX12 149 yX12_w3 ∈ TB := in_TB (List.mem_of_getElem? (i := 1417) (by decide +kernel)) (by decide +kernel)
theorem ml_X12_211 : Cond.methodLink RX12 211 yX12_isWord ∈ TB := in_TB (List.mem_of_getElem? (i := 1420) (by decide +kernel)) (by decide +kernel)
theorem ml_X12_153 : Cond.methodLink RX12 153 yX12_w5 ∈ TB := in_TB (List.mem_of_getElem? (i := 1424) (by decide +kernel)) (by decide +kernel)
theorem ml_X12_254 : Cond.methodLink RX12 254 yX12_parsed ∈ TB := in_TB (List.mem_of_getElem? (i := 1427) (by decide +kernel)) (by decide +kernel)
theorem ml_X12_231 : Cond.methodLink RX12 231 yX12_behindOne ∈ TB := in_TB (List.mem_of_getElem? (i := 1431) (by decide +kernel)) (by decide +kernel)
theorem ml_X12_228 : Cond.methodLink RX12 228 yX12_betweenOf ∈ TB := in_TB (List.mem_of_getElem? (i := 1435) (by decide +kernel)) (by decide +kernel)
theorem ml_X12_187 : Cond.methodLink RX12 187 yX12_kindOpen ∈ TB := in_TB (List.mem_of_getElem? (i := 1439) (by decide +kernel)) (by decide +kernel)
theorem ml_X12_183 : Cond.methodLink RX12 183 yX12_marker ∈ TB := in_TB (List.mem_of_getElem? (i := 1443) (by decide +kernel)) (by decide +kernel)
theorem ml_X12_219 : Cond.methodLink RX12 219 yX12_isCompared ∈ TB := in_TB (List.mem_of_getElem? (i := 1447) (by decide +kernel)) (by decide +kernel)
theorem ml_X12_166 : Cond.methodLink RX12 166 yX12_rank ∈ TB := in_TB (List.mem_of_getElem? (i := 1451) (by decide +kernel)) (by decide +kernel)
theorem ml_X12_223 : Cond.methodLink RX12 223 yX12_compareOf ∈ TB := in_TB (List.mem_of_getElem? (i := 1454) (by decide +kernel)) (by decide +kernel)
theorem ml_X12_180 : Cond.methodLink RX12 180 yX12_settle ∈ TB := in_TB (List.mem_of_getElem? (i := 1459) (by decide +kernel)) (by decide +kernel)
theorem ml_X12_169 : Cond.methodLink RX12 169 yX12_emit ∈ TB := in_TB (List.mem_of_getElem? (i := 1463) (by decide +kernel)) (by decide +kernel)
theorem ml_X12_191 : Cond.methodLink RX12 191 yX12_push ∈ TB := in_TB (List.mem_of_getElem? (i := 1467) (by decide +kernel)) (by decide +kernel)
theorem ml_X12_203 : Cond.methodLink RX12 203 yX12_whole ∈ TB := in_TB (List.mem_of_getElem? (i := 1471) (by decide +kernel)) (by decide +kernel)
theorem ml_X12_234 : Cond.methodLink RX12 234 yX12_beginOne ∈ TB := in_TB (List.mem_of_getElem? (i := 1475) (by decide +kernel)) (by decide +kernel)
theorem ml_X12_197 : Cond.methodLink RX12 197 yX12_nameOf ∈ TB := in_TB (List.mem_of_getElem? (i := 1479) (by decide +kernel)) (by decide +kernel)
theorem ml_X12_200 : Cond.methodLink RX12 200 yX12_isOf ∈ TB := in_TB (List.mem_of_getElem? (i := 1485) (by decide +kernel)) (by decide +kernel)
theorem ml_X12_206 : Cond.methodLink RX12 206 yX12_opensBy ∈ TB := in_TB (List.mem_of_getElem? (i := 1489) (by decide +kernel)) (by decide +kernel)
theorem ml_X12_215 : Cond.methodLink RX12 215 yX12_isAskAhead ∈ TB := in_TB (List.mem_of_getElem? (i := 1494) (by decide +kernel)) (by decide +kernel)
theorem ml_L_48 : Cond.methodLink RL 48 yX12_fault ∈ TB := in_TB (List.mem_of_getElem? (i := 1498) (by decide +kernel)) (by decide +kernel)
theorem ml_L_53 : Cond.methodLink RL 53 yX12_goes ∈ TB := in_TB (List.mem_of_getElem? (i := 1502) (by decide +kernel)) (by decide +kernel)
theorem ml_X12_294 : Cond.methodLink RX12 294 yX12_made ∈ TB := in_TB (List.mem_of_getElem? (i := 1506) (by decide +kernel)) (by decide +kernel)
theorem ml_X12_288 : Cond.methodLink RX12 288 yX12_ahead ∈ TB := in_TB (List.mem_of_getElem? (i := 1510) (by decide +kernel)) (by decide +kernel)
theorem ml_X12_279 : Cond.methodLink RX12 279 yX12_clauseOf ∈ TB := in_TB (List.mem_of_getElem? (i := 1514) (by decide +kernel)) (by decide +kernel)
theorem ml_X12_283 : Cond.methodLink RX12 283 yX12_work ∈ TB := in_TB (List.mem_of_getElem? (i := 1518) (by decide +kernel)) (by decide +kernel)
theorem ml_X12_271 : Cond.methodLink RX12 271 yX12_two ∈ TB := in_TB (List.mem_of_getElem? (i := 1522) (by decide +kernel)) (by decide +kernel)
theorem ml_X12_267 : Cond.methodLink RX12 267 yX12_clip ∈ TB := in_TB (List.mem_of_getElem? (i := 1525) (by decide +kernel)) (by decide +kernel)
theorem ml_X12_275 : Cond.methodLink RX12 275 yX12_isAsked ∈ TB := in_TB (List.mem_of_getElem? (i := 1530) (by decide +kernel)) (by decide +kernel)
theorem ml_X12_291 : Cond.methodLink RX12 291 yX12_doesAt ∈ TB := in_TB (List.mem_of_getElem? (i := 1533) (by decide +kernel)) (by decide +kernel)
theorem ml_L_57 : Cond.methodLink RL 57 yX12_tap ∈ TB := in_TB (List.mem_of_getElem? (i := 1538) (by decide +kernel)) (by decide +kernel)
theorem ml_X12_301 : Cond.methodLink RX12 301 yX12_isPair ∈ TB := in_TB (List.mem_of_getElem? (i := 1542) (by decide +kernel)) (by decide +kernel)
theorem ml_X12_304 : Cond.methodLink RX12 304 yX12_keep ∈ TB := in_TB (List.mem_of_getElem? (i := 1546) (by decide +kernel)) (by decide +kernel)
theorem ml_X12_307 : Cond.methodLink RX12 307 yX12_habitOf ∈ TB := in_TB (List.mem_of_getElem? (i := 1550) (by decide +kernel)) (by decide +kernel)
theorem ml_L_61 : Cond.methodLink RL 61 yX12_row ∈ TB := in_TB (List.mem_of_getElem? (i := 1554) (by decide +kernel)) (by decide +kernel)
theorem ml_L_65 : Cond.methodLink RL 65 yX12_walk ∈ TB := in_TB (List.mem_of_getElem? (i := 1558) (by decide +kernel)) (by decide +kernel)
theorem ml_L_69 : Cond.methodLink RL 69 yX12_undo ∈ TB := in_TB (List.mem_of_getElem? (i := 1562) (by decide +kernel)) (by decide +kernel)
theorem ml_L_73 : Cond.methodLink RL 73 yX12_of ∈ TB := in_TB (List.mem_of_getElem? (i := 1566) (by decide +kernel)) (by decide +kernel)
theorem ml_L_78 : Cond.methodLink RL 78 yX12_fewest ∈ TB := in_TB (List.mem_of_getElem? (i := 1570) (by decide +kernel)) (by decide +kernel)
theorem ml_X12_336 : Cond.methodLink RX12 336 yX12_search ∈ TB := in_TB (List.mem_of_getElem? (i := 1574) (by decide +kernel)) (by decide +kernel)
theorem ml_X12_322 : Cond.methodLink RX12 322 yX12_lay ∈ TB := in_TB (List.mem_of_getElem? (i := 1578) (by decide +kernel)) (by decide +kernel)
theorem ml_X12_325 : Cond.methodLink RX12 325 yX12_isKept ∈ TB := in_TB (List.mem_of_getElem? (i := 1582) (by decide +kernel)) (by decide +kernel)
theorem ml_X12_310 : Cond.methodLink RX12 310 yX12_sumOf ∈ TB := in_TB (List.mem_of_getElem? (i := 1586) (by decide +kernel)) (by decide +kernel)
theorem ml_X12_329 : Cond.methodLink RX12 329 yX12_isSought ∈ TB := in_TB (List.mem_of_getElem? (i := 1589) (by decide +kernel)) (by decide +kernel)
theorem ml_X12_333 : Cond.methodLink RX12 333 yX12_next ∈ TB := in_TB (List.mem_of_getElem? (i := 1593) (by decide +kernel)) (by decide +kernel)
theorem ml_X12_319 : Cond.methodLink RX12 319 yX12_then ∈ TB := in_TB (List.mem_of_getElem? (i := 1597) (by decide +kernel)) (by decide +kernel)
theorem ml_X12_298 : Cond.methodLink RX12 298 yX12_laid ∈ TB := in_TB (List.mem_of_getElem? (i := 1601) (by decide +kernel)) (by decide +kernel)
theorem ml_X12_339 : Cond.methodLink RX12 339 yX12_tapsTo ∈ TB := in_TB (List.mem_of_getElem? (i := 1605) (by decide +kernel)) (by decide +kernel)
theorem ml_L_82 : Cond.methodLink RL 82 yX12_tells ∈ TB := in_TB (List.mem_of_getElem? (i := 1609) (by decide +kernel)) (by decide +kernel)
theorem ml_L_87 : Cond.methodLink RL 87 yX12_odds ∈ TB := in_TB (List.mem_of_getElem? (i := 1613) (by decide +kernel)) (by decide +kernel)
theorem ml_X12_346 : Cond.methodLink RX12 346 yX12_common ∈ TB := in_TB (List.mem_of_getElem? (i := 1619) (by decide +kernel)) (by decide +kernel)
theorem ml_L_91 : Cond.methodLink RL 91 yX12_seen ∈ TB := in_TB (List.mem_of_getElem? (i := 1622) (by decide +kernel)) (by decide +kernel)
theorem ml_L_95 : Cond.methodLink RL 95 yX12_holds ∈ TB := in_TB (List.mem_of_getElem? (i := 1626) (by decide +kernel)) (by decide +kernel)
theorem ml_L_99 : Cond.methodLink RL 99 yX12_dark ∈ TB := in_TB (List.mem_of_getElem? (i := 1630) (by decide +kernel)) (by decide +kernel)
theorem ml_X12_350 : Cond.methodLink RX12 350 yX12_bumpsFrom ∈ TB := in_TB (List.mem_of_getElem? (i := 1634) (by decide +kernel)) (by decide +kernel)
theorem ml_L_111 : Cond.methodLink RL 111 yX12_wed ∈ TB := in_TB (List.mem_of_getElem? (i := 1638) (by decide +kernel)) (by decide +kernel)
theorem ml_X12_356 : Cond.methodLink RX12 356 yX12_findLikings ∈ TB := in_TB (List.mem_of_getElem? (i := 1642) (by decide +kernel)) (by decide +kernel)
theorem ml_X12_359 : Cond.methodLink RX12 359 yX12_bestOf ∈ TB := in_TB (List.mem_of_getElem? (i := 1646) (by decide +kernel)) (by decide +kernel)
theorem ml_X12_353 : Cond.methodLink RX12 353 yX12_likes ∈ TB := in_TB (List.mem_of_getElem? (i := 1650) (by decide +kernel)) (by decide +kernel)
theorem ml_X12_362 : Cond.methodLink RX12 362 yX12_isMore ∈ TB := in_TB (List.mem_of_getElem? (i := 1654) (by decide +kernel)) (by decide +kernel)
theorem ml_L_115 : Cond.methodLink RL 115 yX12_crowd ∈ TB := in_TB (List.mem_of_getElem? (i := 1658) (by decide +kernel)) (by decide +kernel)
theorem ml_X12_365 : Cond.methodLink RX12 365 yX12_areHome ∈ TB := in_TB (List.mem_of_getElem? (i := 1662) (by decide +kernel)) (by decide +kernel)
theorem ml_X12_368 : Cond.methodLink RX12 368 yX12_isTaken ∈ TB := in_TB (List.mem_of_getElem? (i := 1666) (by decide +kernel)) (by decide +kernel)
theorem ml_L_119 : Cond.methodLink RL 119 yX12_chase ∈ TB := in_TB (List.mem_of_getElem? (i := 1670) (by decide +kernel)) (by decide +kernel)
theorem ml_X12_381 : Cond.methodLink RX12 381 yX12_isChase ∈ TB := in_TB (List.mem_of_getElem? (i := 1674) (by decide +kernel)) (by decide +kernel)
theorem ml_X12_385 : Cond.methodLink RX12 385 yX12_settle_ ∈ TB := in_TB (List.mem_of_getElem? (i := 1678) (by decide +kernel)) (by decide +kernel)
theorem ml_X12_371 : Cond.methodLink RX12 371 yX12_stateAt ∈ TB := in_TB (List.mem_of_getElem? (i := 1682) (by decide +kernel)) (by decide +kernel)
theorem ml_X12_378 : Cond.methodLink RX12 378 yX12_isSettled ∈ TB := in_TB (List.mem_of_getElem? (i := 1685) (by decide +kernel)) (by decide +kernel)
theorem ml_X12_374 : Cond.methodLink RX12 374 yX12_turnsBehind ∈ TB := in_TB (List.mem_of_getElem? (i := 1689) (by decide +kernel)) (by decide +kernel)
theorem ml_L_123 : Cond.methodLink RL 123 yX12_hunt ∈ TB := in_TB (List.mem_of_getElem? (i := 1693) (by decide +kernel)) (by decide +kernel)
theorem ml_L_127 : Cond.methodLink RL 127 yX12_image ∈ TB := in_TB (List.mem_of_getElem? (i := 1697) (by decide +kernel)) (by decide +kernel)
theorem ml_L_131 : Cond.methodLink RL 131 yX12_back ∈ TB := in_TB (List.mem_of_getElem? (i := 1701) (by decide +kernel)) (by decide +kernel)
theorem ml_L_135 : Cond.methodLink RL 135 yX12_about ∈ TB := in_TB (List.mem_of_getElem? (i := 1705) (by decide +kernel)) (by decide +kernel)
theorem nl_L_7 : NL RL 7 11 14 := ⟨_, rfl, rfl, in_TB (List.mem_of_getElem? (i := 131) (by decide +kernel)) (by decide +kernel), in_TB (List.mem_of_getElem? (i := 132) (by decide +kernel)) (by decide +kernel), in_TB (List.mem_of_getElem? (i := 110) (by decide +kernel)) (by decide +kernel)⟩
theorem cl_L_7 : Cond.classLink RL 7 RX11 ∈ TB := in_TB (List.mem_of_getElem? (i := 131) (by decide +kernel)) (by decide +kernel)
theorem nl_X11_7 : NL RX11 7 2 2 := ⟨_, rfl, rfl, in_TB (List.mem_of_getElem? (i := 139) (by decide +kernel)) (by decide +kernel), in_TB (List.mem_of_getElem? (i := 140) (by decide +kernel)) (by decide +kernel), in_TB (List.mem_of_getElem? (i := 111) (by decide +kernel)) (by decide +kernel)⟩
theorem cl_X11_7 : Cond.classLink RX11 7 RX2 ∈ TB := in_TB (List.mem_of_getElem? (i := 139) (by decide +kernel)) (by decide +kernel)
theorem nl_X11_18 : NL RX11 18 5 10 := ⟨_, rfl, rfl, in_TB (List.mem_of_getElem? (i := 156) (by decide +kernel)) (by decide +kernel), in_TB (List.mem_of_getElem? (i := 157) (by decide +kernel)) (by decide +kernel), in_TB (List.mem_of_getElem? (i := 113) (by decide +kernel)) (by decide +kernel)⟩
theorem cl_X11_18 : Cond.classLink RX11 18 RX5 ∈ TB := in_TB (List.mem_of_getElem? (i := 156) (by decide +kernel)) (by decide +kernel)
theorem nl_X5_9 : NL RX5 9 9 3 := ⟨_, rfl, rfl, in_TB (List.mem_of_getElem? (i := 162) (by decide +kernel)) (by decide +kernel), in_TB (List.mem_of_getElem? (i := 163) (by decide +kernel)) (by decide +kernel), in_TB (List.mem_of_getElem? (i := 114) (by decide +kernel)) (by decide +kernel)⟩
theorem cl_X5_9 : Cond.classLink RX5 9 RX9 ∈ TB := in_TB (List.mem_of_getElem? (i := 162) (by decide +kernel)) (by decide +kernel)
theorem nl_X9_9 : NL RX9 9 2 2 := ⟨_, rfl, rfl, in_TB (List.mem_of_getElem? (i := 168) (by decide +kernel)) (by decide +kernel), in_TB (List.mem_of_getElem? (i := 140) (by decide +kernel)) (by decide +kernel), in_TB (List.mem_of_getElem? (i := 111) (by decide +kernel)) (by decide +kernel)⟩
theorem cl_X9_9 : Cond.classLink RX9 9 RX2 ∈ TB := in_TB (List.mem_of_getElem? (i := 168) (by decide +kernel)) (by decide +kernel)
theorem nl_X11_25 : NL RX11 25 4 3 := ⟨_, rfl, rfl, in_TB (List.mem_of_getElem? (i := 211) (by decide +kernel)) (by decide +kernel), in_TB (List.mem_of_getElem? (i := 212) (by decide +kernel)) (by decide +kernel), in_TB (List.mem_of_getElem? (i := 115) (by decide +kernel)) (by decide +kernel)⟩
theorem cl_X11_25 : Cond.classLink RX11 25 RX4 ∈ TB := in_TB (List.mem_of_getElem? (i := 211) (by decide +kernel)) (by decide +kernel)
theorem nl_X11_46 : NL RX11 46 8 15 := ⟨_, rfl, rfl, in_TB (List.mem_of_getElem? (i := 227) (by decide +kernel)) (by decide +kernel), in_TB (List.mem_of_getElem? (i := 228) (by decide +kernel)) (by decide +kernel), in_TB (List.mem_of_getElem? (i := 116) (by decide +kernel)) (by decide +kernel)⟩
theorem cl_X11_46 : Cond.classLink RX11 46 RX8 ∈ TB := in_TB (List.mem_of_getElem? (i := 227) (by decide +kernel)) (by decide +kernel)
theorem nl_X8_9 : NL RX8 9 2 2 := ⟨_, rfl, rfl, in_TB (List.mem_of_getElem? (i := 233) (by decide +kernel)) (by decide +kernel), in_TB (List.mem_of_getElem? (i := 140) (by decide +kernel)) (by decide +kernel), in_TB (List.mem_of_getElem? (i := 111) (by decide +kernel)) (by decide +kernel)⟩
theorem cl_X8_9 : Cond.classLink RX8 9 RX2 ∈ TB := in_TB (List.mem_of_getElem? (i := 233) (by decide +kernel)) (by decide +kernel)
theorem nl_X8_47 : NL RX8 47 6 4 := ⟨_, rfl, rfl, in_TB (List.mem_of_getElem? (i := 235) (by decide +kernel)) (by decide +kernel), in_TB (List.mem_of_getElem? (i := 701) (by decide +kernel)) (by decide +kernel), in_TB (List.mem_of_getElem? (i := 126) (by decide +kernel)) (by decide +kernel)⟩
theorem cl_X8_47 : Cond.classLink RX8 47 RX6 ∈ TB := in_TB (List.mem_of_getElem? (i := 235) (by decide +kernel)) (by decide +kernel)
theorem nl_X11_58 : NL RX11 58 3 3 := ⟨_, rfl, rfl, in_TB (List.mem_of_getElem? (i := 314) (by decide +kernel)) (by decide +kernel), in_TB (List.mem_of_getElem? (i := 315) (by decide +kernel)) (by decide +kernel), in_TB (List.mem_of_getElem? (i := 117) (by decide +kernel)) (by decide +kernel)⟩
theorem cl_X11_58 : Cond.classLink RX11 58 RX3 ∈ TB := in_TB (List.mem_of_getElem? (i := 314) (by decide +kernel)) (by decide +kernel)
theorem nl_X11_67 : NL RX11 67 10 9 := ⟨_, rfl, rfl, in_TB (List.mem_of_getElem? (i := 337) (by decide +kernel)) (by decide +kernel), in_TB (List.mem_of_getElem? (i := 338) (by decide +kernel)) (by decide +kernel), in_TB (List.mem_of_getElem? (i := 119) (by decide +kernel)) (by decide +kernel)⟩
theorem cl_X11_67 : Cond.classLink RX11 67 RX10 ∈ TB := in_TB (List.mem_of_getElem? (i := 337) (by decide +kernel)) (by decide +kernel)
theorem nl_X11_74 : NL RX11 74 1 4 := ⟨_, rfl, rfl, in_TB (List.mem_of_getElem? (i := 372) (by decide +kernel)) (by decide +kernel), in_TB (List.mem_of_getElem? (i := 373) (by decide +kernel)) (by decide +kernel), in_TB (List.mem_of_getElem? (i := 120) (by decide +kernel)) (by decide +kernel)⟩
theorem cl_X11_74 : Cond.classLink RX11 74 RX1 ∈ TB := in_TB (List.mem_of_getElem? (i := 372) (by decide +kernel)) (by decide +kernel)
theorem nl_X5_61 : NL RX5 61 6 4 := ⟨_, rfl, rfl, in_TB (List.mem_of_getElem? (i := 700) (by decide +kernel)) (by decide +kernel), in_TB (List.mem_of_getElem? (i := 701) (by decide +kernel)) (by decide +kernel), in_TB (List.mem_of_getElem? (i := 126) (by decide +kernel)) (by decide +kernel)⟩
theorem cl_X5_61 : Cond.classLink RX5 61 RX6 ∈ TB := in_TB (List.mem_of_getElem? (i := 700) (by decide +kernel)) (by decide +kernel)
theorem nl_X11_186 : NL RX11 186 7 8 := ⟨_, rfl, rfl, in_TB (List.mem_of_getElem? (i := 875) (by decide +kernel)) (by decide +kernel), in_TB (List.mem_of_getElem? (i := 876) (by decide +kernel)) (by decide +kernel), in_TB (List.mem_of_getElem? (i := 129) (by decide +kernel)) (by decide +kernel)⟩
theorem cl_X11_186 : Cond.classLink RX11 186 RX7 ∈ TB := in_TB (List.mem_of_getElem? (i := 875) (by decide +kernel)) (by decide +kernel)
theorem nl_X7_11 : NL RX7 11 2 2 := ⟨_, rfl, rfl, in_TB (List.mem_of_getElem? (i := 881) (by decide +kernel)) (by decide +kernel), in_TB (List.mem_of_getElem? (i := 140) (by decide +kernel)) (by decide +kernel), in_TB (List.mem_of_getElem? (i := 111) (by decide +kernel)) (by decide +kernel)⟩
theorem cl_X7_11 : Cond.classLink RX7 11 RX2 ∈ TB := in_TB (List.mem_of_getElem? (i := 881) (by decide +kernel)) (by decide +kernel)
theorem nl_X11_289 : NL RX11 289 0 11 := ⟨_, rfl, rfl, in_TB (List.mem_of_getElem? (i := 1095) (by decide +kernel)) (by decide +kernel), in_TB (List.mem_of_getElem? (i := 1096) (by decide +kernel)) (by decide +kernel), in_TB (List.mem_of_getElem? (i := 130) (by decide +kernel)) (by decide +kernel)⟩
theorem cl_X11_289 : Cond.classLink RX11 289 RX0 ∈ TB := in_TB (List.mem_of_getElem? (i := 1095) (by decide +kernel)) (by decide +kernel)
theorem nl_L_18 : NL RL 18 12 43 := ⟨_, rfl, rfl, in_TB (List.mem_of_getElem? (i := 1195) (by decide +kernel)) (by decide +kernel), in_TB (List.mem_of_getElem? (i := 1196) (by decide +kernel)) (by decide +kernel), in_TB (List.mem_of_getElem? (i := 121) (by decide +kernel)) (by decide +kernel)⟩
theorem cl_L_18 : Cond.classLink RL 18 RX12 ∈ TB := in_TB (List.mem_of_getElem? (i := 1195) (by decide +kernel)) (by decide +kernel)
theorem kc_X4_38 : Cond.constantLong RX4 38 (-1000000 : Int64) ∈ TB := in_TB (List.mem_of_getElem? (i := 805) (by decide +kernel)) (by decide +kernel)
theorem kc_X4_40 : Cond.constantLong RX4 40 (1000000 : Int64) ∈ TB := in_TB (List.mem_of_getElem? (i := 806) (by decide +kernel)) (by decide +kernel)
theorem kc_J6_265 : Cond.constant RJ6 265 (1431655765) ∈ TB := in_TB (List.mem_of_getElem? (i := 868) (by decide +kernel)) (by decide +kernel)
theorem kc_J6_266 : Cond.constant RJ6 266 (858993459) ∈ TB := in_TB (List.mem_of_getElem? (i := 869) (by decide +kernel)) (by decide +kernel)
theorem kc_J6_267 : Cond.constant RJ6 267 (252645135) ∈ TB := in_TB (List.mem_of_getElem? (i := 870) (by decide +kernel)) (by decide +kernel)
theorem kc_X7_91 : Cond.constant RX7 91 (-1640531535) ∈ TB := in_TB (List.mem_of_getElem? (i := 928) (by decide +kernel)) (by decide +kernel)
theorem kc_X11_212 : Cond.constantLong RX11 212 (-1 : Int64) ∈ TB := in_TB (List.mem_of_getElem? (i := 967) (by decide +kernel)) (by decide +kernel)
theorem kc_X11_224 : Cond.constantLong RX11 224 (10 : Int64) ∈ TB := in_TB (List.mem_of_getElem? (i := 977) (by decide +kernel)) (by decide +kernel)
theorem kc_X12_141 : Cond.constant RX12 141 (100000) ∈ TB := in_TB (List.mem_of_getElem? (i := 1402) (by decide +kernel)) (by decide +kernel)
theorem kc_X12_226 : Cond.constantLong RX12 226 (28530 : Int64) ∈ TB := in_TB (List.mem_of_getElem? (i := 1458) (by decide +kernel)) (by decide +kernel)
theorem kc_X12_241 : Cond.constantLong RX12 241 (120 : Int64) ∈ TB := in_TB (List.mem_of_getElem? (i := 1483) (by decide +kernel)) (by decide +kernel)
theorem kc_X12_243 : Cond.constantLong RX12 243 (121 : Int64) ∈ TB := in_TB (List.mem_of_getElem? (i := 1484) (by decide +kernel)) (by decide +kernel)
theorem kc_X12_209 : Cond.constantLong RX12 209 (26982 : Int64) ∈ TB := in_TB (List.mem_of_getElem? (i := 1493) (by decide +kernel)) (by decide +kernel)
theorem kc_X12_263 : Cond.constantLong RX12 263 (1000000 : Int64) ∈ TB := in_TB (List.mem_of_getElem? (i := 1528) (by decide +kernel)) (by decide +kernel)
theorem kc_X12_265 : Cond.constantLong RX12 265 (-1000000 : Int64) ∈ TB := in_TB (List.mem_of_getElem? (i := 1529) (by decide +kernel)) (by decide +kernel)
theorem kc_X12_286 : Cond.constantLong RX12 286 (4 : Int64) ∈ TB := in_TB (List.mem_of_getElem? (i := 1537) (by decide +kernel)) (by decide +kernel)
theorem kc_X12_342 : Cond.constantLong RX12 342 (-1 : Int64) ∈ TB := in_TB (List.mem_of_getElem? (i := 1617) (by decide +kernel)) (by decide +kernel)
theorem kc_X12_344 : Cond.constantLong RX12 344 (10 : Int64) ∈ TB := in_TB (List.mem_of_getElem? (i := 1618) (by decide +kernel)) (by decide +kernel)
theorem ac_int : Cond.arrayClass .int ∈ TB := in_TB (List.mem_of_getElem? (i := 155) (by decide +kernel)) (by decide +kernel)
theorem ac_long : Cond.arrayClass .long ∈ TB := in_TB (List.mem_of_getElem? (i := 313) (by decide +kernel)) (by decide +kernel)
theorem ac_boolean : Cond.arrayClass .boolean ∈ TB := in_TB (List.mem_of_getElem? (i := 371) (by decide +kernel)) (by decide +kernel)
theorem ac_byte : Cond.arrayClass .byte ∈ TB := in_TB (List.mem_of_getElem? (i := 738) (by decide +kernel)) (by decide +kernel)
theorem wo_init : Cond.instanceMethod Lib.objectInit ∈ TB ∧ Cond.code Lib.objectInit ⟨#[0xb1]⟩ 1 none ∈ TB := ⟨in_TB (List.mem_of_getElem? (i := 137) (by decide +kernel)) (by decide +kernel), in_TB (List.mem_of_getElem? (i := 138) (by decide +kernel)) (by decide +kernel)⟩
theorem w_mmax : Cond.static Lib.Math.max.name ∈ TB ∧ Cond.initialized "java/lang/Math" ∈ TB ∧ Cond.code Lib.Math.max.name Lib.Math.max.code 2 (some .int) ∈ TB := ⟨in_TB (List.mem_of_getElem? (i := 146) (by decide +kernel)) (by decide +kernel), in_TB (List.mem_of_getElem? (i := 112) (by decide +kernel)) (by decide +kernel), in_TB (List.mem_of_getElem? (i := 147) (by decide +kernel)) (by decide +kernel)⟩
theorem w_mmin : Cond.static Lib.Math.min.name ∈ TB ∧ Cond.initialized "java/lang/Math" ∈ TB ∧ Cond.code Lib.Math.min.name Lib.Math.min.code 2 (some .int) ∈ TB := ⟨in_TB (List.mem_of_getElem? (i := 238) (by decide +kernel)) (by decide +kernel), in_TB (List.mem_of_getElem? (i := 112) (by decide +kernel)) (by decide +kernel), in_TB (List.mem_of_getElem? (i := 239) (by decide +kernel)) (by decide +kernel)⟩
theorem w_mmaxL : Cond.static Lib.MathLoose.max_long.x ∈ TB ∧ Cond.initialized "java/lang/Math" ∈ TB ∧ Cond.code Lib.MathLoose.max_long.x Lib.MathLoose.max_long.code 4 (some .long) ∈ TB := ⟨in_TB (List.mem_of_getElem? (i := 811) (by decide +kernel)) (by decide +kernel), in_TB (List.mem_of_getElem? (i := 112) (by decide +kernel)) (by decide +kernel), in_TB (List.mem_of_getElem? (i := 812) (by decide +kernel)) (by decide +kernel)⟩
theorem w_mminL : Cond.static Lib.MathLoose.min_long.x ∈ TB ∧ Cond.initialized "java/lang/Math" ∈ TB ∧ Cond.code Lib.MathLoose.min_long.x Lib.MathLoose.min_long.code 4 (some .long) ∈ TB := ⟨in_TB (List.mem_of_getElem? (i := 808) (by decide +kernel)) (by decide +kernel), in_TB (List.mem_of_getElem? (i := 112) (by decide +kernel)) (by decide +kernel), in_TB (List.mem_of_getElem? (i := 809) (by decide +kernel)) (by decide +kernel)⟩
theorem w_copy : Cond.native arraycopyName ∈ TB ∧ Cond.static arraycopyName ∈ TB ∧ Cond.initialized "java/lang/System" ∈ TB := ⟨in_TB (List.mem_of_getElem? (i := 715) (by decide +kernel)) (by decide +kernel), in_TB (List.mem_of_getElem? (i := 714) (by decide +kernel)) (by decide +kernel), in_TB (List.mem_of_getElem? (i := 127) (by decide +kernel)) (by decide +kernel)⟩
