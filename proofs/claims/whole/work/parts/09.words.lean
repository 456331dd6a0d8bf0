/-! words: links, and what a caller knows of each method (printed by wip/whole/gen/gen.py) -/
def RL : String := "LaneFourLaw"
theorem in_X0 : Cond.initialized RX0 ∈ gtb := gtb_m (List.mem_of_getElem? (i := 91) (by decide +kernel)) rfl
theorem in_X1 : Cond.initialized RX1 ∈ gtb := gtb_m (List.mem_of_getElem? (i := 82) (by decide +kernel)) rfl
theorem in_X2 : Cond.initialized RX2 ∈ gtb := gtb_m (List.mem_of_getElem? (i := 89) (by decide +kernel)) rfl
theorem in_X3 : Cond.initialized RX3 ∈ gtb := gtb_m (List.mem_of_getElem? (i := 81) (by decide +kernel)) rfl
theorem in_X4 : Cond.initialized RX4 ∈ gtb := gtb_m (List.mem_of_getElem? (i := 85) (by decide +kernel)) rfl
theorem in_X5 : Cond.initialized RX5 ∈ gtb := gtb_m (List.mem_of_getElem? (i := 90) (by decide +kernel)) rfl
theorem in_X6 : Cond.initialized RX6 ∈ gtb := gtb_m (List.mem_of_getElem? (i := 88) (by decide +kernel)) rfl
theorem in_X7 : Cond.initialized RX7 ∈ gtb := gtb_m (List.mem_of_getElem? (i := 83) (by decide +kernel)) rfl
theorem in_X8 : Cond.initialized RX8 ∈ gtb := gtb_m (List.mem_of_getElem? (i := 87) (by decide +kernel)) rfl
theorem in_X9 : Cond.initialized RX9 ∈ gtb := gtb_m (List.mem_of_getElem? (i := 86) (by decide +kernel)) rfl
theorem in_X10 : Cond.initialized RX10 ∈ gtb := gtb_m (List.mem_of_getElem? (i := 80) (by decide +kernel)) rfl
theorem in_X11 : Cond.initialized RX11 ∈ gtb := gtb_m (List.mem_of_getElem? (i := 92) (by decide +kernel)) rfl
theorem in_J6 : Cond.initialized RJ6 ∈ gtb := gtb_m (List.mem_of_getElem? (i := 93) (by decide +kernel)) rfl
theorem in_J9 : Cond.initialized RJ9 ∈ gtb := gtb_m (List.mem_of_getElem? (i := 84) (by decide +kernel)) rfl
theorem z_acn : Cond.native arraycopyName ∈ gtb := gtb_m (List.mem_of_getElem? (i := 929) (by decide +kernel)) rfl
theorem z_acs : Cond.static arraycopyName ∈ gtb := gtb_m (List.mem_of_getElem? (i := 928) (by decide +kernel)) rfl
theorem z_aci : Cond.initialized "java/lang/System" ∈ gtb := gtb_m (List.mem_of_getElem? (i := 94) (by decide +kernel)) rfl
theorem fl_X3_9 : Cond.fieldLink RX3 9 (TX3 0).1 (TX3 0).2.1 (TX3 0).2.2.1 ∈ gtb := gtb_m (List.mem_of_getElem? (i := 109) (by decide +kernel)) rfl
theorem fl_X3_15 : Cond.fieldLink RX3 15 (TX3 1).1 (TX3 1).2.1 (TX3 1).2.2.1 ∈ gtb := gtb_m (List.mem_of_getElem? (i := 111) (by decide +kernel)) rfl
theorem fl_X3_18 : Cond.fieldLink RX3 18 (TX3 2).1 (TX3 2).2.1 (TX3 2).2.2.1 ∈ gtb := gtb_m (List.mem_of_getElem? (i := 116) (by decide +kernel)) rfl
theorem fl_X3_22 : Cond.fieldLink RX3 22 (TX3 3).1 (TX3 3).2.1 (TX3 3).2.2.1 ∈ gtb := gtb_m (List.mem_of_getElem? (i := 118) (by decide +kernel)) rfl
theorem fl_X3_25 : Cond.fieldLink RX3 25 (TX3 4).1 (TX3 4).2.1 (TX3 4).2.2.1 ∈ gtb := gtb_m (List.mem_of_getElem? (i := 121) (by decide +kernel)) rfl
theorem fl_X3_28 : Cond.fieldLink RX3 28 (TX3 5).1 (TX3 5).2.1 (TX3 5).2.2.1 ∈ gtb := gtb_m (List.mem_of_getElem? (i := 126) (by decide +kernel)) rfl
theorem fl_X3_31 : Cond.fieldLink RX3 31 (TX3 6).1 (TX3 6).2.1 (TX3 6).2.2.1 ∈ gtb := gtb_m (List.mem_of_getElem? (i := 131) (by decide +kernel)) rfl
theorem fl_X3_34 : Cond.fieldLink RX3 34 (TX3 7).1 (TX3 7).2.1 (TX3 7).2.2.1 ∈ gtb := gtb_m (List.mem_of_getElem? (i := 136) (by decide +kernel)) rfl
theorem fl_X3_37 : Cond.fieldLink RX3 37 (TX3 8).1 (TX3 8).2.1 (TX3 8).2.2.1 ∈ gtb := gtb_m (List.mem_of_getElem? (i := 137) (by decide +kernel)) rfl
theorem fl_X1_9 : Cond.fieldLink RX1 9 (TX1 0).1 (TX1 0).2.1 (TX1 0).2.2.1 ∈ gtb := gtb_m (List.mem_of_getElem? (i := 166) (by decide +kernel)) rfl
theorem fl_X1_15 : Cond.fieldLink RX1 15 (TX1 1).1 (TX1 1).2.1 (TX1 1).2.2.1 ∈ gtb := gtb_m (List.mem_of_getElem? (i := 170) (by decide +kernel)) rfl
theorem fl_X1_19 : Cond.fieldLink RX1 19 (TX1 2).1 (TX1 2).2.1 (TX1 2).2.2.1 ∈ gtb := gtb_m (List.mem_of_getElem? (i := 172) (by decide +kernel)) rfl
theorem fl_X1_22 : Cond.fieldLink RX1 22 (TX1 3).1 (TX1 3).2.1 (TX1 3).2.2.1 ∈ gtb := gtb_m (List.mem_of_getElem? (i := 175) (by decide +kernel)) rfl
theorem fl_X1_25 : Cond.fieldLink RX1 25 (TX1 4).1 (TX1 4).2.1 (TX1 4).2.2.1 ∈ gtb := gtb_m (List.mem_of_getElem? (i := 176) (by decide +kernel)) rfl
theorem fl_X1_29 : Cond.fieldLink RX1 29 (TX1 5).1 (TX1 5).2.1 (TX1 5).2.2.1 ∈ gtb := gtb_m (List.mem_of_getElem? (i := 180) (by decide +kernel)) rfl
theorem fl_X1_33 : Cond.fieldLink RX1 33 (TX1 6).1 (TX1 6).2.1 (TX1 6).2.2.1 ∈ gtb := gtb_m (List.mem_of_getElem? (i := 184) (by decide +kernel)) rfl
theorem fl_X7_13 : Cond.fieldLink RX7 13 (TX7 0).1 (TX7 0).2.1 (TX7 0).2.2.1 ∈ gtb := gtb_m (List.mem_of_getElem? (i := 210) (by decide +kernel)) rfl
theorem fl_X7_19 : Cond.fieldLink RX7 19 (TX7 1).1 (TX7 1).2.1 (TX7 1).2.2.1 ∈ gtb := gtb_m (List.mem_of_getElem? (i := 213) (by decide +kernel)) rfl
theorem fl_X4_9 : Cond.fieldLink RX4 9 (TX4 0).1 (TX4 0).2.1 (TX4 0).2.2.1 ∈ gtb := gtb_m (List.mem_of_getElem? (i := 228) (by decide +kernel)) rfl
theorem fl_X9_9 : Cond.fieldLink RX9 9 (TX9 0).1 (TX9 0).2.1 (TX9 0).2.2.1 ∈ gtb := gtb_m (List.mem_of_getElem? (i := 238) (by decide +kernel)) rfl
theorem fl_X9_15 : Cond.fieldLink RX9 15 (TX9 1).1 (TX9 1).2.1 (TX9 1).2.2.1 ∈ gtb := gtb_m (List.mem_of_getElem? (i := 239) (by decide +kernel)) rfl
theorem fl_X9_19 : Cond.fieldLink RX9 19 (TX9 2).1 (TX9 2).2.1 (TX9 2).2.2.1 ∈ gtb := gtb_m (List.mem_of_getElem? (i := 242) (by decide +kernel)) rfl
theorem fl_X9_23 : Cond.fieldLink RX9 23 (TX9 3).1 (TX9 3).2.1 (TX9 3).2.2.1 ∈ gtb := gtb_m (List.mem_of_getElem? (i := 243) (by decide +kernel)) rfl
theorem fl_X8_9 : Cond.fieldLink RX8 9 (TX8 0).1 (TX8 0).2.1 (TX8 0).2.2.1 ∈ gtb := gtb_m (List.mem_of_getElem? (i := 261) (by decide +kernel)) rfl
theorem fl_X8_18 : Cond.fieldLink RX8 18 (TX8 1).1 (TX8 1).2.1 (TX8 1).2.2.1 ∈ gtb := gtb_m (List.mem_of_getElem? (i := 262) (by decide +kernel)) rfl
theorem fl_X8_22 : Cond.fieldLink RX8 22 (TX8 2).1 (TX8 2).2.1 (TX8 2).2.2.1 ∈ gtb := gtb_m (List.mem_of_getElem? (i := 264) (by decide +kernel)) rfl
theorem fl_X8_25 : Cond.fieldLink RX8 25 (TX8 3).1 (TX8 3).2.1 (TX8 3).2.2.1 ∈ gtb := gtb_m (List.mem_of_getElem? (i := 266) (by decide +kernel)) rfl
theorem fl_X8_29 : Cond.fieldLink RX8 29 (TX8 4).1 (TX8 4).2.1 (TX8 4).2.2.1 ∈ gtb := gtb_m (List.mem_of_getElem? (i := 267) (by decide +kernel)) rfl
theorem fl_X8_33 : Cond.fieldLink RX8 33 (TX8 5).1 (TX8 5).2.1 (TX8 5).2.2.1 ∈ gtb := gtb_m (List.mem_of_getElem? (i := 268) (by decide +kernel)) rfl
theorem fl_X8_36 : Cond.fieldLink RX8 36 (TX8 6).1 (TX8 6).2.1 (TX8 6).2.2.1 ∈ gtb := gtb_m (List.mem_of_getElem? (i := 269) (by decide +kernel)) rfl
theorem fl_X8_40 : Cond.fieldLink RX8 40 (TX8 7).1 (TX8 7).2.1 (TX8 7).2.2.1 ∈ gtb := gtb_m (List.mem_of_getElem? (i := 271) (by decide +kernel)) rfl
theorem fl_X8_43 : Cond.fieldLink RX8 43 (TX8 8).1 (TX8 8).2.1 (TX8 8).2.2.1 ∈ gtb := gtb_m (List.mem_of_getElem? (i := 273) (by decide +kernel)) rfl
theorem fl_X8_47 : Cond.fieldLink RX8 47 (TX8 9).1 (TX8 9).2.1 (TX8 9).2.2.1 ∈ gtb := gtb_m (List.mem_of_getElem? (i := 274) (by decide +kernel)) rfl
theorem fl_X6_9 : Cond.fieldLink RX6 9 (TX6 0).1 (TX6 0).2.1 (TX6 0).2.2.1 ∈ gtb := gtb_m (List.mem_of_getElem? (i := 303) (by decide +kernel)) rfl
theorem fl_X6_15 : Cond.fieldLink RX6 15 (TX6 1).1 (TX6 1).2.1 (TX6 1).2.2.1 ∈ gtb := gtb_m (List.mem_of_getElem? (i := 304) (by decide +kernel)) rfl
theorem fl_X6_19 : Cond.fieldLink RX6 19 (TX6 2).1 (TX6 2).2.1 (TX6 2).2.2.1 ∈ gtb := gtb_m (List.mem_of_getElem? (i := 305) (by decide +kernel)) rfl
theorem fl_X6_23 : Cond.fieldLink RX6 23 (TX6 3).1 (TX6 3).2.1 (TX6 3).2.2.1 ∈ gtb := gtb_m (List.mem_of_getElem? (i := 307) (by decide +kernel)) rfl
theorem fl_X6_26 : Cond.fieldLink RX6 26 (TX6 4).1 (TX6 4).2.1 (TX6 4).2.2.1 ∈ gtb := gtb_m (List.mem_of_getElem? (i := 308) (by decide +kernel)) rfl
theorem fl_X6_29 : Cond.fieldLink RX6 29 (TX6 5).1 (TX6 5).2.1 (TX6 5).2.2.1 ∈ gtb := gtb_m (List.mem_of_getElem? (i := 310) (by decide +kernel)) rfl
theorem fl_X6_33 : Cond.fieldLink RX6 33 (TX6 6).1 (TX6 6).2.1 (TX6 6).2.2.1 ∈ gtb := gtb_m (List.mem_of_getElem? (i := 312) (by decide +kernel)) rfl
theorem fl_X6_37 : Cond.fieldLink RX6 37 (TX6 7).1 (TX6 7).2.1 (TX6 7).2.2.1 ∈ gtb := gtb_m (List.mem_of_getElem? (i := 314) (by decide +kernel)) rfl
theorem fl_X2_9 : Cond.fieldLink RX2 9 (TX2 0).1 (TX2 0).2.1 (TX2 0).2.2.1 ∈ gtb := gtb_m (List.mem_of_getElem? (i := 340) (by decide +kernel)) rfl
theorem fl_X2_15 : Cond.fieldLink RX2 15 (TX2 1).1 (TX2 1).2.1 (TX2 1).2.2.1 ∈ gtb := gtb_m (List.mem_of_getElem? (i := 341) (by decide +kernel)) rfl
theorem fl_X2_19 : Cond.fieldLink RX2 19 (TX2 2).1 (TX2 2).2.1 (TX2 2).2.2.1 ∈ gtb := gtb_m (List.mem_of_getElem? (i := 342) (by decide +kernel)) rfl
theorem fl_X2_23 : Cond.fieldLink RX2 23 (TX2 3).1 (TX2 3).2.1 (TX2 3).2.2.1 ∈ gtb := gtb_m (List.mem_of_getElem? (i := 343) (by decide +kernel)) rfl
theorem fl_X5_9 : Cond.fieldLink RX5 9 (TX5 0).1 (TX5 0).2.1 (TX5 0).2.2.1 ∈ gtb := gtb_m (List.mem_of_getElem? (i := 360) (by decide +kernel)) rfl
theorem fl_X5_15 : Cond.fieldLink RX5 15 (TX5 1).1 (TX5 1).2.1 (TX5 1).2.2.1 ∈ gtb := gtb_m (List.mem_of_getElem? (i := 362) (by decide +kernel)) rfl
theorem fl_X5_19 : Cond.fieldLink RX5 19 (TX5 2).1 (TX5 2).2.1 (TX5 2).2.2.1 ∈ gtb := gtb_m (List.mem_of_getElem? (i := 364) (by decide +kernel)) rfl
theorem fl_X5_22 : Cond.fieldLink RX5 22 (TX5 3).1 (TX5 3).2.1 (TX5 3).2.2.1 ∈ gtb := gtb_m (List.mem_of_getElem? (i := 366) (by decide +kernel)) rfl
theorem fl_X0_7 : Cond.fieldLink RX0 7 (TX0 0).1 (TX0 0).2.1 (TX0 0).2.2.1 ∈ gtb := gtb_m (List.mem_of_getElem? (i := 383) (by decide +kernel)) rfl
theorem fl_X0_13 : Cond.fieldLink RX0 13 (TX0 1).1 (TX0 1).2.1 (TX0 1).2.2.1 ∈ gtb := gtb_m (List.mem_of_getElem? (i := 385) (by decide +kernel)) rfl
theorem fl_X10_28 : Cond.fieldLink RX10 28 (TX10 0).1 (TX10 0).2.1 (TX10 0).2.2.1 ∈ gtb := gtb_m (List.mem_of_getElem? (i := 392) (by decide +kernel)) rfl
theorem fl_X10_37 : Cond.fieldLink RX10 37 (TX10 1).1 (TX10 1).2.1 (TX10 1).2.2.1 ∈ gtb := gtb_m (List.mem_of_getElem? (i := 393) (by decide +kernel)) rfl
theorem fl_X10_44 : Cond.fieldLink RX10 44 (TX10 2).1 (TX10 2).2.1 (TX10 2).2.2.1 ∈ gtb := gtb_m (List.mem_of_getElem? (i := 394) (by decide +kernel)) rfl
theorem fl_X10_48 : Cond.fieldLink RX10 48 (TX10 3).1 (TX10 3).2.1 (TX10 3).2.2.1 ∈ gtb := gtb_m (List.mem_of_getElem? (i := 395) (by decide +kernel)) rfl
theorem fl_X10_52 : Cond.fieldLink RX10 52 (TX10 4).1 (TX10 4).2.1 (TX10 4).2.2.1 ∈ gtb := gtb_m (List.mem_of_getElem? (i := 396) (by decide +kernel)) rfl
theorem fl_X10_56 : Cond.fieldLink RX10 56 (TX10 5).1 (TX10 5).2.1 (TX10 5).2.2.1 ∈ gtb := gtb_m (List.mem_of_getElem? (i := 397) (by decide +kernel)) rfl
theorem fl_X10_65 : Cond.fieldLink RX10 65 (TX10 6).1 (TX10 6).2.1 (TX10 6).2.2.1 ∈ gtb := gtb_m (List.mem_of_getElem? (i := 398) (by decide +kernel)) rfl
theorem fl_X10_71 : Cond.fieldLink RX10 71 (TX10 7).1 (TX10 7).2.1 (TX10 7).2.2.1 ∈ gtb := gtb_m (List.mem_of_getElem? (i := 399) (by decide +kernel)) rfl
theorem fl_X10_79 : Cond.fieldLink RX10 79 (TX10 8).1 (TX10 8).2.1 (TX10 8).2.2.1 ∈ gtb := gtb_m (List.mem_of_getElem? (i := 400) (by decide +kernel)) rfl
theorem fl_X10_83 : Cond.fieldLink RX10 83 (TX10 9).1 (TX10 9).2.1 (TX10 9).2.2.1 ∈ gtb := gtb_m (List.mem_of_getElem? (i := 401) (by decide +kernel)) rfl
theorem fl_X11_90 : Cond.fieldLink RX11 90 (TX11 0).1 (TX11 0).2.1 (TX11 0).2.2.1 ∈ gtb := gtb_m (List.mem_of_getElem? (i := 989) (by decide +kernel)) rfl
theorem fl_X11_7 : Cond.fieldLink RX11 7 (TX11 1).1 (TX11 1).2.1 (TX11 1).2.2.1 ∈ gtb := gtb_m (List.mem_of_getElem? (i := 990) (by decide +kernel)) rfl
theorem fl_X11_13 : Cond.fieldLink RX11 13 (TX11 2).1 (TX11 2).2.1 (TX11 2).2.2.1 ∈ gtb := gtb_m (List.mem_of_getElem? (i := 991) (by decide +kernel)) rfl
theorem fl_X11_98 : Cond.fieldLink RX11 98 (TX11 3).1 (TX11 3).2.1 (TX11 3).2.2.1 ∈ gtb := gtb_m (List.mem_of_getElem? (i := 992) (by decide +kernel)) rfl
theorem fl_X11_16 : Cond.fieldLink RX11 16 (TX11 4).1 (TX11 4).2.1 (TX11 4).2.2.1 ∈ gtb := gtb_m (List.mem_of_getElem? (i := 993) (by decide +kernel)) rfl
theorem fl_X11_19 : Cond.fieldLink RX11 19 (TX11 5).1 (TX11 5).2.1 (TX11 5).2.2.1 ∈ gtb := gtb_m (List.mem_of_getElem? (i := 994) (by decide +kernel)) rfl
theorem fl_X11_22 : Cond.fieldLink RX11 22 (TX11 6).1 (TX11 6).2.1 (TX11 6).2.2.1 ∈ gtb := gtb_m (List.mem_of_getElem? (i := 995) (by decide +kernel)) rfl
theorem fl_X11_25 : Cond.fieldLink RX11 25 (TX11 7).1 (TX11 7).2.1 (TX11 7).2.2.1 ∈ gtb := gtb_m (List.mem_of_getElem? (i := 996) (by decide +kernel)) rfl
theorem fl_X11_28 : Cond.fieldLink RX11 28 (TX11 8).1 (TX11 8).2.1 (TX11 8).2.2.1 ∈ gtb := gtb_m (List.mem_of_getElem? (i := 997) (by decide +kernel)) rfl
theorem fl_X11_31 : Cond.fieldLink RX11 31 (TX11 9).1 (TX11 9).2.1 (TX11 9).2.2.1 ∈ gtb := gtb_m (List.mem_of_getElem? (i := 998) (by decide +kernel)) rfl
theorem fl_X11_35 : Cond.fieldLink RX11 35 (TX11 10).1 (TX11 10).2.1 (TX11 10).2.2.1 ∈ gtb := gtb_m (List.mem_of_getElem? (i := 999) (by decide +kernel)) rfl
theorem fl_X11_38 : Cond.fieldLink RX11 38 (TX11 11).1 (TX11 11).2.1 (TX11 11).2.2.1 ∈ gtb := gtb_m (List.mem_of_getElem? (i := 1000) (by decide +kernel)) rfl
theorem fl_X11_41 : Cond.fieldLink RX11 41 (TX11 12).1 (TX11 12).2.1 (TX11 12).2.2.1 ∈ gtb := gtb_m (List.mem_of_getElem? (i := 1001) (by decide +kernel)) rfl
theorem fl_X11_167 : Cond.fieldLink RX11 167 (TX11 13).1 (TX11 13).2.1 (TX11 13).2.2.1 ∈ gtb := gtb_m (List.mem_of_getElem? (i := 1002) (by decide +kernel)) rfl
theorem fl_X11_171 : Cond.fieldLink RX11 171 (TX11 14).1 (TX11 14).2.1 (TX11 14).2.2.1 ∈ gtb := gtb_m (List.mem_of_getElem? (i := 1003) (by decide +kernel)) rfl
theorem fl_X11_44 : Cond.fieldLink RX11 44 (TX11 15).1 (TX11 15).2.1 (TX11 15).2.2.1 ∈ gtb := gtb_m (List.mem_of_getElem? (i := 1004) (by decide +kernel)) rfl
theorem fl_X11_47 : Cond.fieldLink RX11 47 (TX11 16).1 (TX11 16).2.1 (TX11 16).2.2.1 ∈ gtb := gtb_m (List.mem_of_getElem? (i := 1005) (by decide +kernel)) rfl
theorem fl_X11_50 : Cond.fieldLink RX11 50 (TX11 17).1 (TX11 17).2.1 (TX11 17).2.2.1 ∈ gtb := gtb_m (List.mem_of_getElem? (i := 1006) (by decide +kernel)) rfl
theorem fl_X11_53 : Cond.fieldLink RX11 53 (TX11 18).1 (TX11 18).2.1 (TX11 18).2.2.1 ∈ gtb := gtb_m (List.mem_of_getElem? (i := 1007) (by decide +kernel)) rfl
theorem fl_X11_56 : Cond.fieldLink RX11 56 (TX11 19).1 (TX11 19).2.1 (TX11 19).2.2.1 ∈ gtb := gtb_m (List.mem_of_getElem? (i := 1008) (by decide +kernel)) rfl
theorem fl_X11_59 : Cond.fieldLink RX11 59 (TX11 20).1 (TX11 20).2.1 (TX11 20).2.2.1 ∈ gtb := gtb_m (List.mem_of_getElem? (i := 1009) (by decide +kernel)) rfl
theorem fl_X11_62 : Cond.fieldLink RX11 62 (TX11 21).1 (TX11 21).2.1 (TX11 21).2.2.1 ∈ gtb := gtb_m (List.mem_of_getElem? (i := 1010) (by decide +kernel)) rfl
theorem fl_X11_65 : Cond.fieldLink RX11 65 (TX11 22).1 (TX11 22).2.1 (TX11 22).2.2.1 ∈ gtb := gtb_m (List.mem_of_getElem? (i := 1011) (by decide +kernel)) rfl
theorem fl_X11_267 : Cond.fieldLink RX11 267 (TX11 23).1 (TX11 23).2.1 (TX11 23).2.2.1 ∈ gtb := gtb_m (List.mem_of_getElem? (i := 1012) (by decide +kernel)) rfl
theorem fl_X11_270 : Cond.fieldLink RX11 270 (TX11 24).1 (TX11 24).2.1 (TX11 24).2.2.1 ∈ gtb := gtb_m (List.mem_of_getElem? (i := 1013) (by decide +kernel)) rfl
theorem fl_X11_252 : Cond.fieldLink RX11 252 (TX11 25).1 (TX11 25).2.1 (TX11 25).2.2.1 ∈ gtb := gtb_m (List.mem_of_getElem? (i := 1014) (by decide +kernel)) rfl
theorem fl_X11_255 : Cond.fieldLink RX11 255 (TX11 26).1 (TX11 26).2.1 (TX11 26).2.2.1 ∈ gtb := gtb_m (List.mem_of_getElem? (i := 1015) (by decide +kernel)) rfl
theorem fl_X11_302 : Cond.fieldLink RX11 302 (TX11 27).1 (TX11 27).2.1 (TX11 27).2.2.1 ∈ gtb := gtb_m (List.mem_of_getElem? (i := 1016) (by decide +kernel)) rfl
theorem fl_X11_68 : Cond.fieldLink RX11 68 (TX11 28).1 (TX11 28).2.1 (TX11 28).2.2.1 ∈ gtb := gtb_m (List.mem_of_getElem? (i := 1017) (by decide +kernel)) rfl
theorem fl_X11_72 : Cond.fieldLink RX11 72 (TX11 29).1 (TX11 29).2.1 (TX11 29).2.2.1 ∈ gtb := gtb_m (List.mem_of_getElem? (i := 1018) (by decide +kernel)) rfl
theorem fl_X11_75 : Cond.fieldLink RX11 75 (TX11 30).1 (TX11 30).2.1 (TX11 30).2.2.1 ∈ gtb := gtb_m (List.mem_of_getElem? (i := 1019) (by decide +kernel)) rfl
theorem fl_X11_78 : Cond.fieldLink RX11 78 (TX11 31).1 (TX11 31).2.1 (TX11 31).2.2.1 ∈ gtb := gtb_m (List.mem_of_getElem? (i := 1020) (by decide +kernel)) rfl
theorem fl_X11_81 : Cond.fieldLink RX11 81 (TX11 32).1 (TX11 32).2.1 (TX11 32).2.2.1 ∈ gtb := gtb_m (List.mem_of_getElem? (i := 1021) (by decide +kernel)) rfl
theorem fl_X11_308 : Cond.fieldLink RX11 308 (TX11 33).1 (TX11 33).2.1 (TX11 33).2.2.1 ∈ gtb := gtb_m (List.mem_of_getElem? (i := 1022) (by decide +kernel)) rfl
theorem fl_X10_91 : Cond.fieldLinkNest RX10 91 (TX3 0).1 (TX3 0).2.1 (TX3 0).2.2.1 "LaneFour" ∈ nst := nst_m (List.mem_of_getElem? (i := 110) (by decide +kernel)) rfl
theorem fl_X8_53 : Cond.fieldLinkNest RX8 53 (TX3 1).1 (TX3 1).2.1 (TX3 1).2.2.1 "LaneFour" ∈ nst := nst_m (List.mem_of_getElem? (i := 112) (by decide +kernel)) rfl
theorem fl_X6_41 : Cond.fieldLinkNest RX6 41 (TX3 1).1 (TX3 1).2.1 (TX3 1).2.2.1 "LaneFour" ∈ nst := nst_m (List.mem_of_getElem? (i := 113) (by decide +kernel)) rfl
theorem fl_X10_112 : Cond.fieldLinkNest RX10 112 (TX3 1).1 (TX3 1).2.1 (TX3 1).2.2.1 "LaneFour" ∈ nst := nst_m (List.mem_of_getElem? (i := 114) (by decide +kernel)) rfl
theorem fl_X4_29 : Cond.fieldLinkNest RX4 29 (TX3 1).1 (TX3 1).2.1 (TX3 1).2.2.1 "LaneFour" ∈ nst := nst_m (List.mem_of_getElem? (i := 115) (by decide +kernel)) rfl
theorem fl_X6_100 : Cond.fieldLinkNest RX6 100 (TX3 2).1 (TX3 2).2.1 (TX3 2).2.2.1 "LaneFour" ∈ nst := nst_m (List.mem_of_getElem? (i := 117) (by decide +kernel)) rfl
theorem fl_X8_85 : Cond.fieldLinkNest RX8 85 (TX3 3).1 (TX3 3).2.1 (TX3 3).2.2.1 "LaneFour" ∈ nst := nst_m (List.mem_of_getElem? (i := 119) (by decide +kernel)) rfl
theorem fl_X10_173 : Cond.fieldLinkNest RX10 173 (TX3 3).1 (TX3 3).2.1 (TX3 3).2.2.1 "LaneFour" ∈ nst := nst_m (List.mem_of_getElem? (i := 120) (by decide +kernel)) rfl
theorem fl_X8_82 : Cond.fieldLinkNest RX8 82 (TX3 4).1 (TX3 4).2.1 (TX3 4).2.2.1 "LaneFour" ∈ nst := nst_m (List.mem_of_getElem? (i := 122) (by decide +kernel)) rfl
theorem fl_X4_34 : Cond.fieldLinkNest RX4 34 (TX3 4).1 (TX3 4).2.1 (TX3 4).2.2.1 "LaneFour" ∈ nst := nst_m (List.mem_of_getElem? (i := 123) (by decide +kernel)) rfl
theorem fl_X10_164 : Cond.fieldLinkNest RX10 164 (TX3 4).1 (TX3 4).2.1 (TX3 4).2.2.1 "LaneFour" ∈ nst := nst_m (List.mem_of_getElem? (i := 124) (by decide +kernel)) rfl
theorem fl_X6_97 : Cond.fieldLinkNest RX6 97 (TX3 4).1 (TX3 4).2.1 (TX3 4).2.2.1 "LaneFour" ∈ nst := nst_m (List.mem_of_getElem? (i := 125) (by decide +kernel)) rfl
theorem fl_X6_54 : Cond.fieldLinkNest RX6 54 (TX3 5).1 (TX3 5).2.1 (TX3 5).2.2.1 "LaneFour" ∈ nst := nst_m (List.mem_of_getElem? (i := 127) (by decide +kernel)) rfl
theorem fl_X4_48 : Cond.fieldLinkNest RX4 48 (TX3 5).1 (TX3 5).2.1 (TX3 5).2.2.1 "LaneFour" ∈ nst := nst_m (List.mem_of_getElem? (i := 128) (by decide +kernel)) rfl
theorem fl_X10_167 : Cond.fieldLinkNest RX10 167 (TX3 5).1 (TX3 5).2.1 (TX3 5).2.2.1 "LaneFour" ∈ nst := nst_m (List.mem_of_getElem? (i := 129) (by decide +kernel)) rfl
theorem fl_X8_120 : Cond.fieldLinkNest RX8 120 (TX3 5).1 (TX3 5).2.1 (TX3 5).2.2.1 "LaneFour" ∈ nst := nst_m (List.mem_of_getElem? (i := 130) (by decide +kernel)) rfl
theorem fl_X8_69 : Cond.fieldLinkNest RX8 69 (TX3 6).1 (TX3 6).2.1 (TX3 6).2.2.1 "LaneFour" ∈ nst := nst_m (List.mem_of_getElem? (i := 132) (by decide +kernel)) rfl
theorem fl_X6_61 : Cond.fieldLinkNest RX6 61 (TX3 6).1 (TX3 6).2.1 (TX3 6).2.2.1 "LaneFour" ∈ nst := nst_m (List.mem_of_getElem? (i := 133) (by decide +kernel)) rfl
theorem fl_X4_37 : Cond.fieldLinkNest RX4 37 (TX3 6).1 (TX3 6).2.1 (TX3 6).2.2.1 "LaneFour" ∈ nst := nst_m (List.mem_of_getElem? (i := 134) (by decide +kernel)) rfl
theorem fl_X10_170 : Cond.fieldLinkNest RX10 170 (TX3 6).1 (TX3 6).2.1 (TX3 6).2.2.1 "LaneFour" ∈ nst := nst_m (List.mem_of_getElem? (i := 135) (by decide +kernel)) rfl
theorem fl_X2_73 : Cond.fieldLinkNest RX2 73 (TX3 8).1 (TX3 8).2.1 (TX3 8).2.2.1 "LaneFour" ∈ nst := nst_m (List.mem_of_getElem? (i := 138) (by decide +kernel)) rfl
theorem fl_X10_161 : Cond.fieldLinkNest RX10 161 (TX3 8).1 (TX3 8).2.1 (TX3 8).2.2.1 "LaneFour" ∈ nst := nst_m (List.mem_of_getElem? (i := 139) (by decide +kernel)) rfl
theorem fl_X8_66 : Cond.fieldLinkNest RX8 66 (TX1 0).1 (TX1 0).2.1 (TX1 0).2.2.1 "LaneFour" ∈ nst := nst_m (List.mem_of_getElem? (i := 167) (by decide +kernel)) rfl
theorem fl_X6_86 : Cond.fieldLinkNest RX6 86 (TX1 0).1 (TX1 0).2.1 (TX1 0).2.2.1 "LaneFour" ∈ nst := nst_m (List.mem_of_getElem? (i := 168) (by decide +kernel)) rfl
theorem fl_X10_215 : Cond.fieldLinkNest RX10 215 (TX1 0).1 (TX1 0).2.1 (TX1 0).2.2.1 "LaneFour" ∈ nst := nst_m (List.mem_of_getElem? (i := 169) (by decide +kernel)) rfl
theorem fl_X8_72 : Cond.fieldLinkNest RX8 72 (TX1 1).1 (TX1 1).2.1 (TX1 1).2.2.1 "LaneFour" ∈ nst := nst_m (List.mem_of_getElem? (i := 171) (by decide +kernel)) rfl
theorem fl_X8_103 : Cond.fieldLinkNest RX8 103 (TX1 2).1 (TX1 2).2.1 (TX1 2).2.2.1 "LaneFour" ∈ nst := nst_m (List.mem_of_getElem? (i := 173) (by decide +kernel)) rfl
theorem fl_X10_393 : Cond.fieldLinkNest RX10 393 (TX1 2).1 (TX1 2).2.1 (TX1 2).2.2.1 "LaneFour" ∈ nst := nst_m (List.mem_of_getElem? (i := 174) (by decide +kernel)) rfl
theorem fl_X8_100 : Cond.fieldLinkNest RX8 100 (TX1 4).1 (TX1 4).2.1 (TX1 4).2.2.1 "LaneFour" ∈ nst := nst_m (List.mem_of_getElem? (i := 177) (by decide +kernel)) rfl
theorem fl_X6_76 : Cond.fieldLinkNest RX6 76 (TX1 4).1 (TX1 4).2.1 (TX1 4).2.2.1 "LaneFour" ∈ nst := nst_m (List.mem_of_getElem? (i := 178) (by decide +kernel)) rfl
theorem fl_X10_390 : Cond.fieldLinkNest RX10 390 (TX1 4).1 (TX1 4).2.1 (TX1 4).2.2.1 "LaneFour" ∈ nst := nst_m (List.mem_of_getElem? (i := 179) (by decide +kernel)) rfl
theorem fl_X6_83 : Cond.fieldLinkNest RX6 83 (TX1 5).1 (TX1 5).2.1 (TX1 5).2.2.1 "LaneFour" ∈ nst := nst_m (List.mem_of_getElem? (i := 181) (by decide +kernel)) rfl
theorem fl_X8_123 : Cond.fieldLinkNest RX8 123 (TX1 5).1 (TX1 5).2.1 (TX1 5).2.2.1 "LaneFour" ∈ nst := nst_m (List.mem_of_getElem? (i := 182) (by decide +kernel)) rfl
theorem fl_X10_387 : Cond.fieldLinkNest RX10 387 (TX1 5).1 (TX1 5).2.1 (TX1 5).2.2.1 "LaneFour" ∈ nst := nst_m (List.mem_of_getElem? (i := 183) (by decide +kernel)) rfl
theorem fl_X4_21 : Cond.fieldLinkNest RX4 21 (TX7 0).1 (TX7 0).2.1 (TX7 0).2.2.1 "LaneFour" ∈ nst := nst_m (List.mem_of_getElem? (i := 211) (by decide +kernel)) rfl
theorem fl_X9_34 : Cond.fieldLinkNest RX9 34 (TX7 0).1 (TX7 0).2.1 (TX7 0).2.2.1 "LaneFour" ∈ nst := nst_m (List.mem_of_getElem? (i := 212) (by decide +kernel)) rfl
theorem fl_X4_15 : Cond.fieldLinkNest RX4 15 (TX7 1).1 (TX7 1).2.1 (TX7 1).2.2.1 "LaneFour" ∈ nst := nst_m (List.mem_of_getElem? (i := 214) (by decide +kernel)) rfl
theorem fl_X9_29 : Cond.fieldLinkNest RX9 29 (TX7 1).1 (TX7 1).2.1 (TX7 1).2.2.1 "LaneFour" ∈ nst := nst_m (List.mem_of_getElem? (i := 215) (by decide +kernel)) rfl
theorem fl_X10_350 : Cond.fieldLinkNest RX10 350 (TX7 1).1 (TX7 1).2.1 (TX7 1).2.2.1 "LaneFour" ∈ nst := nst_m (List.mem_of_getElem? (i := 216) (by decide +kernel)) rfl
theorem fl_X2_66 : Cond.fieldLinkNest RX2 66 (TX9 1).1 (TX9 1).2.1 (TX9 1).2.2.1 "LaneFour" ∈ nst := nst_m (List.mem_of_getElem? (i := 240) (by decide +kernel)) rfl
theorem fl_X10_311 : Cond.fieldLinkNest RX10 311 (TX9 1).1 (TX9 1).2.1 (TX9 1).2.2.1 "LaneFour" ∈ nst := nst_m (List.mem_of_getElem? (i := 241) (by decide +kernel)) rfl
theorem fl_X10_211 : Cond.fieldLinkNest RX10 211 (TX8 1).1 (TX8 1).2.1 (TX8 1).2.2.1 "LaneFour" ∈ nst := nst_m (List.mem_of_getElem? (i := 263) (by decide +kernel)) rfl
theorem fl_X10_381 : Cond.fieldLinkNest RX10 381 (TX8 2).1 (TX8 2).2.1 (TX8 2).2.2.1 "LaneFour" ∈ nst := nst_m (List.mem_of_getElem? (i := 265) (by decide +kernel)) rfl
theorem fl_X10_231 : Cond.fieldLinkNest RX10 231 (TX8 6).1 (TX8 6).2.1 (TX8 6).2.2.1 "LaneFour" ∈ nst := nst_m (List.mem_of_getElem? (i := 270) (by decide +kernel)) rfl
theorem fl_X10_234 : Cond.fieldLinkNest RX10 234 (TX8 7).1 (TX8 7).2.1 (TX8 7).2.2.1 "LaneFour" ∈ nst := nst_m (List.mem_of_getElem? (i := 272) (by decide +kernel)) rfl
theorem fl_X10_249 : Cond.fieldLinkNest RX10 249 (TX6 2).1 (TX6 2).2.1 (TX6 2).2.2.1 "LaneFour" ∈ nst := nst_m (List.mem_of_getElem? (i := 306) (by decide +kernel)) rfl
theorem fl_X10_258 : Cond.fieldLinkNest RX10 258 (TX6 4).1 (TX6 4).2.1 (TX6 4).2.2.1 "LaneFour" ∈ nst := nst_m (List.mem_of_getElem? (i := 309) (by decide +kernel)) rfl
theorem fl_X10_255 : Cond.fieldLinkNest RX10 255 (TX6 5).1 (TX6 5).2.1 (TX6 5).2.2.1 "LaneFour" ∈ nst := nst_m (List.mem_of_getElem? (i := 311) (by decide +kernel)) rfl
theorem fl_X10_267 : Cond.fieldLinkNest RX10 267 (TX6 6).1 (TX6 6).2.1 (TX6 6).2.2.1 "LaneFour" ∈ nst := nst_m (List.mem_of_getElem? (i := 313) (by decide +kernel)) rfl
theorem fl_X10_271 : Cond.fieldLinkNest RX10 271 (TX6 7).1 (TX6 7).2.1 (TX6 7).2.2.1 "LaneFour" ∈ nst := nst_m (List.mem_of_getElem? (i := 315) (by decide +kernel)) rfl
theorem fl_X10_142 : Cond.fieldLinkNest RX10 142 (TX5 0).1 (TX5 0).2.1 (TX5 0).2.2.1 "LaneFour" ∈ nst := nst_m (List.mem_of_getElem? (i := 361) (by decide +kernel)) rfl
theorem fl_X10_332 : Cond.fieldLinkNest RX10 332 (TX5 1).1 (TX5 1).2.1 (TX5 1).2.2.1 "LaneFour" ∈ nst := nst_m (List.mem_of_getElem? (i := 363) (by decide +kernel)) rfl
theorem fl_X10_149 : Cond.fieldLinkNest RX10 149 (TX5 2).1 (TX5 2).2.1 (TX5 2).2.2.1 "LaneFour" ∈ nst := nst_m (List.mem_of_getElem? (i := 365) (by decide +kernel)) rfl
theorem fl_X10_157 : Cond.fieldLinkNest RX10 157 (TX5 3).1 (TX5 3).2.1 (TX5 3).2.2.1 "LaneFour" ∈ nst := nst_m (List.mem_of_getElem? (i := 367) (by decide +kernel)) rfl
theorem fl_X10_241 : Cond.fieldLinkNest RX10 241 (TX0 0).1 (TX0 0).2.1 (TX0 0).2.2.1 "LaneFour" ∈ nst := nst_m (List.mem_of_getElem? (i := 384) (by decide +kernel)) rfl
theorem fl_X10_245 : Cond.fieldLinkNest RX10 245 (TX0 1).1 (TX0 1).2.1 (TX0 1).2.2.1 "LaneFour" ∈ nst := nst_m (List.mem_of_getElem? (i := 386) (by decide +kernel)) rfl
theorem ml_X7_7 : Cond.methodLink RX7 7 yJ9_max_7cf53 ∈ gtb := gtb_m (List.mem_of_getElem? (i := 207) (by decide +kernel)) rfl
theorem ml_L_13 : Cond.methodLink RL 13 yX10_race ∈ gtb := gtb_m (List.mem_of_getElem? (i := 423) (by decide +kernel)) rfl
theorem ml_X10_87 : Cond.methodLink RX10 87 yX10_mayBeRace ∈ gtb := gtb_m (List.mem_of_getElem? (i := 427) (by decide +kernel)) rfl
theorem ml_X10_126 : Cond.methodLink RX10 126 yX10_within ∈ gtb := gtb_m (List.mem_of_getElem? (i := 430) (by decide +kernel)) rfl
theorem ml_X10_218 : Cond.methodLink RX10 218 yX10_isDay ∈ gtb := gtb_m (List.mem_of_getElem? (i := 433) (by decide +kernel)) rfl
theorem ml_X10_94 : Cond.methodLink RX10 94 yX3_addRace ∈ gtb := gtb_m (List.mem_of_getElem? (i := 436) (by decide +kernel)) rfl
theorem ml_L_18 : Cond.methodLink RL 18 yX10_swim ∈ gtb := gtb_m (List.mem_of_getElem? (i := 440) (by decide +kernel)) rfl
theorem ml_X10_98 : Cond.methodLink RX10 98 yX3_hasRace ∈ gtb := gtb_m (List.mem_of_getElem? (i := 444) (by decide +kernel)) rfl
theorem ml_X10_102 : Cond.methodLink RX10 102 yX10_isSwimmer ∈ gtb := gtb_m (List.mem_of_getElem? (i := 448) (by decide +kernel)) rfl
theorem ml_X10_105 : Cond.methodLink RX10 105 yX10_isLane ∈ gtb := gtb_m (List.mem_of_getElem? (i := 451) (by decide +kernel)) rfl
theorem ml_X10_108 : Cond.methodLink RX10 108 yX3_isTaken ∈ gtb := gtb_m (List.mem_of_getElem? (i := 454) (by decide +kernel)) rfl
theorem ml_X10_115 : Cond.methodLink RX10 115 yX3_addSwim ∈ gtb := gtb_m (List.mem_of_getElem? (i := 458) (by decide +kernel)) rfl
theorem ml_L_23 : Cond.methodLink RL 23 yX10_time ∈ gtb := gtb_m (List.mem_of_getElem? (i := 462) (by decide +kernel)) rfl
theorem ml_X10_119 : Cond.methodLink RX10 119 yX3_hasSwim ∈ gtb := gtb_m (List.mem_of_getElem? (i := 466) (by decide +kernel)) rfl
theorem ml_X10_122 : Cond.methodLink RX10 122 yX3_lengthsOf ∈ gtb := gtb_m (List.mem_of_getElem? (i := 470) (by decide +kernel)) rfl
theorem ml_X10_129 : Cond.methodLink RX10 129 yX10_mayBeTime ∈ gtb := gtb_m (List.mem_of_getElem? (i := 474) (by decide +kernel)) rfl
theorem ml_X10_132 : Cond.methodLink RX10 132 yX3_timeOf ∈ gtb := gtb_m (List.mem_of_getElem? (i := 477) (by decide +kernel)) rfl
theorem ml_X10_135 : Cond.methodLink RX10 135 yX3_setTime ∈ gtb := gtb_m (List.mem_of_getElem? (i := 481) (by decide +kernel)) rfl
theorem ml_L_27 : Cond.methodLink RL 27 yX10_read ∈ gtb := gtb_m (List.mem_of_getElem? (i := 485) (by decide +kernel)) rfl
theorem ml_X10_139 : Cond.methodLink RX10 139 yX10_isSheet ∈ gtb := gtb_m (List.mem_of_getElem? (i := 489) (by decide +kernel)) rfl
theorem ml_X10_146 : Cond.methodLink RX10 146 yX10_found ∈ gtb := gtb_m (List.mem_of_getElem? (i := 492) (by decide +kernel)) rfl
theorem ml_X10_152 : Cond.methodLink RX10 152 yJ9_min_7cf53 ∈ gtb := gtb_m (List.mem_of_getElem? (i := 496) (by decide +kernel)) rfl
theorem ml_L_31 : Cond.methodLink RL 31 yX10_seeds ∈ gtb := gtb_m (List.mem_of_getElem? (i := 499) (by decide +kernel)) rfl
theorem ml_L_35 : Cond.methodLink RL 35 yX10_about ∈ gtb := gtb_m (List.mem_of_getElem? (i := 503) (by decide +kernel)) rfl
theorem ml_X10_176 : Cond.methodLink RX10 176 yX3_feltIn ∈ gtb := gtb_m (List.mem_of_getElem? (i := 507) (by decide +kernel)) rfl
theorem ml_X3_40 : Cond.methodLink RX3 40 yX3_timeOf ∈ gtb := gtb_m (List.mem_of_getElem? (i := 511) (by decide +kernel)) rfl
theorem ml_X10_179 : Cond.methodLink RX10 179 yX3_togetherIn ∈ gtb := gtb_m (List.mem_of_getElem? (i := 512) (by decide +kernel)) rfl
theorem ml_L_39 : Cond.methodLink RL 39 yX10_diff ∈ gtb := gtb_m (List.mem_of_getElem? (i := 516) (by decide +kernel)) rfl
theorem ml_X10_182 : Cond.methodLink RX10 182 yX10_isPart ∈ gtb := gtb_m (List.mem_of_getElem? (i := 520) (by decide +kernel)) rfl
theorem ml_X10_185 : Cond.methodLink RX10 185 yX10_refusal ∈ gtb := gtb_m (List.mem_of_getElem? (i := 523) (by decide +kernel)) rfl
theorem ml_X10_189 : Cond.methodLink RX10 189 yX3_hasDiff ∈ gtb := gtb_m (List.mem_of_getElem? (i := 527) (by decide +kernel)) rfl
theorem ml_X3_48 : Cond.methodLink RX3 48 yX3_doubledMean ∈ gtb := gtb_m (List.mem_of_getElem? (i := 531) (by decide +kernel)) rfl
theorem ml_X10_192 : Cond.methodLink RX10 192 yX3_doubledDiff ∈ gtb := gtb_m (List.mem_of_getElem? (i := 535) (by decide +kernel)) rfl
theorem ml_X10_197 : Cond.methodLink RX10 197 yX0_set ∈ gtb := gtb_m (List.mem_of_getElem? (i := 540) (by decide +kernel)) rfl
theorem ml_X0_16 : Cond.methodLink RX0 16 yJ9_abs_067f4 ∈ gtb := gtb_m (List.mem_of_getElem? (i := 544) (by decide +kernel)) rfl
theorem ml_X0_22 : Cond.methodLink RX0 22 yX0_commonPart ∈ gtb := gtb_m (List.mem_of_getElem? (i := 547) (by decide +kernel)) rfl
theorem ml_X10_201 : Cond.methodLink RX10 201 yX0_part ∈ gtb := gtb_m (List.mem_of_getElem? (i := 550) (by decide +kernel)) rfl
theorem ml_L_44 : Cond.methodLink RL 44 yX10_lane ∈ gtb := gtb_m (List.mem_of_getElem? (i := 554) (by decide +kernel)) rfl
theorem ml_X10_204 : Cond.methodLink RX10 204 yX8_survey ∈ gtb := gtb_m (List.mem_of_getElem? (i := 558) (by decide +kernel)) rfl
theorem ml_X8_50 : Cond.methodLink RX8 50 yX1_clear ∈ gtb := gtb_m (List.mem_of_getElem? (i := 562) (by decide +kernel)) rfl
theorem ml_X8_58 : Cond.methodLink RX8 58 yX3_hasDiff ∈ gtb := gtb_m (List.mem_of_getElem? (i := 566) (by decide +kernel)) rfl
theorem ml_X8_62 : Cond.methodLink RX8 62 yX3_doubledDiff ∈ gtb := gtb_m (List.mem_of_getElem? (i := 567) (by decide +kernel)) rfl
theorem ml_X8_75 : Cond.methodLink RX8 75 yX1_settle ∈ gtb := gtb_m (List.mem_of_getElem? (i := 568) (by decide +kernel)) rfl
theorem ml_X1_36 : Cond.methodLink RX1 36 yX0_commonMultiple ∈ gtb := gtb_m (List.mem_of_getElem? (i := 572) (by decide +kernel)) rfl
theorem ml_X8_78 : Cond.methodLink RX8 78 yX1_becomeShapeOf ∈ gtb := gtb_m (List.mem_of_getElem? (i := 575) (by decide +kernel)) rfl
theorem ml_X1_42 : Cond.methodLink RX1 42 yX1_joinFirstFall ∈ gtb := gtb_m (List.mem_of_getElem? (i := 579) (by decide +kernel)) rfl
theorem ml_X1_49 : Cond.methodLink RX1 49 yX1_join ∈ gtb := gtb_m (List.mem_of_getElem? (i := 583) (by decide +kernel)) rfl
theorem ml_X1_46 : Cond.methodLink RX1 46 yX1_settle ∈ gtb := gtb_m (List.mem_of_getElem? (i := 587) (by decide +kernel)) rfl
theorem ml_X10_207 : Cond.methodLink RX10 207 yX10_ofLane ∈ gtb := gtb_m (List.mem_of_getElem? (i := 588) (by decide +kernel)) rfl
theorem ml_X10_384 : Cond.methodLink RX10 384 yX1_aboveMean ∈ gtb := gtb_m (List.mem_of_getElem? (i := 592) (by decide +kernel)) rfl
theorem ml_L_49 : Cond.methodLink RL 49 yX10_counts ∈ gtb := gtb_m (List.mem_of_getElem? (i := 596) (by decide +kernel)) rfl
theorem ml_L_54 : Cond.methodLink RL 54 yX10_lean ∈ gtb := gtb_m (List.mem_of_getElem? (i := 600) (by decide +kernel)) rfl
theorem ml_X10_221 : Cond.methodLink RX10 221 yX8_surveyDays ∈ gtb := gtb_m (List.mem_of_getElem? (i := 604) (by decide +kernel)) rfl
theorem ml_X8_88 : Cond.methodLink RX8 88 yX8_leanOfPair ∈ gtb := gtb_m (List.mem_of_getElem? (i := 608) (by decide +kernel)) rfl
theorem ml_X8_95 : Cond.methodLink RX8 95 yJ6_compare_7cf53 ∈ gtb := gtb_m (List.mem_of_getElem? (i := 612) (by decide +kernel)) rfl
theorem ml_X8_92 : Cond.methodLink RX8 92 yX8_findRan ∈ gtb := gtb_m (List.mem_of_getElem? (i := 615) (by decide +kernel)) rfl
theorem ml_X10_224 : Cond.methodLink RX10 224 yX8_leanOf ∈ gtb := gtb_m (List.mem_of_getElem? (i := 619) (by decide +kernel)) rfl
theorem ml_L_58 : Cond.methodLink RL 58 yX10_chance ∈ gtb := gtb_m (List.mem_of_getElem? (i := 623) (by decide +kernel)) rfl
theorem ml_X10_227 : Cond.methodLink RX10 227 yX8_chanceOfShape ∈ gtb := gtb_m (List.mem_of_getElem? (i := 627) (by decide +kernel)) rfl
theorem ml_X8_106 : Cond.methodLink RX8 106 yX8_shareOfOrders ∈ gtb := gtb_m (List.mem_of_getElem? (i := 631) (by decide +kernel)) rfl
theorem ml_X8_109 : Cond.methodLink RX8 109 yX8_swap ∈ gtb := gtb_m (List.mem_of_getElem? (i := 635) (by decide +kernel)) rfl
theorem ml_X8_115 : Cond.methodLink RX8 115 yJ9_max_7cf53 ∈ gtb := gtb_m (List.mem_of_getElem? (i := 640) (by decide +kernel)) rfl
theorem ml_L_63 : Cond.methodLink RL 63 yX10_ran ∈ gtb := gtb_m (List.mem_of_getElem? (i := 641) (by decide +kernel)) rfl
theorem ml_L_67 : Cond.methodLink RL 67 yX10_own ∈ gtb := gtb_m (List.mem_of_getElem? (i := 645) (by decide +kernel)) rfl
theorem ml_X10_237 : Cond.methodLink RX10 237 yX8_findOwn ∈ gtb := gtb_m (List.mem_of_getElem? (i := 649) (by decide +kernel)) rfl
theorem ml_X8_129 : Cond.methodLink RX8 129 yX0_set ∈ gtb := gtb_m (List.mem_of_getElem? (i := 654) (by decide +kernel)) rfl
theorem ml_L_71 : Cond.methodLink RL 71 yX10_fast ∈ gtb := gtb_m (List.mem_of_getElem? (i := 655) (by decide +kernel)) rfl
theorem ml_L_75 : Cond.methodLink RL 75 yX10_twice ∈ gtb := gtb_m (List.mem_of_getElem? (i := 659) (by decide +kernel)) rfl
theorem ml_X10_248 : Cond.methodLink RX10 248 yX6_survey ∈ gtb := gtb_m (List.mem_of_getElem? (i := 663) (by decide +kernel)) rfl
theorem ml_X6_46 : Cond.methodLink RX6 46 yX3_isSingle ∈ gtb := gtb_m (List.mem_of_getElem? (i := 667) (by decide +kernel)) rfl
theorem ml_X3_55 : Cond.methodLink RX3 55 yX3_lengthsOf ∈ gtb := gtb_m (List.mem_of_getElem? (i := 671) (by decide +kernel)) rfl
theorem ml_X6_50 : Cond.methodLink RX6 50 yX6_addPairsOf ∈ gtb := gtb_m (List.mem_of_getElem? (i := 672) (by decide +kernel)) rfl
theorem ml_X6_57 : Cond.methodLink RX6 57 yX3_timeOf ∈ gtb := gtb_m (List.mem_of_getElem? (i := 676) (by decide +kernel)) rfl
theorem ml_L_79 : Cond.methodLink RL 79 yX10_order ∈ gtb := gtb_m (List.mem_of_getElem? (i := 677) (by decide +kernel)) rfl
theorem ml_X10_252 : Cond.methodLink RX10 252 yX6_arrange ∈ gtb := gtb_m (List.mem_of_getElem? (i := 681) (by decide +kernel)) rfl
theorem ml_X6_64 : Cond.methodLink RX6 64 yX6_pairsIfFirst ∈ gtb := gtb_m (List.mem_of_getElem? (i := 685) (by decide +kernel)) rfl
theorem ml_X6_67 : Cond.methodLink RX6 67 yJ9_max_7cf53 ∈ gtb := gtb_m (List.mem_of_getElem? (i := 689) (by decide +kernel)) rfl
theorem ml_X6_72 : Cond.methodLink RX6 72 yX6_leastFirst ∈ gtb := gtb_m (List.mem_of_getElem? (i := 690) (by decide +kernel)) rfl
theorem ml_L_83 : Cond.methodLink RL 83 yX10_right ∈ gtb := gtb_m (List.mem_of_getElem? (i := 694) (by decide +kernel)) rfl
theorem ml_X10_261 : Cond.methodLink RX10 261 yX3_isSingle ∈ gtb := gtb_m (List.mem_of_getElem? (i := 698) (by decide +kernel)) rfl
theorem ml_X10_264 : Cond.methodLink RX10 264 yX6_putRight ∈ gtb := gtb_m (List.mem_of_getElem? (i := 699) (by decide +kernel)) rfl
theorem ml_X6_89 : Cond.methodLink RX6 89 yX1_aboveMean ∈ gtb := gtb_m (List.mem_of_getElem? (i := 704) (by decide +kernel)) rfl
theorem ml_L_87 : Cond.methodLink RL 87 yX10_place ∈ gtb := gtb_m (List.mem_of_getElem? (i := 705) (by decide +kernel)) rfl
theorem ml_X10_274 : Cond.methodLink RX10 274 yX6_placeOf ∈ gtb := gtb_m (List.mem_of_getElem? (i := 709) (by decide +kernel)) rfl
theorem ml_X6_93 : Cond.methodLink RX6 93 yX6_slowness ∈ gtb := gtb_m (List.mem_of_getElem? (i := 713) (by decide +kernel)) rfl
theorem ml_L_91 : Cond.methodLink RL 91 yX10_medals ∈ gtb := gtb_m (List.mem_of_getElem? (i := 717) (by decide +kernel)) rfl
theorem ml_X10_277 : Cond.methodLink RX10 277 yX6_changedMedals ∈ gtb := gtb_m (List.mem_of_getElem? (i := 721) (by decide +kernel)) rfl
theorem ml_X6_103 : Cond.methodLink RX6 103 yX6_hasMedal ∈ gtb := gtb_m (List.mem_of_getElem? (i := 725) (by decide +kernel)) rfl
theorem ml_X6_107 : Cond.methodLink RX6 107 yX6_placeOf ∈ gtb := gtb_m (List.mem_of_getElem? (i := 729) (by decide +kernel)) rfl
theorem ml_L_95 : Cond.methodLink RL 95 yX10_type ∈ gtb := gtb_m (List.mem_of_getElem? (i := 730) (by decide +kernel)) rfl
theorem ml_X10_280 : Cond.methodLink RX10 280 yX10_isText ∈ gtb := gtb_m (List.mem_of_getElem? (i := 734) (by decide +kernel)) rfl
theorem ml_X10_283 : Cond.methodLink RX10 283 yX7_isFull ∈ gtb := gtb_m (List.mem_of_getElem? (i := 737) (by decide +kernel)) rfl
theorem ml_X10_287 : Cond.methodLink RX10 287 yX7_append ∈ gtb := gtb_m (List.mem_of_getElem? (i := 741) (by decide +kernel)) rfl
theorem ml_X7_23 : Cond.methodLink RX7 23 yX7_isFull ∈ gtb := gtb_m (List.mem_of_getElem? (i := 745) (by decide +kernel)) rfl
theorem ml_L_99 : Cond.methodLink RL 99 yX10_wipe ∈ gtb := gtb_m (List.mem_of_getElem? (i := 746) (by decide +kernel)) rfl
theorem ml_X10_290 : Cond.methodLink RX10 290 yX7_clear ∈ gtb := gtb_m (List.mem_of_getElem? (i := 750) (by decide +kernel)) rfl
theorem ml_L_103 : Cond.methodLink RL 103 yX10_fault ∈ gtb := gtb_m (List.mem_of_getElem? (i := 754) (by decide +kernel)) rfl
theorem ml_X10_293 : Cond.methodLink RX10 293 yX4_faultAt ∈ gtb := gtb_m (List.mem_of_getElem? (i := 758) (by decide +kernel)) rfl
theorem ml_X10_296 : Cond.methodLink RX10 296 yX9_parse ∈ gtb := gtb_m (List.mem_of_getElem? (i := 763) (by decide +kernel)) rfl
theorem ml_X9_26 : Cond.methodLink RX9 26 yX9_clearValues ∈ gtb := gtb_m (List.mem_of_getElem? (i := 767) (by decide +kernel)) rfl
theorem ml_X9_37 : Cond.methodLink RX9 37 yX9_next ∈ gtb := gtb_m (List.mem_of_getElem? (i := 771) (by decide +kernel)) rfl
theorem ml_X9_41 : Cond.methodLink RX9 41 yX9_open ∈ gtb := gtb_m (List.mem_of_getElem? (i := 775) (by decide +kernel)) rfl
theorem ml_X9_45 : Cond.methodLink RX9 45 yX9_choose ∈ gtb := gtb_m (List.mem_of_getElem? (i := 779) (by decide +kernel)) rfl
theorem ml_X9_52 : Cond.methodLink RX9 52 yX9_turn ∈ gtb := gtb_m (List.mem_of_getElem? (i := 784) (by decide +kernel)) rfl
theorem ml_X9_56 : Cond.methodLink RX9 56 yX9_begin ∈ gtb := gtb_m (List.mem_of_getElem? (i := 788) (by decide +kernel)) rfl
theorem ml_X9_59 : Cond.methodLink RX9 59 yX9_isFigure ∈ gtb := gtb_m (List.mem_of_getElem? (i := 792) (by decide +kernel)) rfl
theorem ml_X9_62 : Cond.methodLink RX9 62 yX9_end ∈ gtb := gtb_m (List.mem_of_getElem? (i := 796) (by decide +kernel)) rfl
theorem ml_X9_65 : Cond.methodLink RX9 65 yX9_close ∈ gtb := gtb_m (List.mem_of_getElem? (i := 800) (by decide +kernel)) rfl
theorem ml_L_107 : Cond.methodLink RL 107 yX10_given ∈ gtb := gtb_m (List.mem_of_getElem? (i := 803) (by decide +kernel)) rfl
theorem ml_X10_299 : Cond.methodLink RX10 299 yX10_givenOf ∈ gtb := gtb_m (List.mem_of_getElem? (i := 807) (by decide +kernel)) rfl
theorem ml_X10_396 : Cond.methodLink RX10 396 yX4_isKeptBy ∈ gtb := gtb_m (List.mem_of_getElem? (i := 811) (by decide +kernel)) rfl
theorem ml_X4_40 : Cond.methodLink RX4 40 yX4_rankOf ∈ gtb := gtb_m (List.mem_of_getElem? (i := 815) (by decide +kernel)) rfl
theorem ml_X4_51 : Cond.methodLink RX4 51 yX3_isBetter ∈ gtb := gtb_m (List.mem_of_getElem? (i := 818) (by decide +kernel)) rfl
theorem ml_X4_44 : Cond.methodLink RX4 44 yX4_laneFor ∈ gtb := gtb_m (List.mem_of_getElem? (i := 822) (by decide +kernel)) rfl
theorem ml_L_111 : Cond.methodLink RL 111 yX10_tenths ∈ gtb := gtb_m (List.mem_of_getElem? (i := 826) (by decide +kernel)) rfl
theorem ml_X10_302 : Cond.methodLink RX10 302 yX3_feltInRace ∈ gtb := gtb_m (List.mem_of_getElem? (i := 830) (by decide +kernel)) rfl
theorem ml_X3_61 : Cond.methodLink RX3 61 yX3_feltIn ∈ gtb := gtb_m (List.mem_of_getElem? (i := 834) (by decide +kernel)) rfl
theorem ml_X10_305 : Cond.methodLink RX10 305 yX3_tenthsInRace ∈ gtb := gtb_m (List.mem_of_getElem? (i := 835) (by decide +kernel)) rfl
theorem ml_X3_64 : Cond.methodLink RX3 64 yX3_tenthsIn ∈ gtb := gtb_m (List.mem_of_getElem? (i := 839) (by decide +kernel)) rfl
theorem ml_X10_308 : Cond.methodLink RX10 308 yX10_chanceOfTenths ∈ gtb := gtb_m (List.mem_of_getElem? (i := 843) (by decide +kernel)) rfl
theorem ml_X10_402 : Cond.methodLink RX10 402 yX10_power ∈ gtb := gtb_m (List.mem_of_getElem? (i := 847) (by decide +kernel)) rfl
theorem ml_L_115 : Cond.methodLink RL 115 yX10_world ∈ gtb := gtb_m (List.mem_of_getElem? (i := 851) (by decide +kernel)) rfl
theorem ml_L_119 : Cond.methodLink RL 119 yX10_made ∈ gtb := gtb_m (List.mem_of_getElem? (i := 855) (by decide +kernel)) rfl
theorem ml_X10_314 : Cond.methodLink RX10 314 yX2_fill ∈ gtb := gtb_m (List.mem_of_getElem? (i := 859) (by decide +kernel)) rfl
theorem ml_X2_27 : Cond.methodLink RX2 27 yX9_parse ∈ gtb := gtb_m (List.mem_of_getElem? (i := 863) (by decide +kernel)) rfl
theorem ml_X2_33 : Cond.methodLink RX2 33 yX4_faultAt ∈ gtb := gtb_m (List.mem_of_getElem? (i := 864) (by decide +kernel)) rfl
theorem ml_X2_38 : Cond.methodLink RX2 38 yX2_rankAmong ∈ gtb := gtb_m (List.mem_of_getElem? (i := 865) (by decide +kernel)) rfl
theorem ml_X2_62 : Cond.methodLink RX2 62 yX3_isBetter ∈ gtb := gtb_m (List.mem_of_getElem? (i := 869) (by decide +kernel)) rfl
theorem ml_X2_42 : Cond.methodLink RX2 42 yX4_laneFor ∈ gtb := gtb_m (List.mem_of_getElem? (i := 870) (by decide +kernel)) rfl
theorem ml_X2_46 : Cond.methodLink RX2 46 yX3_addSwim ∈ gtb := gtb_m (List.mem_of_getElem? (i := 871) (by decide +kernel)) rfl
theorem ml_X2_51 : Cond.methodLink RX2 51 yX3_hasSwim ∈ gtb := gtb_m (List.mem_of_getElem? (i := 872) (by decide +kernel)) rfl
theorem ml_X2_58 : Cond.methodLink RX2 58 yX2_makeTimes ∈ gtb := gtb_m (List.mem_of_getElem? (i := 874) (by decide +kernel)) rfl
theorem ml_X2_70 : Cond.methodLink RX2 70 yX3_lengthsOf ∈ gtb := gtb_m (List.mem_of_getElem? (i := 878) (by decide +kernel)) rfl
theorem ml_X2_76 : Cond.methodLink RX2 76 yX2_lot ∈ gtb := gtb_m (List.mem_of_getElem? (i := 879) (by decide +kernel)) rfl
theorem ml_X2_79 : Cond.methodLink RX2 79 yJ9_min_7cf53 ∈ gtb := gtb_m (List.mem_of_getElem? (i := 884) (by decide +kernel)) rfl
theorem ml_X2_85 : Cond.methodLink RX2 85 yJ9_max_7cf53 ∈ gtb := gtb_m (List.mem_of_getElem? (i := 885) (by decide +kernel)) rfl
theorem ml_X2_88 : Cond.methodLink RX2 88 yX3_setTime ∈ gtb := gtb_m (List.mem_of_getElem? (i := 886) (by decide +kernel)) rfl
theorem ml_L_124 : Cond.methodLink RL 124 yX10_sheet ∈ gtb := gtb_m (List.mem_of_getElem? (i := 887) (by decide +kernel)) rfl
theorem ml_X10_318 : Cond.methodLink RX10 318 yX10_isType ∈ gtb := gtb_m (List.mem_of_getElem? (i := 891) (by decide +kernel)) rfl
theorem ml_X10_321 : Cond.methodLink RX10 321 yX5_renew ∈ gtb := gtb_m (List.mem_of_getElem? (i := 894) (by decide +kernel)) rfl
theorem ml_L_128 : Cond.methodLink RL 128 yX10_lose ∈ gtb := gtb_m (List.mem_of_getElem? (i := 898) (by decide +kernel)) rfl
theorem ml_L_132 : Cond.methodLink RL 132 yX10_put ∈ gtb := gtb_m (List.mem_of_getElem? (i := 902) (by decide +kernel)) rfl
theorem ml_X10_325 : Cond.methodLink RX10 325 yX5_findingAt ∈ gtb := gtb_m (List.mem_of_getElem? (i := 906) (by decide +kernel)) rfl
theorem ml_X10_328 : Cond.methodLink RX10 328 yX5_setItem ∈ gtb := gtb_m (List.mem_of_getElem? (i := 910) (by decide +kernel)) rfl
theorem ml_L_137 : Cond.methodLink RL 137 yX10_get ∈ gtb := gtb_m (List.mem_of_getElem? (i := 914) (by decide +kernel)) rfl
theorem ml_L_141 : Cond.methodLink RL 141 yX10_copy ∈ gtb := gtb_m (List.mem_of_getElem? (i := 919) (by decide +kernel)) rfl
theorem ml_X10_335 : Cond.methodLink RX10 335 yX5_hasItems ∈ gtb := gtb_m (List.mem_of_getElem? (i := 923) (by decide +kernel)) rfl
theorem ml_X10_338 : Cond.methodLink RX10 338 arraycopyName ∈ gtb := gtb_m (List.mem_of_getElem? (i := 927) (by decide +kernel)) rfl
theorem ml_L_145 : Cond.methodLink RL 145 yX10_write ∈ gtb := gtb_m (List.mem_of_getElem? (i := 930) (by decide +kernel)) rfl
theorem ml_L_149 : Cond.methodLink RL 149 yX10_count ∈ gtb := gtb_m (List.mem_of_getElem? (i := 934) (by decide +kernel)) rfl
theorem ml_X10_344 : Cond.methodLink RX10 344 yX3_singlesInAll ∈ gtb := gtb_m (List.mem_of_getElem? (i := 938) (by decide +kernel)) rfl
theorem ml_X3_58 : Cond.methodLink RX3 58 yX3_isSingle ∈ gtb := gtb_m (List.mem_of_getElem? (i := 942) (by decide +kernel)) rfl
theorem ml_X10_347 : Cond.methodLink RX10 347 yX3_diffsInAll ∈ gtb := gtb_m (List.mem_of_getElem? (i := 943) (by decide +kernel)) rfl
theorem ml_X3_51 : Cond.methodLink RX3 51 yX3_hasDiff ∈ gtb := gtb_m (List.mem_of_getElem? (i := 947) (by decide +kernel)) rfl
theorem ml_X10_351 : Cond.methodLink RX10 351 yX3_togetherInAll ∈ gtb := gtb_m (List.mem_of_getElem? (i := 948) (by decide +kernel)) rfl
theorem ml_X3_44 : Cond.methodLink RX3 44 yX3_togetherIn ∈ gtb := gtb_m (List.mem_of_getElem? (i := 952) (by decide +kernel)) rfl
theorem ml_L_153 : Cond.methodLink RL 153 yX10_digest ∈ gtb := gtb_m (List.mem_of_getElem? (i := 953) (by decide +kernel)) rfl
theorem ml_X10_356 : Cond.methodLink RX10 356 yX10_count ∈ gtb := gtb_m (List.mem_of_getElem? (i := 958) (by decide +kernel)) rfl
theorem ml_X10_359 : Cond.methodLink RX10 359 yX10_mix ∈ gtb := gtb_m (List.mem_of_getElem? (i := 959) (by decide +kernel)) rfl
theorem ml_X10_363 : Cond.methodLink RX10 363 yX10_mixLanes ∈ gtb := gtb_m (List.mem_of_getElem? (i := 963) (by decide +kernel)) rfl
theorem ml_X10_367 : Cond.methodLink RX10 367 yX10_mixDays ∈ gtb := gtb_m (List.mem_of_getElem? (i := 967) (by decide +kernel)) rfl
theorem ml_X10_370 : Cond.methodLink RX10 370 yX10_mixOrder ∈ gtb := gtb_m (List.mem_of_getElem? (i := 971) (by decide +kernel)) rfl
theorem ml_X10_373 : Cond.methodLink RX10 373 yX10_mixRaces ∈ gtb := gtb_m (List.mem_of_getElem? (i := 975) (by decide +kernel)) rfl
theorem ml_X10_376 : Cond.methodLink RX10 376 yX10_mixSwims ∈ gtb := gtb_m (List.mem_of_getElem? (i := 979) (by decide +kernel)) rfl
theorem ml_L_17 : Cond.methodLink RL 17 yX11_race ∈ gtb := gtb_m (List.mem_of_getElem? (i := 1092) (by decide +kernel)) rfl
theorem ml_X11_94 : Cond.methodLink RX11 94 yX11_in ∈ gtb := gtb_m (List.mem_of_getElem? (i := 1096) (by decide +kernel)) rfl
theorem ml_X11_101 : Cond.methodLink RX11 101 yX11_raceMore ∈ gtb := gtb_m (List.mem_of_getElem? (i := 1099) (by decide +kernel)) rfl
theorem ml_L_22 : Cond.methodLink RL 22 yX11_swim ∈ gtb := gtb_m (List.mem_of_getElem? (i := 1103) (by decide +kernel)) rfl
theorem ml_X11_105 : Cond.methodLink RX11 105 yX11_isRace ∈ gtb := gtb_m (List.mem_of_getElem? (i := 1107) (by decide +kernel)) rfl
theorem ml_X11_109 : Cond.methodLink RX11 109 yX11_isSwimmer ∈ gtb := gtb_m (List.mem_of_getElem? (i := 1111) (by decide +kernel)) rfl
theorem ml_X11_112 : Cond.methodLink RX11 112 yX11_isLane ∈ gtb := gtb_m (List.mem_of_getElem? (i := 1114) (by decide +kernel)) rfl
theorem ml_X11_115 : Cond.methodLink RX11 115 yX11_swimMore ∈ gtb := gtb_m (List.mem_of_getElem? (i := 1117) (by decide +kernel)) rfl
theorem ml_L_26 : Cond.methodLink RL 26 yX11_time ∈ gtb := gtb_m (List.mem_of_getElem? (i := 1121) (by decide +kernel)) rfl
theorem ml_X11_119 : Cond.methodLink RX11 119 yX11_isSwim ∈ gtb := gtb_m (List.mem_of_getElem? (i := 1125) (by decide +kernel)) rfl
theorem ml_X11_122 : Cond.methodLink RX11 122 yX11_isTime ∈ gtb := gtb_m (List.mem_of_getElem? (i := 1129) (by decide +kernel)) rfl
theorem ml_L_30 : Cond.methodLink RL 30 yX11_read ∈ gtb := gtb_m (List.mem_of_getElem? (i := 1132) (by decide +kernel)) rfl
theorem ml_X11_125 : Cond.methodLink RX11 125 yX11_isSheet ∈ gtb := gtb_m (List.mem_of_getElem? (i := 1136) (by decide +kernel)) rfl
theorem ml_X11_128 : Cond.methodLink RX11 128 yX11_meets ∈ gtb := gtb_m (List.mem_of_getElem? (i := 1139) (by decide +kernel)) rfl
theorem ml_L_34 : Cond.methodLink RL 34 yX11_seeds ∈ gtb := gtb_m (List.mem_of_getElem? (i := 1143) (by decide +kernel)) rfl
theorem ml_L_38 : Cond.methodLink RL 38 yX11_about ∈ gtb := gtb_m (List.mem_of_getElem? (i := 1147) (by decide +kernel)) rfl
theorem ml_X11_132 : Cond.methodLink RX11 132 yX11_feltOf ∈ gtb := gtb_m (List.mem_of_getElem? (i := 1151) (by decide +kernel)) rfl
theorem ml_X11_135 : Cond.methodLink RX11 135 yX11_totalOf ∈ gtb := gtb_m (List.mem_of_getElem? (i := 1155) (by decide +kernel)) rfl
theorem ml_L_43 : Cond.methodLink RL 43 yX11_diff ∈ gtb := gtb_m (List.mem_of_getElem? (i := 1159) (by decide +kernel)) rfl
theorem ml_X11_144 : Cond.methodLink RX11 144 yX11_no ∈ gtb := gtb_m (List.mem_of_getElem? (i := 1163) (by decide +kernel)) rfl
theorem ml_X11_148 : Cond.methodLink RX11 148 yX11_hasDiff ∈ gtb := gtb_m (List.mem_of_getElem? (i := 1167) (by decide +kernel)) rfl
theorem ml_X11_138 : Cond.methodLink RX11 138 yX11_feltOn ∈ gtb := gtb_m (List.mem_of_getElem? (i := 1171) (by decide +kernel)) rfl
theorem ml_X11_151 : Cond.methodLink RX11 151 yX11_twiceDiff ∈ gtb := gtb_m (List.mem_of_getElem? (i := 1175) (by decide +kernel)) rfl
theorem ml_X11_141 : Cond.methodLink RX11 141 yX11_twiceMean ∈ gtb := gtb_m (List.mem_of_getElem? (i := 1179) (by decide +kernel)) rfl
theorem ml_X11_156 : Cond.methodLink RX11 156 yX11_lowest ∈ gtb := gtb_m (List.mem_of_getElem? (i := 1184) (by decide +kernel)) rfl
theorem ml_X11_86 : Cond.methodLink RX11 86 yX11_divisor ∈ gtb := gtb_m (List.mem_of_getElem? (i := 1187) (by decide +kernel)) rfl
theorem ml_L_48 : Cond.methodLink RL 48 yX11_lane ∈ gtb := gtb_m (List.mem_of_getElem? (i := 1190) (by decide +kernel)) rfl
theorem ml_X11_191 : Cond.methodLink RX11 191 yX11_laneNow ∈ gtb := gtb_m (List.mem_of_getElem? (i := 1194) (by decide +kernel)) rfl
theorem ml_X11_185 : Cond.methodLink RX11 185 yX11_laysShape ∈ gtb := gtb_m (List.mem_of_getElem? (i := 1198) (by decide +kernel)) rfl
theorem ml_X11_160 : Cond.methodLink RX11 160 yX11_laysLanes ∈ gtb := gtb_m (List.mem_of_getElem? (i := 1202) (by decide +kernel)) rfl
theorem ml_X11_163 : Cond.methodLink RX11 163 yX11_joins ∈ gtb := gtb_m (List.mem_of_getElem? (i := 1206) (by decide +kernel)) rfl
theorem ml_X11_188 : Cond.methodLink RX11 188 yX11_laysLane ∈ gtb := gtb_m (List.mem_of_getElem? (i := 1210) (by decide +kernel)) rfl
theorem ml_X11_174 : Cond.methodLink RX11 174 yX11_lays ∈ gtb := gtb_m (List.mem_of_getElem? (i := 1214) (by decide +kernel)) rfl
theorem ml_X11_178 : Cond.methodLink RX11 178 yX11_adds ∈ gtb := gtb_m (List.mem_of_getElem? (i := 1218) (by decide +kernel)) rfl
theorem ml_X11_181 : Cond.methodLink RX11 181 yX11_lanesMany ∈ gtb := gtb_m (List.mem_of_getElem? (i := 1222) (by decide +kernel)) rfl
theorem ml_L_53 : Cond.methodLink RL 53 yX11_counts ∈ gtb := gtb_m (List.mem_of_getElem? (i := 1226) (by decide +kernel)) rfl
theorem ml_X11_195 : Cond.methodLink RX11 195 yX11_countsNow ∈ gtb := gtb_m (List.mem_of_getElem? (i := 1230) (by decide +kernel)) rfl
theorem ml_L_57 : Cond.methodLink RL 57 yX11_lean ∈ gtb := gtb_m (List.mem_of_getElem? (i := 1234) (by decide +kernel)) rfl
theorem ml_X11_198 : Cond.methodLink RX11 198 yX11_leanNow ∈ gtb := gtb_m (List.mem_of_getElem? (i := 1238) (by decide +kernel)) rfl
theorem ml_L_62 : Cond.methodLink RL 62 yX11_chance ∈ gtb := gtb_m (List.mem_of_getElem? (i := 1242) (by decide +kernel)) rfl
theorem ml_X11_206 : Cond.methodLink RX11 206 yX11_chanceNow ∈ gtb := gtb_m (List.mem_of_getElem? (i := 1246) (by decide +kernel)) rfl
theorem ml_X11_201 : Cond.methodLink RX11 201 yX11_turns ∈ gtb := gtb_m (List.mem_of_getElem? (i := 1250) (by decide +kernel)) rfl
theorem ml_L_66 : Cond.methodLink RL 66 yX11_ran ∈ gtb := gtb_m (List.mem_of_getElem? (i := 1255) (by decide +kernel)) rfl
theorem ml_X11_209 : Cond.methodLink RX11 209 yX11_ranNow ∈ gtb := gtb_m (List.mem_of_getElem? (i := 1259) (by decide +kernel)) rfl
theorem ml_L_70 : Cond.methodLink RL 70 yX11_own ∈ gtb := gtb_m (List.mem_of_getElem? (i := 1263) (by decide +kernel)) rfl
theorem ml_X11_212 : Cond.methodLink RX11 212 yX11_laysOwn ∈ gtb := gtb_m (List.mem_of_getElem? (i := 1267) (by decide +kernel)) rfl
theorem ml_L_74 : Cond.methodLink RL 74 yX11_fast ∈ gtb := gtb_m (List.mem_of_getElem? (i := 1271) (by decide +kernel)) rfl
theorem ml_L_78 : Cond.methodLink RL 78 yX11_twice ∈ gtb := gtb_m (List.mem_of_getElem? (i := 1275) (by decide +kernel)) rfl
theorem ml_X11_218 : Cond.methodLink RX11 218 yX11_twiceNow ∈ gtb := gtb_m (List.mem_of_getElem? (i := 1279) (by decide +kernel)) rfl
theorem ml_X11_215 : Cond.methodLink RX11 215 yX11_isSingle ∈ gtb := gtb_m (List.mem_of_getElem? (i := 1283) (by decide +kernel)) rfl
theorem ml_L_82 : Cond.methodLink RL 82 yX11_order ∈ gtb := gtb_m (List.mem_of_getElem? (i := 1287) (by decide +kernel)) rfl
theorem ml_X11_231 : Cond.methodLink RX11 231 yX11_orderNow ∈ gtb := gtb_m (List.mem_of_getElem? (i := 1291) (by decide +kernel)) rfl
theorem ml_X11_228 : Cond.methodLink RX11 228 yX11_orders ∈ gtb := gtb_m (List.mem_of_getElem? (i := 1295) (by decide +kernel)) rfl
theorem ml_X11_221 : Cond.methodLink RX11 221 yX11_has ∈ gtb := gtb_m (List.mem_of_getElem? (i := 1299) (by decide +kernel)) rfl
theorem ml_X11_225 : Cond.methodLink RX11 225 yX11_gain ∈ gtb := gtb_m (List.mem_of_getElem? (i := 1302) (by decide +kernel)) rfl
theorem ml_L_86 : Cond.methodLink RL 86 yX11_right ∈ gtb := gtb_m (List.mem_of_getElem? (i := 1306) (by decide +kernel)) rfl
theorem ml_X11_236 : Cond.methodLink RX11 236 yX11_laysRight ∈ gtb := gtb_m (List.mem_of_getElem? (i := 1310) (by decide +kernel)) rfl
theorem ml_L_90 : Cond.methodLink RL 90 yX11_place ∈ gtb := gtb_m (List.mem_of_getElem? (i := 1315) (by decide +kernel)) rfl
theorem ml_X11_243 : Cond.methodLink RX11 243 yX11_placeNow ∈ gtb := gtb_m (List.mem_of_getElem? (i := 1319) (by decide +kernel)) rfl
theorem ml_X11_240 : Cond.methodLink RX11 240 yX11_isRightLess ∈ gtb := gtb_m (List.mem_of_getElem? (i := 1323) (by decide +kernel)) rfl
theorem ml_L_94 : Cond.methodLink RL 94 yX11_medals ∈ gtb := gtb_m (List.mem_of_getElem? (i := 1327) (by decide +kernel)) rfl
theorem ml_X11_246 : Cond.methodLink RX11 246 yX11_medalsNow ∈ gtb := gtb_m (List.mem_of_getElem? (i := 1331) (by decide +kernel)) rfl
theorem ml_L_98 : Cond.methodLink RL 98 yX11_type ∈ gtb := gtb_m (List.mem_of_getElem? (i := 1335) (by decide +kernel)) rfl
theorem ml_X11_249 : Cond.methodLink RX11 249 yX11_isText ∈ gtb := gtb_m (List.mem_of_getElem? (i := 1339) (by decide +kernel)) rfl
theorem ml_L_102 : Cond.methodLink RL 102 yX11_wipe ∈ gtb := gtb_m (List.mem_of_getElem? (i := 1342) (by decide +kernel)) rfl
theorem ml_L_106 : Cond.methodLink RL 106 yX11_fault ∈ gtb := gtb_m (List.mem_of_getElem? (i := 1346) (by decide +kernel)) rfl
theorem ml_X11_279 : Cond.methodLink RX11 279 yX11_ruleFault ∈ gtb := gtb_m (List.mem_of_getElem? (i := 1350) (by decide +kernel)) rfl
theorem ml_X11_282 : Cond.methodLink RX11 282 yX11_worldFault ∈ gtb := gtb_m (List.mem_of_getElem? (i := 1354) (by decide +kernel)) rfl
theorem ml_X11_273 : Cond.methodLink RX11 273 yX11_plain ∈ gtb := gtb_m (List.mem_of_getElem? (i := 1358) (by decide +kernel)) rfl
theorem ml_X11_276 : Cond.methodLink RX11 276 yX11_part ∈ gtb := gtb_m (List.mem_of_getElem? (i := 1362) (by decide +kernel)) rfl
theorem ml_X11_258 : Cond.methodLink RX11 258 yX11_byteNow ∈ gtb := gtb_m (List.mem_of_getElem? (i := 1366) (by decide +kernel)) rfl
theorem ml_X11_261 : Cond.methodLink RX11 261 yX11_expects ∈ gtb := gtb_m (List.mem_of_getElem? (i := 1370) (by decide +kernel)) rfl
theorem ml_X11_264 : Cond.methodLink RX11 264 yX11_number ∈ gtb := gtb_m (List.mem_of_getElem? (i := 1374) (by decide +kernel)) rfl
theorem ml_L_110 : Cond.methodLink RL 110 yX11_given ∈ gtb := gtb_m (List.mem_of_getElem? (i := 1378) (by decide +kernel)) rfl
theorem ml_X11_288 : Cond.methodLink RX11 288 yX11_givenNow ∈ gtb := gtb_m (List.mem_of_getElem? (i := 1382) (by decide +kernel)) rfl
theorem ml_X11_285 : Cond.methodLink RX11 285 yX11_isBetter ∈ gtb := gtb_m (List.mem_of_getElem? (i := 1386) (by decide +kernel)) rfl
theorem ml_L_114 : Cond.methodLink RL 114 yX11_tenths ∈ gtb := gtb_m (List.mem_of_getElem? (i := 1390) (by decide +kernel)) rfl
theorem ml_X11_295 : Cond.methodLink RX11 295 yX11_tenthsNow ∈ gtb := gtb_m (List.mem_of_getElem? (i := 1394) (by decide +kernel)) rfl
theorem ml_L_118 : Cond.methodLink RL 118 yX11_world ∈ gtb := gtb_m (List.mem_of_getElem? (i := 1400) (by decide +kernel)) rfl
theorem ml_X11_298 : Cond.methodLink RX11 298 yX11_worldNow ∈ gtb := gtb_m (List.mem_of_getElem? (i := 1404) (by decide +kernel)) rfl
theorem ml_L_123 : Cond.methodLink RL 123 yX11_made ∈ gtb := gtb_m (List.mem_of_getElem? (i := 1408) (by decide +kernel)) rfl
theorem ml_X11_305 : Cond.methodLink RX11 305 yX11_lot ∈ gtb := gtb_m (List.mem_of_getElem? (i := 1412) (by decide +kernel)) rfl
theorem ml_L_127 : Cond.methodLink RL 127 yX11_sheet ∈ gtb := gtb_m (List.mem_of_getElem? (i := 1417) (by decide +kernel)) rfl
theorem ml_L_131 : Cond.methodLink RL 131 yX11_lose ∈ gtb := gtb_m (List.mem_of_getElem? (i := 1421) (by decide +kernel)) rfl
theorem ml_L_136 : Cond.methodLink RL 136 yX11_put ∈ gtb := gtb_m (List.mem_of_getElem? (i := 1425) (by decide +kernel)) rfl
theorem ml_X11_311 : Cond.methodLink RX11 311 yX11_lacks ∈ gtb := gtb_m (List.mem_of_getElem? (i := 1429) (by decide +kernel)) rfl
theorem ml_X11_314 : Cond.methodLink RX11 314 yX11_keep ∈ gtb := gtb_m (List.mem_of_getElem? (i := 1433) (by decide +kernel)) rfl
theorem ml_L_140 : Cond.methodLink RL 140 yX11_get ∈ gtb := gtb_m (List.mem_of_getElem? (i := 1437) (by decide +kernel)) rfl
theorem ml_L_144 : Cond.methodLink RL 144 yX11_copy ∈ gtb := gtb_m (List.mem_of_getElem? (i := 1442) (by decide +kernel)) rfl
theorem ml_L_148 : Cond.methodLink RL 148 yX11_write ∈ gtb := gtb_m (List.mem_of_getElem? (i := 1446) (by decide +kernel)) rfl
theorem ml_L_152 : Cond.methodLink RL 152 yX11_count ∈ gtb := gtb_m (List.mem_of_getElem? (i := 1450) (by decide +kernel)) rfl
theorem ml_X11_319 : Cond.methodLink RX11 319 yX11_countNow ∈ gtb := gtb_m (List.mem_of_getElem? (i := 1454) (by decide +kernel)) rfl
theorem ml_L_157 : Cond.methodLink RL 157 yX11_digest ∈ gtb := gtb_m (List.mem_of_getElem? (i := 1458) (by decide +kernel)) rfl
theorem ml_X11_326 : Cond.methodLink RX11 326 yX11_count ∈ gtb := gtb_m (List.mem_of_getElem? (i := 1464) (by decide +kernel)) rfl
theorem ml_X4_25 : Cond.methodLinkNest RX4 25 yX10_isLane "LaneFour" ∈ nst := nst_m (List.mem_of_getElem? (i := 762) (by decide +kernel)) rfl
theorem ml_X9_48 : Cond.methodLinkNest RX9 48 yX10_isLane "LaneFour" ∈ nst := nst_m (List.mem_of_getElem? (i := 783) (by decide +kernel)) rfl
theorem ml_X9_68 : Cond.methodLinkNest RX9 68 yX10_within "LaneFour" ∈ nst := nst_m (List.mem_of_getElem? (i := 795) (by decide +kernel)) rfl
theorem ml_X2_55 : Cond.methodLinkNest RX2 55 yX10_isLane "LaneFour" ∈ nst := nst_m (List.mem_of_getElem? (i := 873) (by decide +kernel)) rfl
theorem kc_X2_91 : Cond.constant RX2 91 (1103515245) ∈ gtb := gtb_m (List.mem_of_getElem? (i := 883) (by decide +kernel)) rfl
theorem kc_X10_331 : Cond.constant RX10 331 (-2147483648) ∈ gtb := gtb_m (List.mem_of_getElem? (i := 918) (by decide +kernel)) rfl
theorem kc_X11_301 : Cond.constant RX11 301 (1103515245) ∈ gtb := gtb_m (List.mem_of_getElem? (i := 1416) (by decide +kernel)) rfl
theorem kc_X11_318 : Cond.constant RX11 318 (-2147483648) ∈ gtb := gtb_m (List.mem_of_getElem? (i := 1441) (by decide +kernel)) rfl
theorem kc_X10_408 : Cond.constantLong RX10 408 (-9223372036854775808) ∈ gtb := gtb_m (List.mem_of_getElem? (i := 526) (by decide +kernel)) rfl
theorem kc_X10_195 : Cond.constantLong RX10 195 (2) ∈ gtb := gtb_m (List.mem_of_getElem? (i := 539) (by decide +kernel)) rfl
theorem kc_X8_113 : Cond.constantLong RX8 113 (1000000) ∈ gtb := gtb_m (List.mem_of_getElem? (i := 639) (by decide +kernel)) rfl
theorem kc_X8_127 : Cond.constantLong RX8 127 (2) ∈ gtb := gtb_m (List.mem_of_getElem? (i := 653) (by decide +kernel)) rfl
theorem kc_X6_81 : Cond.constantLong RX6 81 (4) ∈ gtb := gtb_m (List.mem_of_getElem? (i := 703) (by decide +kernel)) rfl
theorem kc_X10_400 : Cond.constantLong RX10 400 (9) ∈ gtb := gtb_m (List.mem_of_getElem? (i := 846) (by decide +kernel)) rfl
theorem kc_X10_406 : Cond.constantLong RX10 406 (10) ∈ gtb := gtb_m (List.mem_of_getElem? (i := 850) (by decide +kernel)) rfl
theorem kc_X10_354 : Cond.constantLong RX10 354 (17) ∈ gtb := gtb_m (List.mem_of_getElem? (i := 957) (by decide +kernel)) rfl
theorem kc_X10_379 : Cond.constantLong RX10 379 (31) ∈ gtb := gtb_m (List.mem_of_getElem? (i := 962) (by decide +kernel)) rfl
theorem kc_X11_84 : Cond.constantLong RX11 84 (-9223372036854775808) ∈ gtb := gtb_m (List.mem_of_getElem? (i := 1166) (by decide +kernel)) rfl
theorem kc_X11_154 : Cond.constantLong RX11 154 (2) ∈ gtb := gtb_m (List.mem_of_getElem? (i := 1183) (by decide +kernel)) rfl
theorem kc_X11_204 : Cond.constantLong RX11 204 (1000000) ∈ gtb := gtb_m (List.mem_of_getElem? (i := 1254) (by decide +kernel)) rfl
theorem kc_X11_234 : Cond.constantLong RX11 234 (4) ∈ gtb := gtb_m (List.mem_of_getElem? (i := 1314) (by decide +kernel)) rfl
theorem kc_X11_291 : Cond.constantLong RX11 291 (9) ∈ gtb := gtb_m (List.mem_of_getElem? (i := 1398) (by decide +kernel)) rfl
theorem kc_X11_293 : Cond.constantLong RX11 293 (10) ∈ gtb := gtb_m (List.mem_of_getElem? (i := 1399) (by decide +kernel)) rfl
theorem kc_X11_322 : Cond.constantLong RX11 322 (17) ∈ gtb := gtb_m (List.mem_of_getElem? (i := 1462) (by decide +kernel)) rfl
theorem kc_X11_324 : Cond.constantLong RX11 324 (31) ∈ gtb := gtb_m (List.mem_of_getElem? (i := 1463) (by decide +kernel)) rfl
abbrev iX0_set : MI := (yX0_set, cX0_set, 7, none)
theorem gm_X0_set : GmV iX0_set 2 := ⟨⟨gtb_m (List.mem_of_getElem? (i := 543) (by decide +kernel)) rfl, in_X0, by decide +kernel⟩, gtb_m (List.mem_of_getElem? (i := 541) (by decide +kernel)) rfl, gtb_m (List.mem_of_getElem? (i := 542) (by decide +kernel)) rfl⟩
abbrev iX0_part : MI := (yX0_part, cX0_part, 2, (some .long))
theorem gm_X0_part : GmV iX0_part 1 := ⟨⟨gtb_m (List.mem_of_getElem? (i := 553) (by decide +kernel)) rfl, in_X0, by decide +kernel⟩, gtb_m (List.mem_of_getElem? (i := 551) (by decide +kernel)) rfl, gtb_m (List.mem_of_getElem? (i := 552) (by decide +kernel)) rfl⟩
abbrev iX0_commonMultiple : MI := (yX0_commonMultiple, cX0_commonMultiple, 6, (some .long))
theorem gm_X0_commonMultiple : GmS iX0_commonMultiple 2 := ⟨⟨gtb_m (List.mem_of_getElem? (i := 574) (by decide +kernel)) rfl, in_X0, by decide +kernel⟩, gtb_m (List.mem_of_getElem? (i := 573) (by decide +kernel)) rfl⟩
abbrev iX0_commonPart : MI := (yX0_commonPart, cX0_commonPart, 11, (some .long))
theorem gm_X0_commonPart : GmS iX0_commonPart 2 := ⟨⟨gtb_m (List.mem_of_getElem? (i := 549) (by decide +kernel)) rfl, in_X0, by decide +kernel⟩, gtb_m (List.mem_of_getElem? (i := 548) (by decide +kernel)) rfl⟩
abbrev iX1_clear : MI := (yX1_clear, cX1_clear, 2, none)
theorem gm_X1_clear : GmV iX1_clear 0 := ⟨⟨gtb_m (List.mem_of_getElem? (i := 565) (by decide +kernel)) rfl, in_X1, by decide +kernel⟩, gtb_m (List.mem_of_getElem? (i := 563) (by decide +kernel)) rfl, gtb_m (List.mem_of_getElem? (i := 564) (by decide +kernel)) rfl⟩
abbrev iX1_settle : MI := (yX1_settle, cX1_settle, 2, none)
theorem gm_X1_settle : GmV iX1_settle 0 := ⟨⟨gtb_m (List.mem_of_getElem? (i := 571) (by decide +kernel)) rfl, in_X1, by decide +kernel⟩, gtb_m (List.mem_of_getElem? (i := 569) (by decide +kernel)) rfl, gtb_m (List.mem_of_getElem? (i := 570) (by decide +kernel)) rfl⟩
abbrev iX1_aboveMean : MI := (yX1_aboveMean, cX1_aboveMean, 2, (some .long))
theorem gm_X1_aboveMean : GmV iX1_aboveMean 1 := ⟨⟨gtb_m (List.mem_of_getElem? (i := 595) (by decide +kernel)) rfl, in_X1, by decide +kernel⟩, gtb_m (List.mem_of_getElem? (i := 593) (by decide +kernel)) rfl, gtb_m (List.mem_of_getElem? (i := 594) (by decide +kernel)) rfl⟩
abbrev iX1_becomeShapeOf : MI := (yX1_becomeShapeOf, cX1_becomeShapeOf, 4, none)
theorem gm_X1_becomeShapeOf : GmV iX1_becomeShapeOf 1 := ⟨⟨gtb_m (List.mem_of_getElem? (i := 578) (by decide +kernel)) rfl, in_X1, by decide +kernel⟩, gtb_m (List.mem_of_getElem? (i := 576) (by decide +kernel)) rfl, gtb_m (List.mem_of_getElem? (i := 577) (by decide +kernel)) rfl⟩
abbrev iX1_joinFirstFall : MI := (yX1_joinFirstFall, cX1_joinFirstFall, 3, (some .boolean))
theorem gm_X1_joinFirstFall : GmV iX1_joinFirstFall 0 := ⟨⟨gtb_m (List.mem_of_getElem? (i := 582) (by decide +kernel)) rfl, in_X1, by decide +kernel⟩, gtb_m (List.mem_of_getElem? (i := 581) (by decide +kernel)) rfl, gtb_m (List.mem_of_getElem? (i := 1) (by decide +kernel)) rfl⟩
abbrev iX1_join : MI := (yX1_join, cX1_join, 9, none)
theorem gm_X1_join : GmV iX1_join 2 := ⟨⟨gtb_m (List.mem_of_getElem? (i := 586) (by decide +kernel)) rfl, in_X1, by decide +kernel⟩, gtb_m (List.mem_of_getElem? (i := 585) (by decide +kernel)) rfl, gtb_m (List.mem_of_getElem? (i := 2) (by decide +kernel)) rfl⟩
abbrev iX2_fill : MI := (yX2_fill, cX2_fill, 9, none)
theorem gm_X2_fill : GmV iX2_fill 4 := ⟨⟨gtb_m (List.mem_of_getElem? (i := 862) (by decide +kernel)) rfl, in_X2, by decide +kernel⟩, gtb_m (List.mem_of_getElem? (i := 860) (by decide +kernel)) rfl, gtb_m (List.mem_of_getElem? (i := 861) (by decide +kernel)) rfl⟩
abbrev iX2_rankAmong : MI := (yX2_rankAmong, cX2_rankAmong, 6, (some .int))
theorem gm_X2_rankAmong : GmV iX2_rankAmong 3 := ⟨⟨gtb_m (List.mem_of_getElem? (i := 868) (by decide +kernel)) rfl, in_X2, by decide +kernel⟩, gtb_m (List.mem_of_getElem? (i := 867) (by decide +kernel)) rfl, gtb_m (List.mem_of_getElem? (i := 22) (by decide +kernel)) rfl⟩
abbrev iX2_makeTimes : MI := (yX2_makeTimes, cX2_makeTimes, 8, none)
theorem gm_X2_makeTimes : GmV iX2_makeTimes 3 := ⟨⟨gtb_m (List.mem_of_getElem? (i := 877) (by decide +kernel)) rfl, in_X2, by decide +kernel⟩, gtb_m (List.mem_of_getElem? (i := 876) (by decide +kernel)) rfl, gtb_m (List.mem_of_getElem? (i := 23) (by decide +kernel)) rfl⟩
abbrev iX2_lot : MI := (yX2_lot, cX2_lot, 2, (some .int))
theorem gm_X2_lot : GmV iX2_lot 1 := ⟨⟨gtb_m (List.mem_of_getElem? (i := 882) (by decide +kernel)) rfl, in_X2, by decide +kernel⟩, gtb_m (List.mem_of_getElem? (i := 881) (by decide +kernel)) rfl, gtb_m (List.mem_of_getElem? (i := 24) (by decide +kernel)) rfl⟩
abbrev iX3_hasRace : MI := (yX3_hasRace, cX3_hasRace, 2, (some .boolean))
theorem gm_X3_hasRace : GmV iX3_hasRace 1 := ⟨⟨gtb_m (List.mem_of_getElem? (i := 447) (by decide +kernel)) rfl, in_X3, by decide +kernel⟩, gtb_m (List.mem_of_getElem? (i := 445) (by decide +kernel)) rfl, gtb_m (List.mem_of_getElem? (i := 446) (by decide +kernel)) rfl⟩
abbrev iX3_hasSwim : MI := (yX3_hasSwim, cX3_hasSwim, 2, (some .boolean))
theorem gm_X3_hasSwim : GmV iX3_hasSwim 1 := ⟨⟨gtb_m (List.mem_of_getElem? (i := 469) (by decide +kernel)) rfl, in_X3, by decide +kernel⟩, gtb_m (List.mem_of_getElem? (i := 467) (by decide +kernel)) rfl, gtb_m (List.mem_of_getElem? (i := 468) (by decide +kernel)) rfl⟩
abbrev iX3_isTaken : MI := (yX3_isTaken, cX3_isTaken, 5, (some .boolean))
theorem gm_X3_isTaken : GmV iX3_isTaken 3 := ⟨⟨gtb_m (List.mem_of_getElem? (i := 457) (by decide +kernel)) rfl, in_X3, by decide +kernel⟩, gtb_m (List.mem_of_getElem? (i := 455) (by decide +kernel)) rfl, gtb_m (List.mem_of_getElem? (i := 456) (by decide +kernel)) rfl⟩
abbrev iX3_addRace : MI := (yX3_addRace, cX3_addRace, 3, (some .int))
theorem gm_X3_addRace : GmV iX3_addRace 2 := ⟨⟨gtb_m (List.mem_of_getElem? (i := 439) (by decide +kernel)) rfl, in_X3, by decide +kernel⟩, gtb_m (List.mem_of_getElem? (i := 437) (by decide +kernel)) rfl, gtb_m (List.mem_of_getElem? (i := 438) (by decide +kernel)) rfl⟩
abbrev iX3_addSwim : MI := (yX3_addSwim, cX3_addSwim, 4, (some .int))
theorem gm_X3_addSwim : GmV iX3_addSwim 3 := ⟨⟨gtb_m (List.mem_of_getElem? (i := 461) (by decide +kernel)) rfl, in_X3, by decide +kernel⟩, gtb_m (List.mem_of_getElem? (i := 459) (by decide +kernel)) rfl, gtb_m (List.mem_of_getElem? (i := 460) (by decide +kernel)) rfl⟩
abbrev iX3_lengthsOf : MI := (yX3_lengthsOf, cX3_lengthsOf, 2, (some .int))
theorem gm_X3_lengthsOf : GmV iX3_lengthsOf 1 := ⟨⟨gtb_m (List.mem_of_getElem? (i := 473) (by decide +kernel)) rfl, in_X3, by decide +kernel⟩, gtb_m (List.mem_of_getElem? (i := 471) (by decide +kernel)) rfl, gtb_m (List.mem_of_getElem? (i := 472) (by decide +kernel)) rfl⟩
abbrev iX3_timeOf : MI := (yX3_timeOf, cX3_timeOf, 3, (some .int))
theorem gm_X3_timeOf : GmV iX3_timeOf 2 := ⟨⟨gtb_m (List.mem_of_getElem? (i := 480) (by decide +kernel)) rfl, in_X3, by decide +kernel⟩, gtb_m (List.mem_of_getElem? (i := 478) (by decide +kernel)) rfl, gtb_m (List.mem_of_getElem? (i := 479) (by decide +kernel)) rfl⟩
abbrev iX3_setTime : MI := (yX3_setTime, cX3_setTime, 4, none)
theorem gm_X3_setTime : GmV iX3_setTime 3 := ⟨⟨gtb_m (List.mem_of_getElem? (i := 484) (by decide +kernel)) rfl, in_X3, by decide +kernel⟩, gtb_m (List.mem_of_getElem? (i := 482) (by decide +kernel)) rfl, gtb_m (List.mem_of_getElem? (i := 483) (by decide +kernel)) rfl⟩
abbrev iX3_feltIn : MI := (yX3_feltIn, cX3_feltIn, 4, (some .int))
theorem gm_X3_feltIn : GmV iX3_feltIn 1 := ⟨⟨gtb_m (List.mem_of_getElem? (i := 510) (by decide +kernel)) rfl, in_X3, by decide +kernel⟩, gtb_m (List.mem_of_getElem? (i := 508) (by decide +kernel)) rfl, gtb_m (List.mem_of_getElem? (i := 509) (by decide +kernel)) rfl⟩
abbrev iX3_togetherIn : MI := (yX3_togetherIn, cX3_togetherIn, 4, (some .int))
theorem gm_X3_togetherIn : GmV iX3_togetherIn 1 := ⟨⟨gtb_m (List.mem_of_getElem? (i := 515) (by decide +kernel)) rfl, in_X3, by decide +kernel⟩, gtb_m (List.mem_of_getElem? (i := 513) (by decide +kernel)) rfl, gtb_m (List.mem_of_getElem? (i := 514) (by decide +kernel)) rfl⟩
abbrev iX3_togetherInAll : MI := (yX3_togetherInAll, cX3_togetherInAll, 3, (some .int))
theorem gm_X3_togetherInAll : GmV iX3_togetherInAll 0 := ⟨⟨gtb_m (List.mem_of_getElem? (i := 951) (by decide +kernel)) rfl, in_X3, by decide +kernel⟩, gtb_m (List.mem_of_getElem? (i := 949) (by decide +kernel)) rfl, gtb_m (List.mem_of_getElem? (i := 950) (by decide +kernel)) rfl⟩
abbrev iX3_doubledMean : MI := (yX3_doubledMean, cX3_doubledMean, 5, (some .int))
theorem gm_X3_doubledMean : GmV iX3_doubledMean 2 := ⟨⟨gtb_m (List.mem_of_getElem? (i := 534) (by decide +kernel)) rfl, in_X3, by decide +kernel⟩, gtb_m (List.mem_of_getElem? (i := 532) (by decide +kernel)) rfl, gtb_m (List.mem_of_getElem? (i := 533) (by decide +kernel)) rfl⟩
abbrev iX3_hasDiff : MI := (yX3_hasDiff, cX3_hasDiff, 2, (some .boolean))
theorem gm_X3_hasDiff : GmV iX3_hasDiff 1 := ⟨⟨gtb_m (List.mem_of_getElem? (i := 530) (by decide +kernel)) rfl, in_X3, by decide +kernel⟩, gtb_m (List.mem_of_getElem? (i := 528) (by decide +kernel)) rfl, gtb_m (List.mem_of_getElem? (i := 529) (by decide +kernel)) rfl⟩
abbrev iX3_doubledDiff : MI := (yX3_doubledDiff, cX3_doubledDiff, 2, (some .int))
theorem gm_X3_doubledDiff : GmV iX3_doubledDiff 1 := ⟨⟨gtb_m (List.mem_of_getElem? (i := 538) (by decide +kernel)) rfl, in_X3, by decide +kernel⟩, gtb_m (List.mem_of_getElem? (i := 536) (by decide +kernel)) rfl, gtb_m (List.mem_of_getElem? (i := 537) (by decide +kernel)) rfl⟩
abbrev iX3_diffsInAll : MI := (yX3_diffsInAll, cX3_diffsInAll, 3, (some .int))
theorem gm_X3_diffsInAll : GmV iX3_diffsInAll 0 := ⟨⟨gtb_m (List.mem_of_getElem? (i := 946) (by decide +kernel)) rfl, in_X3, by decide +kernel⟩, gtb_m (List.mem_of_getElem? (i := 944) (by decide +kernel)) rfl, gtb_m (List.mem_of_getElem? (i := 945) (by decide +kernel)) rfl⟩
abbrev iX3_isSingle : MI := (yX3_isSingle, cX3_isSingle, 2, (some .boolean))
theorem gm_X3_isSingle : GmV iX3_isSingle 1 := ⟨⟨gtb_m (List.mem_of_getElem? (i := 670) (by decide +kernel)) rfl, in_X3, by decide +kernel⟩, gtb_m (List.mem_of_getElem? (i := 668) (by decide +kernel)) rfl, gtb_m (List.mem_of_getElem? (i := 669) (by decide +kernel)) rfl⟩
abbrev iX3_singlesInAll : MI := (yX3_singlesInAll, cX3_singlesInAll, 3, (some .int))
theorem gm_X3_singlesInAll : GmV iX3_singlesInAll 0 := ⟨⟨gtb_m (List.mem_of_getElem? (i := 941) (by decide +kernel)) rfl, in_X3, by decide +kernel⟩, gtb_m (List.mem_of_getElem? (i := 939) (by decide +kernel)) rfl, gtb_m (List.mem_of_getElem? (i := 940) (by decide +kernel)) rfl⟩
abbrev iX3_feltInRace : MI := (yX3_feltInRace, cX3_feltInRace, 4, (some .int))
theorem gm_X3_feltInRace : GmV iX3_feltInRace 1 := ⟨⟨gtb_m (List.mem_of_getElem? (i := 833) (by decide +kernel)) rfl, in_X3, by decide +kernel⟩, gtb_m (List.mem_of_getElem? (i := 831) (by decide +kernel)) rfl, gtb_m (List.mem_of_getElem? (i := 832) (by decide +kernel)) rfl⟩
abbrev iX3_tenthsInRace : MI := (yX3_tenthsInRace, cX3_tenthsInRace, 4, (some .int))
theorem gm_X3_tenthsInRace : GmV iX3_tenthsInRace 1 := ⟨⟨gtb_m (List.mem_of_getElem? (i := 838) (by decide +kernel)) rfl, in_X3, by decide +kernel⟩, gtb_m (List.mem_of_getElem? (i := 836) (by decide +kernel)) rfl, gtb_m (List.mem_of_getElem? (i := 837) (by decide +kernel)) rfl⟩
abbrev iX3_tenthsIn : MI := (yX3_tenthsIn, cX3_tenthsIn, 4, (some .int))
theorem gm_X3_tenthsIn : GmV iX3_tenthsIn 1 := ⟨⟨gtb_m (List.mem_of_getElem? (i := 842) (by decide +kernel)) rfl, in_X3, by decide +kernel⟩, gtb_m (List.mem_of_getElem? (i := 841) (by decide +kernel)) rfl, gtb_m (List.mem_of_getElem? (i := 21) (by decide +kernel)) rfl⟩
abbrev iX3_isBetter : MI := (yX3_isBetter, cX3_isBetter, 3, (some .boolean))
theorem gm_X3_isBetter : GmV iX3_isBetter 2 := ⟨⟨gtb_m (List.mem_of_getElem? (i := 821) (by decide +kernel)) rfl, in_X3, by decide +kernel⟩, gtb_m (List.mem_of_getElem? (i := 819) (by decide +kernel)) rfl, gtb_m (List.mem_of_getElem? (i := 820) (by decide +kernel)) rfl⟩
abbrev iX4_faultAt : MI := (yX4_faultAt, cX4_faultAt, 4, (some .int))
theorem gm_X4_faultAt : GmV iX4_faultAt 0 := ⟨⟨gtb_m (List.mem_of_getElem? (i := 761) (by decide +kernel)) rfl, in_X4, by decide +kernel⟩, gtb_m (List.mem_of_getElem? (i := 759) (by decide +kernel)) rfl, gtb_m (List.mem_of_getElem? (i := 760) (by decide +kernel)) rfl⟩
abbrev iX4_laneFor : MI := (yX4_laneFor, cX4_laneFor, 2, (some .int))
theorem gm_X4_laneFor : GmV iX4_laneFor 1 := ⟨⟨gtb_m (List.mem_of_getElem? (i := 825) (by decide +kernel)) rfl, in_X4, by decide +kernel⟩, gtb_m (List.mem_of_getElem? (i := 823) (by decide +kernel)) rfl, gtb_m (List.mem_of_getElem? (i := 824) (by decide +kernel)) rfl⟩
abbrev iX4_isKeptBy : MI := (yX4_isKeptBy, cX4_isKeptBy, 4, (some .boolean))
theorem gm_X4_isKeptBy : GmV iX4_isKeptBy 2 := ⟨⟨gtb_m (List.mem_of_getElem? (i := 814) (by decide +kernel)) rfl, in_X4, by decide +kernel⟩, gtb_m (List.mem_of_getElem? (i := 812) (by decide +kernel)) rfl, gtb_m (List.mem_of_getElem? (i := 813) (by decide +kernel)) rfl⟩
abbrev iX4_rankOf : MI := (yX4_rankOf, cX4_rankOf, 4, (some .int))
theorem gm_X4_rankOf : GmS iX4_rankOf 2 := ⟨⟨gtb_m (List.mem_of_getElem? (i := 817) (by decide +kernel)) rfl, in_X4, by decide +kernel⟩, gtb_m (List.mem_of_getElem? (i := 816) (by decide +kernel)) rfl⟩
abbrev iX5_renew : MI := (yX5_renew, cX5_renew, 4, none)
theorem gm_X5_renew : GmV iX5_renew 2 := ⟨⟨gtb_m (List.mem_of_getElem? (i := 897) (by decide +kernel)) rfl, in_X5, by decide +kernel⟩, gtb_m (List.mem_of_getElem? (i := 895) (by decide +kernel)) rfl, gtb_m (List.mem_of_getElem? (i := 896) (by decide +kernel)) rfl⟩
abbrev iX5_hasItems : MI := (yX5_hasItems, cX5_hasItems, 3, (some .boolean))
theorem gm_X5_hasItems : GmV iX5_hasItems 2 := ⟨⟨gtb_m (List.mem_of_getElem? (i := 926) (by decide +kernel)) rfl, in_X5, by decide +kernel⟩, gtb_m (List.mem_of_getElem? (i := 924) (by decide +kernel)) rfl, gtb_m (List.mem_of_getElem? (i := 925) (by decide +kernel)) rfl⟩
abbrev iX5_findingAt : MI := (yX5_findingAt, cX5_findingAt, 3, (some .int))
theorem gm_X5_findingAt : GmV iX5_findingAt 2 := ⟨⟨gtb_m (List.mem_of_getElem? (i := 909) (by decide +kernel)) rfl, in_X5, by decide +kernel⟩, gtb_m (List.mem_of_getElem? (i := 907) (by decide +kernel)) rfl, gtb_m (List.mem_of_getElem? (i := 908) (by decide +kernel)) rfl⟩
abbrev iX5_setItem : MI := (yX5_setItem, cX5_setItem, 3, none)
theorem gm_X5_setItem : GmV iX5_setItem 2 := ⟨⟨gtb_m (List.mem_of_getElem? (i := 913) (by decide +kernel)) rfl, in_X5, by decide +kernel⟩, gtb_m (List.mem_of_getElem? (i := 911) (by decide +kernel)) rfl, gtb_m (List.mem_of_getElem? (i := 912) (by decide +kernel)) rfl⟩
abbrev iX6_survey : MI := (yX6_survey, cX6_survey, 2, none)
theorem gm_X6_survey : GmV iX6_survey 0 := ⟨⟨gtb_m (List.mem_of_getElem? (i := 666) (by decide +kernel)) rfl, in_X6, by decide +kernel⟩, gtb_m (List.mem_of_getElem? (i := 664) (by decide +kernel)) rfl, gtb_m (List.mem_of_getElem? (i := 665) (by decide +kernel)) rfl⟩
abbrev iX6_addPairsOf : MI := (yX6_addPairsOf, cX6_addPairsOf, 3, none)
theorem gm_X6_addPairsOf : GmV iX6_addPairsOf 1 := ⟨⟨gtb_m (List.mem_of_getElem? (i := 675) (by decide +kernel)) rfl, in_X6, by decide +kernel⟩, gtb_m (List.mem_of_getElem? (i := 674) (by decide +kernel)) rfl, gtb_m (List.mem_of_getElem? (i := 8) (by decide +kernel)) rfl⟩
abbrev iX6_arrange : MI := (yX6_arrange, cX6_arrange, 4, none)
theorem gm_X6_arrange : GmV iX6_arrange 0 := ⟨⟨gtb_m (List.mem_of_getElem? (i := 684) (by decide +kernel)) rfl, in_X6, by decide +kernel⟩, gtb_m (List.mem_of_getElem? (i := 682) (by decide +kernel)) rfl, gtb_m (List.mem_of_getElem? (i := 683) (by decide +kernel)) rfl⟩
abbrev iX6_leastFirst : MI := (yX6_leastFirst, cX6_leastFirst, 3, (some .int))
theorem gm_X6_leastFirst : GmV iX6_leastFirst 1 := ⟨⟨gtb_m (List.mem_of_getElem? (i := 693) (by decide +kernel)) rfl, in_X6, by decide +kernel⟩, gtb_m (List.mem_of_getElem? (i := 692) (by decide +kernel)) rfl, gtb_m (List.mem_of_getElem? (i := 10) (by decide +kernel)) rfl⟩
abbrev iX6_pairsIfFirst : MI := (yX6_pairsIfFirst, cX6_pairsIfFirst, 6, (some .int))
theorem gm_X6_pairsIfFirst : GmV iX6_pairsIfFirst 2 := ⟨⟨gtb_m (List.mem_of_getElem? (i := 688) (by decide +kernel)) rfl, in_X6, by decide +kernel⟩, gtb_m (List.mem_of_getElem? (i := 687) (by decide +kernel)) rfl, gtb_m (List.mem_of_getElem? (i := 9) (by decide +kernel)) rfl⟩
abbrev iX6_putRight : MI := (yX6_putRight, cX6_putRight, 5, none)
theorem gm_X6_putRight : GmV iX6_putRight 0 := ⟨⟨gtb_m (List.mem_of_getElem? (i := 702) (by decide +kernel)) rfl, in_X6, by decide +kernel⟩, gtb_m (List.mem_of_getElem? (i := 700) (by decide +kernel)) rfl, gtb_m (List.mem_of_getElem? (i := 701) (by decide +kernel)) rfl⟩
abbrev iX6_slowness : MI := (yX6_slowness, cX6_slowness, 3, (some .long))
theorem gm_X6_slowness : GmV iX6_slowness 2 := ⟨⟨gtb_m (List.mem_of_getElem? (i := 716) (by decide +kernel)) rfl, in_X6, by decide +kernel⟩, gtb_m (List.mem_of_getElem? (i := 715) (by decide +kernel)) rfl, gtb_m (List.mem_of_getElem? (i := 11) (by decide +kernel)) rfl⟩
abbrev iX6_placeOf : MI := (yX6_placeOf, cX6_placeOf, 7, (some .int))
theorem gm_X6_placeOf : GmV iX6_placeOf 2 := ⟨⟨gtb_m (List.mem_of_getElem? (i := 712) (by decide +kernel)) rfl, in_X6, by decide +kernel⟩, gtb_m (List.mem_of_getElem? (i := 710) (by decide +kernel)) rfl, gtb_m (List.mem_of_getElem? (i := 711) (by decide +kernel)) rfl⟩
abbrev iX6_changedMedals : MI := (yX6_changedMedals, cX6_changedMedals, 4, (some .int))
theorem gm_X6_changedMedals : GmV iX6_changedMedals 1 := ⟨⟨gtb_m (List.mem_of_getElem? (i := 724) (by decide +kernel)) rfl, in_X6, by decide +kernel⟩, gtb_m (List.mem_of_getElem? (i := 722) (by decide +kernel)) rfl, gtb_m (List.mem_of_getElem? (i := 723) (by decide +kernel)) rfl⟩
abbrev iX6_hasMedal : MI := (yX6_hasMedal, cX6_hasMedal, 3, (some .boolean))
theorem gm_X6_hasMedal : GmV iX6_hasMedal 2 := ⟨⟨gtb_m (List.mem_of_getElem? (i := 728) (by decide +kernel)) rfl, in_X6, by decide +kernel⟩, gtb_m (List.mem_of_getElem? (i := 727) (by decide +kernel)) rfl, gtb_m (List.mem_of_getElem? (i := 12) (by decide +kernel)) rfl⟩
abbrev iX7_isFull : MI := (yX7_isFull, cX7_isFull, 1, (some .boolean))
theorem gm_X7_isFull : GmV iX7_isFull 0 := ⟨⟨gtb_m (List.mem_of_getElem? (i := 740) (by decide +kernel)) rfl, in_X7, by decide +kernel⟩, gtb_m (List.mem_of_getElem? (i := 738) (by decide +kernel)) rfl, gtb_m (List.mem_of_getElem? (i := 739) (by decide +kernel)) rfl⟩
abbrev iX7_append : MI := (yX7_append, cX7_append, 2, (some .int))
theorem gm_X7_append : GmV iX7_append 1 := ⟨⟨gtb_m (List.mem_of_getElem? (i := 744) (by decide +kernel)) rfl, in_X7, by decide +kernel⟩, gtb_m (List.mem_of_getElem? (i := 742) (by decide +kernel)) rfl, gtb_m (List.mem_of_getElem? (i := 743) (by decide +kernel)) rfl⟩
abbrev iX7_clear : MI := (yX7_clear, cX7_clear, 2, (some .int))
theorem gm_X7_clear : GmV iX7_clear 0 := ⟨⟨gtb_m (List.mem_of_getElem? (i := 753) (by decide +kernel)) rfl, in_X7, by decide +kernel⟩, gtb_m (List.mem_of_getElem? (i := 751) (by decide +kernel)) rfl, gtb_m (List.mem_of_getElem? (i := 752) (by decide +kernel)) rfl⟩
abbrev iX8_survey : MI := (yX8_survey, cX8_survey, 2, none)
theorem gm_X8_survey : GmV iX8_survey 0 := ⟨⟨gtb_m (List.mem_of_getElem? (i := 561) (by decide +kernel)) rfl, in_X8, by decide +kernel⟩, gtb_m (List.mem_of_getElem? (i := 559) (by decide +kernel)) rfl, gtb_m (List.mem_of_getElem? (i := 560) (by decide +kernel)) rfl⟩
abbrev iX8_surveyDays : MI := (yX8_surveyDays, cX8_surveyDays, 3, none)
theorem gm_X8_surveyDays : GmV iX8_surveyDays 0 := ⟨⟨gtb_m (List.mem_of_getElem? (i := 607) (by decide +kernel)) rfl, in_X8, by decide +kernel⟩, gtb_m (List.mem_of_getElem? (i := 605) (by decide +kernel)) rfl, gtb_m (List.mem_of_getElem? (i := 606) (by decide +kernel)) rfl⟩
abbrev iX8_leanOfPair : MI := (yX8_leanOfPair, cX8_leanOfPair, 4, (some .int))
theorem gm_X8_leanOfPair : GmV iX8_leanOfPair 2 := ⟨⟨gtb_m (List.mem_of_getElem? (i := 611) (by decide +kernel)) rfl, in_X8, by decide +kernel⟩, gtb_m (List.mem_of_getElem? (i := 610) (by decide +kernel)) rfl, gtb_m (List.mem_of_getElem? (i := 4) (by decide +kernel)) rfl⟩
abbrev iX8_leanOf : MI := (yX8_leanOf, cX8_leanOf, 5, (some .int))
theorem gm_X8_leanOf : GmV iX8_leanOf 2 := ⟨⟨gtb_m (List.mem_of_getElem? (i := 622) (by decide +kernel)) rfl, in_X8, by decide +kernel⟩, gtb_m (List.mem_of_getElem? (i := 620) (by decide +kernel)) rfl, gtb_m (List.mem_of_getElem? (i := 621) (by decide +kernel)) rfl⟩
abbrev iX8_findRan : MI := (yX8_findRan, cX8_findRan, 5, none)
theorem gm_X8_findRan : GmV iX8_findRan 0 := ⟨⟨gtb_m (List.mem_of_getElem? (i := 618) (by decide +kernel)) rfl, in_X8, by decide +kernel⟩, gtb_m (List.mem_of_getElem? (i := 617) (by decide +kernel)) rfl, gtb_m (List.mem_of_getElem? (i := 5) (by decide +kernel)) rfl⟩
abbrev iX8_chanceOfShape : MI := (yX8_chanceOfShape, cX8_chanceOfShape, 3, (some .int))
theorem gm_X8_chanceOfShape : GmV iX8_chanceOfShape 0 := ⟨⟨gtb_m (List.mem_of_getElem? (i := 630) (by decide +kernel)) rfl, in_X8, by decide +kernel⟩, gtb_m (List.mem_of_getElem? (i := 628) (by decide +kernel)) rfl, gtb_m (List.mem_of_getElem? (i := 629) (by decide +kernel)) rfl⟩
abbrev iX8_shareOfOrders : MI := (yX8_shareOfOrders, cX8_shareOfOrders, 8, (some .int))
theorem gm_X8_shareOfOrders : GmV iX8_shareOfOrders 1 := ⟨⟨gtb_m (List.mem_of_getElem? (i := 634) (by decide +kernel)) rfl, in_X8, by decide +kernel⟩, gtb_m (List.mem_of_getElem? (i := 633) (by decide +kernel)) rfl, gtb_m (List.mem_of_getElem? (i := 6) (by decide +kernel)) rfl⟩
abbrev iX8_swap : MI := (yX8_swap, cX8_swap, 5, (some .long))
theorem gm_X8_swap : GmV iX8_swap 2 := ⟨⟨gtb_m (List.mem_of_getElem? (i := 638) (by decide +kernel)) rfl, in_X8, by decide +kernel⟩, gtb_m (List.mem_of_getElem? (i := 637) (by decide +kernel)) rfl, gtb_m (List.mem_of_getElem? (i := 7) (by decide +kernel)) rfl⟩
abbrev iX8_findOwn : MI := (yX8_findOwn, cX8_findOwn, 7, (some .boolean))
theorem gm_X8_findOwn : GmV iX8_findOwn 2 := ⟨⟨gtb_m (List.mem_of_getElem? (i := 652) (by decide +kernel)) rfl, in_X8, by decide +kernel⟩, gtb_m (List.mem_of_getElem? (i := 650) (by decide +kernel)) rfl, gtb_m (List.mem_of_getElem? (i := 651) (by decide +kernel)) rfl⟩
abbrev iX9_parse : MI := (yX9_parse, cX9_parse, 3, (some .int))
theorem gm_X9_parse : GmV iX9_parse 0 := ⟨⟨gtb_m (List.mem_of_getElem? (i := 766) (by decide +kernel)) rfl, in_X9, by decide +kernel⟩, gtb_m (List.mem_of_getElem? (i := 764) (by decide +kernel)) rfl, gtb_m (List.mem_of_getElem? (i := 765) (by decide +kernel)) rfl⟩
abbrev iX9_clearValues : MI := (yX9_clearValues, cX9_clearValues, 2, none)
theorem gm_X9_clearValues : GmV iX9_clearValues 0 := ⟨⟨gtb_m (List.mem_of_getElem? (i := 770) (by decide +kernel)) rfl, in_X9, by decide +kernel⟩, gtb_m (List.mem_of_getElem? (i := 769) (by decide +kernel)) rfl, gtb_m (List.mem_of_getElem? (i := 13) (by decide +kernel)) rfl⟩
abbrev iX9_next : MI := (yX9_next, cX9_next, 3, (some .int))
theorem gm_X9_next : GmV iX9_next 2 := ⟨⟨gtb_m (List.mem_of_getElem? (i := 774) (by decide +kernel)) rfl, in_X9, by decide +kernel⟩, gtb_m (List.mem_of_getElem? (i := 773) (by decide +kernel)) rfl, gtb_m (List.mem_of_getElem? (i := 14) (by decide +kernel)) rfl⟩
abbrev iX9_open : MI := (yX9_open, cX9_open, 2, (some .int))
theorem gm_X9_open : GmV iX9_open 1 := ⟨⟨gtb_m (List.mem_of_getElem? (i := 778) (by decide +kernel)) rfl, in_X9, by decide +kernel⟩, gtb_m (List.mem_of_getElem? (i := 777) (by decide +kernel)) rfl, gtb_m (List.mem_of_getElem? (i := 15) (by decide +kernel)) rfl⟩
abbrev iX9_choose : MI := (yX9_choose, cX9_choose, 2, (some .int))
theorem gm_X9_choose : GmV iX9_choose 1 := ⟨⟨gtb_m (List.mem_of_getElem? (i := 782) (by decide +kernel)) rfl, in_X9, by decide +kernel⟩, gtb_m (List.mem_of_getElem? (i := 781) (by decide +kernel)) rfl, gtb_m (List.mem_of_getElem? (i := 16) (by decide +kernel)) rfl⟩
abbrev iX9_turn : MI := (yX9_turn, cX9_turn, 1, (some .int))
theorem gm_X9_turn : GmV iX9_turn 0 := ⟨⟨gtb_m (List.mem_of_getElem? (i := 787) (by decide +kernel)) rfl, in_X9, by decide +kernel⟩, gtb_m (List.mem_of_getElem? (i := 786) (by decide +kernel)) rfl, gtb_m (List.mem_of_getElem? (i := 17) (by decide +kernel)) rfl⟩
abbrev iX9_begin : MI := (yX9_begin, cX9_begin, 2, (some .int))
theorem gm_X9_begin : GmV iX9_begin 1 := ⟨⟨gtb_m (List.mem_of_getElem? (i := 791) (by decide +kernel)) rfl, in_X9, by decide +kernel⟩, gtb_m (List.mem_of_getElem? (i := 790) (by decide +kernel)) rfl, gtb_m (List.mem_of_getElem? (i := 18) (by decide +kernel)) rfl⟩
abbrev iX9_end : MI := (yX9_end, cX9_end, 2, (some .int))
theorem gm_X9_end : GmV iX9_end 1 := ⟨⟨gtb_m (List.mem_of_getElem? (i := 799) (by decide +kernel)) rfl, in_X9, by decide +kernel⟩, gtb_m (List.mem_of_getElem? (i := 798) (by decide +kernel)) rfl, gtb_m (List.mem_of_getElem? (i := 19) (by decide +kernel)) rfl⟩
abbrev iX9_close : MI := (yX9_close, cX9_close, 1, (some .int))
theorem gm_X9_close : GmS iX9_close 1 := ⟨⟨gtb_m (List.mem_of_getElem? (i := 802) (by decide +kernel)) rfl, in_X9, by decide +kernel⟩, gtb_m (List.mem_of_getElem? (i := 801) (by decide +kernel)) rfl⟩
abbrev iX9_isFigure : MI := (yX9_isFigure, cX9_isFigure, 1, (some .boolean))
theorem gm_X9_isFigure : GmS iX9_isFigure 1 := ⟨⟨gtb_m (List.mem_of_getElem? (i := 794) (by decide +kernel)) rfl, in_X9, by decide +kernel⟩, gtb_m (List.mem_of_getElem? (i := 793) (by decide +kernel)) rfl⟩
abbrev iX10_race : MI := (yX10_race, cX10_race, 3, (some .int))
theorem gm_X10_race : GmV iX10_race 2 := ⟨⟨gtb_m (List.mem_of_getElem? (i := 426) (by decide +kernel)) rfl, in_X10, by decide +kernel⟩, gtb_m (List.mem_of_getElem? (i := 424) (by decide +kernel)) rfl, gtb_m (List.mem_of_getElem? (i := 425) (by decide +kernel)) rfl⟩
abbrev iX10_swim : MI := (yX10_swim, cX10_swim, 4, (some .int))
theorem gm_X10_swim : GmV iX10_swim 3 := ⟨⟨gtb_m (List.mem_of_getElem? (i := 443) (by decide +kernel)) rfl, in_X10, by decide +kernel⟩, gtb_m (List.mem_of_getElem? (i := 441) (by decide +kernel)) rfl, gtb_m (List.mem_of_getElem? (i := 442) (by decide +kernel)) rfl⟩
abbrev iX10_time : MI := (yX10_time, cX10_time, 5, (some .int))
theorem gm_X10_time : GmV iX10_time 3 := ⟨⟨gtb_m (List.mem_of_getElem? (i := 465) (by decide +kernel)) rfl, in_X10, by decide +kernel⟩, gtb_m (List.mem_of_getElem? (i := 463) (by decide +kernel)) rfl, gtb_m (List.mem_of_getElem? (i := 464) (by decide +kernel)) rfl⟩
abbrev iX10_read : MI := (yX10_read, cX10_read, 6, (some .int))
theorem gm_X10_read : GmV iX10_read 2 := ⟨⟨gtb_m (List.mem_of_getElem? (i := 488) (by decide +kernel)) rfl, in_X10, by decide +kernel⟩, gtb_m (List.mem_of_getElem? (i := 486) (by decide +kernel)) rfl, gtb_m (List.mem_of_getElem? (i := 487) (by decide +kernel)) rfl⟩
abbrev iX10_seeds : MI := (yX10_seeds, cX10_seeds, 4, (some .int))
theorem gm_X10_seeds : GmV iX10_seeds 2 := ⟨⟨gtb_m (List.mem_of_getElem? (i := 502) (by decide +kernel)) rfl, in_X10, by decide +kernel⟩, gtb_m (List.mem_of_getElem? (i := 500) (by decide +kernel)) rfl, gtb_m (List.mem_of_getElem? (i := 501) (by decide +kernel)) rfl⟩
abbrev iX10_about : MI := (yX10_about, cX10_about, 4, (some .int))
theorem gm_X10_about : GmV iX10_about 2 := ⟨⟨gtb_m (List.mem_of_getElem? (i := 506) (by decide +kernel)) rfl, in_X10, by decide +kernel⟩, gtb_m (List.mem_of_getElem? (i := 504) (by decide +kernel)) rfl, gtb_m (List.mem_of_getElem? (i := 505) (by decide +kernel)) rfl⟩
abbrev iX10_diff : MI := (yX10_diff, cX10_diff, 3, (some .long))
theorem gm_X10_diff : GmV iX10_diff 2 := ⟨⟨gtb_m (List.mem_of_getElem? (i := 519) (by decide +kernel)) rfl, in_X10, by decide +kernel⟩, gtb_m (List.mem_of_getElem? (i := 517) (by decide +kernel)) rfl, gtb_m (List.mem_of_getElem? (i := 518) (by decide +kernel)) rfl⟩
abbrev iX10_lane : MI := (yX10_lane, cX10_lane, 4, (some .long))
theorem gm_X10_lane : GmV iX10_lane 3 := ⟨⟨gtb_m (List.mem_of_getElem? (i := 557) (by decide +kernel)) rfl, in_X10, by decide +kernel⟩, gtb_m (List.mem_of_getElem? (i := 555) (by decide +kernel)) rfl, gtb_m (List.mem_of_getElem? (i := 556) (by decide +kernel)) rfl⟩
abbrev iX10_counts : MI := (yX10_counts, cX10_counts, 2, (some .int))
theorem gm_X10_counts : GmV iX10_counts 1 := ⟨⟨gtb_m (List.mem_of_getElem? (i := 599) (by decide +kernel)) rfl, in_X10, by decide +kernel⟩, gtb_m (List.mem_of_getElem? (i := 597) (by decide +kernel)) rfl, gtb_m (List.mem_of_getElem? (i := 598) (by decide +kernel)) rfl⟩
abbrev iX10_lean : MI := (yX10_lean, cX10_lean, 3, (some .int))
theorem gm_X10_lean : GmV iX10_lean 2 := ⟨⟨gtb_m (List.mem_of_getElem? (i := 603) (by decide +kernel)) rfl, in_X10, by decide +kernel⟩, gtb_m (List.mem_of_getElem? (i := 601) (by decide +kernel)) rfl, gtb_m (List.mem_of_getElem? (i := 602) (by decide +kernel)) rfl⟩
abbrev iX10_chance : MI := (yX10_chance, cX10_chance, 1, (some .int))
theorem gm_X10_chance : GmV iX10_chance 0 := ⟨⟨gtb_m (List.mem_of_getElem? (i := 626) (by decide +kernel)) rfl, in_X10, by decide +kernel⟩, gtb_m (List.mem_of_getElem? (i := 624) (by decide +kernel)) rfl, gtb_m (List.mem_of_getElem? (i := 625) (by decide +kernel)) rfl⟩
abbrev iX10_ran : MI := (yX10_ran, cX10_ran, 2, (some .int))
theorem gm_X10_ran : GmV iX10_ran 1 := ⟨⟨gtb_m (List.mem_of_getElem? (i := 644) (by decide +kernel)) rfl, in_X10, by decide +kernel⟩, gtb_m (List.mem_of_getElem? (i := 642) (by decide +kernel)) rfl, gtb_m (List.mem_of_getElem? (i := 643) (by decide +kernel)) rfl⟩
abbrev iX10_own : MI := (yX10_own, cX10_own, 3, (some .long))
theorem gm_X10_own : GmV iX10_own 2 := ⟨⟨gtb_m (List.mem_of_getElem? (i := 648) (by decide +kernel)) rfl, in_X10, by decide +kernel⟩, gtb_m (List.mem_of_getElem? (i := 646) (by decide +kernel)) rfl, gtb_m (List.mem_of_getElem? (i := 647) (by decide +kernel)) rfl⟩
abbrev iX10_fast : MI := (yX10_fast, cX10_fast, 4, (some .int))
theorem gm_X10_fast : GmV iX10_fast 1 := ⟨⟨gtb_m (List.mem_of_getElem? (i := 658) (by decide +kernel)) rfl, in_X10, by decide +kernel⟩, gtb_m (List.mem_of_getElem? (i := 656) (by decide +kernel)) rfl, gtb_m (List.mem_of_getElem? (i := 657) (by decide +kernel)) rfl⟩
abbrev iX10_twice : MI := (yX10_twice, cX10_twice, 3, (some .int))
theorem gm_X10_twice : GmV iX10_twice 2 := ⟨⟨gtb_m (List.mem_of_getElem? (i := 662) (by decide +kernel)) rfl, in_X10, by decide +kernel⟩, gtb_m (List.mem_of_getElem? (i := 660) (by decide +kernel)) rfl, gtb_m (List.mem_of_getElem? (i := 661) (by decide +kernel)) rfl⟩
abbrev iX10_order : MI := (yX10_order, cX10_order, 2, (some .int))
theorem gm_X10_order : GmV iX10_order 1 := ⟨⟨gtb_m (List.mem_of_getElem? (i := 680) (by decide +kernel)) rfl, in_X10, by decide +kernel⟩, gtb_m (List.mem_of_getElem? (i := 678) (by decide +kernel)) rfl, gtb_m (List.mem_of_getElem? (i := 679) (by decide +kernel)) rfl⟩
abbrev iX10_right : MI := (yX10_right, cX10_right, 3, (some .long))
theorem gm_X10_right : GmV iX10_right 2 := ⟨⟨gtb_m (List.mem_of_getElem? (i := 697) (by decide +kernel)) rfl, in_X10, by decide +kernel⟩, gtb_m (List.mem_of_getElem? (i := 695) (by decide +kernel)) rfl, gtb_m (List.mem_of_getElem? (i := 696) (by decide +kernel)) rfl⟩
abbrev iX10_place : MI := (yX10_place, cX10_place, 3, (some .int))
theorem gm_X10_place : GmV iX10_place 2 := ⟨⟨gtb_m (List.mem_of_getElem? (i := 708) (by decide +kernel)) rfl, in_X10, by decide +kernel⟩, gtb_m (List.mem_of_getElem? (i := 706) (by decide +kernel)) rfl, gtb_m (List.mem_of_getElem? (i := 707) (by decide +kernel)) rfl⟩
abbrev iX10_medals : MI := (yX10_medals, cX10_medals, 2, (some .int))
theorem gm_X10_medals : GmV iX10_medals 1 := ⟨⟨gtb_m (List.mem_of_getElem? (i := 720) (by decide +kernel)) rfl, in_X10, by decide +kernel⟩, gtb_m (List.mem_of_getElem? (i := 718) (by decide +kernel)) rfl, gtb_m (List.mem_of_getElem? (i := 719) (by decide +kernel)) rfl⟩
abbrev iX10_type : MI := (yX10_type, cX10_type, 3, (some .int))
theorem gm_X10_type : GmV iX10_type 2 := ⟨⟨gtb_m (List.mem_of_getElem? (i := 733) (by decide +kernel)) rfl, in_X10, by decide +kernel⟩, gtb_m (List.mem_of_getElem? (i := 731) (by decide +kernel)) rfl, gtb_m (List.mem_of_getElem? (i := 732) (by decide +kernel)) rfl⟩
abbrev iX10_wipe : MI := (yX10_wipe, cX10_wipe, 2, (some .int))
theorem gm_X10_wipe : GmV iX10_wipe 1 := ⟨⟨gtb_m (List.mem_of_getElem? (i := 749) (by decide +kernel)) rfl, in_X10, by decide +kernel⟩, gtb_m (List.mem_of_getElem? (i := 747) (by decide +kernel)) rfl, gtb_m (List.mem_of_getElem? (i := 748) (by decide +kernel)) rfl⟩
abbrev iX10_fault : MI := (yX10_fault, cX10_fault, 2, (some .int))
theorem gm_X10_fault : GmV iX10_fault 1 := ⟨⟨gtb_m (List.mem_of_getElem? (i := 757) (by decide +kernel)) rfl, in_X10, by decide +kernel⟩, gtb_m (List.mem_of_getElem? (i := 755) (by decide +kernel)) rfl, gtb_m (List.mem_of_getElem? (i := 756) (by decide +kernel)) rfl⟩
abbrev iX10_given : MI := (yX10_given, cX10_given, 2, (some .int))
theorem gm_X10_given : GmV iX10_given 1 := ⟨⟨gtb_m (List.mem_of_getElem? (i := 806) (by decide +kernel)) rfl, in_X10, by decide +kernel⟩, gtb_m (List.mem_of_getElem? (i := 804) (by decide +kernel)) rfl, gtb_m (List.mem_of_getElem? (i := 805) (by decide +kernel)) rfl⟩
abbrev iX10_tenths : MI := (yX10_tenths, cX10_tenths, 5, (some .int))
theorem gm_X10_tenths : GmV iX10_tenths 2 := ⟨⟨gtb_m (List.mem_of_getElem? (i := 829) (by decide +kernel)) rfl, in_X10, by decide +kernel⟩, gtb_m (List.mem_of_getElem? (i := 827) (by decide +kernel)) rfl, gtb_m (List.mem_of_getElem? (i := 828) (by decide +kernel)) rfl⟩
abbrev iX10_world : MI := (yX10_world, cX10_world, 2, (some .int))
theorem gm_X10_world : GmV iX10_world 1 := ⟨⟨gtb_m (List.mem_of_getElem? (i := 854) (by decide +kernel)) rfl, in_X10, by decide +kernel⟩, gtb_m (List.mem_of_getElem? (i := 852) (by decide +kernel)) rfl, gtb_m (List.mem_of_getElem? (i := 853) (by decide +kernel)) rfl⟩
abbrev iX10_made : MI := (yX10_made, cX10_made, 7, (some .int))
theorem gm_X10_made : GmV iX10_made 5 := ⟨⟨gtb_m (List.mem_of_getElem? (i := 858) (by decide +kernel)) rfl, in_X10, by decide +kernel⟩, gtb_m (List.mem_of_getElem? (i := 856) (by decide +kernel)) rfl, gtb_m (List.mem_of_getElem? (i := 857) (by decide +kernel)) rfl⟩
abbrev iX10_sheet : MI := (yX10_sheet, cX10_sheet, 4, (some .int))
theorem gm_X10_sheet : GmV iX10_sheet 3 := ⟨⟨gtb_m (List.mem_of_getElem? (i := 890) (by decide +kernel)) rfl, in_X10, by decide +kernel⟩, gtb_m (List.mem_of_getElem? (i := 888) (by decide +kernel)) rfl, gtb_m (List.mem_of_getElem? (i := 889) (by decide +kernel)) rfl⟩
abbrev iX10_lose : MI := (yX10_lose, cX10_lose, 2, (some .int))
theorem gm_X10_lose : GmV iX10_lose 1 := ⟨⟨gtb_m (List.mem_of_getElem? (i := 901) (by decide +kernel)) rfl, in_X10, by decide +kernel⟩, gtb_m (List.mem_of_getElem? (i := 899) (by decide +kernel)) rfl, gtb_m (List.mem_of_getElem? (i := 900) (by decide +kernel)) rfl⟩
abbrev iX10_put : MI := (yX10_put, cX10_put, 6, (some .int))
theorem gm_X10_put : GmV iX10_put 4 := ⟨⟨gtb_m (List.mem_of_getElem? (i := 905) (by decide +kernel)) rfl, in_X10, by decide +kernel⟩, gtb_m (List.mem_of_getElem? (i := 903) (by decide +kernel)) rfl, gtb_m (List.mem_of_getElem? (i := 904) (by decide +kernel)) rfl⟩
abbrev iX10_get : MI := (yX10_get, cX10_get, 5, (some .int))
theorem gm_X10_get : GmV iX10_get 3 := ⟨⟨gtb_m (List.mem_of_getElem? (i := 917) (by decide +kernel)) rfl, in_X10, by decide +kernel⟩, gtb_m (List.mem_of_getElem? (i := 915) (by decide +kernel)) rfl, gtb_m (List.mem_of_getElem? (i := 916) (by decide +kernel)) rfl⟩
abbrev iX10_copy : MI := (yX10_copy, cX10_copy, 8, (some .int))
theorem gm_X10_copy : GmV iX10_copy 5 := ⟨⟨gtb_m (List.mem_of_getElem? (i := 922) (by decide +kernel)) rfl, in_X10, by decide +kernel⟩, gtb_m (List.mem_of_getElem? (i := 920) (by decide +kernel)) rfl, gtb_m (List.mem_of_getElem? (i := 921) (by decide +kernel)) rfl⟩
abbrev iX10_write : MI := (yX10_write, cX10_write, 6, (some .int))
theorem gm_X10_write : GmV iX10_write 2 := ⟨⟨gtb_m (List.mem_of_getElem? (i := 933) (by decide +kernel)) rfl, in_X10, by decide +kernel⟩, gtb_m (List.mem_of_getElem? (i := 931) (by decide +kernel)) rfl, gtb_m (List.mem_of_getElem? (i := 932) (by decide +kernel)) rfl⟩
abbrev iX10_count : MI := (yX10_count, cX10_count, 2, (some .int))
theorem gm_X10_count : GmV iX10_count 1 := ⟨⟨gtb_m (List.mem_of_getElem? (i := 937) (by decide +kernel)) rfl, in_X10, by decide +kernel⟩, gtb_m (List.mem_of_getElem? (i := 935) (by decide +kernel)) rfl, gtb_m (List.mem_of_getElem? (i := 936) (by decide +kernel)) rfl⟩
abbrev iX10_digest : MI := (yX10_digest, cX10_digest, 4, (some .long))
theorem gm_X10_digest : GmV iX10_digest 0 := ⟨⟨gtb_m (List.mem_of_getElem? (i := 956) (by decide +kernel)) rfl, in_X10, by decide +kernel⟩, gtb_m (List.mem_of_getElem? (i := 954) (by decide +kernel)) rfl, gtb_m (List.mem_of_getElem? (i := 955) (by decide +kernel)) rfl⟩
abbrev iX10_mix : MI := (yX10_mix, cX10_mix, 4, (some .long))
theorem gm_X10_mix : GmS iX10_mix 2 := ⟨⟨gtb_m (List.mem_of_getElem? (i := 961) (by decide +kernel)) rfl, in_X10, by decide +kernel⟩, gtb_m (List.mem_of_getElem? (i := 960) (by decide +kernel)) rfl⟩
abbrev iX10_mixLanes : MI := (yX10_mixLanes, cX10_mixLanes, 7, (some .long))
theorem gm_X10_mixLanes : GmV iX10_mixLanes 1 := ⟨⟨gtb_m (List.mem_of_getElem? (i := 966) (by decide +kernel)) rfl, in_X10, by decide +kernel⟩, gtb_m (List.mem_of_getElem? (i := 965) (by decide +kernel)) rfl, gtb_m (List.mem_of_getElem? (i := 25) (by decide +kernel)) rfl⟩
abbrev iX10_mixDays : MI := (yX10_mixDays, cX10_mixDays, 5, (some .long))
theorem gm_X10_mixDays : GmV iX10_mixDays 1 := ⟨⟨gtb_m (List.mem_of_getElem? (i := 970) (by decide +kernel)) rfl, in_X10, by decide +kernel⟩, gtb_m (List.mem_of_getElem? (i := 969) (by decide +kernel)) rfl, gtb_m (List.mem_of_getElem? (i := 26) (by decide +kernel)) rfl⟩
abbrev iX10_mixOrder : MI := (yX10_mixOrder, cX10_mixOrder, 6, (some .long))
theorem gm_X10_mixOrder : GmV iX10_mixOrder 1 := ⟨⟨gtb_m (List.mem_of_getElem? (i := 974) (by decide +kernel)) rfl, in_X10, by decide +kernel⟩, gtb_m (List.mem_of_getElem? (i := 973) (by decide +kernel)) rfl, gtb_m (List.mem_of_getElem? (i := 27) (by decide +kernel)) rfl⟩
abbrev iX10_mixRaces : MI := (yX10_mixRaces, cX10_mixRaces, 6, (some .long))
theorem gm_X10_mixRaces : GmV iX10_mixRaces 1 := ⟨⟨gtb_m (List.mem_of_getElem? (i := 978) (by decide +kernel)) rfl, in_X10, by decide +kernel⟩, gtb_m (List.mem_of_getElem? (i := 977) (by decide +kernel)) rfl, gtb_m (List.mem_of_getElem? (i := 28) (by decide +kernel)) rfl⟩
abbrev iX10_mixSwims : MI := (yX10_mixSwims, cX10_mixSwims, 7, (some .long))
theorem gm_X10_mixSwims : GmV iX10_mixSwims 1 := ⟨⟨gtb_m (List.mem_of_getElem? (i := 982) (by decide +kernel)) rfl, in_X10, by decide +kernel⟩, gtb_m (List.mem_of_getElem? (i := 981) (by decide +kernel)) rfl, gtb_m (List.mem_of_getElem? (i := 29) (by decide +kernel)) rfl⟩
abbrev iX10_ofLane : MI := (yX10_ofLane, cX10_ofLane, 5, (some .long))
theorem gm_X10_ofLane : GmV iX10_ofLane 3 := ⟨⟨gtb_m (List.mem_of_getElem? (i := 591) (by decide +kernel)) rfl, in_X10, by decide +kernel⟩, gtb_m (List.mem_of_getElem? (i := 590) (by decide +kernel)) rfl, gtb_m (List.mem_of_getElem? (i := 3) (by decide +kernel)) rfl⟩
abbrev iX10_givenOf : MI := (yX10_givenOf, cX10_givenOf, 2, (some .int))
theorem gm_X10_givenOf : GmV iX10_givenOf 1 := ⟨⟨gtb_m (List.mem_of_getElem? (i := 810) (by decide +kernel)) rfl, in_X10, by decide +kernel⟩, gtb_m (List.mem_of_getElem? (i := 809) (by decide +kernel)) rfl, gtb_m (List.mem_of_getElem? (i := 20) (by decide +kernel)) rfl⟩
abbrev iX10_chanceOfTenths : MI := (yX10_chanceOfTenths, cX10_chanceOfTenths, 7, (some .int))
theorem gm_X10_chanceOfTenths : GmS iX10_chanceOfTenths 2 := ⟨⟨gtb_m (List.mem_of_getElem? (i := 845) (by decide +kernel)) rfl, in_X10, by decide +kernel⟩, gtb_m (List.mem_of_getElem? (i := 844) (by decide +kernel)) rfl⟩
abbrev iX10_power : MI := (yX10_power, cX10_power, 6, (some .long))
theorem gm_X10_power : GmS iX10_power 2 := ⟨⟨gtb_m (List.mem_of_getElem? (i := 849) (by decide +kernel)) rfl, in_X10, by decide +kernel⟩, gtb_m (List.mem_of_getElem? (i := 848) (by decide +kernel)) rfl⟩
abbrev iX10_within : MI := (yX10_within, cX10_within, 3, (some .boolean))
theorem gm_X10_within : GmS iX10_within 3 := ⟨⟨gtb_m (List.mem_of_getElem? (i := 432) (by decide +kernel)) rfl, in_X10, by decide +kernel⟩, gtb_m (List.mem_of_getElem? (i := 431) (by decide +kernel)) rfl⟩
abbrev iX10_isLane : MI := (yX10_isLane, cX10_isLane, 1, (some .boolean))
theorem gm_X10_isLane : GmS iX10_isLane 1 := ⟨⟨gtb_m (List.mem_of_getElem? (i := 453) (by decide +kernel)) rfl, in_X10, by decide +kernel⟩, gtb_m (List.mem_of_getElem? (i := 452) (by decide +kernel)) rfl⟩
abbrev iX10_isSwimmer : MI := (yX10_isSwimmer, cX10_isSwimmer, 1, (some .boolean))
theorem gm_X10_isSwimmer : GmS iX10_isSwimmer 1 := ⟨⟨gtb_m (List.mem_of_getElem? (i := 450) (by decide +kernel)) rfl, in_X10, by decide +kernel⟩, gtb_m (List.mem_of_getElem? (i := 449) (by decide +kernel)) rfl⟩
abbrev iX10_isDay : MI := (yX10_isDay, cX10_isDay, 1, (some .boolean))
theorem gm_X10_isDay : GmS iX10_isDay 1 := ⟨⟨gtb_m (List.mem_of_getElem? (i := 435) (by decide +kernel)) rfl, in_X10, by decide +kernel⟩, gtb_m (List.mem_of_getElem? (i := 434) (by decide +kernel)) rfl⟩
abbrev iX10_isSheet : MI := (yX10_isSheet, cX10_isSheet, 1, (some .boolean))
theorem gm_X10_isSheet : GmS iX10_isSheet 1 := ⟨⟨gtb_m (List.mem_of_getElem? (i := 491) (by decide +kernel)) rfl, in_X10, by decide +kernel⟩, gtb_m (List.mem_of_getElem? (i := 490) (by decide +kernel)) rfl⟩
abbrev iX10_isType : MI := (yX10_isType, cX10_isType, 1, (some .boolean))
theorem gm_X10_isType : GmS iX10_isType 1 := ⟨⟨gtb_m (List.mem_of_getElem? (i := 893) (by decide +kernel)) rfl, in_X10, by decide +kernel⟩, gtb_m (List.mem_of_getElem? (i := 892) (by decide +kernel)) rfl⟩
abbrev iX10_isText : MI := (yX10_isText, cX10_isText, 1, (some .boolean))
theorem gm_X10_isText : GmS iX10_isText 1 := ⟨⟨gtb_m (List.mem_of_getElem? (i := 736) (by decide +kernel)) rfl, in_X10, by decide +kernel⟩, gtb_m (List.mem_of_getElem? (i := 735) (by decide +kernel)) rfl⟩
abbrev iX10_isPart : MI := (yX10_isPart, cX10_isPart, 1, (some .boolean))
theorem gm_X10_isPart : GmS iX10_isPart 1 := ⟨⟨gtb_m (List.mem_of_getElem? (i := 522) (by decide +kernel)) rfl, in_X10, by decide +kernel⟩, gtb_m (List.mem_of_getElem? (i := 521) (by decide +kernel)) rfl⟩
abbrev iX10_mayBeRace : MI := (yX10_mayBeRace, cX10_mayBeRace, 2, (some .boolean))
theorem gm_X10_mayBeRace : GmS iX10_mayBeRace 2 := ⟨⟨gtb_m (List.mem_of_getElem? (i := 429) (by decide +kernel)) rfl, in_X10, by decide +kernel⟩, gtb_m (List.mem_of_getElem? (i := 428) (by decide +kernel)) rfl⟩
abbrev iX10_mayBeTime : MI := (yX10_mayBeTime, cX10_mayBeTime, 1, (some .boolean))
theorem gm_X10_mayBeTime : GmS iX10_mayBeTime 1 := ⟨⟨gtb_m (List.mem_of_getElem? (i := 476) (by decide +kernel)) rfl, in_X10, by decide +kernel⟩, gtb_m (List.mem_of_getElem? (i := 475) (by decide +kernel)) rfl⟩
abbrev iX10_refusal : MI := (yX10_refusal, cX10_refusal, 1, (some .long))
theorem gm_X10_refusal : GmS iX10_refusal 1 := ⟨⟨gtb_m (List.mem_of_getElem? (i := 525) (by decide +kernel)) rfl, in_X10, by decide +kernel⟩, gtb_m (List.mem_of_getElem? (i := 524) (by decide +kernel)) rfl⟩
abbrev iX10_found : MI := (yX10_found, cX10_found, 2, (some .int))
theorem gm_X10_found : GmV iX10_found 1 := ⟨⟨gtb_m (List.mem_of_getElem? (i := 495) (by decide +kernel)) rfl, in_X10, by decide +kernel⟩, gtb_m (List.mem_of_getElem? (i := 494) (by decide +kernel)) rfl, gtb_m (List.mem_of_getElem? (i := 0) (by decide +kernel)) rfl⟩
abbrev iX11_in : MI := (yX11_in, cX11_in, 3, (some .boolean))
theorem gm_X11_in : GmS iX11_in 3 := ⟨⟨gtb_m (List.mem_of_getElem? (i := 1098) (by decide +kernel)) rfl, in_X11, by decide +kernel⟩, gtb_m (List.mem_of_getElem? (i := 1097) (by decide +kernel)) rfl⟩
abbrev iX11_no : MI := (yX11_no, cX11_no, 1, (some .long))
theorem gm_X11_no : GmS iX11_no 1 := ⟨⟨gtb_m (List.mem_of_getElem? (i := 1165) (by decide +kernel)) rfl, in_X11, by decide +kernel⟩, gtb_m (List.mem_of_getElem? (i := 1164) (by decide +kernel)) rfl⟩
abbrev iX11_divisor : MI := (yX11_divisor, cX11_divisor, 10, (some .long))
theorem gm_X11_divisor : GmS iX11_divisor 2 := ⟨⟨gtb_m (List.mem_of_getElem? (i := 1189) (by decide +kernel)) rfl, in_X11, by decide +kernel⟩, gtb_m (List.mem_of_getElem? (i := 1188) (by decide +kernel)) rfl⟩
abbrev iX11_lowest : MI := (yX11_lowest, cX11_lowest, 7, (some .long))
theorem gm_X11_lowest : GmS iX11_lowest 3 := ⟨⟨gtb_m (List.mem_of_getElem? (i := 1186) (by decide +kernel)) rfl, in_X11, by decide +kernel⟩, gtb_m (List.mem_of_getElem? (i := 1185) (by decide +kernel)) rfl⟩
abbrev iX11_has : MI := (yX11_has, cX11_has, 2, (some .boolean))
theorem gm_X11_has : GmS iX11_has 2 := ⟨⟨gtb_m (List.mem_of_getElem? (i := 1301) (by decide +kernel)) rfl, in_X11, by decide +kernel⟩, gtb_m (List.mem_of_getElem? (i := 1300) (by decide +kernel)) rfl⟩
abbrev iX11_isRace : MI := (yX11_isRace, cX11_isRace, 2, (some .boolean))
theorem gm_X11_isRace : GmV iX11_isRace 1 := ⟨⟨gtb_m (List.mem_of_getElem? (i := 1110) (by decide +kernel)) rfl, in_X11, by decide +kernel⟩, gtb_m (List.mem_of_getElem? (i := 1109) (by decide +kernel)) rfl, gtb_m (List.mem_of_getElem? (i := 31) (by decide +kernel)) rfl⟩
abbrev iX11_isSwim : MI := (yX11_isSwim, cX11_isSwim, 2, (some .boolean))
theorem gm_X11_isSwim : GmV iX11_isSwim 1 := ⟨⟨gtb_m (List.mem_of_getElem? (i := 1128) (by decide +kernel)) rfl, in_X11, by decide +kernel⟩, gtb_m (List.mem_of_getElem? (i := 1127) (by decide +kernel)) rfl, gtb_m (List.mem_of_getElem? (i := 33) (by decide +kernel)) rfl⟩
abbrev iX11_isLane : MI := (yX11_isLane, cX11_isLane, 1, (some .boolean))
theorem gm_X11_isLane : GmS iX11_isLane 1 := ⟨⟨gtb_m (List.mem_of_getElem? (i := 1116) (by decide +kernel)) rfl, in_X11, by decide +kernel⟩, gtb_m (List.mem_of_getElem? (i := 1115) (by decide +kernel)) rfl⟩
abbrev iX11_isSwimmer : MI := (yX11_isSwimmer, cX11_isSwimmer, 1, (some .boolean))
theorem gm_X11_isSwimmer : GmS iX11_isSwimmer 1 := ⟨⟨gtb_m (List.mem_of_getElem? (i := 1113) (by decide +kernel)) rfl, in_X11, by decide +kernel⟩, gtb_m (List.mem_of_getElem? (i := 1112) (by decide +kernel)) rfl⟩
abbrev iX11_raceMore : MI := (yX11_raceMore, cX11_raceMore, 3, (some .int))
theorem gm_X11_raceMore : GmV iX11_raceMore 2 := ⟨⟨gtb_m (List.mem_of_getElem? (i := 1102) (by decide +kernel)) rfl, in_X11, by decide +kernel⟩, gtb_m (List.mem_of_getElem? (i := 1101) (by decide +kernel)) rfl, gtb_m (List.mem_of_getElem? (i := 30) (by decide +kernel)) rfl⟩
abbrev iX11_race : MI := (yX11_race, cX11_race, 3, (some .int))
theorem gm_X11_race : GmV iX11_race 2 := ⟨⟨gtb_m (List.mem_of_getElem? (i := 1095) (by decide +kernel)) rfl, in_X11, by decide +kernel⟩, gtb_m (List.mem_of_getElem? (i := 1093) (by decide +kernel)) rfl, gtb_m (List.mem_of_getElem? (i := 1094) (by decide +kernel)) rfl⟩
abbrev iX11_swimMore : MI := (yX11_swimMore, cX11_swimMore, 5, (some .int))
theorem gm_X11_swimMore : GmV iX11_swimMore 3 := ⟨⟨gtb_m (List.mem_of_getElem? (i := 1120) (by decide +kernel)) rfl, in_X11, by decide +kernel⟩, gtb_m (List.mem_of_getElem? (i := 1119) (by decide +kernel)) rfl, gtb_m (List.mem_of_getElem? (i := 32) (by decide +kernel)) rfl⟩
abbrev iX11_swim : MI := (yX11_swim, cX11_swim, 5, (some .int))
theorem gm_X11_swim : GmV iX11_swim 3 := ⟨⟨gtb_m (List.mem_of_getElem? (i := 1106) (by decide +kernel)) rfl, in_X11, by decide +kernel⟩, gtb_m (List.mem_of_getElem? (i := 1104) (by decide +kernel)) rfl, gtb_m (List.mem_of_getElem? (i := 1105) (by decide +kernel)) rfl⟩
abbrev iX11_isTime : MI := (yX11_isTime, cX11_isTime, 1, (some .boolean))
theorem gm_X11_isTime : GmS iX11_isTime 1 := ⟨⟨gtb_m (List.mem_of_getElem? (i := 1131) (by decide +kernel)) rfl, in_X11, by decide +kernel⟩, gtb_m (List.mem_of_getElem? (i := 1130) (by decide +kernel)) rfl⟩
abbrev iX11_time : MI := (yX11_time, cX11_time, 5, (some .int))
theorem gm_X11_time : GmV iX11_time 3 := ⟨⟨gtb_m (List.mem_of_getElem? (i := 1124) (by decide +kernel)) rfl, in_X11, by decide +kernel⟩, gtb_m (List.mem_of_getElem? (i := 1122) (by decide +kernel)) rfl, gtb_m (List.mem_of_getElem? (i := 1123) (by decide +kernel)) rfl⟩
abbrev iX11_read : MI := (yX11_read, cX11_read, 4, (some .int))
theorem gm_X11_read : GmV iX11_read 2 := ⟨⟨gtb_m (List.mem_of_getElem? (i := 1135) (by decide +kernel)) rfl, in_X11, by decide +kernel⟩, gtb_m (List.mem_of_getElem? (i := 1133) (by decide +kernel)) rfl, gtb_m (List.mem_of_getElem? (i := 1134) (by decide +kernel)) rfl⟩
abbrev iX11_seeds : MI := (yX11_seeds, cX11_seeds, 4, (some .int))
theorem gm_X11_seeds : GmV iX11_seeds 2 := ⟨⟨gtb_m (List.mem_of_getElem? (i := 1146) (by decide +kernel)) rfl, in_X11, by decide +kernel⟩, gtb_m (List.mem_of_getElem? (i := 1144) (by decide +kernel)) rfl, gtb_m (List.mem_of_getElem? (i := 1145) (by decide +kernel)) rfl⟩
abbrev iX11_feltOf : MI := (yX11_feltOf, cX11_feltOf, 4, (some .int))
theorem gm_X11_feltOf : GmV iX11_feltOf 1 := ⟨⟨gtb_m (List.mem_of_getElem? (i := 1154) (by decide +kernel)) rfl, in_X11, by decide +kernel⟩, gtb_m (List.mem_of_getElem? (i := 1153) (by decide +kernel)) rfl, gtb_m (List.mem_of_getElem? (i := 35) (by decide +kernel)) rfl⟩
abbrev iX11_totalOf : MI := (yX11_totalOf, cX11_totalOf, 4, (some .int))
theorem gm_X11_totalOf : GmV iX11_totalOf 1 := ⟨⟨gtb_m (List.mem_of_getElem? (i := 1158) (by decide +kernel)) rfl, in_X11, by decide +kernel⟩, gtb_m (List.mem_of_getElem? (i := 1157) (by decide +kernel)) rfl, gtb_m (List.mem_of_getElem? (i := 36) (by decide +kernel)) rfl⟩
abbrev iX11_about : MI := (yX11_about, cX11_about, 3, (some .int))
theorem gm_X11_about : GmV iX11_about 2 := ⟨⟨gtb_m (List.mem_of_getElem? (i := 1150) (by decide +kernel)) rfl, in_X11, by decide +kernel⟩, gtb_m (List.mem_of_getElem? (i := 1148) (by decide +kernel)) rfl, gtb_m (List.mem_of_getElem? (i := 1149) (by decide +kernel)) rfl⟩
abbrev iX11_feltOn : MI := (yX11_feltOn, cX11_feltOn, 5, (some .int))
theorem gm_X11_feltOn : GmV iX11_feltOn 2 := ⟨⟨gtb_m (List.mem_of_getElem? (i := 1174) (by decide +kernel)) rfl, in_X11, by decide +kernel⟩, gtb_m (List.mem_of_getElem? (i := 1173) (by decide +kernel)) rfl, gtb_m (List.mem_of_getElem? (i := 38) (by decide +kernel)) rfl⟩
abbrev iX11_twiceMean : MI := (yX11_twiceMean, cX11_twiceMean, 5, (some .int))
theorem gm_X11_twiceMean : GmV iX11_twiceMean 2 := ⟨⟨gtb_m (List.mem_of_getElem? (i := 1182) (by decide +kernel)) rfl, in_X11, by decide +kernel⟩, gtb_m (List.mem_of_getElem? (i := 1181) (by decide +kernel)) rfl, gtb_m (List.mem_of_getElem? (i := 40) (by decide +kernel)) rfl⟩
abbrev iX11_hasDiff : MI := (yX11_hasDiff, cX11_hasDiff, 2, (some .boolean))
theorem gm_X11_hasDiff : GmV iX11_hasDiff 1 := ⟨⟨gtb_m (List.mem_of_getElem? (i := 1170) (by decide +kernel)) rfl, in_X11, by decide +kernel⟩, gtb_m (List.mem_of_getElem? (i := 1169) (by decide +kernel)) rfl, gtb_m (List.mem_of_getElem? (i := 37) (by decide +kernel)) rfl⟩
abbrev iX11_twiceDiff : MI := (yX11_twiceDiff, cX11_twiceDiff, 2, (some .int))
theorem gm_X11_twiceDiff : GmV iX11_twiceDiff 1 := ⟨⟨gtb_m (List.mem_of_getElem? (i := 1178) (by decide +kernel)) rfl, in_X11, by decide +kernel⟩, gtb_m (List.mem_of_getElem? (i := 1177) (by decide +kernel)) rfl, gtb_m (List.mem_of_getElem? (i := 39) (by decide +kernel)) rfl⟩
abbrev iX11_diff : MI := (yX11_diff, cX11_diff, 3, (some .long))
theorem gm_X11_diff : GmV iX11_diff 2 := ⟨⟨gtb_m (List.mem_of_getElem? (i := 1162) (by decide +kernel)) rfl, in_X11, by decide +kernel⟩, gtb_m (List.mem_of_getElem? (i := 1160) (by decide +kernel)) rfl, gtb_m (List.mem_of_getElem? (i := 1161) (by decide +kernel)) rfl⟩
abbrev iX11_laysLanes : MI := (yX11_laysLanes, cX11_laysLanes, 2, none)
theorem gm_X11_laysLanes : GmV iX11_laysLanes 0 := ⟨⟨gtb_m (List.mem_of_getElem? (i := 1205) (by decide +kernel)) rfl, in_X11, by decide +kernel⟩, gtb_m (List.mem_of_getElem? (i := 1204) (by decide +kernel)) rfl, gtb_m (List.mem_of_getElem? (i := 43) (by decide +kernel)) rfl⟩
abbrev iX11_laysShape : MI := (yX11_laysShape, cX11_laysShape, 4, none)
theorem gm_X11_laysShape : GmV iX11_laysShape 0 := ⟨⟨gtb_m (List.mem_of_getElem? (i := 1201) (by decide +kernel)) rfl, in_X11, by decide +kernel⟩, gtb_m (List.mem_of_getElem? (i := 1200) (by decide +kernel)) rfl, gtb_m (List.mem_of_getElem? (i := 42) (by decide +kernel)) rfl⟩
abbrev iX11_joins : MI := (yX11_joins, cX11_joins, 16, none)
theorem gm_X11_joins : GmV iX11_joins 2 := ⟨⟨gtb_m (List.mem_of_getElem? (i := 1209) (by decide +kernel)) rfl, in_X11, by decide +kernel⟩, gtb_m (List.mem_of_getElem? (i := 1208) (by decide +kernel)) rfl, gtb_m (List.mem_of_getElem? (i := 44) (by decide +kernel)) rfl⟩
abbrev iX11_lays : MI := (yX11_lays, cX11_lays, 7, none)
theorem gm_X11_lays : GmV iX11_lays 2 := ⟨⟨gtb_m (List.mem_of_getElem? (i := 1217) (by decide +kernel)) rfl, in_X11, by decide +kernel⟩, gtb_m (List.mem_of_getElem? (i := 1216) (by decide +kernel)) rfl, gtb_m (List.mem_of_getElem? (i := 46) (by decide +kernel)) rfl⟩
abbrev iX11_adds : MI := (yX11_adds, cX11_adds, 5, none)
theorem gm_X11_adds : GmV iX11_adds 2 := ⟨⟨gtb_m (List.mem_of_getElem? (i := 1221) (by decide +kernel)) rfl, in_X11, by decide +kernel⟩, gtb_m (List.mem_of_getElem? (i := 1220) (by decide +kernel)) rfl, gtb_m (List.mem_of_getElem? (i := 47) (by decide +kernel)) rfl⟩
abbrev iX11_lanesMany : MI := (yX11_lanesMany, cX11_lanesMany, 3, (some .int))
theorem gm_X11_lanesMany : GmV iX11_lanesMany 0 := ⟨⟨gtb_m (List.mem_of_getElem? (i := 1225) (by decide +kernel)) rfl, in_X11, by decide +kernel⟩, gtb_m (List.mem_of_getElem? (i := 1224) (by decide +kernel)) rfl, gtb_m (List.mem_of_getElem? (i := 48) (by decide +kernel)) rfl⟩
abbrev iX11_laysLane : MI := (yX11_laysLane, cX11_laysLane, 4, none)
theorem gm_X11_laysLane : GmV iX11_laysLane 2 := ⟨⟨gtb_m (List.mem_of_getElem? (i := 1213) (by decide +kernel)) rfl, in_X11, by decide +kernel⟩, gtb_m (List.mem_of_getElem? (i := 1212) (by decide +kernel)) rfl, gtb_m (List.mem_of_getElem? (i := 45) (by decide +kernel)) rfl⟩
abbrev iX11_laneNow : MI := (yX11_laneNow, cX11_laneNow, 4, (some .long))
theorem gm_X11_laneNow : GmV iX11_laneNow 3 := ⟨⟨gtb_m (List.mem_of_getElem? (i := 1197) (by decide +kernel)) rfl, in_X11, by decide +kernel⟩, gtb_m (List.mem_of_getElem? (i := 1196) (by decide +kernel)) rfl, gtb_m (List.mem_of_getElem? (i := 41) (by decide +kernel)) rfl⟩
abbrev iX11_lane : MI := (yX11_lane, cX11_lane, 4, (some .long))
theorem gm_X11_lane : GmV iX11_lane 3 := ⟨⟨gtb_m (List.mem_of_getElem? (i := 1193) (by decide +kernel)) rfl, in_X11, by decide +kernel⟩, gtb_m (List.mem_of_getElem? (i := 1191) (by decide +kernel)) rfl, gtb_m (List.mem_of_getElem? (i := 1192) (by decide +kernel)) rfl⟩
abbrev iX11_countsNow : MI := (yX11_countsNow, cX11_countsNow, 2, (some .int))
theorem gm_X11_countsNow : GmV iX11_countsNow 1 := ⟨⟨gtb_m (List.mem_of_getElem? (i := 1233) (by decide +kernel)) rfl, in_X11, by decide +kernel⟩, gtb_m (List.mem_of_getElem? (i := 1232) (by decide +kernel)) rfl, gtb_m (List.mem_of_getElem? (i := 49) (by decide +kernel)) rfl⟩
abbrev iX11_counts : MI := (yX11_counts, cX11_counts, 2, (some .int))
theorem gm_X11_counts : GmV iX11_counts 1 := ⟨⟨gtb_m (List.mem_of_getElem? (i := 1229) (by decide +kernel)) rfl, in_X11, by decide +kernel⟩, gtb_m (List.mem_of_getElem? (i := 1227) (by decide +kernel)) rfl, gtb_m (List.mem_of_getElem? (i := 1228) (by decide +kernel)) rfl⟩
abbrev iX11_leanNow : MI := (yX11_leanNow, cX11_leanNow, 7, (some .int))
theorem gm_X11_leanNow : GmV iX11_leanNow 2 := ⟨⟨gtb_m (List.mem_of_getElem? (i := 1241) (by decide +kernel)) rfl, in_X11, by decide +kernel⟩, gtb_m (List.mem_of_getElem? (i := 1240) (by decide +kernel)) rfl, gtb_m (List.mem_of_getElem? (i := 50) (by decide +kernel)) rfl⟩
abbrev iX11_lean : MI := (yX11_lean, cX11_lean, 3, (some .int))
theorem gm_X11_lean : GmV iX11_lean 2 := ⟨⟨gtb_m (List.mem_of_getElem? (i := 1237) (by decide +kernel)) rfl, in_X11, by decide +kernel⟩, gtb_m (List.mem_of_getElem? (i := 1235) (by decide +kernel)) rfl, gtb_m (List.mem_of_getElem? (i := 1236) (by decide +kernel)) rfl⟩
abbrev iX11_turns : MI := (yX11_turns, cX11_turns, 7, (some .boolean))
theorem gm_X11_turns : GmV iX11_turns 1 := ⟨⟨gtb_m (List.mem_of_getElem? (i := 1253) (by decide +kernel)) rfl, in_X11, by decide +kernel⟩, gtb_m (List.mem_of_getElem? (i := 1252) (by decide +kernel)) rfl, gtb_m (List.mem_of_getElem? (i := 52) (by decide +kernel)) rfl⟩
abbrev iX11_chanceNow : MI := (yX11_chanceNow, cX11_chanceNow, 15, (some .int))
theorem gm_X11_chanceNow : GmV iX11_chanceNow 0 := ⟨⟨gtb_m (List.mem_of_getElem? (i := 1249) (by decide +kernel)) rfl, in_X11, by decide +kernel⟩, gtb_m (List.mem_of_getElem? (i := 1248) (by decide +kernel)) rfl, gtb_m (List.mem_of_getElem? (i := 51) (by decide +kernel)) rfl⟩
abbrev iX11_chance : MI := (yX11_chance, cX11_chance, 1, (some .int))
theorem gm_X11_chance : GmV iX11_chance 0 := ⟨⟨gtb_m (List.mem_of_getElem? (i := 1245) (by decide +kernel)) rfl, in_X11, by decide +kernel⟩, gtb_m (List.mem_of_getElem? (i := 1243) (by decide +kernel)) rfl, gtb_m (List.mem_of_getElem? (i := 1244) (by decide +kernel)) rfl⟩
abbrev iX11_ranNow : MI := (yX11_ranNow, cX11_ranNow, 7, (some .int))
theorem gm_X11_ranNow : GmV iX11_ranNow 1 := ⟨⟨gtb_m (List.mem_of_getElem? (i := 1262) (by decide +kernel)) rfl, in_X11, by decide +kernel⟩, gtb_m (List.mem_of_getElem? (i := 1261) (by decide +kernel)) rfl, gtb_m (List.mem_of_getElem? (i := 53) (by decide +kernel)) rfl⟩
abbrev iX11_ran : MI := (yX11_ran, cX11_ran, 2, (some .int))
theorem gm_X11_ran : GmV iX11_ran 1 := ⟨⟨gtb_m (List.mem_of_getElem? (i := 1258) (by decide +kernel)) rfl, in_X11, by decide +kernel⟩, gtb_m (List.mem_of_getElem? (i := 1256) (by decide +kernel)) rfl, gtb_m (List.mem_of_getElem? (i := 1257) (by decide +kernel)) rfl⟩
abbrev iX11_laysOwn : MI := (yX11_laysOwn, cX11_laysOwn, 5, (some .boolean))
theorem gm_X11_laysOwn : GmV iX11_laysOwn 1 := ⟨⟨gtb_m (List.mem_of_getElem? (i := 1270) (by decide +kernel)) rfl, in_X11, by decide +kernel⟩, gtb_m (List.mem_of_getElem? (i := 1269) (by decide +kernel)) rfl, gtb_m (List.mem_of_getElem? (i := 54) (by decide +kernel)) rfl⟩
abbrev iX11_own : MI := (yX11_own, cX11_own, 3, (some .long))
theorem gm_X11_own : GmV iX11_own 2 := ⟨⟨gtb_m (List.mem_of_getElem? (i := 1266) (by decide +kernel)) rfl, in_X11, by decide +kernel⟩, gtb_m (List.mem_of_getElem? (i := 1264) (by decide +kernel)) rfl, gtb_m (List.mem_of_getElem? (i := 1265) (by decide +kernel)) rfl⟩
abbrev iX11_fast : MI := (yX11_fast, cX11_fast, 4, (some .int))
theorem gm_X11_fast : GmV iX11_fast 1 := ⟨⟨gtb_m (List.mem_of_getElem? (i := 1274) (by decide +kernel)) rfl, in_X11, by decide +kernel⟩, gtb_m (List.mem_of_getElem? (i := 1272) (by decide +kernel)) rfl, gtb_m (List.mem_of_getElem? (i := 1273) (by decide +kernel)) rfl⟩
abbrev iX11_isSingle : MI := (yX11_isSingle, cX11_isSingle, 2, (some .boolean))
theorem gm_X11_isSingle : GmV iX11_isSingle 1 := ⟨⟨gtb_m (List.mem_of_getElem? (i := 1286) (by decide +kernel)) rfl, in_X11, by decide +kernel⟩, gtb_m (List.mem_of_getElem? (i := 1285) (by decide +kernel)) rfl, gtb_m (List.mem_of_getElem? (i := 56) (by decide +kernel)) rfl⟩
abbrev iX11_twiceNow : MI := (yX11_twiceNow, cX11_twiceNow, 7, (some .int))
theorem gm_X11_twiceNow : GmV iX11_twiceNow 2 := ⟨⟨gtb_m (List.mem_of_getElem? (i := 1282) (by decide +kernel)) rfl, in_X11, by decide +kernel⟩, gtb_m (List.mem_of_getElem? (i := 1281) (by decide +kernel)) rfl, gtb_m (List.mem_of_getElem? (i := 55) (by decide +kernel)) rfl⟩
abbrev iX11_twice : MI := (yX11_twice, cX11_twice, 3, (some .int))
theorem gm_X11_twice : GmV iX11_twice 2 := ⟨⟨gtb_m (List.mem_of_getElem? (i := 1278) (by decide +kernel)) rfl, in_X11, by decide +kernel⟩, gtb_m (List.mem_of_getElem? (i := 1276) (by decide +kernel)) rfl, gtb_m (List.mem_of_getElem? (i := 1277) (by decide +kernel)) rfl⟩
abbrev iX11_gain : MI := (yX11_gain, cX11_gain, 5, (some .int))
theorem gm_X11_gain : GmV iX11_gain 2 := ⟨⟨gtb_m (List.mem_of_getElem? (i := 1305) (by decide +kernel)) rfl, in_X11, by decide +kernel⟩, gtb_m (List.mem_of_getElem? (i := 1304) (by decide +kernel)) rfl, gtb_m (List.mem_of_getElem? (i := 59) (by decide +kernel)) rfl⟩
abbrev iX11_orders : MI := (yX11_orders, cX11_orders, 5, none)
theorem gm_X11_orders : GmV iX11_orders 0 := ⟨⟨gtb_m (List.mem_of_getElem? (i := 1298) (by decide +kernel)) rfl, in_X11, by decide +kernel⟩, gtb_m (List.mem_of_getElem? (i := 1297) (by decide +kernel)) rfl, gtb_m (List.mem_of_getElem? (i := 58) (by decide +kernel)) rfl⟩
abbrev iX11_orderNow : MI := (yX11_orderNow, cX11_orderNow, 6, (some .int))
theorem gm_X11_orderNow : GmV iX11_orderNow 1 := ⟨⟨gtb_m (List.mem_of_getElem? (i := 1294) (by decide +kernel)) rfl, in_X11, by decide +kernel⟩, gtb_m (List.mem_of_getElem? (i := 1293) (by decide +kernel)) rfl, gtb_m (List.mem_of_getElem? (i := 57) (by decide +kernel)) rfl⟩
abbrev iX11_order : MI := (yX11_order, cX11_order, 2, (some .int))
theorem gm_X11_order : GmV iX11_order 1 := ⟨⟨gtb_m (List.mem_of_getElem? (i := 1290) (by decide +kernel)) rfl, in_X11, by decide +kernel⟩, gtb_m (List.mem_of_getElem? (i := 1288) (by decide +kernel)) rfl, gtb_m (List.mem_of_getElem? (i := 1289) (by decide +kernel)) rfl⟩
abbrev iX11_laysRight : MI := (yX11_laysRight, cX11_laysRight, 4, none)
theorem gm_X11_laysRight : GmV iX11_laysRight 1 := ⟨⟨gtb_m (List.mem_of_getElem? (i := 1313) (by decide +kernel)) rfl, in_X11, by decide +kernel⟩, gtb_m (List.mem_of_getElem? (i := 1312) (by decide +kernel)) rfl, gtb_m (List.mem_of_getElem? (i := 60) (by decide +kernel)) rfl⟩
abbrev iX11_right : MI := (yX11_right, cX11_right, 3, (some .long))
theorem gm_X11_right : GmV iX11_right 2 := ⟨⟨gtb_m (List.mem_of_getElem? (i := 1309) (by decide +kernel)) rfl, in_X11, by decide +kernel⟩, gtb_m (List.mem_of_getElem? (i := 1307) (by decide +kernel)) rfl, gtb_m (List.mem_of_getElem? (i := 1308) (by decide +kernel)) rfl⟩
abbrev iX11_isRightLess : MI := (yX11_isRightLess, cX11_isRightLess, 9, (some .boolean))
theorem gm_X11_isRightLess : GmV iX11_isRightLess 2 := ⟨⟨gtb_m (List.mem_of_getElem? (i := 1326) (by decide +kernel)) rfl, in_X11, by decide +kernel⟩, gtb_m (List.mem_of_getElem? (i := 1325) (by decide +kernel)) rfl, gtb_m (List.mem_of_getElem? (i := 62) (by decide +kernel)) rfl⟩
abbrev iX11_placeNow : MI := (yX11_placeNow, cX11_placeNow, 5, (some .int))
theorem gm_X11_placeNow : GmV iX11_placeNow 2 := ⟨⟨gtb_m (List.mem_of_getElem? (i := 1322) (by decide +kernel)) rfl, in_X11, by decide +kernel⟩, gtb_m (List.mem_of_getElem? (i := 1321) (by decide +kernel)) rfl, gtb_m (List.mem_of_getElem? (i := 61) (by decide +kernel)) rfl⟩
abbrev iX11_place : MI := (yX11_place, cX11_place, 3, (some .int))
theorem gm_X11_place : GmV iX11_place 2 := ⟨⟨gtb_m (List.mem_of_getElem? (i := 1318) (by decide +kernel)) rfl, in_X11, by decide +kernel⟩, gtb_m (List.mem_of_getElem? (i := 1316) (by decide +kernel)) rfl, gtb_m (List.mem_of_getElem? (i := 1317) (by decide +kernel)) rfl⟩
abbrev iX11_medalsNow : MI := (yX11_medalsNow, cX11_medalsNow, 4, (some .int))
theorem gm_X11_medalsNow : GmV iX11_medalsNow 1 := ⟨⟨gtb_m (List.mem_of_getElem? (i := 1334) (by decide +kernel)) rfl, in_X11, by decide +kernel⟩, gtb_m (List.mem_of_getElem? (i := 1333) (by decide +kernel)) rfl, gtb_m (List.mem_of_getElem? (i := 63) (by decide +kernel)) rfl⟩
abbrev iX11_medals : MI := (yX11_medals, cX11_medals, 2, (some .int))
theorem gm_X11_medals : GmV iX11_medals 1 := ⟨⟨gtb_m (List.mem_of_getElem? (i := 1330) (by decide +kernel)) rfl, in_X11, by decide +kernel⟩, gtb_m (List.mem_of_getElem? (i := 1328) (by decide +kernel)) rfl, gtb_m (List.mem_of_getElem? (i := 1329) (by decide +kernel)) rfl⟩
abbrev iX11_isText : MI := (yX11_isText, cX11_isText, 1, (some .boolean))
theorem gm_X11_isText : GmS iX11_isText 1 := ⟨⟨gtb_m (List.mem_of_getElem? (i := 1341) (by decide +kernel)) rfl, in_X11, by decide +kernel⟩, gtb_m (List.mem_of_getElem? (i := 1340) (by decide +kernel)) rfl⟩
abbrev iX11_type : MI := (yX11_type, cX11_type, 3, (some .int))
theorem gm_X11_type : GmV iX11_type 2 := ⟨⟨gtb_m (List.mem_of_getElem? (i := 1338) (by decide +kernel)) rfl, in_X11, by decide +kernel⟩, gtb_m (List.mem_of_getElem? (i := 1336) (by decide +kernel)) rfl, gtb_m (List.mem_of_getElem? (i := 1337) (by decide +kernel)) rfl⟩
abbrev iX11_wipe : MI := (yX11_wipe, cX11_wipe, 3, (some .int))
theorem gm_X11_wipe : GmV iX11_wipe 1 := ⟨⟨gtb_m (List.mem_of_getElem? (i := 1345) (by decide +kernel)) rfl, in_X11, by decide +kernel⟩, gtb_m (List.mem_of_getElem? (i := 1343) (by decide +kernel)) rfl, gtb_m (List.mem_of_getElem? (i := 1344) (by decide +kernel)) rfl⟩
abbrev iX11_ruleFault : MI := (yX11_ruleFault, cX11_ruleFault, 4, (some .int))
theorem gm_X11_ruleFault : GmV iX11_ruleFault 0 := ⟨⟨gtb_m (List.mem_of_getElem? (i := 1353) (by decide +kernel)) rfl, in_X11, by decide +kernel⟩, gtb_m (List.mem_of_getElem? (i := 1352) (by decide +kernel)) rfl, gtb_m (List.mem_of_getElem? (i := 64) (by decide +kernel)) rfl⟩
abbrev iX11_byteNow : MI := (yX11_byteNow, cX11_byteNow, 1, (some .int))
theorem gm_X11_byteNow : GmV iX11_byteNow 0 := ⟨⟨gtb_m (List.mem_of_getElem? (i := 1369) (by decide +kernel)) rfl, in_X11, by decide +kernel⟩, gtb_m (List.mem_of_getElem? (i := 1368) (by decide +kernel)) rfl, gtb_m (List.mem_of_getElem? (i := 68) (by decide +kernel)) rfl⟩
abbrev iX11_expects : MI := (yX11_expects, cX11_expects, 2, none)
theorem gm_X11_expects : GmV iX11_expects 1 := ⟨⟨gtb_m (List.mem_of_getElem? (i := 1373) (by decide +kernel)) rfl, in_X11, by decide +kernel⟩, gtb_m (List.mem_of_getElem? (i := 1372) (by decide +kernel)) rfl, gtb_m (List.mem_of_getElem? (i := 69) (by decide +kernel)) rfl⟩
abbrev iX11_number : MI := (yX11_number, cX11_number, 4, (some .int))
theorem gm_X11_number : GmV iX11_number 1 := ⟨⟨gtb_m (List.mem_of_getElem? (i := 1377) (by decide +kernel)) rfl, in_X11, by decide +kernel⟩, gtb_m (List.mem_of_getElem? (i := 1376) (by decide +kernel)) rfl, gtb_m (List.mem_of_getElem? (i := 70) (by decide +kernel)) rfl⟩
abbrev iX11_part : MI := (yX11_part, cX11_part, 5, none)
theorem gm_X11_part : GmV iX11_part 0 := ⟨⟨gtb_m (List.mem_of_getElem? (i := 1365) (by decide +kernel)) rfl, in_X11, by decide +kernel⟩, gtb_m (List.mem_of_getElem? (i := 1364) (by decide +kernel)) rfl, gtb_m (List.mem_of_getElem? (i := 67) (by decide +kernel)) rfl⟩
abbrev iX11_plain : MI := (yX11_plain, cX11_plain, 2, none)
theorem gm_X11_plain : GmV iX11_plain 0 := ⟨⟨gtb_m (List.mem_of_getElem? (i := 1361) (by decide +kernel)) rfl, in_X11, by decide +kernel⟩, gtb_m (List.mem_of_getElem? (i := 1360) (by decide +kernel)) rfl, gtb_m (List.mem_of_getElem? (i := 66) (by decide +kernel)) rfl⟩
abbrev iX11_worldFault : MI := (yX11_worldFault, cX11_worldFault, 2, (some .int))
theorem gm_X11_worldFault : GmV iX11_worldFault 0 := ⟨⟨gtb_m (List.mem_of_getElem? (i := 1357) (by decide +kernel)) rfl, in_X11, by decide +kernel⟩, gtb_m (List.mem_of_getElem? (i := 1356) (by decide +kernel)) rfl, gtb_m (List.mem_of_getElem? (i := 65) (by decide +kernel)) rfl⟩
abbrev iX11_fault : MI := (yX11_fault, cX11_fault, 2, (some .int))
theorem gm_X11_fault : GmV iX11_fault 1 := ⟨⟨gtb_m (List.mem_of_getElem? (i := 1349) (by decide +kernel)) rfl, in_X11, by decide +kernel⟩, gtb_m (List.mem_of_getElem? (i := 1347) (by decide +kernel)) rfl, gtb_m (List.mem_of_getElem? (i := 1348) (by decide +kernel)) rfl⟩
abbrev iX11_isBetter : MI := (yX11_isBetter, cX11_isBetter, 3, (some .boolean))
theorem gm_X11_isBetter : GmV iX11_isBetter 2 := ⟨⟨gtb_m (List.mem_of_getElem? (i := 1389) (by decide +kernel)) rfl, in_X11, by decide +kernel⟩, gtb_m (List.mem_of_getElem? (i := 1388) (by decide +kernel)) rfl, gtb_m (List.mem_of_getElem? (i := 72) (by decide +kernel)) rfl⟩
abbrev iX11_givenNow : MI := (yX11_givenNow, cX11_givenNow, 5, (some .int))
theorem gm_X11_givenNow : GmV iX11_givenNow 1 := ⟨⟨gtb_m (List.mem_of_getElem? (i := 1385) (by decide +kernel)) rfl, in_X11, by decide +kernel⟩, gtb_m (List.mem_of_getElem? (i := 1384) (by decide +kernel)) rfl, gtb_m (List.mem_of_getElem? (i := 71) (by decide +kernel)) rfl⟩
abbrev iX11_given : MI := (yX11_given, cX11_given, 2, (some .int))
theorem gm_X11_given : GmV iX11_given 1 := ⟨⟨gtb_m (List.mem_of_getElem? (i := 1381) (by decide +kernel)) rfl, in_X11, by decide +kernel⟩, gtb_m (List.mem_of_getElem? (i := 1379) (by decide +kernel)) rfl, gtb_m (List.mem_of_getElem? (i := 1380) (by decide +kernel)) rfl⟩
abbrev iX11_tenthsNow : MI := (yX11_tenthsNow, cX11_tenthsNow, 15, (some .int))
theorem gm_X11_tenthsNow : GmV iX11_tenthsNow 2 := ⟨⟨gtb_m (List.mem_of_getElem? (i := 1397) (by decide +kernel)) rfl, in_X11, by decide +kernel⟩, gtb_m (List.mem_of_getElem? (i := 1396) (by decide +kernel)) rfl, gtb_m (List.mem_of_getElem? (i := 73) (by decide +kernel)) rfl⟩
abbrev iX11_tenths : MI := (yX11_tenths, cX11_tenths, 3, (some .int))
theorem gm_X11_tenths : GmV iX11_tenths 2 := ⟨⟨gtb_m (List.mem_of_getElem? (i := 1393) (by decide +kernel)) rfl, in_X11, by decide +kernel⟩, gtb_m (List.mem_of_getElem? (i := 1391) (by decide +kernel)) rfl, gtb_m (List.mem_of_getElem? (i := 1392) (by decide +kernel)) rfl⟩
abbrev iX11_worldNow : MI := (yX11_worldNow, cX11_worldNow, 3, (some .int))
theorem gm_X11_worldNow : GmV iX11_worldNow 1 := ⟨⟨gtb_m (List.mem_of_getElem? (i := 1407) (by decide +kernel)) rfl, in_X11, by decide +kernel⟩, gtb_m (List.mem_of_getElem? (i := 1406) (by decide +kernel)) rfl, gtb_m (List.mem_of_getElem? (i := 74) (by decide +kernel)) rfl⟩
abbrev iX11_world : MI := (yX11_world, cX11_world, 2, (some .int))
theorem gm_X11_world : GmV iX11_world 1 := ⟨⟨gtb_m (List.mem_of_getElem? (i := 1403) (by decide +kernel)) rfl, in_X11, by decide +kernel⟩, gtb_m (List.mem_of_getElem? (i := 1401) (by decide +kernel)) rfl, gtb_m (List.mem_of_getElem? (i := 1402) (by decide +kernel)) rfl⟩
abbrev iX11_lot : MI := (yX11_lot, cX11_lot, 2, (some .int))
theorem gm_X11_lot : GmV iX11_lot 1 := ⟨⟨gtb_m (List.mem_of_getElem? (i := 1415) (by decide +kernel)) rfl, in_X11, by decide +kernel⟩, gtb_m (List.mem_of_getElem? (i := 1414) (by decide +kernel)) rfl, gtb_m (List.mem_of_getElem? (i := 75) (by decide +kernel)) rfl⟩
abbrev iX11_made : MI := (yX11_made, cX11_made, 15, (some .int))
theorem gm_X11_made : GmV iX11_made 5 := ⟨⟨gtb_m (List.mem_of_getElem? (i := 1411) (by decide +kernel)) rfl, in_X11, by decide +kernel⟩, gtb_m (List.mem_of_getElem? (i := 1409) (by decide +kernel)) rfl, gtb_m (List.mem_of_getElem? (i := 1410) (by decide +kernel)) rfl⟩
abbrev iX11_meets : MI := (yX11_meets, cX11_meets, 2, (some .int))
theorem gm_X11_meets : GmV iX11_meets 1 := ⟨⟨gtb_m (List.mem_of_getElem? (i := 1142) (by decide +kernel)) rfl, in_X11, by decide +kernel⟩, gtb_m (List.mem_of_getElem? (i := 1141) (by decide +kernel)) rfl, gtb_m (List.mem_of_getElem? (i := 34) (by decide +kernel)) rfl⟩
abbrev iX11_isSheet : MI := (yX11_isSheet, cX11_isSheet, 1, (some .boolean))
theorem gm_X11_isSheet : GmS iX11_isSheet 1 := ⟨⟨gtb_m (List.mem_of_getElem? (i := 1138) (by decide +kernel)) rfl, in_X11, by decide +kernel⟩, gtb_m (List.mem_of_getElem? (i := 1137) (by decide +kernel)) rfl⟩
abbrev iX11_sheet : MI := (yX11_sheet, cX11_sheet, 5, (some .int))
theorem gm_X11_sheet : GmV iX11_sheet 3 := ⟨⟨gtb_m (List.mem_of_getElem? (i := 1420) (by decide +kernel)) rfl, in_X11, by decide +kernel⟩, gtb_m (List.mem_of_getElem? (i := 1418) (by decide +kernel)) rfl, gtb_m (List.mem_of_getElem? (i := 1419) (by decide +kernel)) rfl⟩
abbrev iX11_lose : MI := (yX11_lose, cX11_lose, 2, (some .int))
theorem gm_X11_lose : GmV iX11_lose 1 := ⟨⟨gtb_m (List.mem_of_getElem? (i := 1424) (by decide +kernel)) rfl, in_X11, by decide +kernel⟩, gtb_m (List.mem_of_getElem? (i := 1422) (by decide +kernel)) rfl, gtb_m (List.mem_of_getElem? (i := 1423) (by decide +kernel)) rfl⟩
abbrev iX11_lacks : MI := (yX11_lacks, cX11_lacks, 4, (some .int))
theorem gm_X11_lacks : GmV iX11_lacks 3 := ⟨⟨gtb_m (List.mem_of_getElem? (i := 1432) (by decide +kernel)) rfl, in_X11, by decide +kernel⟩, gtb_m (List.mem_of_getElem? (i := 1431) (by decide +kernel)) rfl, gtb_m (List.mem_of_getElem? (i := 76) (by decide +kernel)) rfl⟩
abbrev iX11_keep : MI := (yX11_keep, cX11_keep, 4, none)
theorem gm_X11_keep : GmV iX11_keep 3 := ⟨⟨gtb_m (List.mem_of_getElem? (i := 1436) (by decide +kernel)) rfl, in_X11, by decide +kernel⟩, gtb_m (List.mem_of_getElem? (i := 1435) (by decide +kernel)) rfl, gtb_m (List.mem_of_getElem? (i := 77) (by decide +kernel)) rfl⟩
abbrev iX11_put : MI := (yX11_put, cX11_put, 6, (some .int))
theorem gm_X11_put : GmV iX11_put 4 := ⟨⟨gtb_m (List.mem_of_getElem? (i := 1428) (by decide +kernel)) rfl, in_X11, by decide +kernel⟩, gtb_m (List.mem_of_getElem? (i := 1426) (by decide +kernel)) rfl, gtb_m (List.mem_of_getElem? (i := 1427) (by decide +kernel)) rfl⟩
abbrev iX11_get : MI := (yX11_get, cX11_get, 5, (some .int))
theorem gm_X11_get : GmV iX11_get 3 := ⟨⟨gtb_m (List.mem_of_getElem? (i := 1440) (by decide +kernel)) rfl, in_X11, by decide +kernel⟩, gtb_m (List.mem_of_getElem? (i := 1438) (by decide +kernel)) rfl, gtb_m (List.mem_of_getElem? (i := 1439) (by decide +kernel)) rfl⟩
abbrev iX11_copy : MI := (yX11_copy, cX11_copy, 7, (some .int))
theorem gm_X11_copy : GmV iX11_copy 5 := ⟨⟨gtb_m (List.mem_of_getElem? (i := 1445) (by decide +kernel)) rfl, in_X11, by decide +kernel⟩, gtb_m (List.mem_of_getElem? (i := 1443) (by decide +kernel)) rfl, gtb_m (List.mem_of_getElem? (i := 1444) (by decide +kernel)) rfl⟩
abbrev iX11_write : MI := (yX11_write, cX11_write, 4, (some .int))
theorem gm_X11_write : GmV iX11_write 2 := ⟨⟨gtb_m (List.mem_of_getElem? (i := 1449) (by decide +kernel)) rfl, in_X11, by decide +kernel⟩, gtb_m (List.mem_of_getElem? (i := 1447) (by decide +kernel)) rfl, gtb_m (List.mem_of_getElem? (i := 1448) (by decide +kernel)) rfl⟩
abbrev iX11_countNow : MI := (yX11_countNow, cX11_countNow, 4, (some .int))
theorem gm_X11_countNow : GmV iX11_countNow 1 := ⟨⟨gtb_m (List.mem_of_getElem? (i := 1457) (by decide +kernel)) rfl, in_X11, by decide +kernel⟩, gtb_m (List.mem_of_getElem? (i := 1456) (by decide +kernel)) rfl, gtb_m (List.mem_of_getElem? (i := 78) (by decide +kernel)) rfl⟩
abbrev iX11_count : MI := (yX11_count, cX11_count, 2, (some .int))
theorem gm_X11_count : GmV iX11_count 1 := ⟨⟨gtb_m (List.mem_of_getElem? (i := 1453) (by decide +kernel)) rfl, in_X11, by decide +kernel⟩, gtb_m (List.mem_of_getElem? (i := 1451) (by decide +kernel)) rfl, gtb_m (List.mem_of_getElem? (i := 1452) (by decide +kernel)) rfl⟩
abbrev iX11_digest : MI := (yX11_digest, cX11_digest, 5, (some .long))
theorem gm_X11_digest : GmV iX11_digest 0 := ⟨⟨gtb_m (List.mem_of_getElem? (i := 1461) (by decide +kernel)) rfl, in_X11, by decide +kernel⟩, gtb_m (List.mem_of_getElem? (i := 1459) (by decide +kernel)) rfl, gtb_m (List.mem_of_getElem? (i := 1460) (by decide +kernel)) rfl⟩
abbrev iJ6_compare_7cf53 : MI := (yJ6_compare_7cf53, cJ6_compare_7cf53, 2, (some .int))
theorem gm_J6_compare_7cf53 : GmS iJ6_compare_7cf53 2 := ⟨⟨gtb_m (List.mem_of_getElem? (i := 614) (by decide +kernel)) rfl, in_J6, by decide +kernel⟩, gtb_m (List.mem_of_getElem? (i := 613) (by decide +kernel)) rfl⟩
abbrev iJ9_abs_067f4 : MI := (yJ9_abs_067f4, cJ9_abs_067f4, 2, (some .long))
theorem gm_J9_abs_067f4 : GmS iJ9_abs_067f4 1 := ⟨⟨gtb_m (List.mem_of_getElem? (i := 546) (by decide +kernel)) rfl, in_J9, by decide +kernel⟩, gtb_m (List.mem_of_getElem? (i := 545) (by decide +kernel)) rfl⟩
abbrev iJ9_max_7cf53 : MI := (yJ9_max_7cf53, cJ9_max_7cf53, 2, (some .int))
theorem gm_J9_max_7cf53 : GmS iJ9_max_7cf53 2 := ⟨⟨gtb_m (List.mem_of_getElem? (i := 209) (by decide +kernel)) rfl, in_J9, by decide +kernel⟩, gtb_m (List.mem_of_getElem? (i := 208) (by decide +kernel)) rfl⟩
abbrev iJ9_min_7cf53 : MI := (yJ9_min_7cf53, cJ9_min_7cf53, 2, (some .int))
theorem gm_J9_min_7cf53 : GmS iJ9_min_7cf53 2 := ⟨⟨gtb_m (List.mem_of_getElem? (i := 498) (by decide +kernel)) rfl, in_J9, by decide +kernel⟩, gtb_m (List.mem_of_getElem? (i := 497) (by decide +kernel)) rfl⟩
