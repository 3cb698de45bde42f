/-! ===== words that the walks use, by their places in the tables ===== -/
theorem wd_0 : WD (.selects RX10 yX10_sensorNumbered yX10_sensorNumbered) := ⟨List.mem_of_getElem? (i := 0) (by decide +kernel), by decide +kernel⟩
theorem wd_1 : WD (.selects RX10 yX10_hasRoomFor yX10_hasRoomFor) := ⟨List.mem_of_getElem? (i := 1) (by decide +kernel), by decide +kernel⟩
theorem wd_2 : WD (.selects RX10 yX10_keep yX10_keep) := ⟨List.mem_of_getElem? (i := 2) (by decide +kernel), by decide +kernel⟩
theorem wd_3 : WD (.selects RX8 yX8_leastCountAbove yX8_leastCountAbove) := ⟨List.mem_of_getElem? (i := 3) (by decide +kernel), by decide +kernel⟩
theorem wd_4 : WD (.selects RX8 yX8_meanReference yX8_meanReference) := ⟨List.mem_of_getElem? (i := 4) (by decide +kernel), by decide +kernel⟩
theorem wd_5 : WD (.selects RX10 yX10_curveNumbered yX10_curveNumbered) := ⟨List.mem_of_getElem? (i := 5) (by decide +kernel), by decide +kernel⟩
theorem wd_6 : WD (.selects RX3 yX3_howManyUpTo yX3_howManyUpTo) := ⟨List.mem_of_getElem? (i := 6) (by decide +kernel), by decide +kernel⟩
theorem wd_7 : WD (.selects RX2 yX2_firstNotBelow yX2_firstNotBelow) := ⟨List.mem_of_getElem? (i := 7) (by decide +kernel), by decide +kernel⟩
theorem wd_8 : WD (.selects RX10 yX10_probeNumbered yX10_probeNumbered) := ⟨List.mem_of_getElem? (i := 8) (by decide +kernel), by decide +kernel⟩
theorem wd_9 : WD (.selects RX6 yX6_filtered yX6_filtered) := ⟨List.mem_of_getElem? (i := 9) (by decide +kernel), by decide +kernel⟩
theorem wd_10 : WD (.selects RX6 yX6_middle yX6_middle) := ⟨List.mem_of_getElem? (i := 10) (by decide +kernel), by decide +kernel⟩
theorem wd_11 : WD (.selects RX6 yX6_mean yX6_mean) := ⟨List.mem_of_getElem? (i := 11) (by decide +kernel), by decide +kernel⟩
theorem wd_12 : WD (.selects RX10 yX10_tableNumbered yX10_tableNumbered) := ⟨List.mem_of_getElem? (i := 12) (by decide +kernel), by decide +kernel⟩
theorem wd_13 : WD (.selects RX10 yX10_faultOf yX10_faultOf) := ⟨List.mem_of_getElem? (i := 13) (by decide +kernel), by decide +kernel⟩
theorem wd_14 : WD (.selects RX10 yX10_sensorsWithReadings yX10_sensorsWithReadings) := ⟨List.mem_of_getElem? (i := 14) (by decide +kernel), by decide +kernel⟩
theorem wd_15 : WD (.selects RX10 yX10_tablesMade yX10_tablesMade) := ⟨List.mem_of_getElem? (i := 15) (by decide +kernel), by decide +kernel⟩
theorem wd_16 : WD (.selects RX11 yX11_isReading yX11_isReading) := ⟨List.mem_of_getElem? (i := 16) (by decide +kernel), by decide +kernel⟩
theorem wd_17 : WD (.selects RX11 yX11_newCurve yX11_newCurve) := ⟨List.mem_of_getElem? (i := 17) (by decide +kernel), by decide +kernel⟩
theorem wd_18 : WD (.selects RX11 yX11_through yX11_through) := ⟨List.mem_of_getElem? (i := 18) (by decide +kernel), by decide +kernel⟩
theorem wd_19 : WD (.selects RX11 yX11_isCurve yX11_isCurve) := ⟨List.mem_of_getElem? (i := 19) (by decide +kernel), by decide +kernel⟩
theorem wd_20 : WD (.selects RX11 yX11_mayWork yX11_mayWork) := ⟨List.mem_of_getElem? (i := 20) (by decide +kernel), by decide +kernel⟩
theorem wd_21 : WD (.selects RX11 yX11_of yX11_of) := ⟨List.mem_of_getElem? (i := 21) (by decide +kernel), by decide +kernel⟩
theorem wd_22 : WD (.selects RX11 yX11_way yX11_way) := ⟨List.mem_of_getElem? (i := 22) (by decide +kernel), by decide +kernel⟩
theorem wd_23 : WD (.selects RX11 yX11_turning yX11_turning) := ⟨List.mem_of_getElem? (i := 23) (by decide +kernel), by decide +kernel⟩
theorem wd_24 : WD (.selects RX11 yX11_end yX11_end) := ⟨List.mem_of_getElem? (i := 24) (by decide +kernel), by decide +kernel⟩
theorem wd_25 : WD (.selects RX11 yX11_far yX11_far) := ⟨List.mem_of_getElem? (i := 25) (by decide +kernel), by decide +kernel⟩
theorem wd_26 : WD (.selects RX11 yX11_rest yX11_rest) := ⟨List.mem_of_getElem? (i := 26) (by decide +kernel), by decide +kernel⟩
theorem wd_27 : WD (.selects RX11 yX11_filtered yX11_filtered) := ⟨List.mem_of_getElem? (i := 27) (by decide +kernel), by decide +kernel⟩
theorem wd_28 : WD (.selects RX11 yX11_isTable yX11_isTable) := ⟨List.mem_of_getElem? (i := 28) (by decide +kernel), by decide +kernel⟩
theorem wd_29 : WD (.selects RX11 yX11_looked yX11_looked) := ⟨List.mem_of_getElem? (i := 29) (by decide +kernel), by decide +kernel⟩
theorem wd_30 : WD (.selects RX11 yX11_mostOff yX11_mostOff) := ⟨List.mem_of_getElem? (i := 30) (by decide +kernel), by decide +kernel⟩
theorem wd_31 : WD (.selects RX11 yX11_offBy yX11_offBy) := ⟨List.mem_of_getElem? (i := 31) (by decide +kernel), by decide +kernel⟩
theorem wd_33 : WD (.initialized RX10) := ⟨List.mem_of_getElem? (i := 33) (by decide +kernel), by decide +kernel⟩
theorem wd_34 : WD (.initialized RX0) := ⟨List.mem_of_getElem? (i := 34) (by decide +kernel), by decide +kernel⟩
theorem wd_35 : WD (.initialized RX3) := ⟨List.mem_of_getElem? (i := 35) (by decide +kernel), by decide +kernel⟩
theorem wd_36 : WD (.initialized RX8) := ⟨List.mem_of_getElem? (i := 36) (by decide +kernel), by decide +kernel⟩
theorem wd_37 : WD (.initialized RX6) := ⟨List.mem_of_getElem? (i := 37) (by decide +kernel), by decide +kernel⟩
theorem wd_38 : WD (.initialized RX11) := ⟨List.mem_of_getElem? (i := 38) (by decide +kernel), by decide +kernel⟩
theorem wd_39 : WD (.initialized RX1) := ⟨List.mem_of_getElem? (i := 39) (by decide +kernel), by decide +kernel⟩
theorem wd_40 : WD (.initialized RX4) := ⟨List.mem_of_getElem? (i := 40) (by decide +kernel), by decide +kernel⟩
theorem wd_41 : WD (.initialized RX5) := ⟨List.mem_of_getElem? (i := 41) (by decide +kernel), by decide +kernel⟩
theorem wd_42 : WD (.initialized RJ9) := ⟨List.mem_of_getElem? (i := 42) (by decide +kernel), by decide +kernel⟩
theorem wd_43 : WD (.initialized RX7) := ⟨List.mem_of_getElem? (i := 43) (by decide +kernel), by decide +kernel⟩
theorem wd_44 : WD (.initialized RX2) := ⟨List.mem_of_getElem? (i := 44) (by decide +kernel), by decide +kernel⟩
theorem wd_45 : WD (.initialized RX9) := ⟨List.mem_of_getElem? (i := 45) (by decide +kernel), by decide +kernel⟩
theorem wd_46 : WD (.classLink RL 7 RX10) := ⟨List.mem_of_getElem? (i := 46) (by decide +kernel), by decide +kernel⟩
theorem wd_47 : WD (.instantiable RX10 7) := ⟨List.mem_of_getElem? (i := 47) (by decide +kernel), by decide +kernel⟩
theorem wd_48 : WD (.methodLink RL 9 yX10_init) := ⟨List.mem_of_getElem? (i := 48) (by decide +kernel), by decide +kernel⟩
theorem wd_49 : WD (.instanceMethod yX10_init) := ⟨List.mem_of_getElem? (i := 49) (by decide +kernel), by decide +kernel⟩
theorem wd_50 : WD (.code yX10_init cX10_init 2 none) := ⟨List.mem_of_getElem? (i := 50) (by decide +kernel), by decide +kernel⟩
theorem wd_51 : WD (.methodLink RX10 1 Lib.objectInit) := ⟨List.mem_of_getElem? (i := 51) (by decide +kernel), by decide +kernel⟩
theorem wd_52 : WD (.instanceMethod Lib.objectInit) := ⟨List.mem_of_getElem? (i := 52) (by decide +kernel), by decide +kernel⟩
theorem wd_53 : WD (.code Lib.objectInit ⟨#[0xb1]⟩ 1 none) := ⟨List.mem_of_getElem? (i := 53) (by decide +kernel), by decide +kernel⟩
theorem wd_54 : WD (.classLink RX10 9 RX8) := ⟨List.mem_of_getElem? (i := 54) (by decide +kernel), by decide +kernel⟩
theorem wd_55 : WD (.arrayOver (.object RX8)) := ⟨List.mem_of_getElem? (i := 55) (by decide +kernel), by decide +kernel⟩
theorem wd_56 : WD (.classLink RX10 15 RX1) := ⟨List.mem_of_getElem? (i := 56) (by decide +kernel), by decide +kernel⟩
theorem wd_57 : WD (.arrayOver (.object RX1)) := ⟨List.mem_of_getElem? (i := 57) (by decide +kernel), by decide +kernel⟩
theorem wd_58 : WD (.classLink RX10 21 RX6) := ⟨List.mem_of_getElem? (i := 58) (by decide +kernel), by decide +kernel⟩
theorem wd_59 : WD (.arrayOver (.object RX6)) := ⟨List.mem_of_getElem? (i := 59) (by decide +kernel), by decide +kernel⟩
theorem wd_60 : WD (.classLink RX10 27 RX9) := ⟨List.mem_of_getElem? (i := 60) (by decide +kernel), by decide +kernel⟩
theorem wd_61 : WD (.arrayOver (.object RX9)) := ⟨List.mem_of_getElem? (i := 61) (by decide +kernel), by decide +kernel⟩
theorem wd_62 : WD (.classLink RX10 33 RX0) := ⟨List.mem_of_getElem? (i := 62) (by decide +kernel), by decide +kernel⟩
theorem wd_63 : WD (.instantiable RX0 9) := ⟨List.mem_of_getElem? (i := 63) (by decide +kernel), by decide +kernel⟩
theorem wd_64 : WD (.methodLink RX10 35 yX0_init) := ⟨List.mem_of_getElem? (i := 64) (by decide +kernel), by decide +kernel⟩
theorem wd_65 : WD (.instanceMethod yX0_init) := ⟨List.mem_of_getElem? (i := 65) (by decide +kernel), by decide +kernel⟩
theorem wd_66 : WD (.code yX0_init cX0_init 2 none) := ⟨List.mem_of_getElem? (i := 66) (by decide +kernel), by decide +kernel⟩
theorem wd_67 : WD (.methodLink RX0 3 Lib.objectInit) := ⟨List.mem_of_getElem? (i := 67) (by decide +kernel), by decide +kernel⟩
theorem wd_68 : WD (.fieldLink RX0 9 "CurveFoundry$Banks" "sizes" "[I") := ⟨List.mem_of_getElem? (i := 68) (by decide +kernel), by decide +kernel⟩
theorem wd_69 : WD (.fieldLink RX0 15 "CurveFoundry$Banks" "bytes" "[B") := ⟨List.mem_of_getElem? (i := 69) (by decide +kernel), by decide +kernel⟩
theorem wd_70 : WD (.fieldLink RX0 19 "CurveFoundry$Banks" "chars" "[C") := ⟨List.mem_of_getElem? (i := 70) (by decide +kernel), by decide +kernel⟩
theorem wd_71 : WD (.fieldLink RX0 23 "CurveFoundry$Banks" "shorts" "[S") := ⟨List.mem_of_getElem? (i := 71) (by decide +kernel), by decide +kernel⟩
theorem wd_72 : WD (.fieldLink RX0 27 "CurveFoundry$Banks" "ints" "[I") := ⟨List.mem_of_getElem? (i := 72) (by decide +kernel), by decide +kernel⟩
theorem wd_73 : WD (.fieldLink RX0 30 "CurveFoundry$Banks" "longs" "[J") := ⟨List.mem_of_getElem? (i := 73) (by decide +kernel), by decide +kernel⟩
theorem wd_74 : WD (.fieldLink RX0 34 "CurveFoundry$Banks" "floats" "[F") := ⟨List.mem_of_getElem? (i := 74) (by decide +kernel), by decide +kernel⟩
theorem wd_75 : WD (.fieldLink RX0 38 "CurveFoundry$Banks" "doubles" "[D") := ⟨List.mem_of_getElem? (i := 75) (by decide +kernel), by decide +kernel⟩
theorem wd_76 : WD (.fieldLink RX0 42 "CurveFoundry$Banks" "booleans" "[Z") := ⟨List.mem_of_getElem? (i := 76) (by decide +kernel), by decide +kernel⟩
theorem wd_96 : WD (.arrayClass .int) := ⟨List.mem_of_getElem? (i := 96) (by decide +kernel), by decide +kernel⟩
theorem wd_97 : WD (.arrayClass .byte) := ⟨List.mem_of_getElem? (i := 97) (by decide +kernel), by decide +kernel⟩
theorem wd_98 : WD (.arrayClass .char) := ⟨List.mem_of_getElem? (i := 98) (by decide +kernel), by decide +kernel⟩
theorem wd_99 : WD (.arrayClass .short) := ⟨List.mem_of_getElem? (i := 99) (by decide +kernel), by decide +kernel⟩
theorem wd_100 : WD (.arrayClass .long) := ⟨List.mem_of_getElem? (i := 100) (by decide +kernel), by decide +kernel⟩
theorem wd_101 : WD (.arrayClass .float) := ⟨List.mem_of_getElem? (i := 101) (by decide +kernel), by decide +kernel⟩
theorem wd_102 : WD (.arrayClass .double) := ⟨List.mem_of_getElem? (i := 102) (by decide +kernel), by decide +kernel⟩
theorem wd_103 : WD (.arrayClass .boolean) := ⟨List.mem_of_getElem? (i := 103) (by decide +kernel), by decide +kernel⟩
theorem wd_104 : WD (.classLink RX10 40 RX3) := ⟨List.mem_of_getElem? (i := 104) (by decide +kernel), by decide +kernel⟩
theorem wd_105 : WD (.instantiable RX3 3) := ⟨List.mem_of_getElem? (i := 105) (by decide +kernel), by decide +kernel⟩
theorem wd_106 : WD (.methodLinkNest RX10 42 yX3_init "CurveFoundry") := ⟨List.mem_of_getElem? (i := 106) (by decide +kernel), by decide +kernel⟩
theorem wd_107 : WD (.instanceMethod yX3_init) := ⟨List.mem_of_getElem? (i := 107) (by decide +kernel), by decide +kernel⟩
theorem wd_108 : WD (.code yX3_init cX3_init 1 none) := ⟨List.mem_of_getElem? (i := 108) (by decide +kernel), by decide +kernel⟩
theorem wd_109 : WD (.methodLink RX3 3 Lib.objectInit) := ⟨List.mem_of_getElem? (i := 109) (by decide +kernel), by decide +kernel⟩
theorem wd_110 : WD (.fieldLink RX3 9 "CurveFoundry$Knots" "counts" "[I") := ⟨List.mem_of_getElem? (i := 110) (by decide +kernel), by decide +kernel⟩
theorem wd_111 : WD (.fieldLink RX3 15 "CurveFoundry$Knots" "values" "[I") := ⟨List.mem_of_getElem? (i := 111) (by decide +kernel), by decide +kernel⟩
theorem wd_112 : WD (.fieldLink RX3 18 "CurveFoundry$Knots" "size" "I") := ⟨List.mem_of_getElem? (i := 112) (by decide +kernel), by decide +kernel⟩
theorem wd_113 : WD (.fieldLinkNest RX10 98 "CurveFoundry$Knots" "size" "I" "CurveFoundry") := ⟨List.mem_of_getElem? (i := 113) (by decide +kernel), by decide +kernel⟩
theorem wd_121 : WD (.instantiable RX8 4) := ⟨List.mem_of_getElem? (i := 121) (by decide +kernel), by decide +kernel⟩
theorem wd_122 : WD (.methodLinkNest RX10 51 yX8_init "CurveFoundry") := ⟨List.mem_of_getElem? (i := 122) (by decide +kernel), by decide +kernel⟩
theorem wd_123 : WD (.instanceMethod yX8_init) := ⟨List.mem_of_getElem? (i := 123) (by decide +kernel), by decide +kernel⟩
theorem wd_124 : WD (.code yX8_init cX8_init 1 none) := ⟨List.mem_of_getElem? (i := 124) (by decide +kernel), by decide +kernel⟩
theorem wd_125 : WD (.methodLink RX8 3 Lib.objectInit) := ⟨List.mem_of_getElem? (i := 125) (by decide +kernel), by decide +kernel⟩
theorem wd_126 : WD (.fieldLink RX8 9 "CurveFoundry$Sensor" "counts" "[I") := ⟨List.mem_of_getElem? (i := 126) (by decide +kernel), by decide +kernel⟩
theorem wd_127 : WD (.fieldLink RX8 15 "CurveFoundry$Sensor" "references" "[I") := ⟨List.mem_of_getElem? (i := 127) (by decide +kernel), by decide +kernel⟩
theorem wd_128 : WD (.fieldLink RX8 18 "CurveFoundry$Sensor" "weights" "[I") := ⟨List.mem_of_getElem? (i := 128) (by decide +kernel), by decide +kernel⟩
theorem wd_129 : WD (.fieldLink RX8 21 "CurveFoundry$Sensor" "size" "I") := ⟨List.mem_of_getElem? (i := 129) (by decide +kernel), by decide +kernel⟩
theorem wd_130 : WD (.fieldLinkNest RX10 65 "CurveFoundry$Sensor" "size" "I" "CurveFoundry") := ⟨List.mem_of_getElem? (i := 130) (by decide +kernel), by decide +kernel⟩
theorem wd_140 : WD (.instantiable RX6 7) := ⟨List.mem_of_getElem? (i := 140) (by decide +kernel), by decide +kernel⟩
theorem wd_141 : WD (.methodLinkNest RX10 52 yX6_init "CurveFoundry") := ⟨List.mem_of_getElem? (i := 141) (by decide +kernel), by decide +kernel⟩
theorem wd_142 : WD (.instanceMethod yX6_init) := ⟨List.mem_of_getElem? (i := 142) (by decide +kernel), by decide +kernel⟩
theorem wd_143 : WD (.code yX6_init cX6_init 1 none) := ⟨List.mem_of_getElem? (i := 143) (by decide +kernel), by decide +kernel⟩
theorem wd_144 : WD (.methodLink RX6 3 Lib.objectInit) := ⟨List.mem_of_getElem? (i := 144) (by decide +kernel), by decide +kernel⟩
theorem wd_145 : WD (.fieldLink RX6 9 "CurveFoundry$Probe" "fed" "[I") := ⟨List.mem_of_getElem? (i := 145) (by decide +kernel), by decide +kernel⟩
theorem wd_146 : WD (.fieldLink RX6 15 "CurveFoundry$Probe" "bySize" "[I") := ⟨List.mem_of_getElem? (i := 146) (by decide +kernel), by decide +kernel⟩
theorem wd_147 : WD (.fieldLink RX6 18 "CurveFoundry$Probe" "curve" "LCurveFoundry$Curve;") := ⟨List.mem_of_getElem? (i := 147) (by decide +kernel), by decide +kernel⟩
theorem wd_148 : WD (.fieldLink RX6 22 "CurveFoundry$Probe" "filter" "I") := ⟨List.mem_of_getElem? (i := 148) (by decide +kernel), by decide +kernel⟩
theorem wd_149 : WD (.fieldLink RX6 26 "CurveFoundry$Probe" "window" "I") := ⟨List.mem_of_getElem? (i := 149) (by decide +kernel), by decide +kernel⟩
theorem wd_150 : WD (.fieldLink RX6 29 "CurveFoundry$Probe" "size" "I") := ⟨List.mem_of_getElem? (i := 150) (by decide +kernel), by decide +kernel⟩
theorem wd_151 : WD (.fieldLink RX6 32 "CurveFoundry$Probe" "given" "I") := ⟨List.mem_of_getElem? (i := 151) (by decide +kernel), by decide +kernel⟩
theorem wd_167 : WD (.fieldLink RX10 11 "CurveFoundry" "sensors" "[LCurveFoundry$Sensor;") := ⟨List.mem_of_getElem? (i := 167) (by decide +kernel), by decide +kernel⟩
theorem wd_168 : WD (.fieldLink RX10 17 "CurveFoundry" "curves" "[LCurveFoundry$Curve;") := ⟨List.mem_of_getElem? (i := 168) (by decide +kernel), by decide +kernel⟩
theorem wd_169 : WD (.fieldLink RX10 23 "CurveFoundry" "probes" "[LCurveFoundry$Probe;") := ⟨List.mem_of_getElem? (i := 169) (by decide +kernel), by decide +kernel⟩
theorem wd_170 : WD (.fieldLink RX10 29 "CurveFoundry" "tables" "[LCurveFoundry$Table;") := ⟨List.mem_of_getElem? (i := 170) (by decide +kernel), by decide +kernel⟩
theorem wd_171 : WD (.fieldLink RX10 36 "CurveFoundry" "banks" "LCurveFoundry$Banks;") := ⟨List.mem_of_getElem? (i := 171) (by decide +kernel), by decide +kernel⟩
theorem wd_172 : WD (.fieldLink RX10 43 "CurveFoundry" "told" "LCurveFoundry$Knots;") := ⟨List.mem_of_getElem? (i := 172) (by decide +kernel), by decide +kernel⟩
theorem wd_173 : WD (.fieldLink RX10 47 "CurveFoundry" "curveCount" "I") := ⟨List.mem_of_getElem? (i := 173) (by decide +kernel), by decide +kernel⟩
theorem wd_189 : WD (.methodLink RL 13 yX10_reading) := ⟨List.mem_of_getElem? (i := 189) (by decide +kernel), by decide +kernel⟩
theorem wd_190 : WD (.instanceMethod yX10_reading) := ⟨List.mem_of_getElem? (i := 190) (by decide +kernel), by decide +kernel⟩
theorem wd_191 : WD (.selects RX10 yX10_reading yX10_reading) := ⟨List.mem_of_getElem? (i := 191) (by decide +kernel), by decide +kernel⟩
theorem wd_192 : WD (.code yX10_reading cX10_reading 6 (some .int)) := ⟨List.mem_of_getElem? (i := 192) (by decide +kernel), by decide +kernel⟩
theorem wd_193 : WD (.methodLink RX10 53 yX10_sensorNumbered) := ⟨List.mem_of_getElem? (i := 193) (by decide +kernel), by decide +kernel⟩
theorem wd_195 : WD (.instanceMethod yX10_sensorNumbered) := ⟨List.mem_of_getElem? (i := 195) (by decide +kernel), by decide +kernel⟩
theorem wd_196 : WD (.code yX10_sensorNumbered cX10_sensorNumbered 2 (some (.object "CurveFoundry$Sensor"))) := ⟨List.mem_of_getElem? (i := 196) (by decide +kernel), by decide +kernel⟩
theorem wd_197 : WD (.methodLink RX10 57 yX10_isCount) := ⟨List.mem_of_getElem? (i := 197) (by decide +kernel), by decide +kernel⟩
theorem wd_198 : WD (.static yX10_isCount) := ⟨List.mem_of_getElem? (i := 198) (by decide +kernel), by decide +kernel⟩
theorem wd_199 : WD (.code yX10_isCount cX10_isCount 1 (some .boolean)) := ⟨List.mem_of_getElem? (i := 199) (by decide +kernel), by decide +kernel⟩
theorem wd_200 : WD (.methodLink RX10 61 yX10_isWithin) := ⟨List.mem_of_getElem? (i := 200) (by decide +kernel), by decide +kernel⟩
theorem wd_201 : WD (.static yX10_isWithin) := ⟨List.mem_of_getElem? (i := 201) (by decide +kernel), by decide +kernel⟩
theorem wd_202 : WD (.code yX10_isWithin cX10_isWithin 2 (some .boolean)) := ⟨List.mem_of_getElem? (i := 202) (by decide +kernel), by decide +kernel⟩
theorem wd_203 : WD (.methodLink RX10 68 yX8_add) := ⟨List.mem_of_getElem? (i := 203) (by decide +kernel), by decide +kernel⟩
theorem wd_204 : WD (.instanceMethod yX8_add) := ⟨List.mem_of_getElem? (i := 204) (by decide +kernel), by decide +kernel⟩
theorem wd_205 : WD (.selects RX8 yX8_add yX8_add) := ⟨List.mem_of_getElem? (i := 205) (by decide +kernel), by decide +kernel⟩
theorem wd_206 : WD (.code yX8_add cX8_add 4 none) := ⟨List.mem_of_getElem? (i := 206) (by decide +kernel), by decide +kernel⟩
theorem wd_207 : WD (.methodLink RL 18 yX10_drop) := ⟨List.mem_of_getElem? (i := 207) (by decide +kernel), by decide +kernel⟩
theorem wd_208 : WD (.instanceMethod yX10_drop) := ⟨List.mem_of_getElem? (i := 208) (by decide +kernel), by decide +kernel⟩
theorem wd_209 : WD (.selects RX10 yX10_drop yX10_drop) := ⟨List.mem_of_getElem? (i := 209) (by decide +kernel), by decide +kernel⟩
theorem wd_210 : WD (.code yX10_drop cX10_drop 4 (some .int)) := ⟨List.mem_of_getElem? (i := 210) (by decide +kernel), by decide +kernel⟩
theorem wd_211 : WD (.methodLink RX10 72 yX8_has) := ⟨List.mem_of_getElem? (i := 211) (by decide +kernel), by decide +kernel⟩
theorem wd_212 : WD (.instanceMethod yX8_has) := ⟨List.mem_of_getElem? (i := 212) (by decide +kernel), by decide +kernel⟩
theorem wd_213 : WD (.selects RX8 yX8_has yX8_has) := ⟨List.mem_of_getElem? (i := 213) (by decide +kernel), by decide +kernel⟩
theorem wd_214 : WD (.code yX8_has cX8_has 2 (some .boolean)) := ⟨List.mem_of_getElem? (i := 214) (by decide +kernel), by decide +kernel⟩
theorem wd_215 : WD (.methodLink RX10 75 yX8_remove) := ⟨List.mem_of_getElem? (i := 215) (by decide +kernel), by decide +kernel⟩
theorem wd_216 : WD (.instanceMethod yX8_remove) := ⟨List.mem_of_getElem? (i := 216) (by decide +kernel), by decide +kernel⟩
theorem wd_217 : WD (.selects RX8 yX8_remove yX8_remove) := ⟨List.mem_of_getElem? (i := 217) (by decide +kernel), by decide +kernel⟩
theorem wd_218 : WD (.code yX8_remove cX8_remove 3 none) := ⟨List.mem_of_getElem? (i := 218) (by decide +kernel), by decide +kernel⟩
theorem wd_219 : WD (.methodLink RL 152 yX10_readings) := ⟨List.mem_of_getElem? (i := 219) (by decide +kernel), by decide +kernel⟩
theorem wd_220 : WD (.instanceMethod yX10_readings) := ⟨List.mem_of_getElem? (i := 220) (by decide +kernel), by decide +kernel⟩
theorem wd_221 : WD (.selects RX10 yX10_readings yX10_readings) := ⟨List.mem_of_getElem? (i := 221) (by decide +kernel), by decide +kernel⟩
theorem wd_222 : WD (.code yX10_readings cX10_readings 3 (some .int)) := ⟨List.mem_of_getElem? (i := 222) (by decide +kernel), by decide +kernel⟩
theorem wd_223 : WD (.methodLink RL 23 yX10_line) := ⟨List.mem_of_getElem? (i := 223) (by decide +kernel), by decide +kernel⟩
theorem wd_224 : WD (.instanceMethod yX10_line) := ⟨List.mem_of_getElem? (i := 224) (by decide +kernel), by decide +kernel⟩
theorem wd_225 : WD (.selects RX10 yX10_line yX10_line) := ⟨List.mem_of_getElem? (i := 225) (by decide +kernel), by decide +kernel⟩
theorem wd_226 : WD (.code yX10_line cX10_line 3 (some .int)) := ⟨List.mem_of_getElem? (i := 226) (by decide +kernel), by decide +kernel⟩
theorem wd_227 : WD (.methodLink RX10 79 yX10_hasRoomFor) := ⟨List.mem_of_getElem? (i := 227) (by decide +kernel), by decide +kernel⟩
theorem wd_229 : WD (.instanceMethod yX10_hasRoomFor) := ⟨List.mem_of_getElem? (i := 229) (by decide +kernel), by decide +kernel⟩
theorem wd_230 : WD (.code yX10_hasRoomFor cX10_hasRoomFor 2 (some .boolean)) := ⟨List.mem_of_getElem? (i := 230) (by decide +kernel), by decide +kernel⟩
theorem wd_231 : WD (.methodLink RX10 82 yX8_hasTwoCounts) := ⟨List.mem_of_getElem? (i := 231) (by decide +kernel), by decide +kernel⟩
theorem wd_232 : WD (.instanceMethod yX8_hasTwoCounts) := ⟨List.mem_of_getElem? (i := 232) (by decide +kernel), by decide +kernel⟩
theorem wd_233 : WD (.selects RX8 yX8_hasTwoCounts yX8_hasTwoCounts) := ⟨List.mem_of_getElem? (i := 233) (by decide +kernel), by decide +kernel⟩
theorem wd_234 : WD (.code yX8_hasTwoCounts cX8_hasTwoCounts 2 (some .boolean)) := ⟨List.mem_of_getElem? (i := 234) (by decide +kernel), by decide +kernel⟩
theorem wd_235 : WD (.methodLink RX10 86 yX8_fitted) := ⟨List.mem_of_getElem? (i := 235) (by decide +kernel), by decide +kernel⟩
theorem wd_236 : WD (.instanceMethod yX8_fitted) := ⟨List.mem_of_getElem? (i := 236) (by decide +kernel), by decide +kernel⟩
theorem wd_237 : WD (.selects RX8 yX8_fitted yX8_fitted) := ⟨List.mem_of_getElem? (i := 237) (by decide +kernel), by decide +kernel⟩
theorem wd_238 : WD (.code yX8_fitted cX8_fitted 16 (some (.object "CurveFoundry$Curve"))) := ⟨List.mem_of_getElem? (i := 238) (by decide +kernel), by decide +kernel⟩
theorem wd_239 : WD (.classLink RX8 25 RX4) := ⟨List.mem_of_getElem? (i := 239) (by decide +kernel), by decide +kernel⟩
theorem wd_240 : WD (.instantiable RX4 7) := ⟨List.mem_of_getElem? (i := 240) (by decide +kernel), by decide +kernel⟩
theorem wd_241 : WD (.methodLink RX8 27 yX4_init) := ⟨List.mem_of_getElem? (i := 241) (by decide +kernel), by decide +kernel⟩
theorem wd_242 : WD (.instanceMethod yX4_init) := ⟨List.mem_of_getElem? (i := 242) (by decide +kernel), by decide +kernel⟩
theorem wd_243 : WD (.code yX4_init cX4_init 7 none) := ⟨List.mem_of_getElem? (i := 243) (by decide +kernel), by decide +kernel⟩
theorem wd_244 : WD (.methodLink RX4 3 yX1_init) := ⟨List.mem_of_getElem? (i := 244) (by decide +kernel), by decide +kernel⟩
theorem wd_245 : WD (.instanceMethod yX1_init) := ⟨List.mem_of_getElem? (i := 245) (by decide +kernel), by decide +kernel⟩
theorem wd_246 : WD (.code yX1_init cX1_init 3 none) := ⟨List.mem_of_getElem? (i := 246) (by decide +kernel), by decide +kernel⟩
theorem wd_247 : WD (.methodLink RX1 3 Lib.objectInit) := ⟨List.mem_of_getElem? (i := 247) (by decide +kernel), by decide +kernel⟩
theorem wd_248 : WD (.fieldLink RX4 9 "CurveFoundry$Line" "atZero" "J") := ⟨List.mem_of_getElem? (i := 248) (by decide +kernel), by decide +kernel⟩
theorem wd_249 : WD (.fieldLink RX4 15 "CurveFoundry$Line" "perCount" "J") := ⟨List.mem_of_getElem? (i := 249) (by decide +kernel), by decide +kernel⟩
theorem wd_250 : WD (.fieldLink RX4 18 "CurveFoundry$Line" "divisor" "J") := ⟨List.mem_of_getElem? (i := 250) (by decide +kernel), by decide +kernel⟩
theorem wd_251 : WD (.fieldLink RX1 19 "CurveFoundry$Curve" "sort" "I") := ⟨List.mem_of_getElem? (i := 251) (by decide +kernel), by decide +kernel⟩
theorem wd_252 : WD (.fieldLinkNest RX10 130 "CurveFoundry$Curve" "sort" "I" "CurveFoundry") := ⟨List.mem_of_getElem? (i := 252) (by decide +kernel), by decide +kernel⟩
theorem wd_253 : WD (.fieldLinkNest RX7 3 "CurveFoundry$Curve" "work" "I" "CurveFoundry") := ⟨List.mem_of_getElem? (i := 253) (by decide +kernel), by decide +kernel⟩
theorem wd_254 : WD (.fieldLink RX1 23 "CurveFoundry$Curve" "work" "I") := ⟨List.mem_of_getElem? (i := 254) (by decide +kernel), by decide +kernel⟩
theorem wd_255 : WD (.fieldLinkNest RX10 117 "CurveFoundry$Curve" "work" "I" "CurveFoundry") := ⟨List.mem_of_getElem? (i := 255) (by decide +kernel), by decide +kernel⟩
theorem wd_256 : WD (.fieldLink RX1 9 "CurveFoundry$Curve" "row" "[I") := ⟨List.mem_of_getElem? (i := 256) (by decide +kernel), by decide +kernel⟩
theorem wd_257 : WD (.fieldLink RX1 15 "CurveFoundry$Curve" "form" "LCurveFoundry$Form;") := ⟨List.mem_of_getElem? (i := 257) (by decide +kernel), by decide +kernel⟩
theorem wd_273 : WD (.methodLink RX10 90 yX10_keep) := ⟨List.mem_of_getElem? (i := 273) (by decide +kernel), by decide +kernel⟩
theorem wd_275 : WD (.instanceMethod yX10_keep) := ⟨List.mem_of_getElem? (i := 275) (by decide +kernel), by decide +kernel⟩
theorem wd_276 : WD (.code yX10_keep cX10_keep 2 (some .int)) := ⟨List.mem_of_getElem? (i := 276) (by decide +kernel), by decide +kernel⟩
theorem wd_277 : WD (.methodLink RL 28 yX10_knot) := ⟨List.mem_of_getElem? (i := 277) (by decide +kernel), by decide +kernel⟩
theorem wd_278 : WD (.instanceMethod yX10_knot) := ⟨List.mem_of_getElem? (i := 278) (by decide +kernel), by decide +kernel⟩
theorem wd_279 : WD (.selects RX10 yX10_knot yX10_knot) := ⟨List.mem_of_getElem? (i := 279) (by decide +kernel), by decide +kernel⟩
theorem wd_280 : WD (.code yX10_knot cX10_knot 3 (some .int)) := ⟨List.mem_of_getElem? (i := 280) (by decide +kernel), by decide +kernel⟩
theorem wd_281 : WD (.methodLink RX10 94 yX3_lastCount) := ⟨List.mem_of_getElem? (i := 281) (by decide +kernel), by decide +kernel⟩
theorem wd_282 : WD (.instanceMethod yX3_lastCount) := ⟨List.mem_of_getElem? (i := 282) (by decide +kernel), by decide +kernel⟩
theorem wd_283 : WD (.selects RX3 yX3_lastCount yX3_lastCount) := ⟨List.mem_of_getElem? (i := 283) (by decide +kernel), by decide +kernel⟩
theorem wd_284 : WD (.code yX3_lastCount cX3_lastCount 1 (some .int)) := ⟨List.mem_of_getElem? (i := 284) (by decide +kernel), by decide +kernel⟩
theorem wd_285 : WD (.methodLink RX10 99 yX3_add) := ⟨List.mem_of_getElem? (i := 285) (by decide +kernel), by decide +kernel⟩
theorem wd_286 : WD (.instanceMethod yX3_add) := ⟨List.mem_of_getElem? (i := 286) (by decide +kernel), by decide +kernel⟩
theorem wd_287 : WD (.selects RX3 yX3_add yX3_add) := ⟨List.mem_of_getElem? (i := 287) (by decide +kernel), by decide +kernel⟩
theorem wd_288 : WD (.code yX3_add cX3_add 3 none) := ⟨List.mem_of_getElem? (i := 288) (by decide +kernel), by decide +kernel⟩
theorem wd_289 : WD (.methodLink RL 32 yX10_hush) := ⟨List.mem_of_getElem? (i := 289) (by decide +kernel), by decide +kernel⟩
theorem wd_290 : WD (.instanceMethod yX10_hush) := ⟨List.mem_of_getElem? (i := 290) (by decide +kernel), by decide +kernel⟩
theorem wd_291 : WD (.selects RX10 yX10_hush yX10_hush) := ⟨List.mem_of_getElem? (i := 291) (by decide +kernel), by decide +kernel⟩
theorem wd_292 : WD (.code yX10_hush cX10_hush 2 (some .int)) := ⟨List.mem_of_getElem? (i := 292) (by decide +kernel), by decide +kernel⟩
theorem wd_293 : WD (.methodLink RL 37 yX10_pieces) := ⟨List.mem_of_getElem? (i := 293) (by decide +kernel), by decide +kernel⟩
theorem wd_294 : WD (.instanceMethod yX10_pieces) := ⟨List.mem_of_getElem? (i := 294) (by decide +kernel), by decide +kernel⟩
theorem wd_295 : WD (.selects RX10 yX10_pieces yX10_pieces) := ⟨List.mem_of_getElem? (i := 295) (by decide +kernel), by decide +kernel⟩
theorem wd_296 : WD (.code yX10_pieces cX10_pieces 2 (some .int)) := ⟨List.mem_of_getElem? (i := 296) (by decide +kernel), by decide +kernel⟩
theorem wd_297 : WD (.classLink RX10 102 RX5) := ⟨List.mem_of_getElem? (i := 297) (by decide +kernel), by decide +kernel⟩
theorem wd_298 : WD (.instantiable RX5 5) := ⟨List.mem_of_getElem? (i := 298) (by decide +kernel), by decide +kernel⟩
theorem wd_299 : WD (.methodLink RX10 104 yX5_init) := ⟨List.mem_of_getElem? (i := 299) (by decide +kernel), by decide +kernel⟩
theorem wd_300 : WD (.instanceMethod yX5_init) := ⟨List.mem_of_getElem? (i := 300) (by decide +kernel), by decide +kernel⟩
theorem wd_301 : WD (.code yX5_init cX5_init 2 none) := ⟨List.mem_of_getElem? (i := 301) (by decide +kernel), by decide +kernel⟩
theorem wd_302 : WD (.methodLink RX5 3 yX1_init) := ⟨List.mem_of_getElem? (i := 302) (by decide +kernel), by decide +kernel⟩
theorem wd_303 : WD (.fieldLink RX5 9 "CurveFoundry$Pieces" "knots" "LCurveFoundry$Knots;") := ⟨List.mem_of_getElem? (i := 303) (by decide +kernel), by decide +kernel⟩
theorem wd_311 : WD (.methodLink RL 41 yX10_gather) := ⟨List.mem_of_getElem? (i := 311) (by decide +kernel), by decide +kernel⟩
theorem wd_312 : WD (.instanceMethod yX10_gather) := ⟨List.mem_of_getElem? (i := 312) (by decide +kernel), by decide +kernel⟩
theorem wd_313 : WD (.selects RX10 yX10_gather yX10_gather) := ⟨List.mem_of_getElem? (i := 313) (by decide +kernel), by decide +kernel⟩
theorem wd_314 : WD (.code yX10_gather cX10_gather 3 (some .int)) := ⟨List.mem_of_getElem? (i := 314) (by decide +kernel), by decide +kernel⟩
theorem wd_315 : WD (.methodLink RX10 107 yX8_tellMeans) := ⟨List.mem_of_getElem? (i := 315) (by decide +kernel), by decide +kernel⟩
theorem wd_316 : WD (.instanceMethod yX8_tellMeans) := ⟨List.mem_of_getElem? (i := 316) (by decide +kernel), by decide +kernel⟩
theorem wd_317 : WD (.selects RX8 yX8_tellMeans yX8_tellMeans) := ⟨List.mem_of_getElem? (i := 317) (by decide +kernel), by decide +kernel⟩
theorem wd_318 : WD (.code yX8_tellMeans cX8_tellMeans 5 none) := ⟨List.mem_of_getElem? (i := 318) (by decide +kernel), by decide +kernel⟩
theorem wd_319 : WD (.methodLink RX8 30 yX8_leastCountAbove) := ⟨List.mem_of_getElem? (i := 319) (by decide +kernel), by decide +kernel⟩
theorem wd_321 : WD (.instanceMethod yX8_leastCountAbove) := ⟨List.mem_of_getElem? (i := 321) (by decide +kernel), by decide +kernel⟩
theorem wd_322 : WD (.code yX8_leastCountAbove cX8_leastCountAbove 4 (some .int)) := ⟨List.mem_of_getElem? (i := 322) (by decide +kernel), by decide +kernel⟩
theorem wd_323 : WD (.methodLink RX8 34 yX8_meanReference) := ⟨List.mem_of_getElem? (i := 323) (by decide +kernel), by decide +kernel⟩
theorem wd_325 : WD (.instanceMethod yX8_meanReference) := ⟨List.mem_of_getElem? (i := 325) (by decide +kernel), by decide +kernel⟩
theorem wd_326 : WD (.code yX8_meanReference cX8_meanReference 7 (some .int)) := ⟨List.mem_of_getElem? (i := 326) (by decide +kernel), by decide +kernel⟩
theorem wd_327 : WD (.methodLinkNest RX8 43 yX10_rounded "CurveFoundry") := ⟨List.mem_of_getElem? (i := 327) (by decide +kernel), by decide +kernel⟩
theorem wd_328 : WD (.static yX10_rounded) := ⟨List.mem_of_getElem? (i := 328) (by decide +kernel), by decide +kernel⟩
theorem wd_329 : WD (.code yX10_rounded cX10_rounded 9 (some .long)) := ⟨List.mem_of_getElem? (i := 329) (by decide +kernel), by decide +kernel⟩
theorem wd_330 : WD (.methodLink RX10 274 yJ9_floorDiv_f86c9) := ⟨List.mem_of_getElem? (i := 330) (by decide +kernel), by decide +kernel⟩
theorem wd_331 : WD (.static yJ9_floorDiv_f86c9) := ⟨List.mem_of_getElem? (i := 331) (by decide +kernel), by decide +kernel⟩
theorem wd_332 : WD (.code yJ9_floorDiv_f86c9 cJ9_floorDiv_f86c9 6 (some .long)) := ⟨List.mem_of_getElem? (i := 332) (by decide +kernel), by decide +kernel⟩
theorem wd_333 : WD (.constantLong RX10 277 (2)) := ⟨List.mem_of_getElem? (i := 333) (by decide +kernel), by decide +kernel⟩
theorem wd_334 : WD (.methodLink RX8 37 yX3_add) := ⟨List.mem_of_getElem? (i := 334) (by decide +kernel), by decide +kernel⟩
theorem wd_335 : WD (.methodLink RL 45 yX10_clamp) := ⟨List.mem_of_getElem? (i := 335) (by decide +kernel), by decide +kernel⟩
theorem wd_336 : WD (.instanceMethod yX10_clamp) := ⟨List.mem_of_getElem? (i := 336) (by decide +kernel), by decide +kernel⟩
theorem wd_337 : WD (.selects RX10 yX10_clamp yX10_clamp) := ⟨List.mem_of_getElem? (i := 337) (by decide +kernel), by decide +kernel⟩
theorem wd_338 : WD (.code yX10_clamp cX10_clamp 5 (some .int)) := ⟨List.mem_of_getElem? (i := 338) (by decide +kernel), by decide +kernel⟩
theorem wd_339 : WD (.methodLink RX10 110 yX10_curveNumbered) := ⟨List.mem_of_getElem? (i := 339) (by decide +kernel), by decide +kernel⟩
theorem wd_341 : WD (.instanceMethod yX10_curveNumbered) := ⟨List.mem_of_getElem? (i := 341) (by decide +kernel), by decide +kernel⟩
theorem wd_342 : WD (.code yX10_curveNumbered cX10_curveNumbered 2 (some (.object "CurveFoundry$Curve"))) := ⟨List.mem_of_getElem? (i := 342) (by decide +kernel), by decide +kernel⟩
theorem wd_343 : WD (.methodLink RX10 114 yX10_isValue) := ⟨List.mem_of_getElem? (i := 343) (by decide +kernel), by decide +kernel⟩
theorem wd_344 : WD (.static yX10_isValue) := ⟨List.mem_of_getElem? (i := 344) (by decide +kernel), by decide +kernel⟩
theorem wd_345 : WD (.code yX10_isValue cX10_isValue 1 (some .boolean)) := ⟨List.mem_of_getElem? (i := 345) (by decide +kernel), by decide +kernel⟩
theorem wd_346 : WD (.constant RX10 255 (1000000)) := ⟨List.mem_of_getElem? (i := 346) (by decide +kernel), by decide +kernel⟩
theorem wd_347 : WD (.classLink RX10 120 RX7) := ⟨List.mem_of_getElem? (i := 347) (by decide +kernel), by decide +kernel⟩
theorem wd_348 : WD (.instantiable RX7 10) := ⟨List.mem_of_getElem? (i := 348) (by decide +kernel), by decide +kernel⟩
theorem wd_349 : WD (.methodLink RX10 122 yX7_init) := ⟨List.mem_of_getElem? (i := 349) (by decide +kernel), by decide +kernel⟩
theorem wd_350 : WD (.instanceMethod yX7_init) := ⟨List.mem_of_getElem? (i := 350) (by decide +kernel), by decide +kernel⟩
theorem wd_351 : WD (.code yX7_init cX7_init 7 none) := ⟨List.mem_of_getElem? (i := 351) (by decide +kernel), by decide +kernel⟩
theorem wd_352 : WD (.methodLink RX7 9 yX1_init) := ⟨List.mem_of_getElem? (i := 352) (by decide +kernel), by decide +kernel⟩
theorem wd_353 : WD (.fieldLink RX7 13 "CurveFoundry$Remade" "how" "I") := ⟨List.mem_of_getElem? (i := 353) (by decide +kernel), by decide +kernel⟩
theorem wd_354 : WD (.fieldLink RX7 18 "CurveFoundry$Remade" "of" "LCurveFoundry$Curve;") := ⟨List.mem_of_getElem? (i := 354) (by decide +kernel), by decide +kernel⟩
theorem wd_355 : WD (.fieldLink RX7 22 "CurveFoundry$Remade" "outer" "LCurveFoundry$Curve;") := ⟨List.mem_of_getElem? (i := 355) (by decide +kernel), by decide +kernel⟩
theorem wd_356 : WD (.fieldLink RX7 25 "CurveFoundry$Remade" "first" "I") := ⟨List.mem_of_getElem? (i := 356) (by decide +kernel), by decide +kernel⟩
theorem wd_357 : WD (.fieldLink RX7 28 "CurveFoundry$Remade" "second" "I") := ⟨List.mem_of_getElem? (i := 357) (by decide +kernel), by decide +kernel⟩
theorem wd_358 : WD (.fieldLink RX7 31 "CurveFoundry$Remade" "third" "I") := ⟨List.mem_of_getElem? (i := 358) (by decide +kernel), by decide +kernel⟩
theorem wd_376 : WD (.methodLink RL 50 yX10_dead) := ⟨List.mem_of_getElem? (i := 376) (by decide +kernel), by decide +kernel⟩
theorem wd_377 : WD (.instanceMethod yX10_dead) := ⟨List.mem_of_getElem? (i := 377) (by decide +kernel), by decide +kernel⟩
theorem wd_378 : WD (.selects RX10 yX10_dead yX10_dead) := ⟨List.mem_of_getElem? (i := 378) (by decide +kernel), by decide +kernel⟩
theorem wd_379 : WD (.code yX10_dead cX10_dead 6 (some .int)) := ⟨List.mem_of_getElem? (i := 379) (by decide +kernel), by decide +kernel⟩
theorem wd_380 : WD (.methodLink RL 54 yX10_chain) := ⟨List.mem_of_getElem? (i := 380) (by decide +kernel), by decide +kernel⟩
theorem wd_381 : WD (.instanceMethod yX10_chain) := ⟨List.mem_of_getElem? (i := 381) (by decide +kernel), by decide +kernel⟩
theorem wd_382 : WD (.selects RX10 yX10_chain yX10_chain) := ⟨List.mem_of_getElem? (i := 382) (by decide +kernel), by decide +kernel⟩
theorem wd_383 : WD (.code yX10_chain cX10_chain 5 (some .int)) := ⟨List.mem_of_getElem? (i := 383) (by decide +kernel), by decide +kernel⟩
theorem wd_384 : WD (.methodLink RL 58 yX10_gain) := ⟨List.mem_of_getElem? (i := 384) (by decide +kernel), by decide +kernel⟩
theorem wd_385 : WD (.instanceMethod yX10_gain) := ⟨List.mem_of_getElem? (i := 385) (by decide +kernel), by decide +kernel⟩
theorem wd_386 : WD (.selects RX10 yX10_gain yX10_gain) := ⟨List.mem_of_getElem? (i := 386) (by decide +kernel), by decide +kernel⟩
theorem wd_387 : WD (.code yX10_gain cX10_gain 6 (some .int)) := ⟨List.mem_of_getElem? (i := 387) (by decide +kernel), by decide +kernel⟩
theorem wd_388 : WD (.methodLink RL 62 yX10_mirror) := ⟨List.mem_of_getElem? (i := 388) (by decide +kernel), by decide +kernel⟩
theorem wd_389 : WD (.instanceMethod yX10_mirror) := ⟨List.mem_of_getElem? (i := 389) (by decide +kernel), by decide +kernel⟩
theorem wd_390 : WD (.selects RX10 yX10_mirror yX10_mirror) := ⟨List.mem_of_getElem? (i := 390) (by decide +kernel), by decide +kernel⟩
theorem wd_391 : WD (.code yX10_mirror cX10_mirror 3 (some .int)) := ⟨List.mem_of_getElem? (i := 391) (by decide +kernel), by decide +kernel⟩
theorem wd_392 : WD (.methodLink RL 66 yX10_value) := ⟨List.mem_of_getElem? (i := 392) (by decide +kernel), by decide +kernel⟩
theorem wd_393 : WD (.instanceMethod yX10_value) := ⟨List.mem_of_getElem? (i := 393) (by decide +kernel), by decide +kernel⟩
theorem wd_394 : WD (.selects RX10 yX10_value yX10_value) := ⟨List.mem_of_getElem? (i := 394) (by decide +kernel), by decide +kernel⟩
theorem wd_395 : WD (.code yX10_value cX10_value 4 (some .int)) := ⟨List.mem_of_getElem? (i := 395) (by decide +kernel), by decide +kernel⟩
theorem wd_396 : WD (.constant RX10 125 (-2000000)) := ⟨List.mem_of_getElem? (i := 396) (by decide +kernel), by decide +kernel⟩
theorem wd_397 : WD (.methodLink RX10 126 yX1_at) := ⟨List.mem_of_getElem? (i := 397) (by decide +kernel), by decide +kernel⟩
theorem wd_398 : WD (.instanceMethod yX1_at) := ⟨List.mem_of_getElem? (i := 398) (by decide +kernel), by decide +kernel⟩
theorem wd_399 : WD (.sameMethod "CurveFoundry$Curve" "CurveFoundry$Curve" "at" "(I)I") := ⟨List.mem_of_getElem? (i := 399) (by decide +kernel), by decide +kernel⟩
theorem wd_400 : WD (.selects RX4 yX1_at yX1_at) := ⟨List.mem_of_getElem? (i := 400) (by decide +kernel), by decide +kernel⟩
theorem wd_401 : WD (.selects RX5 yX1_at yX1_at) := ⟨List.mem_of_getElem? (i := 401) (by decide +kernel), by decide +kernel⟩
theorem wd_402 : WD (.selects RX7 yX1_at yX1_at) := ⟨List.mem_of_getElem? (i := 402) (by decide +kernel), by decide +kernel⟩
theorem wd_403 : WD (.code yX1_at cX1_at 2 (some .int)) := ⟨List.mem_of_getElem? (i := 403) (by decide +kernel), by decide +kernel⟩
theorem wd_404 : WD (.methodLink RX1 26 ⟨"CurveFoundry$Curve", "workedOut", "(I)I"⟩) := ⟨List.mem_of_getElem? (i := 404) (by decide +kernel), by decide +kernel⟩
theorem wd_405 : WD (.declares ⟨"CurveFoundry$Curve", "workedOut", "(I)I"⟩) := ⟨List.mem_of_getElem? (i := 405) (by decide +kernel), by decide +kernel⟩
theorem wd_406 : WD (.sameMethod "CurveFoundry$Curve" "CurveFoundry$Curve" "workedOut" "(I)I") := ⟨List.mem_of_getElem? (i := 406) (by decide +kernel), by decide +kernel⟩
theorem wd_407 : WD (.selects RX4 ⟨"CurveFoundry$Curve", "workedOut", "(I)I"⟩ yX4_workedOut) := ⟨List.mem_of_getElem? (i := 407) (by decide +kernel), by decide +kernel⟩
theorem wd_408 : WD (.instanceMethod yX4_workedOut) := ⟨List.mem_of_getElem? (i := 408) (by decide +kernel), by decide +kernel⟩
theorem wd_409 : WD (.code yX4_workedOut cX4_workedOut 2 (some .int)) := ⟨List.mem_of_getElem? (i := 409) (by decide +kernel), by decide +kernel⟩
theorem wd_410 : WD (.methodLinkNest RX4 21 yX10_rounded "CurveFoundry") := ⟨List.mem_of_getElem? (i := 410) (by decide +kernel), by decide +kernel⟩
theorem wd_411 : WD (.methodLinkNest RX4 25 yX10_nearestValue "CurveFoundry") := ⟨List.mem_of_getElem? (i := 411) (by decide +kernel), by decide +kernel⟩
theorem wd_412 : WD (.static yX10_nearestValue) := ⟨List.mem_of_getElem? (i := 412) (by decide +kernel), by decide +kernel⟩
theorem wd_413 : WD (.code yX10_nearestValue cX10_nearestValue 2 (some .int)) := ⟨List.mem_of_getElem? (i := 413) (by decide +kernel), by decide +kernel⟩
theorem wd_414 : WD (.constantLong RX10 265 (-1000000)) := ⟨List.mem_of_getElem? (i := 414) (by decide +kernel), by decide +kernel⟩
theorem wd_415 : WD (.constantLong RX10 267 (1000000)) := ⟨List.mem_of_getElem? (i := 415) (by decide +kernel), by decide +kernel⟩
theorem wd_416 : WD (.methodLink RX10 269 Lib.MathLoose.min_long.x) := ⟨List.mem_of_getElem? (i := 416) (by decide +kernel), by decide +kernel⟩
theorem wd_417 : WD (.static Lib.MathLoose.min_long.x) := ⟨List.mem_of_getElem? (i := 417) (by decide +kernel), by decide +kernel⟩
theorem wd_418 : WD (.code Lib.MathLoose.min_long.x Lib.MathLoose.min_long.code 4 (some .long)) := ⟨List.mem_of_getElem? (i := 418) (by decide +kernel), by decide +kernel⟩
theorem wd_419 : WD (.methodLink RX10 272 Lib.MathLoose.max_long.x) := ⟨List.mem_of_getElem? (i := 419) (by decide +kernel), by decide +kernel⟩
theorem wd_420 : WD (.static Lib.MathLoose.max_long.x) := ⟨List.mem_of_getElem? (i := 420) (by decide +kernel), by decide +kernel⟩
theorem wd_421 : WD (.code Lib.MathLoose.max_long.x Lib.MathLoose.max_long.code 4 (some .long)) := ⟨List.mem_of_getElem? (i := 421) (by decide +kernel), by decide +kernel⟩
theorem wd_422 : WD (.selects RX5 ⟨"CurveFoundry$Curve", "workedOut", "(I)I"⟩ yX5_workedOut) := ⟨List.mem_of_getElem? (i := 422) (by decide +kernel), by decide +kernel⟩
theorem wd_423 : WD (.instanceMethod yX5_workedOut) := ⟨List.mem_of_getElem? (i := 423) (by decide +kernel), by decide +kernel⟩
theorem wd_424 : WD (.code yX5_workedOut cX5_workedOut 2 (some .int)) := ⟨List.mem_of_getElem? (i := 424) (by decide +kernel), by decide +kernel⟩
theorem wd_425 : WD (.methodLink RX5 15 yX3_between) := ⟨List.mem_of_getElem? (i := 425) (by decide +kernel), by decide +kernel⟩
theorem wd_426 : WD (.instanceMethod yX3_between) := ⟨List.mem_of_getElem? (i := 426) (by decide +kernel), by decide +kernel⟩
theorem wd_427 : WD (.selects RX3 yX3_between yX3_between) := ⟨List.mem_of_getElem? (i := 427) (by decide +kernel), by decide +kernel⟩
theorem wd_428 : WD (.code yX3_between cX3_between 7 (some .int)) := ⟨List.mem_of_getElem? (i := 428) (by decide +kernel), by decide +kernel⟩
theorem wd_429 : WD (.methodLink RX3 22 yX3_howManyUpTo) := ⟨List.mem_of_getElem? (i := 429) (by decide +kernel), by decide +kernel⟩
theorem wd_431 : WD (.instanceMethod yX3_howManyUpTo) := ⟨List.mem_of_getElem? (i := 431) (by decide +kernel), by decide +kernel⟩
theorem wd_432 : WD (.code yX3_howManyUpTo cX3_howManyUpTo 4 (some .int)) := ⟨List.mem_of_getElem? (i := 432) (by decide +kernel), by decide +kernel⟩
theorem wd_433 : WD (.methodLinkNest RX3 26 yX10_rounded "CurveFoundry") := ⟨List.mem_of_getElem? (i := 433) (by decide +kernel), by decide +kernel⟩
theorem wd_434 : WD (.selects RX7 ⟨"CurveFoundry$Curve", "workedOut", "(I)I"⟩ yX7_workedOut) := ⟨List.mem_of_getElem? (i := 434) (by decide +kernel), by decide +kernel⟩
theorem wd_435 : WD (.instanceMethod yX7_workedOut) := ⟨List.mem_of_getElem? (i := 435) (by decide +kernel), by decide +kernel⟩
theorem wd_436 : WD (.code yX7_workedOut cX7_workedOut 3 (some .int)) := ⟨List.mem_of_getElem? (i := 436) (by decide +kernel), by decide +kernel⟩
theorem wd_437 : WD (.methodLink RX7 34 yX1_at) := ⟨List.mem_of_getElem? (i := 437) (by decide +kernel), by decide +kernel⟩
theorem wd_438 : WD (.methodLink RX7 38 Lib.Math.min.name) := ⟨List.mem_of_getElem? (i := 438) (by decide +kernel), by decide +kernel⟩
theorem wd_439 : WD (.static Lib.Math.min.name) := ⟨List.mem_of_getElem? (i := 439) (by decide +kernel), by decide +kernel⟩
theorem wd_440 : WD (.code Lib.Math.min.name Lib.Math.min.code 2 (some .int)) := ⟨List.mem_of_getElem? (i := 440) (by decide +kernel), by decide +kernel⟩
theorem wd_441 : WD (.methodLink RX7 44 Lib.Math.max.name) := ⟨List.mem_of_getElem? (i := 441) (by decide +kernel), by decide +kernel⟩
theorem wd_442 : WD (.static Lib.Math.max.name) := ⟨List.mem_of_getElem? (i := 442) (by decide +kernel), by decide +kernel⟩
theorem wd_443 : WD (.code Lib.Math.max.name Lib.Math.max.code 2 (some .int)) := ⟨List.mem_of_getElem? (i := 443) (by decide +kernel), by decide +kernel⟩
theorem wd_444 : WD (.methodLinkNest RX7 47 yX10_nearestCount "CurveFoundry") := ⟨List.mem_of_getElem? (i := 444) (by decide +kernel), by decide +kernel⟩
theorem wd_445 : WD (.static yX10_nearestCount) := ⟨List.mem_of_getElem? (i := 445) (by decide +kernel), by decide +kernel⟩
theorem wd_446 : WD (.code yX10_nearestCount cX10_nearestCount 1 (some .int)) := ⟨List.mem_of_getElem? (i := 446) (by decide +kernel), by decide +kernel⟩
theorem wd_447 : WD (.methodLink RX10 256 Lib.Math.min.name) := ⟨List.mem_of_getElem? (i := 447) (by decide +kernel), by decide +kernel⟩
theorem wd_448 : WD (.methodLink RX10 262 Lib.Math.max.name) := ⟨List.mem_of_getElem? (i := 448) (by decide +kernel), by decide +kernel⟩
theorem wd_449 : WD (.methodLinkNest RX7 50 yX10_rounded "CurveFoundry") := ⟨List.mem_of_getElem? (i := 449) (by decide +kernel), by decide +kernel⟩
theorem wd_450 : WD (.methodLinkNest RX7 54 yX10_nearestValue "CurveFoundry") := ⟨List.mem_of_getElem? (i := 450) (by decide +kernel), by decide +kernel⟩
theorem wd_451 : WD (.methodLink RL 70 yX10_about) := ⟨List.mem_of_getElem? (i := 451) (by decide +kernel), by decide +kernel⟩
theorem wd_452 : WD (.instanceMethod yX10_about) := ⟨List.mem_of_getElem? (i := 452) (by decide +kernel), by decide +kernel⟩
theorem wd_453 : WD (.selects RX10 yX10_about yX10_about) := ⟨List.mem_of_getElem? (i := 453) (by decide +kernel), by decide +kernel⟩
theorem wd_454 : WD (.code yX10_about cX10_about 4 (some .int)) := ⟨List.mem_of_getElem? (i := 454) (by decide +kernel), by decide +kernel⟩
theorem wd_455 : WD (.methodLink RX10 133 yX1_formed) := ⟨List.mem_of_getElem? (i := 455) (by decide +kernel), by decide +kernel⟩
theorem wd_456 : WD (.instanceMethod yX1_formed) := ⟨List.mem_of_getElem? (i := 456) (by decide +kernel), by decide +kernel⟩
theorem wd_457 : WD (.sameMethod "CurveFoundry$Curve" "CurveFoundry$Curve" "formed" "()LCurveFoundry$Form;") := ⟨List.mem_of_getElem? (i := 457) (by decide +kernel), by decide +kernel⟩
theorem wd_458 : WD (.selects RX4 yX1_formed yX1_formed) := ⟨List.mem_of_getElem? (i := 458) (by decide +kernel), by decide +kernel⟩
theorem wd_459 : WD (.selects RX5 yX1_formed yX1_formed) := ⟨List.mem_of_getElem? (i := 459) (by decide +kernel), by decide +kernel⟩
theorem wd_460 : WD (.selects RX7 yX1_formed yX1_formed) := ⟨List.mem_of_getElem? (i := 460) (by decide +kernel), by decide +kernel⟩
theorem wd_461 : WD (.code yX1_formed cX1_formed 1 (some (.object "CurveFoundry$Form"))) := ⟨List.mem_of_getElem? (i := 461) (by decide +kernel), by decide +kernel⟩
theorem wd_462 : WD (.classLink RX1 33 RX2) := ⟨List.mem_of_getElem? (i := 462) (by decide +kernel), by decide +kernel⟩
theorem wd_463 : WD (.instantiable RX2 6) := ⟨List.mem_of_getElem? (i := 463) (by decide +kernel), by decide +kernel⟩
theorem wd_464 : WD (.methodLink RX1 35 yX1_filled) := ⟨List.mem_of_getElem? (i := 464) (by decide +kernel), by decide +kernel⟩
theorem wd_465 : WD (.instanceMethod yX1_filled) := ⟨List.mem_of_getElem? (i := 465) (by decide +kernel), by decide +kernel⟩
theorem wd_466 : WD (.sameMethod "CurveFoundry$Curve" "CurveFoundry$Curve" "filled" "()[I") := ⟨List.mem_of_getElem? (i := 466) (by decide +kernel), by decide +kernel⟩
theorem wd_467 : WD (.selects RX4 yX1_filled yX1_filled) := ⟨List.mem_of_getElem? (i := 467) (by decide +kernel), by decide +kernel⟩
theorem wd_468 : WD (.selects RX5 yX1_filled yX1_filled) := ⟨List.mem_of_getElem? (i := 468) (by decide +kernel), by decide +kernel⟩
theorem wd_469 : WD (.selects RX7 yX1_filled yX1_filled) := ⟨List.mem_of_getElem? (i := 469) (by decide +kernel), by decide +kernel⟩
theorem wd_470 : WD (.code yX1_filled cX1_filled 3 (some (.array .int))) := ⟨List.mem_of_getElem? (i := 470) (by decide +kernel), by decide +kernel⟩
theorem wd_471 : WD (.methodLink RX1 30 ⟨"CurveFoundry$Curve", "makeParts", "()V"⟩) := ⟨List.mem_of_getElem? (i := 471) (by decide +kernel), by decide +kernel⟩
theorem wd_472 : WD (.declares ⟨"CurveFoundry$Curve", "makeParts", "()V"⟩) := ⟨List.mem_of_getElem? (i := 472) (by decide +kernel), by decide +kernel⟩
theorem wd_473 : WD (.sameMethod "CurveFoundry$Curve" "CurveFoundry$Curve" "makeParts" "()V") := ⟨List.mem_of_getElem? (i := 473) (by decide +kernel), by decide +kernel⟩
theorem wd_474 : WD (.selects RX4 ⟨"CurveFoundry$Curve", "makeParts", "()V"⟩ yX4_makeParts) := ⟨List.mem_of_getElem? (i := 474) (by decide +kernel), by decide +kernel⟩
theorem wd_475 : WD (.instanceMethod yX4_makeParts) := ⟨List.mem_of_getElem? (i := 475) (by decide +kernel), by decide +kernel⟩
theorem wd_476 : WD (.code yX4_makeParts cX4_makeParts 1 none) := ⟨List.mem_of_getElem? (i := 476) (by decide +kernel), by decide +kernel⟩
theorem wd_477 : WD (.selects RX5 ⟨"CurveFoundry$Curve", "makeParts", "()V"⟩ yX5_makeParts) := ⟨List.mem_of_getElem? (i := 477) (by decide +kernel), by decide +kernel⟩
theorem wd_478 : WD (.instanceMethod yX5_makeParts) := ⟨List.mem_of_getElem? (i := 478) (by decide +kernel), by decide +kernel⟩
theorem wd_479 : WD (.code yX5_makeParts cX5_makeParts 1 none) := ⟨List.mem_of_getElem? (i := 479) (by decide +kernel), by decide +kernel⟩
theorem wd_480 : WD (.selects RX7 ⟨"CurveFoundry$Curve", "makeParts", "()V"⟩ yX7_makeParts) := ⟨List.mem_of_getElem? (i := 480) (by decide +kernel), by decide +kernel⟩
theorem wd_481 : WD (.instanceMethod yX7_makeParts) := ⟨List.mem_of_getElem? (i := 481) (by decide +kernel), by decide +kernel⟩
theorem wd_482 : WD (.code yX7_makeParts cX7_makeParts 1 none) := ⟨List.mem_of_getElem? (i := 482) (by decide +kernel), by decide +kernel⟩
theorem wd_483 : WD (.methodLink RX7 58 yX1_filled) := ⟨List.mem_of_getElem? (i := 483) (by decide +kernel), by decide +kernel⟩
theorem wd_484 : WD (.methodLink RX1 39 yX2_init) := ⟨List.mem_of_getElem? (i := 484) (by decide +kernel), by decide +kernel⟩
theorem wd_485 : WD (.instanceMethod yX2_init) := ⟨List.mem_of_getElem? (i := 485) (by decide +kernel), by decide +kernel⟩
theorem wd_486 : WD (.code yX2_init cX2_init 7 none) := ⟨List.mem_of_getElem? (i := 486) (by decide +kernel), by decide +kernel⟩
theorem wd_487 : WD (.methodLink RX2 3 Lib.objectInit) := ⟨List.mem_of_getElem? (i := 487) (by decide +kernel), by decide +kernel⟩
theorem wd_488 : WD (.methodLink RX2 15 Lib.Math.min.name) := ⟨List.mem_of_getElem? (i := 488) (by decide +kernel), by decide +kernel⟩
theorem wd_489 : WD (.methodLink RX2 21 Lib.Math.max.name) := ⟨List.mem_of_getElem? (i := 489) (by decide +kernel), by decide +kernel⟩
theorem wd_490 : WD (.methodLink RX2 37 yX2_findTurns) := ⟨List.mem_of_getElem? (i := 490) (by decide +kernel), by decide +kernel⟩
theorem wd_491 : WD (.static yX2_findTurns) := ⟨List.mem_of_getElem? (i := 491) (by decide +kernel), by decide +kernel⟩
theorem wd_492 : WD (.code yX2_findTurns cX2_findTurns 6 (some .int)) := ⟨List.mem_of_getElem? (i := 492) (by decide +kernel), by decide +kernel⟩
theorem wd_493 : WD (.fieldLink RX2 24 "CurveFoundry$Form" "row" "[I") := ⟨List.mem_of_getElem? (i := 493) (by decide +kernel), by decide +kernel⟩
theorem wd_494 : WD (.fieldLink RX2 34 "CurveFoundry$Form" "trend" "I") := ⟨List.mem_of_getElem? (i := 494) (by decide +kernel), by decide +kernel⟩
theorem wd_495 : WD (.fieldLinkNest RX10 137 "CurveFoundry$Form" "trend" "I" "CurveFoundry") := ⟨List.mem_of_getElem? (i := 495) (by decide +kernel), by decide +kernel⟩
theorem wd_496 : WD (.fieldLink RX2 41 "CurveFoundry$Form" "turnCount" "I") := ⟨List.mem_of_getElem? (i := 496) (by decide +kernel), by decide +kernel⟩
theorem wd_497 : WD (.fieldLinkNest RX10 142 "CurveFoundry$Form" "turnCount" "I" "CurveFoundry") := ⟨List.mem_of_getElem? (i := 497) (by decide +kernel), by decide +kernel⟩
theorem wd_498 : WD (.fieldLink RX2 27 "CurveFoundry$Form" "least" "I") := ⟨List.mem_of_getElem? (i := 498) (by decide +kernel), by decide +kernel⟩
theorem wd_499 : WD (.fieldLinkNest RX10 145 "CurveFoundry$Form" "least" "I" "CurveFoundry") := ⟨List.mem_of_getElem? (i := 499) (by decide +kernel), by decide +kernel⟩
theorem wd_500 : WD (.fieldLink RX2 31 "CurveFoundry$Form" "greatest" "I") := ⟨List.mem_of_getElem? (i := 500) (by decide +kernel), by decide +kernel⟩
theorem wd_501 : WD (.fieldLinkNest RX10 148 "CurveFoundry$Form" "greatest" "I" "CurveFoundry") := ⟨List.mem_of_getElem? (i := 501) (by decide +kernel), by decide +kernel⟩
theorem wd_502 : WD (.fieldLink RX2 9 "CurveFoundry$Form" "turns" "[I") := ⟨List.mem_of_getElem? (i := 502) (by decide +kernel), by decide +kernel⟩
theorem wd_516 : WD (.methodLink RL 74 yX10_turn) := ⟨List.mem_of_getElem? (i := 516) (by decide +kernel), by decide +kernel⟩
theorem wd_517 : WD (.instanceMethod yX10_turn) := ⟨List.mem_of_getElem? (i := 517) (by decide +kernel), by decide +kernel⟩
theorem wd_518 : WD (.selects RX10 yX10_turn yX10_turn) := ⟨List.mem_of_getElem? (i := 518) (by decide +kernel), by decide +kernel⟩
theorem wd_519 : WD (.code yX10_turn cX10_turn 4 (some .int)) := ⟨List.mem_of_getElem? (i := 519) (by decide +kernel), by decide +kernel⟩
theorem wd_520 : WD (.methodLink RX10 151 yX2_turnNumbered) := ⟨List.mem_of_getElem? (i := 520) (by decide +kernel), by decide +kernel⟩
theorem wd_521 : WD (.instanceMethod yX2_turnNumbered) := ⟨List.mem_of_getElem? (i := 521) (by decide +kernel), by decide +kernel⟩
theorem wd_522 : WD (.selects RX2 yX2_turnNumbered yX2_turnNumbered) := ⟨List.mem_of_getElem? (i := 522) (by decide +kernel), by decide +kernel⟩
theorem wd_523 : WD (.code yX2_turnNumbered cX2_turnNumbered 2 (some .int)) := ⟨List.mem_of_getElem? (i := 523) (by decide +kernel), by decide +kernel⟩
theorem wd_524 : WD (.methodLink RL 78 yX10_inverse) := ⟨List.mem_of_getElem? (i := 524) (by decide +kernel), by decide +kernel⟩
theorem wd_525 : WD (.instanceMethod yX10_inverse) := ⟨List.mem_of_getElem? (i := 525) (by decide +kernel), by decide +kernel⟩
theorem wd_526 : WD (.selects RX10 yX10_inverse yX10_inverse) := ⟨List.mem_of_getElem? (i := 526) (by decide +kernel), by decide +kernel⟩
theorem wd_527 : WD (.code yX10_inverse cX10_inverse 4 (some .int)) := ⟨List.mem_of_getElem? (i := 527) (by decide +kernel), by decide +kernel⟩
theorem wd_528 : WD (.methodLink RX10 154 yX2_nearestTo) := ⟨List.mem_of_getElem? (i := 528) (by decide +kernel), by decide +kernel⟩
theorem wd_529 : WD (.instanceMethod yX2_nearestTo) := ⟨List.mem_of_getElem? (i := 529) (by decide +kernel), by decide +kernel⟩
theorem wd_530 : WD (.selects RX2 yX2_nearestTo yX2_nearestTo) := ⟨List.mem_of_getElem? (i := 530) (by decide +kernel), by decide +kernel⟩
theorem wd_531 : WD (.code yX2_nearestTo cX2_nearestTo 9 (some .int)) := ⟨List.mem_of_getElem? (i := 531) (by decide +kernel), by decide +kernel⟩
theorem wd_532 : WD (.constantLong RX2 44 (-1)) := ⟨List.mem_of_getElem? (i := 532) (by decide +kernel), by decide +kernel⟩
theorem wd_533 : WD (.methodLink RX2 46 yX2_firstNotBelow) := ⟨List.mem_of_getElem? (i := 533) (by decide +kernel), by decide +kernel⟩
theorem wd_535 : WD (.instanceMethod yX2_firstNotBelow) := ⟨List.mem_of_getElem? (i := 535) (by decide +kernel), by decide +kernel⟩
theorem wd_536 : WD (.code yX2_firstNotBelow cX2_firstNotBelow 7 (some .int)) := ⟨List.mem_of_getElem? (i := 536) (by decide +kernel), by decide +kernel⟩
theorem wd_537 : WD (.methodLink RL 82 yX10_residual) := ⟨List.mem_of_getElem? (i := 537) (by decide +kernel), by decide +kernel⟩
theorem wd_538 : WD (.instanceMethod yX10_residual) := ⟨List.mem_of_getElem? (i := 538) (by decide +kernel), by decide +kernel⟩
theorem wd_539 : WD (.selects RX10 yX10_residual yX10_residual) := ⟨List.mem_of_getElem? (i := 539) (by decide +kernel), by decide +kernel⟩
theorem wd_540 : WD (.code yX10_residual cX10_residual 6 (some .int)) := ⟨List.mem_of_getElem? (i := 540) (by decide +kernel), by decide +kernel⟩
theorem wd_541 : WD (.methodLink RX10 157 yX8_missedBy) := ⟨List.mem_of_getElem? (i := 541) (by decide +kernel), by decide +kernel⟩
theorem wd_542 : WD (.instanceMethod yX8_missedBy) := ⟨List.mem_of_getElem? (i := 542) (by decide +kernel), by decide +kernel⟩
theorem wd_543 : WD (.selects RX8 yX8_missedBy yX8_missedBy) := ⟨List.mem_of_getElem? (i := 543) (by decide +kernel), by decide +kernel⟩
theorem wd_544 : WD (.code yX8_missedBy cX8_missedBy 3 (some .int)) := ⟨List.mem_of_getElem? (i := 544) (by decide +kernel), by decide +kernel⟩
theorem wd_545 : WD (.methodLink RX8 47 yX1_at) := ⟨List.mem_of_getElem? (i := 545) (by decide +kernel), by decide +kernel⟩
theorem wd_546 : WD (.methodLink RL 86 yX10_worst) := ⟨List.mem_of_getElem? (i := 546) (by decide +kernel), by decide +kernel⟩
theorem wd_547 : WD (.instanceMethod yX10_worst) := ⟨List.mem_of_getElem? (i := 547) (by decide +kernel), by decide +kernel⟩
theorem wd_548 : WD (.selects RX10 yX10_worst yX10_worst) := ⟨List.mem_of_getElem? (i := 548) (by decide +kernel), by decide +kernel⟩
theorem wd_549 : WD (.code yX10_worst cX10_worst 5 (some .int)) := ⟨List.mem_of_getElem? (i := 549) (by decide +kernel), by decide +kernel⟩
theorem wd_550 : WD (.methodLink RX10 161 yX8_farthestFrom) := ⟨List.mem_of_getElem? (i := 550) (by decide +kernel), by decide +kernel⟩
theorem wd_551 : WD (.instanceMethod yX8_farthestFrom) := ⟨List.mem_of_getElem? (i := 551) (by decide +kernel), by decide +kernel⟩
theorem wd_552 : WD (.selects RX8 yX8_farthestFrom yX8_farthestFrom) := ⟨List.mem_of_getElem? (i := 552) (by decide +kernel), by decide +kernel⟩
theorem wd_553 : WD (.code yX8_farthestFrom cX8_farthestFrom 6 (some .int)) := ⟨List.mem_of_getElem? (i := 553) (by decide +kernel), by decide +kernel⟩
theorem wd_554 : WD (.methodLink RX8 52 yX8_missedBy) := ⟨List.mem_of_getElem? (i := 554) (by decide +kernel), by decide +kernel⟩
theorem wd_555 : WD (.methodLink RX8 56 Lib.Math.abs.name) := ⟨List.mem_of_getElem? (i := 555) (by decide +kernel), by decide +kernel⟩
theorem wd_556 : WD (.static Lib.Math.abs.name) := ⟨List.mem_of_getElem? (i := 556) (by decide +kernel), by decide +kernel⟩
theorem wd_557 : WD (.code Lib.Math.abs.name Lib.Math.abs.code 1 (some .int)) := ⟨List.mem_of_getElem? (i := 557) (by decide +kernel), by decide +kernel⟩
theorem wd_558 : WD (.methodLink RL 90 yX10_squares) := ⟨List.mem_of_getElem? (i := 558) (by decide +kernel), by decide +kernel⟩
theorem wd_559 : WD (.instanceMethod yX10_squares) := ⟨List.mem_of_getElem? (i := 559) (by decide +kernel), by decide +kernel⟩
theorem wd_560 : WD (.selects RX10 yX10_squares yX10_squares) := ⟨List.mem_of_getElem? (i := 560) (by decide +kernel), by decide +kernel⟩
theorem wd_561 : WD (.code yX10_squares cX10_squares 5 (some .long)) := ⟨List.mem_of_getElem? (i := 561) (by decide +kernel), by decide +kernel⟩
theorem wd_562 : WD (.constantLong RX10 164 (-2)) := ⟨List.mem_of_getElem? (i := 562) (by decide +kernel), by decide +kernel⟩
theorem wd_563 : WD (.methodLink RX10 166 yX8_squaresFrom) := ⟨List.mem_of_getElem? (i := 563) (by decide +kernel), by decide +kernel⟩
theorem wd_564 : WD (.instanceMethod yX8_squaresFrom) := ⟨List.mem_of_getElem? (i := 564) (by decide +kernel), by decide +kernel⟩
theorem wd_565 : WD (.selects RX8 yX8_squaresFrom yX8_squaresFrom) := ⟨List.mem_of_getElem? (i := 565) (by decide +kernel), by decide +kernel⟩
theorem wd_566 : WD (.code yX8_squaresFrom cX8_squaresFrom 7 (some .long)) := ⟨List.mem_of_getElem? (i := 566) (by decide +kernel), by decide +kernel⟩
theorem wd_567 : WD (.methodLink RL 95 yX10_drift) := ⟨List.mem_of_getElem? (i := 567) (by decide +kernel), by decide +kernel⟩
theorem wd_568 : WD (.instanceMethod yX10_drift) := ⟨List.mem_of_getElem? (i := 568) (by decide +kernel), by decide +kernel⟩
theorem wd_569 : WD (.selects RX10 yX10_drift yX10_drift) := ⟨List.mem_of_getElem? (i := 569) (by decide +kernel), by decide +kernel⟩
theorem wd_570 : WD (.code yX10_drift cX10_drift 5 (some .int)) := ⟨List.mem_of_getElem? (i := 570) (by decide +kernel), by decide +kernel⟩
theorem wd_571 : WD (.methodLink RX10 170 yX8_meanFrom) := ⟨List.mem_of_getElem? (i := 571) (by decide +kernel), by decide +kernel⟩
theorem wd_572 : WD (.instanceMethod yX8_meanFrom) := ⟨List.mem_of_getElem? (i := 572) (by decide +kernel), by decide +kernel⟩
theorem wd_573 : WD (.selects RX8 yX8_meanFrom yX8_meanFrom) := ⟨List.mem_of_getElem? (i := 573) (by decide +kernel), by decide +kernel⟩
theorem wd_574 : WD (.code yX8_meanFrom cX8_meanFrom 7 (some .int)) := ⟨List.mem_of_getElem? (i := 574) (by decide +kernel), by decide +kernel⟩
theorem wd_575 : WD (.methodLink RL 99 yX10_probe) := ⟨List.mem_of_getElem? (i := 575) (by decide +kernel), by decide +kernel⟩
theorem wd_576 : WD (.instanceMethod yX10_probe) := ⟨List.mem_of_getElem? (i := 576) (by decide +kernel), by decide +kernel⟩
theorem wd_577 : WD (.selects RX10 yX10_probe yX10_probe) := ⟨List.mem_of_getElem? (i := 577) (by decide +kernel), by decide +kernel⟩
theorem wd_578 : WD (.code yX10_probe cX10_probe 7 (some .int)) := ⟨List.mem_of_getElem? (i := 578) (by decide +kernel), by decide +kernel⟩
theorem wd_579 : WD (.methodLink RX10 173 yX10_probeNumbered) := ⟨List.mem_of_getElem? (i := 579) (by decide +kernel), by decide +kernel⟩
theorem wd_581 : WD (.instanceMethod yX10_probeNumbered) := ⟨List.mem_of_getElem? (i := 581) (by decide +kernel), by decide +kernel⟩
theorem wd_582 : WD (.code yX10_probeNumbered cX10_probeNumbered 2 (some (.object "CurveFoundry$Probe"))) := ⟨List.mem_of_getElem? (i := 582) (by decide +kernel), by decide +kernel⟩
theorem wd_583 : WD (.methodLink RX10 177 yX6_begin) := ⟨List.mem_of_getElem? (i := 583) (by decide +kernel), by decide +kernel⟩
theorem wd_584 : WD (.instanceMethod yX6_begin) := ⟨List.mem_of_getElem? (i := 584) (by decide +kernel), by decide +kernel⟩
theorem wd_585 : WD (.selects RX6 yX6_begin yX6_begin) := ⟨List.mem_of_getElem? (i := 585) (by decide +kernel), by decide +kernel⟩
theorem wd_586 : WD (.code yX6_begin cX6_begin 4 none) := ⟨List.mem_of_getElem? (i := 586) (by decide +kernel), by decide +kernel⟩
theorem wd_587 : WD (.methodLink RL 103 yX10_feed) := ⟨List.mem_of_getElem? (i := 587) (by decide +kernel), by decide +kernel⟩
theorem wd_588 : WD (.instanceMethod yX10_feed) := ⟨List.mem_of_getElem? (i := 588) (by decide +kernel), by decide +kernel⟩
theorem wd_589 : WD (.selects RX10 yX10_feed yX10_feed) := ⟨List.mem_of_getElem? (i := 589) (by decide +kernel), by decide +kernel⟩
theorem wd_590 : WD (.code yX10_feed cX10_feed 4 (some .int)) := ⟨List.mem_of_getElem? (i := 590) (by decide +kernel), by decide +kernel⟩
theorem wd_591 : WD (.methodLink RX10 181 yX6_take) := ⟨List.mem_of_getElem? (i := 591) (by decide +kernel), by decide +kernel⟩
theorem wd_592 : WD (.instanceMethod yX6_take) := ⟨List.mem_of_getElem? (i := 592) (by decide +kernel), by decide +kernel⟩
theorem wd_593 : WD (.selects RX6 yX6_take yX6_take) := ⟨List.mem_of_getElem? (i := 593) (by decide +kernel), by decide +kernel⟩
theorem wd_594 : WD (.code yX6_take cX6_take 3 (some .int)) := ⟨List.mem_of_getElem? (i := 594) (by decide +kernel), by decide +kernel⟩
theorem wd_595 : WD (.methodLink RX6 35 yX6_filtered) := ⟨List.mem_of_getElem? (i := 595) (by decide +kernel), by decide +kernel⟩
theorem wd_597 : WD (.instanceMethod yX6_filtered) := ⟨List.mem_of_getElem? (i := 597) (by decide +kernel), by decide +kernel⟩
theorem wd_598 : WD (.code yX6_filtered cX6_filtered 2 (some .int)) := ⟨List.mem_of_getElem? (i := 598) (by decide +kernel), by decide +kernel⟩
theorem wd_599 : WD (.methodLink RX6 39 yX6_middle) := ⟨List.mem_of_getElem? (i := 599) (by decide +kernel), by decide +kernel⟩
theorem wd_601 : WD (.instanceMethod yX6_middle) := ⟨List.mem_of_getElem? (i := 601) (by decide +kernel), by decide +kernel⟩
theorem wd_602 : WD (.code yX6_middle cX6_middle 4 (some .int)) := ⟨List.mem_of_getElem? (i := 602) (by decide +kernel), by decide +kernel⟩
theorem wd_603 : WD (.methodLink RX6 43 yX6_mean) := ⟨List.mem_of_getElem? (i := 603) (by decide +kernel), by decide +kernel⟩
theorem wd_605 : WD (.instanceMethod yX6_mean) := ⟨List.mem_of_getElem? (i := 605) (by decide +kernel), by decide +kernel⟩
theorem wd_606 : WD (.code yX6_mean cX6_mean 4 (some .int)) := ⟨List.mem_of_getElem? (i := 606) (by decide +kernel), by decide +kernel⟩
theorem wd_607 : WD (.methodLinkNest RX6 46 yX10_rounded "CurveFoundry") := ⟨List.mem_of_getElem? (i := 607) (by decide +kernel), by decide +kernel⟩
theorem wd_608 : WD (.methodLink RL 107 yX10_probed) := ⟨List.mem_of_getElem? (i := 608) (by decide +kernel), by decide +kernel⟩
theorem wd_609 : WD (.instanceMethod yX10_probed) := ⟨List.mem_of_getElem? (i := 609) (by decide +kernel), by decide +kernel⟩
theorem wd_610 : WD (.selects RX10 yX10_probed yX10_probed) := ⟨List.mem_of_getElem? (i := 610) (by decide +kernel), by decide +kernel⟩
theorem wd_611 : WD (.code yX10_probed cX10_probed 3 (some .int)) := ⟨List.mem_of_getElem? (i := 611) (by decide +kernel), by decide +kernel⟩
theorem wd_612 : WD (.methodLink RX10 184 yX6_told) := ⟨List.mem_of_getElem? (i := 612) (by decide +kernel), by decide +kernel⟩
theorem wd_613 : WD (.instanceMethod yX6_told) := ⟨List.mem_of_getElem? (i := 613) (by decide +kernel), by decide +kernel⟩
theorem wd_614 : WD (.selects RX6 yX6_told yX6_told) := ⟨List.mem_of_getElem? (i := 614) (by decide +kernel), by decide +kernel⟩
theorem wd_615 : WD (.code yX6_told cX6_told 1 (some .int)) := ⟨List.mem_of_getElem? (i := 615) (by decide +kernel), by decide +kernel⟩
theorem wd_616 : WD (.constant RX6 50 (-2000000)) := ⟨List.mem_of_getElem? (i := 616) (by decide +kernel), by decide +kernel⟩
theorem wd_617 : WD (.methodLink RX6 51 yX1_at) := ⟨List.mem_of_getElem? (i := 617) (by decide +kernel), by decide +kernel⟩
theorem wd_618 : WD (.methodLink RL 111 yX10_table) := ⟨List.mem_of_getElem? (i := 618) (by decide +kernel), by decide +kernel⟩
theorem wd_619 : WD (.instanceMethod yX10_table) := ⟨List.mem_of_getElem? (i := 619) (by decide +kernel), by decide +kernel⟩
theorem wd_620 : WD (.selects RX10 yX10_table yX10_table) := ⟨List.mem_of_getElem? (i := 620) (by decide +kernel), by decide +kernel⟩
theorem wd_621 : WD (.code yX10_table cX10_table 5 (some .int)) := ⟨List.mem_of_getElem? (i := 621) (by decide +kernel), by decide +kernel⟩
theorem wd_622 : WD (.instantiable RX9 6) := ⟨List.mem_of_getElem? (i := 622) (by decide +kernel), by decide +kernel⟩
theorem wd_623 : WD (.methodLinkNest RX10 186 yX9_init "CurveFoundry") := ⟨List.mem_of_getElem? (i := 623) (by decide +kernel), by decide +kernel⟩
theorem wd_624 : WD (.instanceMethod yX9_init) := ⟨List.mem_of_getElem? (i := 624) (by decide +kernel), by decide +kernel⟩
theorem wd_625 : WD (.code yX9_init cX9_init 1 none) := ⟨List.mem_of_getElem? (i := 625) (by decide +kernel), by decide +kernel⟩
theorem wd_626 : WD (.methodLink RX9 3 Lib.objectInit) := ⟨List.mem_of_getElem? (i := 626) (by decide +kernel), by decide +kernel⟩
theorem wd_627 : WD (.fieldLink RX9 9 "CurveFoundry$Table" "entries" "[F") := ⟨List.mem_of_getElem? (i := 627) (by decide +kernel), by decide +kernel⟩
theorem wd_628 : WD (.fieldLinkNest RX10 197 "CurveFoundry$Table" "entries" "[F" "CurveFoundry") := ⟨List.mem_of_getElem? (i := 628) (by decide +kernel), by decide +kernel⟩
theorem wd_629 : WD (.fieldLink RX9 15 "CurveFoundry$Table" "curve" "LCurveFoundry$Curve;") := ⟨List.mem_of_getElem? (i := 629) (by decide +kernel), by decide +kernel⟩
theorem wd_630 : WD (.fieldLink RX9 19 "CurveFoundry$Table" "step" "I") := ⟨List.mem_of_getElem? (i := 630) (by decide +kernel), by decide +kernel⟩
theorem wd_631 : WD (.fieldLink RX9 23 "CurveFoundry$Table" "size" "I") := ⟨List.mem_of_getElem? (i := 631) (by decide +kernel), by decide +kernel⟩
theorem wd_632 : WD (.fieldLink RX9 26 "CurveFoundry$Table" "farthest" "D") := ⟨List.mem_of_getElem? (i := 632) (by decide +kernel), by decide +kernel⟩
theorem wd_633 : WD (.fieldLinkNest RX10 208 "CurveFoundry$Table" "farthest" "D" "CurveFoundry") := ⟨List.mem_of_getElem? (i := 633) (by decide +kernel), by decide +kernel⟩
theorem wd_634 : WD (.fieldLink RX9 30 "CurveFoundry$Table" "farthestAt" "I") := ⟨List.mem_of_getElem? (i := 634) (by decide +kernel), by decide +kernel⟩
theorem wd_635 : WD (.fieldLinkNest RX10 212 "CurveFoundry$Table" "farthestAt" "I" "CurveFoundry") := ⟨List.mem_of_getElem? (i := 635) (by decide +kernel), by decide +kernel⟩
theorem wd_649 : WD (.methodLink RX10 187 yX9_become) := ⟨List.mem_of_getElem? (i := 649) (by decide +kernel), by decide +kernel⟩
theorem wd_650 : WD (.instanceMethod yX9_become) := ⟨List.mem_of_getElem? (i := 650) (by decide +kernel), by decide +kernel⟩
theorem wd_651 : WD (.selects RX9 yX9_become yX9_become) := ⟨List.mem_of_getElem? (i := 651) (by decide +kernel), by decide +kernel⟩
theorem wd_652 : WD (.code yX9_become cX9_become 4 (some .int)) := ⟨List.mem_of_getElem? (i := 652) (by decide +kernel), by decide +kernel⟩
theorem wd_653 : WD (.methodLinkNest RX9 33 yX10_nearestCount "CurveFoundry") := ⟨List.mem_of_getElem? (i := 653) (by decide +kernel), by decide +kernel⟩
theorem wd_654 : WD (.methodLink RX9 37 yX1_at) := ⟨List.mem_of_getElem? (i := 654) (by decide +kernel), by decide +kernel⟩
theorem wd_655 : WD (.constantFloat RX9 42 (981668463)) := ⟨List.mem_of_getElem? (i := 655) (by decide +kernel), by decide +kernel⟩
theorem wd_656 : WD (.methodLink RL 115 yX10_entry) := ⟨List.mem_of_getElem? (i := 656) (by decide +kernel), by decide +kernel⟩
theorem wd_657 : WD (.instanceMethod yX10_entry) := ⟨List.mem_of_getElem? (i := 657) (by decide +kernel), by decide +kernel⟩
theorem wd_658 : WD (.selects RX10 yX10_entry yX10_entry) := ⟨List.mem_of_getElem? (i := 658) (by decide +kernel), by decide +kernel⟩
theorem wd_659 : WD (.code yX10_entry cX10_entry 4 (some .double)) := ⟨List.mem_of_getElem? (i := 659) (by decide +kernel), by decide +kernel⟩
theorem wd_660 : WD (.methodLink RX10 190 yX10_tableNumbered) := ⟨List.mem_of_getElem? (i := 660) (by decide +kernel), by decide +kernel⟩
theorem wd_662 : WD (.instanceMethod yX10_tableNumbered) := ⟨List.mem_of_getElem? (i := 662) (by decide +kernel), by decide +kernel⟩
theorem wd_663 : WD (.code yX10_tableNumbered cX10_tableNumbered 2 (some (.object "CurveFoundry$Table"))) := ⟨List.mem_of_getElem? (i := 663) (by decide +kernel), by decide +kernel⟩
theorem wd_664 : WD (.methodLink RX10 194 yX9_has) := ⟨List.mem_of_getElem? (i := 664) (by decide +kernel), by decide +kernel⟩
theorem wd_665 : WD (.instanceMethod yX9_has) := ⟨List.mem_of_getElem? (i := 665) (by decide +kernel), by decide +kernel⟩
theorem wd_666 : WD (.selects RX9 yX9_has yX9_has) := ⟨List.mem_of_getElem? (i := 666) (by decide +kernel), by decide +kernel⟩
theorem wd_667 : WD (.code yX9_has cX9_has 2 (some .boolean)) := ⟨List.mem_of_getElem? (i := 667) (by decide +kernel), by decide +kernel⟩
theorem wd_668 : WD (.constantDouble RX10 195 (13924712783166832640)) := ⟨List.mem_of_getElem? (i := 668) (by decide +kernel), by decide +kernel⟩
theorem wd_669 : WD (.methodLink RL 120 yX10_lookup) := ⟨List.mem_of_getElem? (i := 669) (by decide +kernel), by decide +kernel⟩
theorem wd_670 : WD (.instanceMethod yX10_lookup) := ⟨List.mem_of_getElem? (i := 670) (by decide +kernel), by decide +kernel⟩
theorem wd_671 : WD (.selects RX10 yX10_lookup yX10_lookup) := ⟨List.mem_of_getElem? (i := 671) (by decide +kernel), by decide +kernel⟩
theorem wd_672 : WD (.code yX10_lookup cX10_lookup 4 (some .double)) := ⟨List.mem_of_getElem? (i := 672) (by decide +kernel), by decide +kernel⟩
theorem wd_673 : WD (.methodLink RX10 201 yX9_read) := ⟨List.mem_of_getElem? (i := 673) (by decide +kernel), by decide +kernel⟩
theorem wd_674 : WD (.instanceMethod yX9_read) := ⟨List.mem_of_getElem? (i := 674) (by decide +kernel), by decide +kernel⟩
theorem wd_675 : WD (.selects RX9 yX9_read yX9_read) := ⟨List.mem_of_getElem? (i := 675) (by decide +kernel), by decide +kernel⟩
theorem wd_676 : WD (.code yX9_read cX9_read 4 (some .float)) := ⟨List.mem_of_getElem? (i := 676) (by decide +kernel), by decide +kernel⟩
theorem wd_677 : WD (.methodLink RL 124 yX10_off) := ⟨List.mem_of_getElem? (i := 677) (by decide +kernel), by decide +kernel⟩
theorem wd_678 : WD (.instanceMethod yX10_off) := ⟨List.mem_of_getElem? (i := 678) (by decide +kernel), by decide +kernel⟩
theorem wd_679 : WD (.selects RX10 yX10_off yX10_off) := ⟨List.mem_of_getElem? (i := 679) (by decide +kernel), by decide +kernel⟩
theorem wd_680 : WD (.code yX10_off cX10_off 3 (some .double)) := ⟨List.mem_of_getElem? (i := 680) (by decide +kernel), by decide +kernel⟩
theorem wd_681 : WD (.methodLink RX10 205 yX9_measure) := ⟨List.mem_of_getElem? (i := 681) (by decide +kernel), by decide +kernel⟩
theorem wd_682 : WD (.instanceMethod yX9_measure) := ⟨List.mem_of_getElem? (i := 682) (by decide +kernel), by decide +kernel⟩
theorem wd_683 : WD (.selects RX9 yX9_measure yX9_measure) := ⟨List.mem_of_getElem? (i := 683) (by decide +kernel), by decide +kernel⟩
theorem wd_684 : WD (.code yX9_measure cX9_measure 7 none) := ⟨List.mem_of_getElem? (i := 684) (by decide +kernel), by decide +kernel⟩
theorem wd_685 : WD (.methodLink RX9 43 yX1_filled) := ⟨List.mem_of_getElem? (i := 685) (by decide +kernel), by decide +kernel⟩
theorem wd_686 : WD (.constantDouble RX9 47 (13830554455654793216)) := ⟨List.mem_of_getElem? (i := 686) (by decide +kernel), by decide +kernel⟩
theorem wd_687 : WD (.methodLink RX9 49 yX9_read) := ⟨List.mem_of_getElem? (i := 687) (by decide +kernel), by decide +kernel⟩
theorem wd_688 : WD (.constantDouble RX9 53 (4562254508917369340)) := ⟨List.mem_of_getElem? (i := 688) (by decide +kernel), by decide +kernel⟩
theorem wd_689 : WD (.methodLink RL 129 yX10_offAt) := ⟨List.mem_of_getElem? (i := 689) (by decide +kernel), by decide +kernel⟩
theorem wd_690 : WD (.instanceMethod yX10_offAt) := ⟨List.mem_of_getElem? (i := 690) (by decide +kernel), by decide +kernel⟩
theorem wd_691 : WD (.selects RX10 yX10_offAt yX10_offAt) := ⟨List.mem_of_getElem? (i := 691) (by decide +kernel), by decide +kernel⟩
theorem wd_692 : WD (.code yX10_offAt cX10_offAt 3 (some .int)) := ⟨List.mem_of_getElem? (i := 692) (by decide +kernel), by decide +kernel⟩
theorem wd_693 : WD (.methodLink RL 133 yX10_bank) := ⟨List.mem_of_getElem? (i := 693) (by decide +kernel), by decide +kernel⟩
theorem wd_694 : WD (.instanceMethod yX10_bank) := ⟨List.mem_of_getElem? (i := 694) (by decide +kernel), by decide +kernel⟩
theorem wd_695 : WD (.selects RX10 yX10_bank yX10_bank) := ⟨List.mem_of_getElem? (i := 695) (by decide +kernel), by decide +kernel⟩
theorem wd_696 : WD (.code yX10_bank cX10_bank 3 (some .long)) := ⟨List.mem_of_getElem? (i := 696) (by decide +kernel), by decide +kernel⟩
theorem wd_697 : WD (.methodLink RX10 215 yX10_isBank) := ⟨List.mem_of_getElem? (i := 697) (by decide +kernel), by decide +kernel⟩
theorem wd_698 : WD (.static yX10_isBank) := ⟨List.mem_of_getElem? (i := 698) (by decide +kernel), by decide +kernel⟩
theorem wd_699 : WD (.code yX10_isBank cX10_isBank 1 (some .boolean)) := ⟨List.mem_of_getElem? (i := 699) (by decide +kernel), by decide +kernel⟩
theorem wd_700 : WD (.constantLong RX10 218 (-1000000000002)) := ⟨List.mem_of_getElem? (i := 700) (by decide +kernel), by decide +kernel⟩
theorem wd_701 : WD (.methodLink RX10 220 yX0_open) := ⟨List.mem_of_getElem? (i := 701) (by decide +kernel), by decide +kernel⟩
theorem wd_702 : WD (.instanceMethod yX0_open) := ⟨List.mem_of_getElem? (i := 702) (by decide +kernel), by decide +kernel⟩
theorem wd_703 : WD (.selects RX0 yX0_open yX0_open) := ⟨List.mem_of_getElem? (i := 703) (by decide +kernel), by decide +kernel⟩
theorem wd_704 : WD (.code yX0_open cX0_open 4 none) := ⟨List.mem_of_getElem? (i := 704) (by decide +kernel), by decide +kernel⟩
theorem wd_705 : WD (.methodLink RX0 46 yX0_put) := ⟨List.mem_of_getElem? (i := 705) (by decide +kernel), by decide +kernel⟩
theorem wd_706 : WD (.instanceMethod yX0_put) := ⟨List.mem_of_getElem? (i := 706) (by decide +kernel), by decide +kernel⟩
theorem wd_707 : WD (.selects RX0 yX0_put yX0_put) := ⟨List.mem_of_getElem? (i := 707) (by decide +kernel), by decide +kernel⟩
theorem wd_708 : WD (.code yX0_put cX0_put 5 none) := ⟨List.mem_of_getElem? (i := 708) (by decide +kernel), by decide +kernel⟩
theorem wd_709 : WD (.constantFloat RX0 54 (1040187392)) := ⟨List.mem_of_getElem? (i := 709) (by decide +kernel), by decide +kernel⟩
theorem wd_710 : WD (.constantDouble RX0 55 (4593671619917905920)) := ⟨List.mem_of_getElem? (i := 710) (by decide +kernel), by decide +kernel⟩
theorem wd_711 : WD (.methodLink RL 137 yX10_free) := ⟨List.mem_of_getElem? (i := 711) (by decide +kernel), by decide +kernel⟩
theorem wd_712 : WD (.instanceMethod yX10_free) := ⟨List.mem_of_getElem? (i := 712) (by decide +kernel), by decide +kernel⟩
theorem wd_713 : WD (.selects RX10 yX10_free yX10_free) := ⟨List.mem_of_getElem? (i := 713) (by decide +kernel), by decide +kernel⟩
theorem wd_714 : WD (.code yX10_free cX10_free 2 (some .int)) := ⟨List.mem_of_getElem? (i := 714) (by decide +kernel), by decide +kernel⟩
theorem wd_715 : WD (.methodLink RX10 223 yX0_close) := ⟨List.mem_of_getElem? (i := 715) (by decide +kernel), by decide +kernel⟩
theorem wd_716 : WD (.instanceMethod yX0_close) := ⟨List.mem_of_getElem? (i := 716) (by decide +kernel), by decide +kernel⟩
theorem wd_717 : WD (.selects RX0 yX0_close yX0_close) := ⟨List.mem_of_getElem? (i := 717) (by decide +kernel), by decide +kernel⟩
theorem wd_718 : WD (.code yX0_close cX0_close 3 (some .boolean)) := ⟨List.mem_of_getElem? (i := 718) (by decide +kernel), by decide +kernel⟩
theorem wd_719 : WD (.methodLink RX0 50 yX0_isOpen) := ⟨List.mem_of_getElem? (i := 719) (by decide +kernel), by decide +kernel⟩
theorem wd_720 : WD (.instanceMethod yX0_isOpen) := ⟨List.mem_of_getElem? (i := 720) (by decide +kernel), by decide +kernel⟩
theorem wd_721 : WD (.selects RX0 yX0_isOpen yX0_isOpen) := ⟨List.mem_of_getElem? (i := 721) (by decide +kernel), by decide +kernel⟩
theorem wd_722 : WD (.code yX0_isOpen cX0_isOpen 2 (some .boolean)) := ⟨List.mem_of_getElem? (i := 722) (by decide +kernel), by decide +kernel⟩
theorem wd_723 : WD (.methodLink RL 143 yX10_hold) := ⟨List.mem_of_getElem? (i := 723) (by decide +kernel), by decide +kernel⟩
theorem wd_724 : WD (.instanceMethod yX10_hold) := ⟨List.mem_of_getElem? (i := 724) (by decide +kernel), by decide +kernel⟩
theorem wd_725 : WD (.selects RX10 yX10_hold yX10_hold) := ⟨List.mem_of_getElem? (i := 725) (by decide +kernel), by decide +kernel⟩
theorem wd_726 : WD (.code yX10_hold cX10_hold 7 (some .long)) := ⟨List.mem_of_getElem? (i := 726) (by decide +kernel), by decide +kernel⟩
theorem wd_727 : WD (.methodLink RX10 226 yX10_faultOf) := ⟨List.mem_of_getElem? (i := 727) (by decide +kernel), by decide +kernel⟩
theorem wd_729 : WD (.instanceMethod yX10_faultOf) := ⟨List.mem_of_getElem? (i := 729) (by decide +kernel), by decide +kernel⟩
theorem wd_730 : WD (.code yX10_faultOf cX10_faultOf 3 (some .long)) := ⟨List.mem_of_getElem? (i := 730) (by decide +kernel), by decide +kernel⟩
theorem wd_731 : WD (.methodLink RX10 246 yX0_isOpen) := ⟨List.mem_of_getElem? (i := 731) (by decide +kernel), by decide +kernel⟩
theorem wd_732 : WD (.constantLong RX10 249 (-1000000000000)) := ⟨List.mem_of_getElem? (i := 732) (by decide +kernel), by decide +kernel⟩
theorem wd_733 : WD (.methodLink RX10 251 yX0_has) := ⟨List.mem_of_getElem? (i := 733) (by decide +kernel), by decide +kernel⟩
theorem wd_734 : WD (.instanceMethod yX0_has) := ⟨List.mem_of_getElem? (i := 734) (by decide +kernel), by decide +kernel⟩
theorem wd_735 : WD (.selects RX0 yX0_has yX0_has) := ⟨List.mem_of_getElem? (i := 735) (by decide +kernel), by decide +kernel⟩
theorem wd_736 : WD (.code yX0_has cX0_has 3 (some .boolean)) := ⟨List.mem_of_getElem? (i := 736) (by decide +kernel), by decide +kernel⟩
theorem wd_737 : WD (.constantLong RX10 253 (-1000000000001)) := ⟨List.mem_of_getElem? (i := 737) (by decide +kernel), by decide +kernel⟩
theorem wd_738 : WD (.methodLink RX10 230 yX0_put) := ⟨List.mem_of_getElem? (i := 738) (by decide +kernel), by decide +kernel⟩
theorem wd_739 : WD (.methodLink RX10 234 yX0_get) := ⟨List.mem_of_getElem? (i := 739) (by decide +kernel), by decide +kernel⟩
theorem wd_740 : WD (.instanceMethod yX0_get) := ⟨List.mem_of_getElem? (i := 740) (by decide +kernel), by decide +kernel⟩
theorem wd_741 : WD (.selects RX0 yX0_get yX0_get) := ⟨List.mem_of_getElem? (i := 741) (by decide +kernel), by decide +kernel⟩
theorem wd_742 : WD (.code yX0_get cX0_get 3 (some .long)) := ⟨List.mem_of_getElem? (i := 742) (by decide +kernel), by decide +kernel⟩
theorem wd_743 : WD (.constantFloat RX0 57 (1090519040)) := ⟨List.mem_of_getElem? (i := 743) (by decide +kernel), by decide +kernel⟩
theorem wd_744 : WD (.constantDouble RX0 58 (4620693217682128896)) := ⟨List.mem_of_getElem? (i := 744) (by decide +kernel), by decide +kernel⟩
theorem wd_745 : WD (.methodLink RL 148 yX10_held) := ⟨List.mem_of_getElem? (i := 745) (by decide +kernel), by decide +kernel⟩
theorem wd_746 : WD (.instanceMethod yX10_held) := ⟨List.mem_of_getElem? (i := 746) (by decide +kernel), by decide +kernel⟩
theorem wd_747 : WD (.selects RX10 yX10_held yX10_held) := ⟨List.mem_of_getElem? (i := 747) (by decide +kernel), by decide +kernel⟩
theorem wd_748 : WD (.code yX10_held cX10_held 5 (some .long)) := ⟨List.mem_of_getElem? (i := 748) (by decide +kernel), by decide +kernel⟩
theorem wd_749 : WD (.methodLink RL 156 yX10_count) := ⟨List.mem_of_getElem? (i := 749) (by decide +kernel), by decide +kernel⟩
theorem wd_750 : WD (.instanceMethod yX10_count) := ⟨List.mem_of_getElem? (i := 750) (by decide +kernel), by decide +kernel⟩
theorem wd_751 : WD (.selects RX10 yX10_count yX10_count) := ⟨List.mem_of_getElem? (i := 751) (by decide +kernel), by decide +kernel⟩
theorem wd_752 : WD (.code yX10_count cX10_count 2 (some .int)) := ⟨List.mem_of_getElem? (i := 752) (by decide +kernel), by decide +kernel⟩
theorem wd_753 : WD (.methodLink RX10 237 yX10_sensorsWithReadings) := ⟨List.mem_of_getElem? (i := 753) (by decide +kernel), by decide +kernel⟩
theorem wd_755 : WD (.instanceMethod yX10_sensorsWithReadings) := ⟨List.mem_of_getElem? (i := 755) (by decide +kernel), by decide +kernel⟩
theorem wd_756 : WD (.code yX10_sensorsWithReadings cX10_sensorsWithReadings 3 (some .int)) := ⟨List.mem_of_getElem? (i := 756) (by decide +kernel), by decide +kernel⟩
theorem wd_757 : WD (.methodLink RX10 240 yX10_tablesMade) := ⟨List.mem_of_getElem? (i := 757) (by decide +kernel), by decide +kernel⟩
theorem wd_759 : WD (.instanceMethod yX10_tablesMade) := ⟨List.mem_of_getElem? (i := 759) (by decide +kernel), by decide +kernel⟩
theorem wd_760 : WD (.code yX10_tablesMade cX10_tablesMade 3 (some .int)) := ⟨List.mem_of_getElem? (i := 760) (by decide +kernel), by decide +kernel⟩
theorem wd_761 : WD (.methodLink RX10 243 yX0_opened) := ⟨List.mem_of_getElem? (i := 761) (by decide +kernel), by decide +kernel⟩
theorem wd_762 : WD (.instanceMethod yX0_opened) := ⟨List.mem_of_getElem? (i := 762) (by decide +kernel), by decide +kernel⟩
theorem wd_763 : WD (.selects RX0 yX0_opened yX0_opened) := ⟨List.mem_of_getElem? (i := 763) (by decide +kernel), by decide +kernel⟩
theorem wd_764 : WD (.code yX0_opened cX0_opened 3 (some .int)) := ⟨List.mem_of_getElem? (i := 764) (by decide +kernel), by decide +kernel⟩
theorem wd_765 : WD (.classLink RL 10 RX11) := ⟨List.mem_of_getElem? (i := 765) (by decide +kernel), by decide +kernel⟩
theorem wd_766 : WD (.instantiable RX11 22) := ⟨List.mem_of_getElem? (i := 766) (by decide +kernel), by decide +kernel⟩
theorem wd_767 : WD (.methodLink RL 12 yX11_init) := ⟨List.mem_of_getElem? (i := 767) (by decide +kernel), by decide +kernel⟩
theorem wd_768 : WD (.instanceMethod yX11_init) := ⟨List.mem_of_getElem? (i := 768) (by decide +kernel), by decide +kernel⟩
theorem wd_769 : WD (.code yX11_init cX11_init 2 none) := ⟨List.mem_of_getElem? (i := 769) (by decide +kernel), by decide +kernel⟩
theorem wd_770 : WD (.methodLink RX11 1 Lib.objectInit) := ⟨List.mem_of_getElem? (i := 770) (by decide +kernel), by decide +kernel⟩
theorem wd_771 : WD (.constant RX11 28 (245760)) := ⟨List.mem_of_getElem? (i := 771) (by decide +kernel), by decide +kernel⟩
theorem wd_772 : WD (.fieldLink RX11 9 "CurveFoundryModel" "readings" "[I") := ⟨List.mem_of_getElem? (i := 772) (by decide +kernel), by decide +kernel⟩
theorem wd_773 : WD (.fieldLink RX11 13 "CurveFoundryModel" "count" "[I") := ⟨List.mem_of_getElem? (i := 773) (by decide +kernel), by decide +kernel⟩
theorem wd_774 : WD (.fieldLink RX11 16 "CurveFoundryModel" "reference" "[I") := ⟨List.mem_of_getElem? (i := 774) (by decide +kernel), by decide +kernel⟩
theorem wd_775 : WD (.fieldLink RX11 19 "CurveFoundryModel" "weight" "[I") := ⟨List.mem_of_getElem? (i := 775) (by decide +kernel), by decide +kernel⟩
theorem wd_776 : WD (.fieldLink RX11 85 "CurveFoundryModel" "curves" "I") := ⟨List.mem_of_getElem? (i := 776) (by decide +kernel), by decide +kernel⟩
theorem wd_777 : WD (.fieldLink RX11 22 "CurveFoundryModel" "sort" "[I") := ⟨List.mem_of_getElem? (i := 777) (by decide +kernel), by decide +kernel⟩
theorem wd_778 : WD (.fieldLink RX11 25 "CurveFoundryModel" "work" "[I") := ⟨List.mem_of_getElem? (i := 778) (by decide +kernel), by decide +kernel⟩
theorem wd_779 : WD (.fieldLink RX11 29 "CurveFoundryModel" "value" "[I") := ⟨List.mem_of_getElem? (i := 779) (by decide +kernel), by decide +kernel⟩
theorem wd_780 : WD (.fieldLink RX11 111 "CurveFoundryModel" "knots" "I") := ⟨List.mem_of_getElem? (i := 780) (by decide +kernel), by decide +kernel⟩
theorem wd_781 : WD (.fieldLink RX11 32 "CurveFoundryModel" "knotCount" "[I") := ⟨List.mem_of_getElem? (i := 781) (by decide +kernel), by decide +kernel⟩
theorem wd_782 : WD (.fieldLink RX11 35 "CurveFoundryModel" "knotValue" "[I") := ⟨List.mem_of_getElem? (i := 782) (by decide +kernel), by decide +kernel⟩
theorem wd_783 : WD (.fieldLink RX11 38 "CurveFoundryModel" "probeCurve" "[I") := ⟨List.mem_of_getElem? (i := 783) (by decide +kernel), by decide +kernel⟩
theorem wd_784 : WD (.fieldLink RX11 41 "CurveFoundryModel" "probeFilter" "[I") := ⟨List.mem_of_getElem? (i := 784) (by decide +kernel), by decide +kernel⟩
theorem wd_785 : WD (.fieldLink RX11 44 "CurveFoundryModel" "probeMany" "[I") := ⟨List.mem_of_getElem? (i := 785) (by decide +kernel), by decide +kernel⟩
theorem wd_786 : WD (.fieldLink RX11 47 "CurveFoundryModel" "fed" "[I") := ⟨List.mem_of_getElem? (i := 786) (by decide +kernel), by decide +kernel⟩
theorem wd_787 : WD (.fieldLink RX11 50 "CurveFoundryModel" "latest" "[I") := ⟨List.mem_of_getElem? (i := 787) (by decide +kernel), by decide +kernel⟩
theorem wd_788 : WD (.fieldLink RX11 53 "CurveFoundryModel" "given" "[I") := ⟨List.mem_of_getElem? (i := 788) (by decide +kernel), by decide +kernel⟩
theorem wd_789 : WD (.fieldLink RX11 56 "CurveFoundryModel" "tableCurve" "[I") := ⟨List.mem_of_getElem? (i := 789) (by decide +kernel), by decide +kernel⟩
theorem wd_790 : WD (.fieldLink RX11 59 "CurveFoundryModel" "tableStep" "[I") := ⟨List.mem_of_getElem? (i := 790) (by decide +kernel), by decide +kernel⟩
theorem wd_791 : WD (.fieldLink RX11 62 "CurveFoundryModel" "entry" "[F") := ⟨List.mem_of_getElem? (i := 791) (by decide +kernel), by decide +kernel⟩
theorem wd_792 : WD (.fieldLink RX11 66 "CurveFoundryModel" "bankSize" "[I") := ⟨List.mem_of_getElem? (i := 792) (by decide +kernel), by decide +kernel⟩
theorem wd_793 : WD (.fieldLink RX11 69 "CurveFoundryModel" "bank" "[J") := ⟨List.mem_of_getElem? (i := 793) (by decide +kernel), by decide +kernel⟩
theorem wd_839 : WD (.methodLink RL 17 yX11_reading) := ⟨List.mem_of_getElem? (i := 839) (by decide +kernel), by decide +kernel⟩
theorem wd_840 : WD (.instanceMethod yX11_reading) := ⟨List.mem_of_getElem? (i := 840) (by decide +kernel), by decide +kernel⟩
theorem wd_841 : WD (.selects RX11 yX11_reading yX11_reading) := ⟨List.mem_of_getElem? (i := 841) (by decide +kernel), by decide +kernel⟩
theorem wd_842 : WD (.code yX11_reading cX11_reading 6 (some .int)) := ⟨List.mem_of_getElem? (i := 842) (by decide +kernel), by decide +kernel⟩
theorem wd_843 : WD (.methodLink RX11 89 yX11_isSensor) := ⟨List.mem_of_getElem? (i := 843) (by decide +kernel), by decide +kernel⟩
theorem wd_844 : WD (.static yX11_isSensor) := ⟨List.mem_of_getElem? (i := 844) (by decide +kernel), by decide +kernel⟩
theorem wd_845 : WD (.code yX11_isSensor cX11_isSensor 1 (some .boolean)) := ⟨List.mem_of_getElem? (i := 845) (by decide +kernel), by decide +kernel⟩
theorem wd_846 : WD (.methodLink RX11 93 yX11_isCount) := ⟨List.mem_of_getElem? (i := 846) (by decide +kernel), by decide +kernel⟩
theorem wd_847 : WD (.static yX11_isCount) := ⟨List.mem_of_getElem? (i := 847) (by decide +kernel), by decide +kernel⟩
theorem wd_848 : WD (.code yX11_isCount cX11_isCount 1 (some .boolean)) := ⟨List.mem_of_getElem? (i := 848) (by decide +kernel), by decide +kernel⟩
theorem wd_849 : WD (.methodLink RL 22 yX11_drop) := ⟨List.mem_of_getElem? (i := 849) (by decide +kernel), by decide +kernel⟩
theorem wd_850 : WD (.instanceMethod yX11_drop) := ⟨List.mem_of_getElem? (i := 850) (by decide +kernel), by decide +kernel⟩
theorem wd_851 : WD (.selects RX11 yX11_drop yX11_drop) := ⟨List.mem_of_getElem? (i := 851) (by decide +kernel), by decide +kernel⟩
theorem wd_852 : WD (.code yX11_drop cX11_drop 5 (some .int)) := ⟨List.mem_of_getElem? (i := 852) (by decide +kernel), by decide +kernel⟩
theorem wd_853 : WD (.methodLink RX11 96 yX11_isReading) := ⟨List.mem_of_getElem? (i := 853) (by decide +kernel), by decide +kernel⟩
theorem wd_855 : WD (.instanceMethod yX11_isReading) := ⟨List.mem_of_getElem? (i := 855) (by decide +kernel), by decide +kernel⟩
theorem wd_856 : WD (.code yX11_isReading cX11_isReading 3 (some .boolean)) := ⟨List.mem_of_getElem? (i := 856) (by decide +kernel), by decide +kernel⟩
theorem wd_857 : WD (.methodLink RL 27 yX11_line) := ⟨List.mem_of_getElem? (i := 857) (by decide +kernel), by decide +kernel⟩
theorem wd_858 : WD (.instanceMethod yX11_line) := ⟨List.mem_of_getElem? (i := 858) (by decide +kernel), by decide +kernel⟩
theorem wd_859 : WD (.selects RX11 yX11_line yX11_line) := ⟨List.mem_of_getElem? (i := 859) (by decide +kernel), by decide +kernel⟩
theorem wd_860 : WD (.code yX11_line cX11_line 19 (some .int)) := ⟨List.mem_of_getElem? (i := 860) (by decide +kernel), by decide +kernel⟩
theorem wd_861 : WD (.methodLink RX11 100 yX11_newCurve) := ⟨List.mem_of_getElem? (i := 861) (by decide +kernel), by decide +kernel⟩
theorem wd_863 : WD (.instanceMethod yX11_newCurve) := ⟨List.mem_of_getElem? (i := 863) (by decide +kernel), by decide +kernel⟩
theorem wd_864 : WD (.code yX11_newCurve cX11_newCurve 3 (some .int)) := ⟨List.mem_of_getElem? (i := 864) (by decide +kernel), by decide +kernel⟩
theorem wd_865 : WD (.methodLink RX11 104 yX11_rounded) := ⟨List.mem_of_getElem? (i := 865) (by decide +kernel), by decide +kernel⟩
theorem wd_866 : WD (.static yX11_rounded) := ⟨List.mem_of_getElem? (i := 866) (by decide +kernel), by decide +kernel⟩
theorem wd_867 : WD (.code yX11_rounded cX11_rounded 8 (some .long)) := ⟨List.mem_of_getElem? (i := 867) (by decide +kernel), by decide +kernel⟩
theorem wd_868 : WD (.methodLink RX11 73 yX11_floor) := ⟨List.mem_of_getElem? (i := 868) (by decide +kernel), by decide +kernel⟩
theorem wd_869 : WD (.static yX11_floor) := ⟨List.mem_of_getElem? (i := 869) (by decide +kernel), by decide +kernel⟩
theorem wd_870 : WD (.code yX11_floor cX11_floor 6 (some .long)) := ⟨List.mem_of_getElem? (i := 870) (by decide +kernel), by decide +kernel⟩
theorem wd_871 : WD (.constantLong RX11 77 (2)) := ⟨List.mem_of_getElem? (i := 871) (by decide +kernel), by decide +kernel⟩
theorem wd_872 : WD (.methodLink RX11 107 yX11_bounded) := ⟨List.mem_of_getElem? (i := 872) (by decide +kernel), by decide +kernel⟩
theorem wd_873 : WD (.static yX11_bounded) := ⟨List.mem_of_getElem? (i := 873) (by decide +kernel), by decide +kernel⟩
theorem wd_874 : WD (.code yX11_bounded cX11_bounded 2 (some .int)) := ⟨List.mem_of_getElem? (i := 874) (by decide +kernel), by decide +kernel⟩
theorem wd_875 : WD (.constantLong RX11 79 (-1000000)) := ⟨List.mem_of_getElem? (i := 875) (by decide +kernel), by decide +kernel⟩
theorem wd_876 : WD (.constant RX11 81 (-1000000)) := ⟨List.mem_of_getElem? (i := 876) (by decide +kernel), by decide +kernel⟩
theorem wd_877 : WD (.constantLong RX11 82 (1000000)) := ⟨List.mem_of_getElem? (i := 877) (by decide +kernel), by decide +kernel⟩
theorem wd_878 : WD (.constant RX11 84 (1000000)) := ⟨List.mem_of_getElem? (i := 878) (by decide +kernel), by decide +kernel⟩
theorem wd_879 : WD (.methodLink RL 31 yX11_knot) := ⟨List.mem_of_getElem? (i := 879) (by decide +kernel), by decide +kernel⟩
theorem wd_880 : WD (.instanceMethod yX11_knot) := ⟨List.mem_of_getElem? (i := 880) (by decide +kernel), by decide +kernel⟩
theorem wd_881 : WD (.selects RX11 yX11_knot yX11_knot) := ⟨List.mem_of_getElem? (i := 881) (by decide +kernel), by decide +kernel⟩
theorem wd_882 : WD (.code yX11_knot cX11_knot 3 (some .int)) := ⟨List.mem_of_getElem? (i := 882) (by decide +kernel), by decide +kernel⟩
theorem wd_883 : WD (.methodLink RL 36 yX11_hush) := ⟨List.mem_of_getElem? (i := 883) (by decide +kernel), by decide +kernel⟩
theorem wd_884 : WD (.instanceMethod yX11_hush) := ⟨List.mem_of_getElem? (i := 884) (by decide +kernel), by decide +kernel⟩
theorem wd_885 : WD (.selects RX11 yX11_hush yX11_hush) := ⟨List.mem_of_getElem? (i := 885) (by decide +kernel), by decide +kernel⟩
theorem wd_886 : WD (.code yX11_hush cX11_hush 2 (some .int)) := ⟨List.mem_of_getElem? (i := 886) (by decide +kernel), by decide +kernel⟩
theorem wd_887 : WD (.methodLink RL 40 yX11_pieces) := ⟨List.mem_of_getElem? (i := 887) (by decide +kernel), by decide +kernel⟩
theorem wd_888 : WD (.instanceMethod yX11_pieces) := ⟨List.mem_of_getElem? (i := 888) (by decide +kernel), by decide +kernel⟩
theorem wd_889 : WD (.selects RX11 yX11_pieces yX11_pieces) := ⟨List.mem_of_getElem? (i := 889) (by decide +kernel), by decide +kernel⟩
theorem wd_890 : WD (.code yX11_pieces cX11_pieces 3 (some .int)) := ⟨List.mem_of_getElem? (i := 890) (by decide +kernel), by decide +kernel⟩
theorem wd_891 : WD (.methodLink RX11 114 yX11_through) := ⟨List.mem_of_getElem? (i := 891) (by decide +kernel), by decide +kernel⟩
theorem wd_893 : WD (.instanceMethod yX11_through) := ⟨List.mem_of_getElem? (i := 893) (by decide +kernel), by decide +kernel⟩
theorem wd_894 : WD (.code yX11_through cX11_through 5 (some .int)) := ⟨List.mem_of_getElem? (i := 894) (by decide +kernel), by decide +kernel⟩
theorem wd_895 : WD (.methodLink RL 44 yX11_gather) := ⟨List.mem_of_getElem? (i := 895) (by decide +kernel), by decide +kernel⟩
theorem wd_896 : WD (.instanceMethod yX11_gather) := ⟨List.mem_of_getElem? (i := 896) (by decide +kernel), by decide +kernel⟩
theorem wd_897 : WD (.selects RX11 yX11_gather yX11_gather) := ⟨List.mem_of_getElem? (i := 897) (by decide +kernel), by decide +kernel⟩
theorem wd_898 : WD (.code yX11_gather cX11_gather 9 (some .int)) := ⟨List.mem_of_getElem? (i := 898) (by decide +kernel), by decide +kernel⟩
theorem wd_899 : WD (.methodLink RL 49 yX11_clamp) := ⟨List.mem_of_getElem? (i := 899) (by decide +kernel), by decide +kernel⟩
theorem wd_900 : WD (.instanceMethod yX11_clamp) := ⟨List.mem_of_getElem? (i := 900) (by decide +kernel), by decide +kernel⟩
theorem wd_901 : WD (.selects RX11 yX11_clamp yX11_clamp) := ⟨List.mem_of_getElem? (i := 901) (by decide +kernel), by decide +kernel⟩
theorem wd_902 : WD (.code yX11_clamp cX11_clamp 6 (some .int)) := ⟨List.mem_of_getElem? (i := 902) (by decide +kernel), by decide +kernel⟩
theorem wd_903 : WD (.methodLink RX11 118 yX11_isCurve) := ⟨List.mem_of_getElem? (i := 903) (by decide +kernel), by decide +kernel⟩
theorem wd_905 : WD (.instanceMethod yX11_isCurve) := ⟨List.mem_of_getElem? (i := 905) (by decide +kernel), by decide +kernel⟩
theorem wd_906 : WD (.code yX11_isCurve cX11_isCurve 2 (some .boolean)) := ⟨List.mem_of_getElem? (i := 906) (by decide +kernel), by decide +kernel⟩
theorem wd_907 : WD (.methodLink RX11 121 yX11_isValue) := ⟨List.mem_of_getElem? (i := 907) (by decide +kernel), by decide +kernel⟩
theorem wd_908 : WD (.static yX11_isValue) := ⟨List.mem_of_getElem? (i := 908) (by decide +kernel), by decide +kernel⟩
theorem wd_909 : WD (.code yX11_isValue cX11_isValue 1 (some .boolean)) := ⟨List.mem_of_getElem? (i := 909) (by decide +kernel), by decide +kernel⟩
theorem wd_910 : WD (.methodLink RX11 124 yX11_mayWork) := ⟨List.mem_of_getElem? (i := 910) (by decide +kernel), by decide +kernel⟩
theorem wd_912 : WD (.instanceMethod yX11_mayWork) := ⟨List.mem_of_getElem? (i := 912) (by decide +kernel), by decide +kernel⟩
theorem wd_913 : WD (.code yX11_mayWork cX11_mayWork 2 (some .boolean)) := ⟨List.mem_of_getElem? (i := 913) (by decide +kernel), by decide +kernel⟩
theorem wd_914 : WD (.methodLink RX11 127 yX11_of) := ⟨List.mem_of_getElem? (i := 914) (by decide +kernel), by decide +kernel⟩
theorem wd_916 : WD (.instanceMethod yX11_of) := ⟨List.mem_of_getElem? (i := 916) (by decide +kernel), by decide +kernel⟩
theorem wd_917 : WD (.code yX11_of cX11_of 3 (some .int)) := ⟨List.mem_of_getElem? (i := 917) (by decide +kernel), by decide +kernel⟩
theorem wd_918 : WD (.methodLink RL 53 yX11_dead) := ⟨List.mem_of_getElem? (i := 918) (by decide +kernel), by decide +kernel⟩
theorem wd_919 : WD (.instanceMethod yX11_dead) := ⟨List.mem_of_getElem? (i := 919) (by decide +kernel), by decide +kernel⟩
theorem wd_920 : WD (.selects RX11 yX11_dead yX11_dead) := ⟨List.mem_of_getElem? (i := 920) (by decide +kernel), by decide +kernel⟩
theorem wd_921 : WD (.code yX11_dead cX11_dead 7 (some .int)) := ⟨List.mem_of_getElem? (i := 921) (by decide +kernel), by decide +kernel⟩
theorem wd_922 : WD (.methodLink RL 57 yX11_chain) := ⟨List.mem_of_getElem? (i := 922) (by decide +kernel), by decide +kernel⟩
theorem wd_923 : WD (.instanceMethod yX11_chain) := ⟨List.mem_of_getElem? (i := 923) (by decide +kernel), by decide +kernel⟩
theorem wd_924 : WD (.selects RX11 yX11_chain yX11_chain) := ⟨List.mem_of_getElem? (i := 924) (by decide +kernel), by decide +kernel⟩
theorem wd_925 : WD (.code yX11_chain cX11_chain 6 (some .int)) := ⟨List.mem_of_getElem? (i := 925) (by decide +kernel), by decide +kernel⟩
theorem wd_926 : WD (.methodLink RL 61 yX11_gain) := ⟨List.mem_of_getElem? (i := 926) (by decide +kernel), by decide +kernel⟩
theorem wd_927 : WD (.instanceMethod yX11_gain) := ⟨List.mem_of_getElem? (i := 927) (by decide +kernel), by decide +kernel⟩
theorem wd_928 : WD (.selects RX11 yX11_gain yX11_gain) := ⟨List.mem_of_getElem? (i := 928) (by decide +kernel), by decide +kernel⟩
theorem wd_929 : WD (.code yX11_gain cX11_gain 7 (some .int)) := ⟨List.mem_of_getElem? (i := 929) (by decide +kernel), by decide +kernel⟩
theorem wd_930 : WD (.methodLink RL 65 yX11_mirror) := ⟨List.mem_of_getElem? (i := 930) (by decide +kernel), by decide +kernel⟩
theorem wd_931 : WD (.instanceMethod yX11_mirror) := ⟨List.mem_of_getElem? (i := 931) (by decide +kernel), by decide +kernel⟩
theorem wd_932 : WD (.selects RX11 yX11_mirror yX11_mirror) := ⟨List.mem_of_getElem? (i := 932) (by decide +kernel), by decide +kernel⟩
theorem wd_933 : WD (.code yX11_mirror cX11_mirror 4 (some .int)) := ⟨List.mem_of_getElem? (i := 933) (by decide +kernel), by decide +kernel⟩
theorem wd_934 : WD (.methodLink RL 69 yX11_value) := ⟨List.mem_of_getElem? (i := 934) (by decide +kernel), by decide +kernel⟩
theorem wd_935 : WD (.instanceMethod yX11_value) := ⟨List.mem_of_getElem? (i := 935) (by decide +kernel), by decide +kernel⟩
theorem wd_936 : WD (.selects RX11 yX11_value yX11_value) := ⟨List.mem_of_getElem? (i := 936) (by decide +kernel), by decide +kernel⟩
theorem wd_937 : WD (.code yX11_value cX11_value 3 (some .int)) := ⟨List.mem_of_getElem? (i := 937) (by decide +kernel), by decide +kernel⟩
theorem wd_938 : WD (.constant RX11 130 (-2000000)) := ⟨List.mem_of_getElem? (i := 938) (by decide +kernel), by decide +kernel⟩
theorem wd_939 : WD (.methodLink RL 73 yX11_about) := ⟨List.mem_of_getElem? (i := 939) (by decide +kernel), by decide +kernel⟩
theorem wd_940 : WD (.instanceMethod yX11_about) := ⟨List.mem_of_getElem? (i := 940) (by decide +kernel), by decide +kernel⟩
theorem wd_941 : WD (.selects RX11 yX11_about yX11_about) := ⟨List.mem_of_getElem? (i := 941) (by decide +kernel), by decide +kernel⟩
theorem wd_942 : WD (.code yX11_about cX11_about 3 (some .int)) := ⟨List.mem_of_getElem? (i := 942) (by decide +kernel), by decide +kernel⟩
theorem wd_943 : WD (.methodLink RX11 131 yX11_way) := ⟨List.mem_of_getElem? (i := 943) (by decide +kernel), by decide +kernel⟩
theorem wd_945 : WD (.instanceMethod yX11_way) := ⟨List.mem_of_getElem? (i := 945) (by decide +kernel), by decide +kernel⟩
theorem wd_946 : WD (.code yX11_way cX11_way 5 (some .int)) := ⟨List.mem_of_getElem? (i := 946) (by decide +kernel), by decide +kernel⟩
theorem wd_947 : WD (.methodLink RX11 134 yX11_turning) := ⟨List.mem_of_getElem? (i := 947) (by decide +kernel), by decide +kernel⟩
theorem wd_949 : WD (.instanceMethod yX11_turning) := ⟨List.mem_of_getElem? (i := 949) (by decide +kernel), by decide +kernel⟩
theorem wd_950 : WD (.code yX11_turning cX11_turning 7 (some .int)) := ⟨List.mem_of_getElem? (i := 950) (by decide +kernel), by decide +kernel⟩
theorem wd_951 : WD (.methodLink RX11 137 yX11_end) := ⟨List.mem_of_getElem? (i := 951) (by decide +kernel), by decide +kernel⟩
theorem wd_953 : WD (.instanceMethod yX11_end) := ⟨List.mem_of_getElem? (i := 953) (by decide +kernel), by decide +kernel⟩
theorem wd_954 : WD (.code yX11_end cX11_end 5 (some .int)) := ⟨List.mem_of_getElem? (i := 954) (by decide +kernel), by decide +kernel⟩
theorem wd_955 : WD (.methodLink RL 77 yX11_turn) := ⟨List.mem_of_getElem? (i := 955) (by decide +kernel), by decide +kernel⟩
theorem wd_956 : WD (.instanceMethod yX11_turn) := ⟨List.mem_of_getElem? (i := 956) (by decide +kernel), by decide +kernel⟩
theorem wd_957 : WD (.selects RX11 yX11_turn yX11_turn) := ⟨List.mem_of_getElem? (i := 957) (by decide +kernel), by decide +kernel⟩
theorem wd_958 : WD (.code yX11_turn cX11_turn 3 (some .int)) := ⟨List.mem_of_getElem? (i := 958) (by decide +kernel), by decide +kernel⟩
theorem wd_959 : WD (.methodLink RL 81 yX11_inverse) := ⟨List.mem_of_getElem? (i := 959) (by decide +kernel), by decide +kernel⟩
theorem wd_960 : WD (.instanceMethod yX11_inverse) := ⟨List.mem_of_getElem? (i := 960) (by decide +kernel), by decide +kernel⟩
theorem wd_961 : WD (.selects RX11 yX11_inverse yX11_inverse) := ⟨List.mem_of_getElem? (i := 961) (by decide +kernel), by decide +kernel⟩
theorem wd_962 : WD (.code yX11_inverse cX11_inverse 5 (some .int)) := ⟨List.mem_of_getElem? (i := 962) (by decide +kernel), by decide +kernel⟩
theorem wd_963 : WD (.methodLink RX11 141 yX11_far) := ⟨List.mem_of_getElem? (i := 963) (by decide +kernel), by decide +kernel⟩
theorem wd_965 : WD (.instanceMethod yX11_far) := ⟨List.mem_of_getElem? (i := 965) (by decide +kernel), by decide +kernel⟩
theorem wd_966 : WD (.code yX11_far cX11_far 6 (some .long)) := ⟨List.mem_of_getElem? (i := 966) (by decide +kernel), by decide +kernel⟩
theorem wd_967 : WD (.methodLink RL 85 yX11_residual) := ⟨List.mem_of_getElem? (i := 967) (by decide +kernel), by decide +kernel⟩
theorem wd_968 : WD (.instanceMethod yX11_residual) := ⟨List.mem_of_getElem? (i := 968) (by decide +kernel), by decide +kernel⟩
theorem wd_969 : WD (.selects RX11 yX11_residual yX11_residual) := ⟨List.mem_of_getElem? (i := 969) (by decide +kernel), by decide +kernel⟩
theorem wd_970 : WD (.code yX11_residual cX11_residual 4 (some .int)) := ⟨List.mem_of_getElem? (i := 970) (by decide +kernel), by decide +kernel⟩
theorem wd_971 : WD (.methodLink RX11 145 yX11_rest) := ⟨List.mem_of_getElem? (i := 971) (by decide +kernel), by decide +kernel⟩
theorem wd_973 : WD (.instanceMethod yX11_rest) := ⟨List.mem_of_getElem? (i := 973) (by decide +kernel), by decide +kernel⟩
theorem wd_974 : WD (.code yX11_rest cX11_rest 4 (some .int)) := ⟨List.mem_of_getElem? (i := 974) (by decide +kernel), by decide +kernel⟩
theorem wd_975 : WD (.methodLink RL 89 yX11_worst) := ⟨List.mem_of_getElem? (i := 975) (by decide +kernel), by decide +kernel⟩
theorem wd_976 : WD (.instanceMethod yX11_worst) := ⟨List.mem_of_getElem? (i := 976) (by decide +kernel), by decide +kernel⟩
theorem wd_977 : WD (.selects RX11 yX11_worst yX11_worst) := ⟨List.mem_of_getElem? (i := 977) (by decide +kernel), by decide +kernel⟩
theorem wd_978 : WD (.code yX11_worst cX11_worst 8 (some .int)) := ⟨List.mem_of_getElem? (i := 978) (by decide +kernel), by decide +kernel⟩
theorem wd_979 : WD (.methodLink RL 94 yX11_squares) := ⟨List.mem_of_getElem? (i := 979) (by decide +kernel), by decide +kernel⟩
theorem wd_980 : WD (.instanceMethod yX11_squares) := ⟨List.mem_of_getElem? (i := 980) (by decide +kernel), by decide +kernel⟩
theorem wd_981 : WD (.selects RX11 yX11_squares yX11_squares) := ⟨List.mem_of_getElem? (i := 981) (by decide +kernel), by decide +kernel⟩
theorem wd_982 : WD (.code yX11_squares cX11_squares 8 (some .long)) := ⟨List.mem_of_getElem? (i := 982) (by decide +kernel), by decide +kernel⟩
theorem wd_983 : WD (.constantLong RX11 149 (-2)) := ⟨List.mem_of_getElem? (i := 983) (by decide +kernel), by decide +kernel⟩
theorem wd_984 : WD (.methodLink RL 98 yX11_drift) := ⟨List.mem_of_getElem? (i := 984) (by decide +kernel), by decide +kernel⟩
theorem wd_985 : WD (.instanceMethod yX11_drift) := ⟨List.mem_of_getElem? (i := 985) (by decide +kernel), by decide +kernel⟩
theorem wd_986 : WD (.selects RX11 yX11_drift yX11_drift) := ⟨List.mem_of_getElem? (i := 986) (by decide +kernel), by decide +kernel⟩
theorem wd_987 : WD (.code yX11_drift cX11_drift 8 (some .int)) := ⟨List.mem_of_getElem? (i := 987) (by decide +kernel), by decide +kernel⟩
theorem wd_988 : WD (.methodLink RL 102 yX11_probe) := ⟨List.mem_of_getElem? (i := 988) (by decide +kernel), by decide +kernel⟩
theorem wd_989 : WD (.instanceMethod yX11_probe) := ⟨List.mem_of_getElem? (i := 989) (by decide +kernel), by decide +kernel⟩
theorem wd_990 : WD (.selects RX11 yX11_probe yX11_probe) := ⟨List.mem_of_getElem? (i := 990) (by decide +kernel), by decide +kernel⟩
theorem wd_991 : WD (.code yX11_probe cX11_probe 5 (some .int)) := ⟨List.mem_of_getElem? (i := 991) (by decide +kernel), by decide +kernel⟩
theorem wd_992 : WD (.methodLink RX11 151 yX11_isFour) := ⟨List.mem_of_getElem? (i := 992) (by decide +kernel), by decide +kernel⟩
theorem wd_993 : WD (.static yX11_isFour) := ⟨List.mem_of_getElem? (i := 993) (by decide +kernel), by decide +kernel⟩
theorem wd_994 : WD (.code yX11_isFour cX11_isFour 1 (some .boolean)) := ⟨List.mem_of_getElem? (i := 994) (by decide +kernel), by decide +kernel⟩
theorem wd_995 : WD (.methodLink RL 106 yX11_feed) := ⟨List.mem_of_getElem? (i := 995) (by decide +kernel), by decide +kernel⟩
theorem wd_996 : WD (.instanceMethod yX11_feed) := ⟨List.mem_of_getElem? (i := 996) (by decide +kernel), by decide +kernel⟩
theorem wd_997 : WD (.selects RX11 yX11_feed yX11_feed) := ⟨List.mem_of_getElem? (i := 997) (by decide +kernel), by decide +kernel⟩
theorem wd_998 : WD (.code yX11_feed cX11_feed 4 (some .int)) := ⟨List.mem_of_getElem? (i := 998) (by decide +kernel), by decide +kernel⟩
theorem wd_999 : WD (.methodLink RX11 154 yX11_filtered) := ⟨List.mem_of_getElem? (i := 999) (by decide +kernel), by decide +kernel⟩
theorem wd_1001 : WD (.instanceMethod yX11_filtered) := ⟨List.mem_of_getElem? (i := 1001) (by decide +kernel), by decide +kernel⟩
theorem wd_1002 : WD (.code yX11_filtered cX11_filtered 9 (some .int)) := ⟨List.mem_of_getElem? (i := 1002) (by decide +kernel), by decide +kernel⟩
theorem wd_1003 : WD (.methodLink RL 110 yX11_probed) := ⟨List.mem_of_getElem? (i := 1003) (by decide +kernel), by decide +kernel⟩
theorem wd_1004 : WD (.instanceMethod yX11_probed) := ⟨List.mem_of_getElem? (i := 1004) (by decide +kernel), by decide +kernel⟩
theorem wd_1005 : WD (.selects RX11 yX11_probed yX11_probed) := ⟨List.mem_of_getElem? (i := 1005) (by decide +kernel), by decide +kernel⟩
theorem wd_1006 : WD (.code yX11_probed cX11_probed 2 (some .int)) := ⟨List.mem_of_getElem? (i := 1006) (by decide +kernel), by decide +kernel⟩
theorem wd_1007 : WD (.methodLink RL 114 yX11_table) := ⟨List.mem_of_getElem? (i := 1007) (by decide +kernel), by decide +kernel⟩
theorem wd_1008 : WD (.instanceMethod yX11_table) := ⟨List.mem_of_getElem? (i := 1008) (by decide +kernel), by decide +kernel⟩
theorem wd_1009 : WD (.selects RX11 yX11_table yX11_table) := ⟨List.mem_of_getElem? (i := 1009) (by decide +kernel), by decide +kernel⟩
theorem wd_1010 : WD (.code yX11_table cX11_table 7 (some .int)) := ⟨List.mem_of_getElem? (i := 1010) (by decide +kernel), by decide +kernel⟩
theorem wd_1011 : WD (.constantFloat RX11 157 (981668463)) := ⟨List.mem_of_getElem? (i := 1011) (by decide +kernel), by decide +kernel⟩
theorem wd_1012 : WD (.methodLink RL 119 yX11_entry) := ⟨List.mem_of_getElem? (i := 1012) (by decide +kernel), by decide +kernel⟩
theorem wd_1013 : WD (.instanceMethod yX11_entry) := ⟨List.mem_of_getElem? (i := 1013) (by decide +kernel), by decide +kernel⟩
theorem wd_1014 : WD (.selects RX11 yX11_entry yX11_entry) := ⟨List.mem_of_getElem? (i := 1014) (by decide +kernel), by decide +kernel⟩
theorem wd_1015 : WD (.code yX11_entry cX11_entry 3 (some .double)) := ⟨List.mem_of_getElem? (i := 1015) (by decide +kernel), by decide +kernel⟩
theorem wd_1016 : WD (.methodLink RX11 158 yX11_isTable) := ⟨List.mem_of_getElem? (i := 1016) (by decide +kernel), by decide +kernel⟩
theorem wd_1018 : WD (.instanceMethod yX11_isTable) := ⟨List.mem_of_getElem? (i := 1018) (by decide +kernel), by decide +kernel⟩
theorem wd_1019 : WD (.code yX11_isTable cX11_isTable 2 (some .boolean)) := ⟨List.mem_of_getElem? (i := 1019) (by decide +kernel), by decide +kernel⟩
theorem wd_1020 : WD (.constantDouble RX11 161 (13924712783166832640)) := ⟨List.mem_of_getElem? (i := 1020) (by decide +kernel), by decide +kernel⟩
theorem wd_1021 : WD (.methodLink RL 123 yX11_lookup) := ⟨List.mem_of_getElem? (i := 1021) (by decide +kernel), by decide +kernel⟩
theorem wd_1022 : WD (.instanceMethod yX11_lookup) := ⟨List.mem_of_getElem? (i := 1022) (by decide +kernel), by decide +kernel⟩
theorem wd_1023 : WD (.selects RX11 yX11_lookup yX11_lookup) := ⟨List.mem_of_getElem? (i := 1023) (by decide +kernel), by decide +kernel⟩
theorem wd_1024 : WD (.code yX11_lookup cX11_lookup 3 (some .double)) := ⟨List.mem_of_getElem? (i := 1024) (by decide +kernel), by decide +kernel⟩
theorem wd_1025 : WD (.methodLink RX11 163 yX11_looked) := ⟨List.mem_of_getElem? (i := 1025) (by decide +kernel), by decide +kernel⟩
theorem wd_1027 : WD (.instanceMethod yX11_looked) := ⟨List.mem_of_getElem? (i := 1027) (by decide +kernel), by decide +kernel⟩
theorem wd_1028 : WD (.code yX11_looked cX11_looked 8 (some .float)) := ⟨List.mem_of_getElem? (i := 1028) (by decide +kernel), by decide +kernel⟩
theorem wd_1029 : WD (.methodLink RL 128 yX11_off) := ⟨List.mem_of_getElem? (i := 1029) (by decide +kernel), by decide +kernel⟩
theorem wd_1030 : WD (.instanceMethod yX11_off) := ⟨List.mem_of_getElem? (i := 1030) (by decide +kernel), by decide +kernel⟩
theorem wd_1031 : WD (.selects RX11 yX11_off yX11_off) := ⟨List.mem_of_getElem? (i := 1031) (by decide +kernel), by decide +kernel⟩
theorem wd_1032 : WD (.code yX11_off cX11_off 2 (some .double)) := ⟨List.mem_of_getElem? (i := 1032) (by decide +kernel), by decide +kernel⟩
theorem wd_1033 : WD (.methodLink RX11 173 yX11_mostOff) := ⟨List.mem_of_getElem? (i := 1033) (by decide +kernel), by decide +kernel⟩
theorem wd_1035 : WD (.instanceMethod yX11_mostOff) := ⟨List.mem_of_getElem? (i := 1035) (by decide +kernel), by decide +kernel⟩
theorem wd_1036 : WD (.code yX11_mostOff cX11_mostOff 4 (some .int)) := ⟨List.mem_of_getElem? (i := 1036) (by decide +kernel), by decide +kernel⟩
theorem wd_1037 : WD (.methodLink RX11 169 yX11_offBy) := ⟨List.mem_of_getElem? (i := 1037) (by decide +kernel), by decide +kernel⟩
theorem wd_1039 : WD (.instanceMethod yX11_offBy) := ⟨List.mem_of_getElem? (i := 1039) (by decide +kernel), by decide +kernel⟩
theorem wd_1040 : WD (.code yX11_offBy cX11_offBy 5 (some .double)) := ⟨List.mem_of_getElem? (i := 1040) (by decide +kernel), by decide +kernel⟩
theorem wd_1041 : WD (.constantDouble RX11 167 (4562254508917369340)) := ⟨List.mem_of_getElem? (i := 1041) (by decide +kernel), by decide +kernel⟩
theorem wd_1042 : WD (.methodLink RL 132 yX11_offAt) := ⟨List.mem_of_getElem? (i := 1042) (by decide +kernel), by decide +kernel⟩
theorem wd_1043 : WD (.instanceMethod yX11_offAt) := ⟨List.mem_of_getElem? (i := 1043) (by decide +kernel), by decide +kernel⟩
theorem wd_1044 : WD (.selects RX11 yX11_offAt yX11_offAt) := ⟨List.mem_of_getElem? (i := 1044) (by decide +kernel), by decide +kernel⟩
theorem wd_1045 : WD (.code yX11_offAt cX11_offAt 2 (some .int)) := ⟨List.mem_of_getElem? (i := 1045) (by decide +kernel), by decide +kernel⟩
theorem wd_1046 : WD (.methodLink RL 136 yX11_bank) := ⟨List.mem_of_getElem? (i := 1046) (by decide +kernel), by decide +kernel⟩
theorem wd_1047 : WD (.instanceMethod yX11_bank) := ⟨List.mem_of_getElem? (i := 1047) (by decide +kernel), by decide +kernel⟩
theorem wd_1048 : WD (.selects RX11 yX11_bank yX11_bank) := ⟨List.mem_of_getElem? (i := 1048) (by decide +kernel), by decide +kernel⟩
theorem wd_1049 : WD (.code yX11_bank cX11_bank 4 (some .long)) := ⟨List.mem_of_getElem? (i := 1049) (by decide +kernel), by decide +kernel⟩
theorem wd_1050 : WD (.methodLink RX11 176 yX11_isBank) := ⟨List.mem_of_getElem? (i := 1050) (by decide +kernel), by decide +kernel⟩
theorem wd_1051 : WD (.static yX11_isBank) := ⟨List.mem_of_getElem? (i := 1051) (by decide +kernel), by decide +kernel⟩
theorem wd_1052 : WD (.code yX11_isBank cX11_isBank 1 (some .boolean)) := ⟨List.mem_of_getElem? (i := 1052) (by decide +kernel), by decide +kernel⟩
theorem wd_1053 : WD (.constantLong RX11 179 (-1000000000002)) := ⟨List.mem_of_getElem? (i := 1053) (by decide +kernel), by decide +kernel⟩
theorem wd_1054 : WD (.methodLink RL 140 yX11_free) := ⟨List.mem_of_getElem? (i := 1054) (by decide +kernel), by decide +kernel⟩
theorem wd_1055 : WD (.instanceMethod yX11_free) := ⟨List.mem_of_getElem? (i := 1055) (by decide +kernel), by decide +kernel⟩
theorem wd_1056 : WD (.selects RX11 yX11_free yX11_free) := ⟨List.mem_of_getElem? (i := 1056) (by decide +kernel), by decide +kernel⟩
theorem wd_1057 : WD (.code yX11_free cX11_free 3 (some .int)) := ⟨List.mem_of_getElem? (i := 1057) (by decide +kernel), by decide +kernel⟩
theorem wd_1058 : WD (.methodLink RL 147 yX11_hold) := ⟨List.mem_of_getElem? (i := 1058) (by decide +kernel), by decide +kernel⟩
theorem wd_1059 : WD (.instanceMethod yX11_hold) := ⟨List.mem_of_getElem? (i := 1059) (by decide +kernel), by decide +kernel⟩
theorem wd_1060 : WD (.selects RX11 yX11_hold yX11_hold) := ⟨List.mem_of_getElem? (i := 1060) (by decide +kernel), by decide +kernel⟩
theorem wd_1061 : WD (.code yX11_hold cX11_hold 5 (some .long)) := ⟨List.mem_of_getElem? (i := 1061) (by decide +kernel), by decide +kernel⟩
theorem wd_1062 : WD (.constantLong RX11 181 (-1000000000000)) := ⟨List.mem_of_getElem? (i := 1062) (by decide +kernel), by decide +kernel⟩
theorem wd_1063 : WD (.constantLong RX11 183 (-1000000000001)) := ⟨List.mem_of_getElem? (i := 1063) (by decide +kernel), by decide +kernel⟩
theorem wd_1064 : WD (.methodLink RX11 185 yX11_kept) := ⟨List.mem_of_getElem? (i := 1064) (by decide +kernel), by decide +kernel⟩
theorem wd_1065 : WD (.static yX11_kept) := ⟨List.mem_of_getElem? (i := 1065) (by decide +kernel), by decide +kernel⟩
theorem wd_1066 : WD (.code yX11_kept cX11_kept 3 (some .long)) := ⟨List.mem_of_getElem? (i := 1066) (by decide +kernel), by decide +kernel⟩
theorem wd_1067 : WD (.methodLink RL 151 yX11_held) := ⟨List.mem_of_getElem? (i := 1067) (by decide +kernel), by decide +kernel⟩
theorem wd_1068 : WD (.instanceMethod yX11_held) := ⟨List.mem_of_getElem? (i := 1068) (by decide +kernel), by decide +kernel⟩
theorem wd_1069 : WD (.selects RX11 yX11_held yX11_held) := ⟨List.mem_of_getElem? (i := 1069) (by decide +kernel), by decide +kernel⟩
theorem wd_1070 : WD (.code yX11_held cX11_held 3 (some .long)) := ⟨List.mem_of_getElem? (i := 1070) (by decide +kernel), by decide +kernel⟩
theorem wd_1071 : WD (.methodLink RL 155 yX11_readings) := ⟨List.mem_of_getElem? (i := 1071) (by decide +kernel), by decide +kernel⟩
theorem wd_1072 : WD (.instanceMethod yX11_readings) := ⟨List.mem_of_getElem? (i := 1072) (by decide +kernel), by decide +kernel⟩
theorem wd_1073 : WD (.selects RX11 yX11_readings yX11_readings) := ⟨List.mem_of_getElem? (i := 1073) (by decide +kernel), by decide +kernel⟩
theorem wd_1074 : WD (.code yX11_readings cX11_readings 2 (some .int)) := ⟨List.mem_of_getElem? (i := 1074) (by decide +kernel), by decide +kernel⟩
theorem wd_1075 : WD (.methodLink RL 159 yX11_count) := ⟨List.mem_of_getElem? (i := 1075) (by decide +kernel), by decide +kernel⟩
theorem wd_1076 : WD (.instanceMethod yX11_count) := ⟨List.mem_of_getElem? (i := 1076) (by decide +kernel), by decide +kernel⟩
theorem wd_1077 : WD (.selects RX11 yX11_count yX11_count) := ⟨List.mem_of_getElem? (i := 1077) (by decide +kernel), by decide +kernel⟩
theorem wd_1078 : WD (.code yX11_count cX11_count 4 (some .int)) := ⟨List.mem_of_getElem? (i := 1078) (by decide +kernel), by decide +kernel⟩
theorem wd_1079 : WD (.constantLong RL 141 (4294967295)) := ⟨List.mem_of_getElem? (i := 1079) (by decide +kernel), by decide +kernel⟩
theorem wd_1080 : WD (.castable RX4 RX1) := ⟨List.mem_of_getElem? (i := 1080) (by decide +kernel), by decide +kernel⟩
theorem wd_1081 : WD (.castable RX5 RX1) := ⟨List.mem_of_getElem? (i := 1081) (by decide +kernel), by decide +kernel⟩
theorem wd_1082 : WD (.castable RX7 RX1) := ⟨List.mem_of_getElem? (i := 1082) (by decide +kernel), by decide +kernel⟩
theorem fk_RX0_sizes : ([0] : List Nat).all (fkOk 0 "CurveFoundry$Banks" "sizes" "[I" true) = true := by decide +kernel
theorem fk_RX0_bytes : ([0] : List Nat).all (fkOk 1 "CurveFoundry$Banks" "bytes" "[B" true) = true := by decide +kernel
theorem fk_RX0_chars : ([0] : List Nat).all (fkOk 2 "CurveFoundry$Banks" "chars" "[C" true) = true := by decide +kernel
theorem fk_RX0_shorts : ([0] : List Nat).all (fkOk 3 "CurveFoundry$Banks" "shorts" "[S" true) = true := by decide +kernel
theorem fk_RX0_ints : ([0] : List Nat).all (fkOk 4 "CurveFoundry$Banks" "ints" "[I" true) = true := by decide +kernel
theorem fk_RX0_longs : ([0] : List Nat).all (fkOk 5 "CurveFoundry$Banks" "longs" "[J" true) = true := by decide +kernel
theorem fk_RX0_floats : ([0] : List Nat).all (fkOk 6 "CurveFoundry$Banks" "floats" "[F" true) = true := by decide +kernel
theorem fk_RX0_doubles : ([0] : List Nat).all (fkOk 7 "CurveFoundry$Banks" "doubles" "[D" true) = true := by decide +kernel
theorem fk_RX0_booleans : ([0] : List Nat).all (fkOk 8 "CurveFoundry$Banks" "booleans" "[Z" true) = true := by decide +kernel
theorem fk_RX1_row : ([3, 4, 6] : List Nat).all (fkOk 2 "CurveFoundry$Curve" "row" "[I" false) = true := by decide +kernel
theorem fk_RX1_form : ([3, 4, 6] : List Nat).all (fkOk 3 "CurveFoundry$Curve" "form" "LCurveFoundry$Form;" false) = true := by decide +kernel
theorem fk_RX1_sort : ([3, 4, 6] : List Nat).all (fkOk 0 "CurveFoundry$Curve" "sort" "I" true) = true := by decide +kernel
theorem fk_RX1_work : ([3, 4, 6] : List Nat).all (fkOk 1 "CurveFoundry$Curve" "work" "I" true) = true := by decide +kernel
theorem fk_RX4_atZero : ([3] : List Nat).all (fkOk 4 "CurveFoundry$Line" "atZero" "J" true) = true := by decide +kernel
theorem fk_RX4_perCount : ([3] : List Nat).all (fkOk 5 "CurveFoundry$Line" "perCount" "J" true) = true := by decide +kernel
theorem fk_RX4_divisor : ([3] : List Nat).all (fkOk 6 "CurveFoundry$Line" "divisor" "J" true) = true := by decide +kernel
theorem fk_RX3_size : ([2] : List Nat).all (fkOk 2 "CurveFoundry$Knots" "size" "I" false) = true := by decide +kernel
theorem fk_RX3_counts : ([2] : List Nat).all (fkOk 0 "CurveFoundry$Knots" "counts" "[I" true) = true := by decide +kernel
theorem fk_RX3_values : ([2] : List Nat).all (fkOk 1 "CurveFoundry$Knots" "values" "[I" true) = true := by decide +kernel
theorem fk_RX5_knots : ([4] : List Nat).all (fkOk 4 "CurveFoundry$Pieces" "knots" "LCurveFoundry$Knots;" true) = true := by decide +kernel
theorem fk_RX7_of : ([6] : List Nat).all (fkOk 5 "CurveFoundry$Remade" "of" "LCurveFoundry$Curve;" true) = true := by decide +kernel
theorem fk_RX7_how : ([6] : List Nat).all (fkOk 4 "CurveFoundry$Remade" "how" "I" true) = true := by decide +kernel
theorem fk_RX7_first : ([6] : List Nat).all (fkOk 7 "CurveFoundry$Remade" "first" "I" true) = true := by decide +kernel
theorem fk_RX7_second : ([6] : List Nat).all (fkOk 8 "CurveFoundry$Remade" "second" "I" true) = true := by decide +kernel
theorem fk_RX7_third : ([6] : List Nat).all (fkOk 9 "CurveFoundry$Remade" "third" "I" true) = true := by decide +kernel
theorem fk_RX7_outer : ([6] : List Nat).all (fkOk 6 "CurveFoundry$Remade" "outer" "LCurveFoundry$Curve;" true) = true := by decide +kernel
theorem fk_RX2_turns : ([1] : List Nat).all (fkOk 5 "CurveFoundry$Form" "turns" "[I" false) = true := by decide +kernel
theorem fk_RX2_row : ([1] : List Nat).all (fkOk 0 "CurveFoundry$Form" "row" "[I" true) = true := by decide +kernel
theorem fk_RX2_least : ([1] : List Nat).all (fkOk 3 "CurveFoundry$Form" "least" "I" true) = true := by decide +kernel
theorem fk_RX2_greatest : ([1] : List Nat).all (fkOk 4 "CurveFoundry$Form" "greatest" "I" true) = true := by decide +kernel
theorem fk_RX2_trend : ([1] : List Nat).all (fkOk 1 "CurveFoundry$Form" "trend" "I" true) = true := by decide +kernel
theorem fk_RX2_turnCount : ([1] : List Nat).all (fkOk 2 "CurveFoundry$Form" "turnCount" "I" true) = true := by decide +kernel
theorem fk_RX6_fed : ([5] : List Nat).all (fkOk 0 "CurveFoundry$Probe" "fed" "[I" true) = true := by decide +kernel
theorem fk_RX6_bySize : ([5] : List Nat).all (fkOk 1 "CurveFoundry$Probe" "bySize" "[I" true) = true := by decide +kernel
theorem fk_RX6_curve : ([5] : List Nat).all (fkOk 2 "CurveFoundry$Probe" "curve" "LCurveFoundry$Curve;" false) = true := by decide +kernel
theorem fk_RX6_filter : ([5] : List Nat).all (fkOk 3 "CurveFoundry$Probe" "filter" "I" false) = true := by decide +kernel
theorem fk_RX6_window : ([5] : List Nat).all (fkOk 4 "CurveFoundry$Probe" "window" "I" false) = true := by decide +kernel
theorem fk_RX6_size : ([5] : List Nat).all (fkOk 5 "CurveFoundry$Probe" "size" "I" false) = true := by decide +kernel
theorem fk_RX6_given : ([5] : List Nat).all (fkOk 6 "CurveFoundry$Probe" "given" "I" false) = true := by decide +kernel
theorem fk_RX8_counts : ([7] : List Nat).all (fkOk 0 "CurveFoundry$Sensor" "counts" "[I" true) = true := by decide +kernel
theorem fk_RX8_references : ([7] : List Nat).all (fkOk 1 "CurveFoundry$Sensor" "references" "[I" true) = true := by decide +kernel
theorem fk_RX8_weights : ([7] : List Nat).all (fkOk 2 "CurveFoundry$Sensor" "weights" "[I" true) = true := by decide +kernel
theorem fk_RX8_size : ([7] : List Nat).all (fkOk 3 "CurveFoundry$Sensor" "size" "I" false) = true := by decide +kernel
theorem fk_RX9_entries : ([8] : List Nat).all (fkOk 0 "CurveFoundry$Table" "entries" "[F" true) = true := by decide +kernel
theorem fk_RX9_curve : ([8] : List Nat).all (fkOk 1 "CurveFoundry$Table" "curve" "LCurveFoundry$Curve;" false) = true := by decide +kernel
theorem fk_RX9_step : ([8] : List Nat).all (fkOk 2 "CurveFoundry$Table" "step" "I" false) = true := by decide +kernel
theorem fk_RX9_size : ([8] : List Nat).all (fkOk 3 "CurveFoundry$Table" "size" "I" false) = true := by decide +kernel
theorem fk_RX9_farthest : ([8] : List Nat).all (fkOk 4 "CurveFoundry$Table" "farthest" "D" false) = true := by decide +kernel
theorem fk_RX9_farthestAt : ([8] : List Nat).all (fkOk 5 "CurveFoundry$Table" "farthestAt" "I" false) = true := by decide +kernel
theorem fk_RX10_sensors : ([9] : List Nat).all (fkOk 0 "CurveFoundry" "sensors" "[LCurveFoundry$Sensor;" true) = true := by decide +kernel
theorem fk_RX10_curves : ([9] : List Nat).all (fkOk 1 "CurveFoundry" "curves" "[LCurveFoundry$Curve;" true) = true := by decide +kernel
theorem fk_RX10_probes : ([9] : List Nat).all (fkOk 2 "CurveFoundry" "probes" "[LCurveFoundry$Probe;" true) = true := by decide +kernel
theorem fk_RX10_tables : ([9] : List Nat).all (fkOk 3 "CurveFoundry" "tables" "[LCurveFoundry$Table;" true) = true := by decide +kernel
theorem fk_RX10_banks : ([9] : List Nat).all (fkOk 4 "CurveFoundry" "banks" "LCurveFoundry$Banks;" true) = true := by decide +kernel
theorem fk_RX10_told : ([9] : List Nat).all (fkOk 5 "CurveFoundry" "told" "LCurveFoundry$Knots;" false) = true := by decide +kernel
theorem fk_RX10_curveCount : ([9] : List Nat).all (fkOk 6 "CurveFoundry" "curveCount" "I" false) = true := by decide +kernel
theorem fk_RX11_readings : ([10] : List Nat).all (fkOk 0 "CurveFoundryModel" "readings" "[I" true) = true := by decide +kernel
theorem fk_RX11_count : ([10] : List Nat).all (fkOk 1 "CurveFoundryModel" "count" "[I" true) = true := by decide +kernel
theorem fk_RX11_reference : ([10] : List Nat).all (fkOk 2 "CurveFoundryModel" "reference" "[I" true) = true := by decide +kernel
theorem fk_RX11_weight : ([10] : List Nat).all (fkOk 3 "CurveFoundryModel" "weight" "[I" true) = true := by decide +kernel
theorem fk_RX11_sort : ([10] : List Nat).all (fkOk 5 "CurveFoundryModel" "sort" "[I" true) = true := by decide +kernel
theorem fk_RX11_work : ([10] : List Nat).all (fkOk 6 "CurveFoundryModel" "work" "[I" true) = true := by decide +kernel
theorem fk_RX11_value : ([10] : List Nat).all (fkOk 7 "CurveFoundryModel" "value" "[I" true) = true := by decide +kernel
theorem fk_RX11_knotCount : ([10] : List Nat).all (fkOk 9 "CurveFoundryModel" "knotCount" "[I" true) = true := by decide +kernel
theorem fk_RX11_knotValue : ([10] : List Nat).all (fkOk 10 "CurveFoundryModel" "knotValue" "[I" true) = true := by decide +kernel
theorem fk_RX11_probeCurve : ([10] : List Nat).all (fkOk 11 "CurveFoundryModel" "probeCurve" "[I" true) = true := by decide +kernel
theorem fk_RX11_probeFilter : ([10] : List Nat).all (fkOk 12 "CurveFoundryModel" "probeFilter" "[I" true) = true := by decide +kernel
theorem fk_RX11_probeMany : ([10] : List Nat).all (fkOk 13 "CurveFoundryModel" "probeMany" "[I" true) = true := by decide +kernel
theorem fk_RX11_fed : ([10] : List Nat).all (fkOk 14 "CurveFoundryModel" "fed" "[I" true) = true := by decide +kernel
theorem fk_RX11_latest : ([10] : List Nat).all (fkOk 15 "CurveFoundryModel" "latest" "[I" true) = true := by decide +kernel
theorem fk_RX11_given : ([10] : List Nat).all (fkOk 16 "CurveFoundryModel" "given" "[I" true) = true := by decide +kernel
theorem fk_RX11_tableCurve : ([10] : List Nat).all (fkOk 17 "CurveFoundryModel" "tableCurve" "[I" true) = true := by decide +kernel
theorem fk_RX11_tableStep : ([10] : List Nat).all (fkOk 18 "CurveFoundryModel" "tableStep" "[I" true) = true := by decide +kernel
theorem fk_RX11_entry : ([10] : List Nat).all (fkOk 19 "CurveFoundryModel" "entry" "[F" true) = true := by decide +kernel
theorem fk_RX11_bankSize : ([10] : List Nat).all (fkOk 20 "CurveFoundryModel" "bankSize" "[I" true) = true := by decide +kernel
theorem fk_RX11_bank : ([10] : List Nat).all (fkOk 21 "CurveFoundryModel" "bank" "[J" true) = true := by decide +kernel
theorem fk_RX11_curves : ([10] : List Nat).all (fkOk 4 "CurveFoundryModel" "curves" "I" false) = true := by decide +kernel
theorem fk_RX11_knots : ([10] : List Nat).all (fkOk 8 "CurveFoundryModel" "knots" "I" false) = true := by decide +kernel
theorem lk_RX0_9 : LK RX0 9 "CurveFoundry$Banks" "sizes" "[I" := Or.inl wd_68
theorem lk_RX0_15 : LK RX0 15 "CurveFoundry$Banks" "bytes" "[B" := Or.inl wd_69
theorem lk_RX0_19 : LK RX0 19 "CurveFoundry$Banks" "chars" "[C" := Or.inl wd_70
theorem lk_RX0_23 : LK RX0 23 "CurveFoundry$Banks" "shorts" "[S" := Or.inl wd_71
theorem lk_RX0_27 : LK RX0 27 "CurveFoundry$Banks" "ints" "[I" := Or.inl wd_72
theorem lk_RX0_30 : LK RX0 30 "CurveFoundry$Banks" "longs" "[J" := Or.inl wd_73
theorem lk_RX0_34 : LK RX0 34 "CurveFoundry$Banks" "floats" "[F" := Or.inl wd_74
theorem lk_RX0_38 : LK RX0 38 "CurveFoundry$Banks" "doubles" "[D" := Or.inl wd_75
theorem lk_RX0_42 : LK RX0 42 "CurveFoundry$Banks" "booleans" "[Z" := Or.inl wd_76
theorem lk_RX1_9 : LK RX1 9 "CurveFoundry$Curve" "row" "[I" := Or.inl wd_256
theorem lk_RX1_15 : LK RX1 15 "CurveFoundry$Curve" "form" "LCurveFoundry$Form;" := Or.inl wd_257
theorem lk_RX1_19 : LK RX1 19 "CurveFoundry$Curve" "sort" "I" := Or.inl wd_251
theorem lk_RX1_23 : LK RX1 23 "CurveFoundry$Curve" "work" "I" := Or.inl wd_254
theorem lk_RX4_9 : LK RX4 9 "CurveFoundry$Line" "atZero" "J" := Or.inl wd_248
theorem lk_RX4_15 : LK RX4 15 "CurveFoundry$Line" "perCount" "J" := Or.inl wd_249
theorem lk_RX4_18 : LK RX4 18 "CurveFoundry$Line" "divisor" "J" := Or.inl wd_250
theorem lk_RX3_18 : LK RX3 18 "CurveFoundry$Knots" "size" "I" := Or.inl wd_112
theorem lk_RX3_9 : LK RX3 9 "CurveFoundry$Knots" "counts" "[I" := Or.inl wd_110
theorem lk_RX3_15 : LK RX3 15 "CurveFoundry$Knots" "values" "[I" := Or.inl wd_111
theorem lk_RX5_9 : LK RX5 9 "CurveFoundry$Pieces" "knots" "LCurveFoundry$Knots;" := Or.inl wd_303
theorem lk_RX7_18 : LK RX7 18 "CurveFoundry$Remade" "of" "LCurveFoundry$Curve;" := Or.inl wd_354
theorem lk_RX7_13 : LK RX7 13 "CurveFoundry$Remade" "how" "I" := Or.inl wd_353
theorem lk_RX7_25 : LK RX7 25 "CurveFoundry$Remade" "first" "I" := Or.inl wd_356
theorem lk_RX7_28 : LK RX7 28 "CurveFoundry$Remade" "second" "I" := Or.inl wd_357
theorem lk_RX7_31 : LK RX7 31 "CurveFoundry$Remade" "third" "I" := Or.inl wd_358
theorem lk_RX7_22 : LK RX7 22 "CurveFoundry$Remade" "outer" "LCurveFoundry$Curve;" := Or.inl wd_355
theorem lk_RX2_9 : LK RX2 9 "CurveFoundry$Form" "turns" "[I" := Or.inl wd_502
theorem lk_RX2_24 : LK RX2 24 "CurveFoundry$Form" "row" "[I" := Or.inl wd_493
theorem lk_RX2_27 : LK RX2 27 "CurveFoundry$Form" "least" "I" := Or.inl wd_498
theorem lk_RX2_31 : LK RX2 31 "CurveFoundry$Form" "greatest" "I" := Or.inl wd_500
theorem lk_RX2_34 : LK RX2 34 "CurveFoundry$Form" "trend" "I" := Or.inl wd_494
theorem lk_RX2_41 : LK RX2 41 "CurveFoundry$Form" "turnCount" "I" := Or.inl wd_496
theorem lk_RX6_9 : LK RX6 9 "CurveFoundry$Probe" "fed" "[I" := Or.inl wd_145
theorem lk_RX6_15 : LK RX6 15 "CurveFoundry$Probe" "bySize" "[I" := Or.inl wd_146
theorem lk_RX6_18 : LK RX6 18 "CurveFoundry$Probe" "curve" "LCurveFoundry$Curve;" := Or.inl wd_147
theorem lk_RX6_22 : LK RX6 22 "CurveFoundry$Probe" "filter" "I" := Or.inl wd_148
theorem lk_RX6_26 : LK RX6 26 "CurveFoundry$Probe" "window" "I" := Or.inl wd_149
theorem lk_RX6_29 : LK RX6 29 "CurveFoundry$Probe" "size" "I" := Or.inl wd_150
theorem lk_RX6_32 : LK RX6 32 "CurveFoundry$Probe" "given" "I" := Or.inl wd_151
theorem lk_RX7_3 : LK RX7 3 "CurveFoundry$Curve" "work" "I" := Or.inr ⟨_, wd_253⟩
theorem lk_RX8_9 : LK RX8 9 "CurveFoundry$Sensor" "counts" "[I" := Or.inl wd_126
theorem lk_RX8_15 : LK RX8 15 "CurveFoundry$Sensor" "references" "[I" := Or.inl wd_127
theorem lk_RX8_18 : LK RX8 18 "CurveFoundry$Sensor" "weights" "[I" := Or.inl wd_128
theorem lk_RX8_21 : LK RX8 21 "CurveFoundry$Sensor" "size" "I" := Or.inl wd_129
theorem lk_RX9_9 : LK RX9 9 "CurveFoundry$Table" "entries" "[F" := Or.inl wd_627
theorem lk_RX9_15 : LK RX9 15 "CurveFoundry$Table" "curve" "LCurveFoundry$Curve;" := Or.inl wd_629
theorem lk_RX9_19 : LK RX9 19 "CurveFoundry$Table" "step" "I" := Or.inl wd_630
theorem lk_RX9_23 : LK RX9 23 "CurveFoundry$Table" "size" "I" := Or.inl wd_631
theorem lk_RX9_26 : LK RX9 26 "CurveFoundry$Table" "farthest" "D" := Or.inl wd_632
theorem lk_RX9_30 : LK RX9 30 "CurveFoundry$Table" "farthestAt" "I" := Or.inl wd_634
theorem lk_RX10_11 : LK RX10 11 "CurveFoundry" "sensors" "[LCurveFoundry$Sensor;" := Or.inl wd_167
theorem lk_RX10_17 : LK RX10 17 "CurveFoundry" "curves" "[LCurveFoundry$Curve;" := Or.inl wd_168
theorem lk_RX10_23 : LK RX10 23 "CurveFoundry" "probes" "[LCurveFoundry$Probe;" := Or.inl wd_169
theorem lk_RX10_29 : LK RX10 29 "CurveFoundry" "tables" "[LCurveFoundry$Table;" := Or.inl wd_170
theorem lk_RX10_36 : LK RX10 36 "CurveFoundry" "banks" "LCurveFoundry$Banks;" := Or.inl wd_171
theorem lk_RX10_43 : LK RX10 43 "CurveFoundry" "told" "LCurveFoundry$Knots;" := Or.inl wd_172
theorem lk_RX10_47 : LK RX10 47 "CurveFoundry" "curveCount" "I" := Or.inl wd_173
theorem lk_RX10_65 : LK RX10 65 "CurveFoundry$Sensor" "size" "I" := Or.inr ⟨_, wd_130⟩
theorem lk_RX10_98 : LK RX10 98 "CurveFoundry$Knots" "size" "I" := Or.inr ⟨_, wd_113⟩
theorem lk_RX10_117 : LK RX10 117 "CurveFoundry$Curve" "work" "I" := Or.inr ⟨_, wd_255⟩
theorem lk_RX10_130 : LK RX10 130 "CurveFoundry$Curve" "sort" "I" := Or.inr ⟨_, wd_252⟩
theorem lk_RX10_137 : LK RX10 137 "CurveFoundry$Form" "trend" "I" := Or.inr ⟨_, wd_495⟩
theorem lk_RX10_142 : LK RX10 142 "CurveFoundry$Form" "turnCount" "I" := Or.inr ⟨_, wd_497⟩
theorem lk_RX10_145 : LK RX10 145 "CurveFoundry$Form" "least" "I" := Or.inr ⟨_, wd_499⟩
theorem lk_RX10_148 : LK RX10 148 "CurveFoundry$Form" "greatest" "I" := Or.inr ⟨_, wd_501⟩
theorem lk_RX10_197 : LK RX10 197 "CurveFoundry$Table" "entries" "[F" := Or.inr ⟨_, wd_628⟩
theorem lk_RX10_208 : LK RX10 208 "CurveFoundry$Table" "farthest" "D" := Or.inr ⟨_, wd_633⟩
theorem lk_RX10_212 : LK RX10 212 "CurveFoundry$Table" "farthestAt" "I" := Or.inr ⟨_, wd_635⟩
theorem lk_RX11_9 : LK RX11 9 "CurveFoundryModel" "readings" "[I" := Or.inl wd_772
theorem lk_RX11_13 : LK RX11 13 "CurveFoundryModel" "count" "[I" := Or.inl wd_773
theorem lk_RX11_16 : LK RX11 16 "CurveFoundryModel" "reference" "[I" := Or.inl wd_774
theorem lk_RX11_19 : LK RX11 19 "CurveFoundryModel" "weight" "[I" := Or.inl wd_775
theorem lk_RX11_22 : LK RX11 22 "CurveFoundryModel" "sort" "[I" := Or.inl wd_777
theorem lk_RX11_25 : LK RX11 25 "CurveFoundryModel" "work" "[I" := Or.inl wd_778
theorem lk_RX11_29 : LK RX11 29 "CurveFoundryModel" "value" "[I" := Or.inl wd_779
theorem lk_RX11_32 : LK RX11 32 "CurveFoundryModel" "knotCount" "[I" := Or.inl wd_781
theorem lk_RX11_35 : LK RX11 35 "CurveFoundryModel" "knotValue" "[I" := Or.inl wd_782
theorem lk_RX11_38 : LK RX11 38 "CurveFoundryModel" "probeCurve" "[I" := Or.inl wd_783
theorem lk_RX11_41 : LK RX11 41 "CurveFoundryModel" "probeFilter" "[I" := Or.inl wd_784
theorem lk_RX11_44 : LK RX11 44 "CurveFoundryModel" "probeMany" "[I" := Or.inl wd_785
theorem lk_RX11_47 : LK RX11 47 "CurveFoundryModel" "fed" "[I" := Or.inl wd_786
theorem lk_RX11_50 : LK RX11 50 "CurveFoundryModel" "latest" "[I" := Or.inl wd_787
theorem lk_RX11_53 : LK RX11 53 "CurveFoundryModel" "given" "[I" := Or.inl wd_788
theorem lk_RX11_56 : LK RX11 56 "CurveFoundryModel" "tableCurve" "[I" := Or.inl wd_789
theorem lk_RX11_59 : LK RX11 59 "CurveFoundryModel" "tableStep" "[I" := Or.inl wd_790
theorem lk_RX11_62 : LK RX11 62 "CurveFoundryModel" "entry" "[F" := Or.inl wd_791
theorem lk_RX11_66 : LK RX11 66 "CurveFoundryModel" "bankSize" "[I" := Or.inl wd_792
theorem lk_RX11_69 : LK RX11 69 "CurveFoundryModel" "bank" "[J" := Or.inl wd_793
theorem lk_RX11_85 : LK RX11 85 "CurveFoundryModel" "curves" "I" := Or.inl wd_776
theorem lk_RX11_111 : LK RX11 111 "CurveFoundryModel" "knots" "I" := Or.inl wd_780
theorem pd_0 : parseFieldDescriptor "[I" = some (.array .int) := by decide +kernel
theorem pd_1 : parseFieldDescriptor "[B" = some (.array .byte) := by decide +kernel
theorem pd_2 : parseFieldDescriptor "[C" = some (.array .char) := by decide +kernel
theorem pd_3 : parseFieldDescriptor "[S" = some (.array .short) := by decide +kernel
theorem pd_4 : parseFieldDescriptor "[J" = some (.array .long) := by decide +kernel
theorem pd_5 : parseFieldDescriptor "[F" = some (.array .float) := by decide +kernel
theorem pd_6 : parseFieldDescriptor "[D" = some (.array .double) := by decide +kernel
theorem pd_7 : parseFieldDescriptor "[Z" = some (.array .boolean) := by decide +kernel
theorem pd_8 : parseFieldDescriptor "LCurveFoundry$Form;" = some (.object "CurveFoundry$Form") := by decide +kernel
theorem pd_9 : parseFieldDescriptor "I" = some .int := by decide +kernel
theorem pd_10 : parseFieldDescriptor "J" = some .long := by decide +kernel
theorem pd_11 : parseFieldDescriptor "LCurveFoundry$Knots;" = some (.object "CurveFoundry$Knots") := by decide +kernel
theorem pd_12 : parseFieldDescriptor "LCurveFoundry$Curve;" = some (.object "CurveFoundry$Curve") := by decide +kernel
theorem pd_13 : parseFieldDescriptor "D" = some .double := by decide +kernel
theorem pd_14 : parseFieldDescriptor "[LCurveFoundry$Sensor;" = some (.array (.object "CurveFoundry$Sensor")) := by decide +kernel
theorem pd_15 : parseFieldDescriptor "[LCurveFoundry$Curve;" = some (.array (.object "CurveFoundry$Curve")) := by decide +kernel
theorem pd_16 : parseFieldDescriptor "[LCurveFoundry$Probe;" = some (.array (.object "CurveFoundry$Probe")) := by decide +kernel
theorem pd_17 : parseFieldDescriptor "[LCurveFoundry$Table;" = some (.array (.object "CurveFoundry$Table")) := by decide +kernel
theorem pd_18 : parseFieldDescriptor "LCurveFoundry$Banks;" = some (.object "CurveFoundry$Banks") := by decide +kernel
theorem yn_X0_put : YN yX0_put 3 := ⟨by decide +kernel, by decide +kernel, by decide +kernel⟩
theorem yn_X0_isOpen : YN yX0_isOpen 1 := ⟨by decide +kernel, by decide +kernel, by decide +kernel⟩
theorem yn_J9_floorDiv_f86c9 : YN yJ9_floorDiv_f86c9 2 := ⟨by decide +kernel, by decide +kernel, by decide +kernel⟩
theorem yn_X10_rounded : YN yX10_rounded 2 := ⟨by decide +kernel, by decide +kernel, by decide +kernel⟩
theorem yn_X10_nearestValue : YN yX10_nearestValue 1 := ⟨by decide +kernel, by decide +kernel, by decide +kernel⟩
theorem yn_X3_howManyUpTo : YN yX3_howManyUpTo 1 := ⟨by decide +kernel, by decide +kernel, by decide +kernel⟩
theorem yn_X3_between : YN yX3_between 1 := ⟨by decide +kernel, by decide +kernel, by decide +kernel⟩
theorem yc_at : YN ⟨"CurveFoundry$Curve", "at", "(I)I"⟩ 1 := ⟨by decide +kernel, by decide +kernel, by decide +kernel⟩
theorem yn_X10_nearestCount : YN yX10_nearestCount 1 := ⟨by decide +kernel, by decide +kernel, by decide +kernel⟩
theorem yc_workedOut : YN ⟨"CurveFoundry$Curve", "workedOut", "(I)I"⟩ 1 := ⟨by decide +kernel, by decide +kernel, by decide +kernel⟩
theorem yc_filled : YN ⟨"CurveFoundry$Curve", "filled", "()[I"⟩ 0 := ⟨by decide +kernel, by decide +kernel, by decide +kernel⟩
theorem yc_makeParts : YN ⟨"CurveFoundry$Curve", "makeParts", "()V"⟩ 0 := ⟨by decide +kernel, by decide +kernel, by decide +kernel⟩
theorem yn_X2_findTurns : YN yX2_findTurns 2 := ⟨by decide +kernel, by decide +kernel, by decide +kernel⟩
theorem yn_X2_init : YN yX2_init 1 := ⟨by decide +kernel, by decide +kernel, by decide +kernel⟩
theorem yn_X2_firstNotBelow : YN yX2_firstNotBelow 2 := ⟨by decide +kernel, by decide +kernel, by decide +kernel⟩
theorem yn_X1_init : YN yX1_init 2 := ⟨by decide +kernel, by decide +kernel, by decide +kernel⟩
theorem yn_X6_middle : YN yX6_middle 0 := ⟨by decide +kernel, by decide +kernel, by decide +kernel⟩
theorem yn_X6_mean : YN yX6_mean 0 := ⟨by decide +kernel, by decide +kernel, by decide +kernel⟩
theorem yn_X6_filtered : YN yX6_filtered 1 := ⟨by decide +kernel, by decide +kernel, by decide +kernel⟩
theorem yn_X4_init : YN yX4_init 3 := ⟨by decide +kernel, by decide +kernel, by decide +kernel⟩
theorem yn_X8_leastCountAbove : YN yX8_leastCountAbove 1 := ⟨by decide +kernel, by decide +kernel, by decide +kernel⟩
theorem yn_X8_meanReference : YN yX8_meanReference 1 := ⟨by decide +kernel, by decide +kernel, by decide +kernel⟩
theorem yn_X3_add : YN yX3_add 2 := ⟨by decide +kernel, by decide +kernel, by decide +kernel⟩
theorem yn_X8_missedBy : YN yX8_missedBy 2 := ⟨by decide +kernel, by decide +kernel, by decide +kernel⟩
theorem yn_X9_read : YN yX9_read 1 := ⟨by decide +kernel, by decide +kernel, by decide +kernel⟩
theorem yn_X0_init : YN yX0_init 0 := ⟨by decide +kernel, by decide +kernel, by decide +kernel⟩
theorem yn_X3_init : YN yX3_init 0 := ⟨by decide +kernel, by decide +kernel, by decide +kernel⟩
theorem yn_X8_init : YN yX8_init 0 := ⟨by decide +kernel, by decide +kernel, by decide +kernel⟩
theorem yn_X6_init : YN yX6_init 0 := ⟨by decide +kernel, by decide +kernel, by decide +kernel⟩
theorem yn_X10_sensorNumbered : YN yX10_sensorNumbered 1 := ⟨by decide +kernel, by decide +kernel, by decide +kernel⟩
theorem yn_X10_isCount : YN yX10_isCount 1 := ⟨by decide +kernel, by decide +kernel, by decide +kernel⟩
theorem yn_X10_isWithin : YN yX10_isWithin 2 := ⟨by decide +kernel, by decide +kernel, by decide +kernel⟩
theorem yn_X8_add : YN yX8_add 3 := ⟨by decide +kernel, by decide +kernel, by decide +kernel⟩
theorem yn_X8_has : YN yX8_has 1 := ⟨by decide +kernel, by decide +kernel, by decide +kernel⟩
theorem yn_X8_remove : YN yX8_remove 1 := ⟨by decide +kernel, by decide +kernel, by decide +kernel⟩
theorem yn_X10_hasRoomFor : YN yX10_hasRoomFor 1 := ⟨by decide +kernel, by decide +kernel, by decide +kernel⟩
theorem yn_X8_hasTwoCounts : YN yX8_hasTwoCounts 0 := ⟨by decide +kernel, by decide +kernel, by decide +kernel⟩
theorem yn_X8_fitted : YN yX8_fitted 0 := ⟨by decide +kernel, by decide +kernel, by decide +kernel⟩
theorem yn_X10_keep : YN yX10_keep 1 := ⟨by decide +kernel, by decide +kernel, by decide +kernel⟩
theorem yn_X3_lastCount : YN yX3_lastCount 0 := ⟨by decide +kernel, by decide +kernel, by decide +kernel⟩
theorem yn_X5_init : YN yX5_init 1 := ⟨by decide +kernel, by decide +kernel, by decide +kernel⟩
theorem yn_X8_tellMeans : YN yX8_tellMeans 1 := ⟨by decide +kernel, by decide +kernel, by decide +kernel⟩
theorem yn_X10_curveNumbered : YN yX10_curveNumbered 1 := ⟨by decide +kernel, by decide +kernel, by decide +kernel⟩
theorem yn_X10_isValue : YN yX10_isValue 1 := ⟨by decide +kernel, by decide +kernel, by decide +kernel⟩
theorem yn_X7_init : YN yX7_init 6 := ⟨by decide +kernel, by decide +kernel, by decide +kernel⟩
theorem yc_formed : YN ⟨"CurveFoundry$Curve", "formed", "()LCurveFoundry$Form;"⟩ 0 := ⟨by decide +kernel, by decide +kernel, by decide +kernel⟩
theorem yn_X2_turnNumbered : YN yX2_turnNumbered 1 := ⟨by decide +kernel, by decide +kernel, by decide +kernel⟩
theorem yn_X2_nearestTo : YN yX2_nearestTo 1 := ⟨by decide +kernel, by decide +kernel, by decide +kernel⟩
theorem yn_X8_farthestFrom : YN yX8_farthestFrom 1 := ⟨by decide +kernel, by decide +kernel, by decide +kernel⟩
theorem yn_X8_squaresFrom : YN yX8_squaresFrom 1 := ⟨by decide +kernel, by decide +kernel, by decide +kernel⟩
theorem yn_X8_meanFrom : YN yX8_meanFrom 1 := ⟨by decide +kernel, by decide +kernel, by decide +kernel⟩
theorem yn_X10_probeNumbered : YN yX10_probeNumbered 1 := ⟨by decide +kernel, by decide +kernel, by decide +kernel⟩
theorem yn_X6_begin : YN yX6_begin 3 := ⟨by decide +kernel, by decide +kernel, by decide +kernel⟩
theorem yn_X6_take : YN yX6_take 1 := ⟨by decide +kernel, by decide +kernel, by decide +kernel⟩
theorem yn_X6_told : YN yX6_told 0 := ⟨by decide +kernel, by decide +kernel, by decide +kernel⟩
theorem yn_X9_become : YN yX9_become 2 := ⟨by decide +kernel, by decide +kernel, by decide +kernel⟩
theorem yn_X9_init : YN yX9_init 0 := ⟨by decide +kernel, by decide +kernel, by decide +kernel⟩
theorem yn_X10_tableNumbered : YN yX10_tableNumbered 1 := ⟨by decide +kernel, by decide +kernel, by decide +kernel⟩
theorem yn_X9_has : YN yX9_has 1 := ⟨by decide +kernel, by decide +kernel, by decide +kernel⟩
theorem yn_X9_measure : YN yX9_measure 0 := ⟨by decide +kernel, by decide +kernel, by decide +kernel⟩
theorem yn_X10_isBank : YN yX10_isBank 1 := ⟨by decide +kernel, by decide +kernel, by decide +kernel⟩
theorem yn_X0_open : YN yX0_open 2 := ⟨by decide +kernel, by decide +kernel, by decide +kernel⟩
theorem yn_X0_close : YN yX0_close 1 := ⟨by decide +kernel, by decide +kernel, by decide +kernel⟩
theorem yn_X0_has : YN yX0_has 2 := ⟨by decide +kernel, by decide +kernel, by decide +kernel⟩
theorem yn_X10_faultOf : YN yX10_faultOf 2 := ⟨by decide +kernel, by decide +kernel, by decide +kernel⟩
theorem yn_X0_get : YN yX0_get 2 := ⟨by decide +kernel, by decide +kernel, by decide +kernel⟩
theorem yn_X10_sensorsWithReadings : YN yX10_sensorsWithReadings 0 := ⟨by decide +kernel, by decide +kernel, by decide +kernel⟩
theorem yn_X10_tablesMade : YN yX10_tablesMade 0 := ⟨by decide +kernel, by decide +kernel, by decide +kernel⟩
theorem yn_X0_opened : YN yX0_opened 0 := ⟨by decide +kernel, by decide +kernel, by decide +kernel⟩
theorem yn_X11_floor : YN yX11_floor 2 := ⟨by decide +kernel, by decide +kernel, by decide +kernel⟩
theorem yn_X11_isSensor : YN yX11_isSensor 1 := ⟨by decide +kernel, by decide +kernel, by decide +kernel⟩
theorem yn_X11_isCount : YN yX11_isCount 1 := ⟨by decide +kernel, by decide +kernel, by decide +kernel⟩
theorem yn_X11_isReading : YN yX11_isReading 2 := ⟨by decide +kernel, by decide +kernel, by decide +kernel⟩
theorem yn_X11_newCurve : YN yX11_newCurve 2 := ⟨by decide +kernel, by decide +kernel, by decide +kernel⟩
theorem yn_X11_rounded : YN yX11_rounded 2 := ⟨by decide +kernel, by decide +kernel, by decide +kernel⟩
theorem yn_X11_bounded : YN yX11_bounded 1 := ⟨by decide +kernel, by decide +kernel, by decide +kernel⟩
theorem yn_X11_through : YN yX11_through 1 := ⟨by decide +kernel, by decide +kernel, by decide +kernel⟩
theorem yn_X11_isCurve : YN yX11_isCurve 1 := ⟨by decide +kernel, by decide +kernel, by decide +kernel⟩
theorem yn_X11_isValue : YN yX11_isValue 1 := ⟨by decide +kernel, by decide +kernel, by decide +kernel⟩
theorem yn_X11_mayWork : YN yX11_mayWork 1 := ⟨by decide +kernel, by decide +kernel, by decide +kernel⟩
theorem yn_X11_of : YN yX11_of 2 := ⟨by decide +kernel, by decide +kernel, by decide +kernel⟩
theorem yn_X11_way : YN yX11_way 1 := ⟨by decide +kernel, by decide +kernel, by decide +kernel⟩
theorem yn_X11_turning : YN yX11_turning 2 := ⟨by decide +kernel, by decide +kernel, by decide +kernel⟩
theorem yn_X11_end : YN yX11_end 2 := ⟨by decide +kernel, by decide +kernel, by decide +kernel⟩
theorem yn_X11_far : YN yX11_far 3 := ⟨by decide +kernel, by decide +kernel, by decide +kernel⟩
theorem yn_X11_rest : YN yX11_rest 3 := ⟨by decide +kernel, by decide +kernel, by decide +kernel⟩
theorem yn_X11_isFour : YN yX11_isFour 1 := ⟨by decide +kernel, by decide +kernel, by decide +kernel⟩
theorem yn_X11_filtered : YN yX11_filtered 1 := ⟨by decide +kernel, by decide +kernel, by decide +kernel⟩
theorem yn_X11_isTable : YN yX11_isTable 1 := ⟨by decide +kernel, by decide +kernel, by decide +kernel⟩
theorem yn_X11_looked : YN yX11_looked 2 := ⟨by decide +kernel, by decide +kernel, by decide +kernel⟩
theorem yn_X11_offBy : YN yX11_offBy 2 := ⟨by decide +kernel, by decide +kernel, by decide +kernel⟩
theorem yn_X11_mostOff : YN yX11_mostOff 1 := ⟨by decide +kernel, by decide +kernel, by decide +kernel⟩
theorem yn_X11_isBank : YN yX11_isBank 1 := ⟨by decide +kernel, by decide +kernel, by decide +kernel⟩
theorem yn_X11_kept : YN yX11_kept 2 := ⟨by decide +kernel, by decide +kernel, by decide +kernel⟩
theorem yn_X10_init : YN yX10_init 0 := ⟨by decide +kernel, by decide +kernel, by decide +kernel⟩
theorem yn_X11_init : YN yX11_init 0 := ⟨by decide +kernel, by decide +kernel, by decide +kernel⟩
theorem yn_X10_reading : YN yX10_reading 4 := ⟨by decide +kernel, by decide +kernel, by decide +kernel⟩
theorem yn_X11_reading : YN yX11_reading 4 := ⟨by decide +kernel, by decide +kernel, by decide +kernel⟩
theorem yn_X10_drop : YN yX10_drop 2 := ⟨by decide +kernel, by decide +kernel, by decide +kernel⟩
theorem yn_X11_drop : YN yX11_drop 2 := ⟨by decide +kernel, by decide +kernel, by decide +kernel⟩
theorem yn_X10_line : YN yX10_line 1 := ⟨by decide +kernel, by decide +kernel, by decide +kernel⟩
theorem yn_X11_line : YN yX11_line 1 := ⟨by decide +kernel, by decide +kernel, by decide +kernel⟩
theorem yn_X10_knot : YN yX10_knot 2 := ⟨by decide +kernel, by decide +kernel, by decide +kernel⟩
theorem yn_X11_knot : YN yX11_knot 2 := ⟨by decide +kernel, by decide +kernel, by decide +kernel⟩
theorem yn_X10_hush : YN yX10_hush 0 := ⟨by decide +kernel, by decide +kernel, by decide +kernel⟩
theorem yn_X11_hush : YN yX11_hush 0 := ⟨by decide +kernel, by decide +kernel, by decide +kernel⟩
theorem yn_X10_pieces : YN yX10_pieces 0 := ⟨by decide +kernel, by decide +kernel, by decide +kernel⟩
theorem yn_X11_pieces : YN yX11_pieces 0 := ⟨by decide +kernel, by decide +kernel, by decide +kernel⟩
theorem yn_X10_gather : YN yX10_gather 1 := ⟨by decide +kernel, by decide +kernel, by decide +kernel⟩
theorem yn_X11_gather : YN yX11_gather 1 := ⟨by decide +kernel, by decide +kernel, by decide +kernel⟩
theorem yn_X10_clamp : YN yX10_clamp 3 := ⟨by decide +kernel, by decide +kernel, by decide +kernel⟩
theorem yn_X11_clamp : YN yX11_clamp 3 := ⟨by decide +kernel, by decide +kernel, by decide +kernel⟩
theorem yn_X10_dead : YN yX10_dead 4 := ⟨by decide +kernel, by decide +kernel, by decide +kernel⟩
theorem yn_X11_dead : YN yX11_dead 4 := ⟨by decide +kernel, by decide +kernel, by decide +kernel⟩
theorem yn_X10_chain : YN yX10_chain 2 := ⟨by decide +kernel, by decide +kernel, by decide +kernel⟩
theorem yn_X11_chain : YN yX11_chain 2 := ⟨by decide +kernel, by decide +kernel, by decide +kernel⟩
theorem yn_X10_gain : YN yX10_gain 4 := ⟨by decide +kernel, by decide +kernel, by decide +kernel⟩
theorem yn_X11_gain : YN yX11_gain 4 := ⟨by decide +kernel, by decide +kernel, by decide +kernel⟩
theorem yn_X10_mirror : YN yX10_mirror 1 := ⟨by decide +kernel, by decide +kernel, by decide +kernel⟩
theorem yn_X11_mirror : YN yX11_mirror 1 := ⟨by decide +kernel, by decide +kernel, by decide +kernel⟩
theorem yn_X10_value : YN yX10_value 2 := ⟨by decide +kernel, by decide +kernel, by decide +kernel⟩
theorem yn_X11_value : YN yX11_value 2 := ⟨by decide +kernel, by decide +kernel, by decide +kernel⟩
theorem yn_X10_about : YN yX10_about 2 := ⟨by decide +kernel, by decide +kernel, by decide +kernel⟩
theorem yn_X11_about : YN yX11_about 2 := ⟨by decide +kernel, by decide +kernel, by decide +kernel⟩
theorem yn_X10_turn : YN yX10_turn 2 := ⟨by decide +kernel, by decide +kernel, by decide +kernel⟩
theorem yn_X11_turn : YN yX11_turn 2 := ⟨by decide +kernel, by decide +kernel, by decide +kernel⟩
theorem yn_X10_inverse : YN yX10_inverse 2 := ⟨by decide +kernel, by decide +kernel, by decide +kernel⟩
theorem yn_X11_inverse : YN yX11_inverse 2 := ⟨by decide +kernel, by decide +kernel, by decide +kernel⟩
theorem yn_X10_residual : YN yX10_residual 3 := ⟨by decide +kernel, by decide +kernel, by decide +kernel⟩
theorem yn_X11_residual : YN yX11_residual 3 := ⟨by decide +kernel, by decide +kernel, by decide +kernel⟩
theorem yn_X10_worst : YN yX10_worst 2 := ⟨by decide +kernel, by decide +kernel, by decide +kernel⟩
theorem yn_X11_worst : YN yX11_worst 2 := ⟨by decide +kernel, by decide +kernel, by decide +kernel⟩
theorem yn_X10_squares : YN yX10_squares 2 := ⟨by decide +kernel, by decide +kernel, by decide +kernel⟩
theorem yn_X11_squares : YN yX11_squares 2 := ⟨by decide +kernel, by decide +kernel, by decide +kernel⟩
theorem yn_X10_drift : YN yX10_drift 2 := ⟨by decide +kernel, by decide +kernel, by decide +kernel⟩
theorem yn_X11_drift : YN yX11_drift 2 := ⟨by decide +kernel, by decide +kernel, by decide +kernel⟩
theorem yn_X10_probe : YN yX10_probe 4 := ⟨by decide +kernel, by decide +kernel, by decide +kernel⟩
theorem yn_X11_probe : YN yX11_probe 4 := ⟨by decide +kernel, by decide +kernel, by decide +kernel⟩
theorem yn_X10_feed : YN yX10_feed 2 := ⟨by decide +kernel, by decide +kernel, by decide +kernel⟩
theorem yn_X11_feed : YN yX11_feed 2 := ⟨by decide +kernel, by decide +kernel, by decide +kernel⟩
theorem yn_X10_probed : YN yX10_probed 1 := ⟨by decide +kernel, by decide +kernel, by decide +kernel⟩
theorem yn_X11_probed : YN yX11_probed 1 := ⟨by decide +kernel, by decide +kernel, by decide +kernel⟩
theorem yn_X10_table : YN yX10_table 3 := ⟨by decide +kernel, by decide +kernel, by decide +kernel⟩
theorem yn_X11_table : YN yX11_table 3 := ⟨by decide +kernel, by decide +kernel, by decide +kernel⟩
theorem yn_X10_entry : YN yX10_entry 2 := ⟨by decide +kernel, by decide +kernel, by decide +kernel⟩
theorem yn_X11_entry : YN yX11_entry 2 := ⟨by decide +kernel, by decide +kernel, by decide +kernel⟩
theorem yn_X10_lookup : YN yX10_lookup 2 := ⟨by decide +kernel, by decide +kernel, by decide +kernel⟩
theorem yn_X11_lookup : YN yX11_lookup 2 := ⟨by decide +kernel, by decide +kernel, by decide +kernel⟩
theorem yn_X10_off : YN yX10_off 1 := ⟨by decide +kernel, by decide +kernel, by decide +kernel⟩
theorem yn_X11_off : YN yX11_off 1 := ⟨by decide +kernel, by decide +kernel, by decide +kernel⟩
theorem yn_X10_offAt : YN yX10_offAt 1 := ⟨by decide +kernel, by decide +kernel, by decide +kernel⟩
theorem yn_X11_offAt : YN yX11_offAt 1 := ⟨by decide +kernel, by decide +kernel, by decide +kernel⟩
theorem yn_X10_bank : YN yX10_bank 2 := ⟨by decide +kernel, by decide +kernel, by decide +kernel⟩
theorem yn_X11_bank : YN yX11_bank 2 := ⟨by decide +kernel, by decide +kernel, by decide +kernel⟩
theorem yn_X10_free : YN yX10_free 1 := ⟨by decide +kernel, by decide +kernel, by decide +kernel⟩
theorem yn_X11_free : YN yX11_free 1 := ⟨by decide +kernel, by decide +kernel, by decide +kernel⟩
theorem yn_X10_hold : YN yX10_hold 3 := ⟨by decide +kernel, by decide +kernel, by decide +kernel⟩
theorem yn_X11_hold : YN yX11_hold 3 := ⟨by decide +kernel, by decide +kernel, by decide +kernel⟩
theorem yn_X10_held : YN yX10_held 2 := ⟨by decide +kernel, by decide +kernel, by decide +kernel⟩
theorem yn_X11_held : YN yX11_held 2 := ⟨by decide +kernel, by decide +kernel, by decide +kernel⟩
theorem yn_X10_readings : YN yX10_readings 1 := ⟨by decide +kernel, by decide +kernel, by decide +kernel⟩
theorem yn_X11_readings : YN yX11_readings 1 := ⟨by decide +kernel, by decide +kernel, by decide +kernel⟩
theorem yn_X10_count : YN yX10_count 1 := ⟨by decide +kernel, by decide +kernel, by decide +kernel⟩
theorem yn_X11_count : YN yX11_count 1 := ⟨by decide +kernel, by decide +kernel, by decide +kernel⟩
theorem nf_RX2 : ∀ j, j < 6 → defaultValue (m_ty (RX2, TX2, 6) j) = vp_V [.null, .int 0, .int 0, .int 0, .int 0, .null] j := by decide +kernel
theorem nf_RX4 : ∀ j, j < 7 → defaultValue (m_ty (RX4, TX4, 7) j) = vp_V [.int 0, .int 0, .null, .null, .long 0, .long 0, .long 0] j := by decide +kernel
theorem nf_RX0 : ∀ j, j < 9 → defaultValue (m_ty (RX0, TX0, 9) j) = vp_V [.null, .null, .null, .null, .null, .null, .null, .null, .null] j := by decide +kernel
theorem nf_RX3 : ∀ j, j < 3 → defaultValue (m_ty (RX3, TX3, 3) j) = vp_V [.null, .null, .int 0] j := by decide +kernel
theorem nf_RX8 : ∀ j, j < 4 → defaultValue (m_ty (RX8, TX8, 4) j) = vp_V [.null, .null, .null, .int 0] j := by decide +kernel
theorem nf_RX6 : ∀ j, j < 7 → defaultValue (m_ty (RX6, TX6, 7) j) = vp_V [.null, .null, .null, .int 0, .int 0, .int 0, .int 0] j := by decide +kernel
theorem nf_RX5 : ∀ j, j < 5 → defaultValue (m_ty (RX5, TX5, 5) j) = vp_V [.int 0, .int 0, .null, .null, .null] j := by decide +kernel
theorem nf_RX7 : ∀ j, j < 10 → defaultValue (m_ty (RX7, TX7, 10) j) = vp_V [.int 0, .int 0, .null, .null, .int 0, .null, .null, .int 0, .int 0, .int 0] j := by decide +kernel
theorem nf_RX9 : ∀ j, j < 6 → defaultValue (m_ty (RX9, TX9, 6) j) = vp_V [.null, .null, .int 0, .int 0, .double 0, .int 0] j := by decide +kernel
theorem nf_RX10 : ∀ j, j < 7 → defaultValue (m_ty (RX10, TX10, 7) j) = vp_V [.null, .null, .null, .null, .null, .null, .int 0] j := by decide +kernel
theorem nf_RX11 : ∀ j, j < 22 → defaultValue (m_ty (RX11, TX11, 22) j) = vp_V [.null, .null, .null, .null, .int 0, .null, .null, .null, .int 0, .null, .null, .null, .null, .null, .null, .null, .null, .null, .null, .null, .null, .null] j := by decide +kernel
