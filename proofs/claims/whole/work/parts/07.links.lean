theorem fl_X8_12 : Cond.fieldLink RX8 12 "MarkCabinet" "grid" "LMarkCabinet$Grid;" ∈ zc_tb := zc_mem (List.mem_of_getElem? (i := 255) (by decide +kernel)) rfl
theorem fl_X8_16 : Cond.fieldLink RX8 16 "MarkCabinet" "firstPoints" "[I" ∈ zc_tb := zc_mem (List.mem_of_getElem? (i := 256) (by decide +kernel)) rfl
theorem fl_X8_22 : Cond.fieldLink RX8 22 "MarkCabinet" "prints" "[LMarkCabinet$Print;" ∈ zc_tb := zc_mem (List.mem_of_getElem? (i := 257) (by decide +kernel)) rfl
theorem fl_X8_26 : Cond.fieldLink RX8 26 "MarkCabinet" "made" "I" ∈ zc_tb := zc_mem (List.mem_of_getElem? (i := 258) (by decide +kernel)) rfl
theorem fl_X8_33 : Cond.fieldLink RX8 33 "MarkCabinet" "matches" "LMarkCabinet$Matches;" ∈ zc_tb := zc_mem (List.mem_of_getElem? (i := 259) (by decide +kernel)) rfl
theorem fl_X8_40 : Cond.fieldLink RX8 40 "MarkCabinet" "latest" "LMarkCabinet$Laying;" ∈ zc_tb := zc_mem (List.mem_of_getElem? (i := 260) (by decide +kernel)) rfl
theorem fl_X8_44 : Cond.fieldLink RX8 44 "MarkCabinet" "anyLaid" "Z" ∈ zc_tb := zc_mem (List.mem_of_getElem? (i := 261) (by decide +kernel)) rfl
theorem fl_X8_48 : Cond.fieldLink RX8 48 "MarkCabinet" "trial" "LMarkCabinet$Laying;" ∈ zc_tb := zc_mem (List.mem_of_getElem? (i := 262) (by decide +kernel)) rfl
theorem fl_X8_54 : Cond.fieldLink RX8 54 "MarkCabinet" "history" "LMarkCabinet$History;" ∈ zc_tb := zc_mem (List.mem_of_getElem? (i := 263) (by decide +kernel)) rfl
theorem fl_X8_58 : Cond.fieldLink RX8 58 "MarkCabinet" "from" "I" ∈ zc_tb := zc_mem (List.mem_of_getElem? (i := 264) (by decide +kernel)) rfl
theorem fl_X8_61 : Cond.fieldLink RX8 61 "MarkCabinet" "till" "I" ∈ zc_tb := zc_mem (List.mem_of_getElem? (i := 265) (by decide +kernel)) rfl
theorem fl_X8_64 : Cond.fieldLink RX8 64 "MarkCabinet" "anyAged" "Z" ∈ zc_tb := zc_mem (List.mem_of_getElem? (i := 266) (by decide +kernel)) rfl
theorem fl_X8_133 : Cond.fieldLink RX8 133 "MarkCabinet$Matches" "reach" "I" ∈ zc_tb := zc_mem (List.mem_of_getElem? (i := 142) (by decide +kernel)) rfl
theorem fl_X8_144 : Cond.fieldLink RX8 144 "MarkCabinet$Laying" "score" "I" ∈ zc_tb := zc_mem (List.mem_of_getElem? (i := 198) (by decide +kernel)) rfl
theorem fl_X8_150 : Cond.fieldLink RX8 150 "MarkCabinet$Laying" "pairs" "I" ∈ zc_tb := zc_mem (List.mem_of_getElem? (i := 192) (by decide +kernel)) rfl
theorem fl_X8_153 : Cond.fieldLink RX8 153 "MarkCabinet$Laying" "bare" "I" ∈ zc_tb := zc_mem (List.mem_of_getElem? (i := 195) (by decide +kernel)) rfl
theorem fl_X8_156 : Cond.fieldLink RX8 156 "MarkCabinet$Laying" "q" "I" ∈ zc_tb := zc_mem (List.mem_of_getElem? (i := 183) (by decide +kernel)) rfl
theorem fl_X8_159 : Cond.fieldLink RX8 159 "MarkCabinet$Laying" "dx" "I" ∈ zc_tb := zc_mem (List.mem_of_getElem? (i := 186) (by decide +kernel)) rfl
theorem fl_X8_162 : Cond.fieldLink RX8 162 "MarkCabinet$Laying" "dy" "I" ∈ zc_tb := zc_mem (List.mem_of_getElem? (i := 189) (by decide +kernel)) rfl
theorem fl_X8_165 : Cond.fieldLink RX8 165 "MarkCabinet$Laying" "found" "Z" ∈ zc_tb := zc_mem (List.mem_of_getElem? (i := 180) (by decide +kernel)) rfl
theorem fl_X8_168 : Cond.fieldLink RX8 168 "MarkCabinet$Laying" "partner" "[I" ∈ zc_tb := zc_mem (List.mem_of_getElem? (i := 206) (by decide +kernel)) rfl
theorem fl_X8_175 : Cond.fieldLink RX8 175 "MarkCabinet$Print" "tool" "I" ∈ zc_tb := zc_mem (List.mem_of_getElem? (i := 423) (by decide +kernel)) rfl
theorem fl_X8_182 : Cond.fieldLink RX8 182 "MarkCabinet$Print" "year" "I" ∈ zc_tb := zc_mem (List.mem_of_getElem? (i := 426) (by decide +kernel)) rfl
theorem fl_X8_199 : Cond.fieldLink RX8 199 "MarkCabinet$History" "flawed" "I" ∈ zc_tb := zc_mem (List.mem_of_getElem? (i := 235) (by decide +kernel)) rfl
theorem fl_X8_210 : Cond.fieldLink RX8 210 "MarkCabinet$History" "comes" "[I" ∈ zc_tb := zc_mem (List.mem_of_getElem? (i := 237) (by decide +kernel)) rfl
theorem fl_X8_216 : Cond.fieldLink RX8 216 "MarkCabinet$Laying" "paired" "I" ∈ zc_tb := zc_mem (List.mem_of_getElem? (i := 201) (by decide +kernel)) rfl
theorem fl_X0_9 : Cond.fieldLink RX0 9 "MarkCabinet$Finder" "byColumn" "[I" ∈ zc_tb := zc_mem (List.mem_of_getElem? (i := 93) (by decide +kernel)) rfl
theorem fl_X0_15 : Cond.fieldLink RX0 15 "MarkCabinet$Finder" "byRow" "[I" ∈ zc_tb := zc_mem (List.mem_of_getElem? (i := 94) (by decide +kernel)) rfl
theorem fl_X0_18 : Cond.fieldLink RX0 18 "MarkCabinet$Finder" "byKind" "[I" ∈ zc_tb := zc_mem (List.mem_of_getElem? (i := 95) (by decide +kernel)) rfl
theorem fl_X1_11 : Cond.fieldLink RX1 11 "MarkCabinet$Grid" "rows" "[I" ∈ zc_tb := zc_mem (List.mem_of_getElem? (i := 68) (by decide +kernel)) rfl
theorem fl_X1_15 : Cond.fieldLink RX1 15 "MarkCabinet$Grid" "left" "[I" ∈ zc_tb := zc_mem (List.mem_of_getElem? (i := 69) (by decide +kernel)) rfl
theorem fl_X1_18 : Cond.fieldLink RX1 18 "MarkCabinet$Grid" "queue" "[I" ∈ zc_tb := zc_mem (List.mem_of_getElem? (i := 70) (by decide +kernel)) rfl
theorem fl_X1_66 : Cond.fieldLink RX1 66 RX1 "WAY_X" "[I" ∈ zc_tb := zc_mem (List.mem_of_getElem? (i := 375) (by decide +kernel)) rfl
theorem fl_X1_69 : Cond.fieldLink RX1 69 RX1 "WAY_Y" "[I" ∈ zc_tb := zc_mem (List.mem_of_getElem? (i := 377) (by decide +kernel)) rfl
theorem fl_X2_9 : Cond.fieldLink RX2 9 "MarkCabinet$History" "flawed" "I" ∈ zc_tb := zc_mem (List.mem_of_getElem? (i := 234) (by decide +kernel)) rfl
theorem fl_X2_15 : Cond.fieldLink RX2 15 "MarkCabinet$History" "comes" "[I" ∈ zc_tb := zc_mem (List.mem_of_getElem? (i := 236) (by decide +kernel)) rfl
theorem fl_X2_19 : Cond.fieldLink RX2 19 "MarkCabinet$History" "size" "I" ∈ zc_tb := zc_mem (List.mem_of_getElem? (i := 238) (by decide +kernel)) rfl
theorem fl_X2_22 : Cond.fieldLink RX2 22 "MarkCabinet$History" "years" "[I" ∈ zc_tb := zc_mem (List.mem_of_getElem? (i := 239) (by decide +kernel)) rfl
theorem fl_X2_25 : Cond.fieldLink RX2 25 "MarkCabinet$History" "having" "[I" ∈ zc_tb := zc_mem (List.mem_of_getElem? (i := 240) (by decide +kernel)) rfl
theorem fl_X2_28 : Cond.fieldLink RX2 28 "MarkCabinet$History" "lastLack" "[I" ∈ zc_tb := zc_mem (List.mem_of_getElem? (i := 241) (by decide +kernel)) rfl
theorem fl_X2_37 : Cond.fieldLink RX2 37 "MarkCabinet$Print" "year" "I" ∈ zc_tb := zc_mem (List.mem_of_getElem? (i := 425) (by decide +kernel)) rfl
theorem fl_X3_9 : Cond.fieldLink RX3 9 "MarkCabinet$Laying" "found" "Z" ∈ zc_tb := zc_mem (List.mem_of_getElem? (i := 179) (by decide +kernel)) rfl
theorem fl_X3_15 : Cond.fieldLink RX3 15 "MarkCabinet$Laying" "q" "I" ∈ zc_tb := zc_mem (List.mem_of_getElem? (i := 181) (by decide +kernel)) rfl
theorem fl_X3_19 : Cond.fieldLink RX3 19 "MarkCabinet$Laying" "dx" "I" ∈ zc_tb := zc_mem (List.mem_of_getElem? (i := 184) (by decide +kernel)) rfl
theorem fl_X3_22 : Cond.fieldLink RX3 22 "MarkCabinet$Laying" "dy" "I" ∈ zc_tb := zc_mem (List.mem_of_getElem? (i := 187) (by decide +kernel)) rfl
theorem fl_X3_25 : Cond.fieldLink RX3 25 "MarkCabinet$Laying" "pairs" "I" ∈ zc_tb := zc_mem (List.mem_of_getElem? (i := 190) (by decide +kernel)) rfl
theorem fl_X3_28 : Cond.fieldLink RX3 28 "MarkCabinet$Laying" "bare" "I" ∈ zc_tb := zc_mem (List.mem_of_getElem? (i := 193) (by decide +kernel)) rfl
theorem fl_X3_31 : Cond.fieldLink RX3 31 "MarkCabinet$Laying" "score" "I" ∈ zc_tb := zc_mem (List.mem_of_getElem? (i := 196) (by decide +kernel)) rfl
theorem fl_X3_34 : Cond.fieldLink RX3 34 "MarkCabinet$Laying" "paired" "I" ∈ zc_tb := zc_mem (List.mem_of_getElem? (i := 199) (by decide +kernel)) rfl
theorem fl_X3_37 : Cond.fieldLink RX3 37 "MarkCabinet$Laying" "inside" "I" ∈ zc_tb := zc_mem (List.mem_of_getElem? (i := 202) (by decide +kernel)) rfl
theorem fl_X3_40 : Cond.fieldLink RX3 40 "MarkCabinet$Laying" "partner" "[I" ∈ zc_tb := zc_mem (List.mem_of_getElem? (i := 204) (by decide +kernel)) rfl
theorem fl_X4_9 : Cond.fieldLink RX4 9 "MarkCabinet$Matches" "reach" "I" ∈ zc_tb := zc_mem (List.mem_of_getElem? (i := 141) (by decide +kernel)) rfl
theorem fl_X4_15 : Cond.fieldLink RX4 15 "MarkCabinet$Matches" "known" "[I" ∈ zc_tb := zc_mem (List.mem_of_getElem? (i := 143) (by decide +kernel)) rfl
theorem fl_X4_22 : Cond.fieldLink RX4 22 "MarkCabinet$Matches" "finder" "LMarkCabinet$Finder;" ∈ zc_tb := zc_mem (List.mem_of_getElem? (i := 144) (by decide +kernel)) rfl
theorem fl_X4_29 : Cond.fieldLink RX4 29 "MarkCabinet$Matches" "pairing" "LMarkCabinet$Pairing;" ∈ zc_tb := zc_mem (List.mem_of_getElem? (i := 145) (by decide +kernel)) rfl
theorem fl_X4_33 : Cond.fieldLink RX4 33 "MarkCabinet$Matches" "turnedX" "[I" ∈ zc_tb := zc_mem (List.mem_of_getElem? (i := 146) (by decide +kernel)) rfl
theorem fl_X4_36 : Cond.fieldLink RX4 36 "MarkCabinet$Matches" "turnedY" "[I" ∈ zc_tb := zc_mem (List.mem_of_getElem? (i := 147) (by decide +kernel)) rfl
theorem fl_X4_44 : Cond.fieldLink RX4 44 "MarkCabinet$Matches" "turnedPart" "LMarkCabinet$Part;" ∈ zc_tb := zc_mem (List.mem_of_getElem? (i := 148) (by decide +kernel)) rfl
theorem fl_X4_48 : Cond.fieldLink RX4 48 "MarkCabinet$Matches" "landings" "[I" ∈ zc_tb := zc_mem (List.mem_of_getElem? (i := 149) (by decide +kernel)) rfl
theorem fl_X4_51 : Cond.fieldLink RX4 51 "MarkCabinet$Matches" "inside" "I" ∈ zc_tb := zc_mem (List.mem_of_getElem? (i := 150) (by decide +kernel)) rfl
theorem fl_X4_54 : Cond.fieldLink RX4 54 "MarkCabinet$Matches" "struckByBoth" "I" ∈ zc_tb := zc_mem (List.mem_of_getElem? (i := 151) (by decide +kernel)) rfl
theorem fl_X4_91 : Cond.fieldLink RX4 91 "MarkCabinet$Laying" "q" "I" ∈ zc_tb := zc_mem (List.mem_of_getElem? (i := 182) (by decide +kernel)) rfl
theorem fl_X4_97 : Cond.fieldLink RX4 97 "MarkCabinet$Laying" "dx" "I" ∈ zc_tb := zc_mem (List.mem_of_getElem? (i := 185) (by decide +kernel)) rfl
theorem fl_X4_100 : Cond.fieldLink RX4 100 "MarkCabinet$Laying" "dy" "I" ∈ zc_tb := zc_mem (List.mem_of_getElem? (i := 188) (by decide +kernel)) rfl
theorem fl_X4_111 : Cond.fieldLink RX4 111 "MarkCabinet$Laying" "pairs" "I" ∈ zc_tb := zc_mem (List.mem_of_getElem? (i := 191) (by decide +kernel)) rfl
theorem fl_X4_117 : Cond.fieldLink RX4 117 "MarkCabinet$Laying" "bare" "I" ∈ zc_tb := zc_mem (List.mem_of_getElem? (i := 194) (by decide +kernel)) rfl
theorem fl_X4_123 : Cond.fieldLink RX4 123 "MarkCabinet$Laying" "score" "I" ∈ zc_tb := zc_mem (List.mem_of_getElem? (i := 197) (by decide +kernel)) rfl
theorem fl_X4_126 : Cond.fieldLink RX4 126 "MarkCabinet$Laying" "inside" "I" ∈ zc_tb := zc_mem (List.mem_of_getElem? (i := 203) (by decide +kernel)) rfl
theorem fl_X4_127 : Cond.fieldLink RX4 127 "MarkCabinet$Laying" "partner" "[I" ∈ zc_tb := zc_mem (List.mem_of_getElem? (i := 205) (by decide +kernel)) rfl
theorem fl_X4_134 : Cond.fieldLink RX4 134 "MarkCabinet$Laying" "paired" "I" ∈ zc_tb := zc_mem (List.mem_of_getElem? (i := 200) (by decide +kernel)) rfl
theorem fl_X4_137 : Cond.fieldLink RX4 137 "MarkCabinet$Print" "number" "I" ∈ zc_tb := zc_mem (List.mem_of_getElem? (i := 418) (by decide +kernel)) rfl
theorem fl_X4_173 : Cond.fieldLink RX4 173 "MarkCabinet$Print" "part" "LMarkCabinet$Part;" ∈ zc_tb := zc_mem (List.mem_of_getElem? (i := 421) (by decide +kernel)) rfl
theorem fl_X5_9 : Cond.fieldLink RX5 9 "MarkCabinet$Pairing" "may" "[I" ∈ zc_tb := zc_mem (List.mem_of_getElem? (i := 109) (by decide +kernel)) rfl
theorem fl_X5_15 : Cond.fieldLink RX5 15 "MarkCabinet$Pairing" "size" "I" ∈ zc_tb := zc_mem (List.mem_of_getElem? (i := 110) (by decide +kernel)) rfl
theorem fl_X5_19 : Cond.fieldLink RX5 19 "MarkCabinet$Pairing" "holder" "[I" ∈ zc_tb := zc_mem (List.mem_of_getElem? (i := 111) (by decide +kernel)) rfl
theorem fl_X5_22 : Cond.fieldLink RX5 22 "MarkCabinet$Pairing" "untried" "I" ∈ zc_tb := zc_mem (List.mem_of_getElem? (i := 112) (by decide +kernel)) rfl
theorem fl_X6_9 : Cond.fieldLink RX6 9 "MarkCabinet$Part" "x0" "I" ∈ zc_tb := zc_mem (List.mem_of_getElem? (i := 128) (by decide +kernel)) rfl
theorem fl_X6_15 : Cond.fieldLink RX6 15 "MarkCabinet$Part" "y0" "I" ∈ zc_tb := zc_mem (List.mem_of_getElem? (i := 129) (by decide +kernel)) rfl
theorem fl_X6_18 : Cond.fieldLink RX6 18 "MarkCabinet$Part" "x1" "I" ∈ zc_tb := zc_mem (List.mem_of_getElem? (i := 130) (by decide +kernel)) rfl
theorem fl_X6_21 : Cond.fieldLink RX6 21 "MarkCabinet$Part" "y1" "I" ∈ zc_tb := zc_mem (List.mem_of_getElem? (i := 131) (by decide +kernel)) rfl
theorem fl_X7_9 : Cond.fieldLink RX7 9 "MarkCabinet$Print" "tool" "I" ∈ zc_tb := zc_mem (List.mem_of_getElem? (i := 422) (by decide +kernel)) rfl
theorem fl_X7_15 : Cond.fieldLink RX7 15 "MarkCabinet$Print" "year" "I" ∈ zc_tb := zc_mem (List.mem_of_getElem? (i := 424) (by decide +kernel)) rfl
theorem fl_X7_18 : Cond.fieldLink RX7 18 "MarkCabinet$Print" "number" "I" ∈ zc_tb := zc_mem (List.mem_of_getElem? (i := 417) (by decide +kernel)) rfl
theorem fl_X7_21 : Cond.fieldLink RX7 21 "MarkCabinet$Print" "points" "[I" ∈ zc_tb := zc_mem (List.mem_of_getElem? (i := 419) (by decide +kernel)) rfl
theorem fl_X7_25 : Cond.fieldLink RX7 25 "MarkCabinet$Print" "part" "LMarkCabinet$Part;" ∈ zc_tb := zc_mem (List.mem_of_getElem? (i := 420) (by decide +kernel)) rfl
theorem fl_X9_9 : Cond.fieldLink RX9 9 "MarkCabinetModel" "dark" "[Z" ∈ zc_tb := zc_mem (List.mem_of_getElem? (i := 729) (by decide +kernel)) rfl
theorem fl_X9_13 : Cond.fieldLink RX9 13 "MarkCabinetModel" "seen" "[Z" ∈ zc_tb := zc_mem (List.mem_of_getElem? (i := 730) (by decide +kernel)) rfl
theorem fl_X9_16 : Cond.fieldLink RX9 16 "MarkCabinetModel" "fork" "[Z" ∈ zc_tb := zc_mem (List.mem_of_getElem? (i := 731) (by decide +kernel)) rfl
theorem fl_X9_19 : Cond.fieldLink RX9 19 "MarkCabinetModel" "kindAt" "[I" ∈ zc_tb := zc_mem (List.mem_of_getElem? (i := 732) (by decide +kernel)) rfl
theorem fl_X9_23 : Cond.fieldLink RX9 23 "MarkCabinetModel" "many" "[I" ∈ zc_tb := zc_mem (List.mem_of_getElem? (i := 733) (by decide +kernel)) rfl
theorem fl_X9_26 : Cond.fieldLink RX9 26 "MarkCabinetModel" "x" "[I" ∈ zc_tb := zc_mem (List.mem_of_getElem? (i := 734) (by decide +kernel)) rfl
theorem fl_X9_29 : Cond.fieldLink RX9 29 "MarkCabinetModel" "y" "[I" ∈ zc_tb := zc_mem (List.mem_of_getElem? (i := 735) (by decide +kernel)) rfl
theorem fl_X9_32 : Cond.fieldLink RX9 32 "MarkCabinetModel" "kind" "[I" ∈ zc_tb := zc_mem (List.mem_of_getElem? (i := 736) (by decide +kernel)) rfl
theorem fl_X9_35 : Cond.fieldLink RX9 35 "MarkCabinetModel" "struck" "[I" ∈ zc_tb := zc_mem (List.mem_of_getElem? (i := 737) (by decide +kernel)) rfl
theorem fl_X9_38 : Cond.fieldLink RX9 38 "MarkCabinetModel" "tool" "[I" ∈ zc_tb := zc_mem (List.mem_of_getElem? (i := 738) (by decide +kernel)) rfl
theorem fl_X9_41 : Cond.fieldLink RX9 41 "MarkCabinetModel" "year" "[I" ∈ zc_tb := zc_mem (List.mem_of_getElem? (i := 739) (by decide +kernel)) rfl
theorem fl_X9_44 : Cond.fieldLink RX9 44 "MarkCabinetModel" "reach" "I" ∈ zc_tb := zc_mem (List.mem_of_getElem? (i := 741) (by decide +kernel)) rfl
theorem fl_X9_48 : Cond.fieldLink RX9 48 "MarkCabinetModel" "laidX" "[I" ∈ zc_tb := zc_mem (List.mem_of_getElem? (i := 742) (by decide +kernel)) rfl
theorem fl_X9_51 : Cond.fieldLink RX9 51 "MarkCabinetModel" "laidY" "[I" ∈ zc_tb := zc_mem (List.mem_of_getElem? (i := 743) (by decide +kernel)) rfl
theorem fl_X9_54 : Cond.fieldLink RX9 54 "MarkCabinetModel" "laidPart" "[I" ∈ zc_tb := zc_mem (List.mem_of_getElem? (i := 744) (by decide +kernel)) rfl
theorem fl_X9_57 : Cond.fieldLink RX9 57 "MarkCabinetModel" "may" "[Z" ∈ zc_tb := zc_mem (List.mem_of_getElem? (i := 745) (by decide +kernel)) rfl
theorem fl_X9_60 : Cond.fieldLink RX9 60 "MarkCabinetModel" "ofB" "[I" ∈ zc_tb := zc_mem (List.mem_of_getElem? (i := 746) (by decide +kernel)) rfl
theorem fl_X9_63 : Cond.fieldLink RX9 63 "MarkCabinetModel" "tried" "[Z" ∈ zc_tb := zc_mem (List.mem_of_getElem? (i := 747) (by decide +kernel)) rfl
theorem fl_X9_66 : Cond.fieldLink RX9 66 "MarkCabinetModel" "fixed" "[I" ∈ zc_tb := zc_mem (List.mem_of_getElem? (i := 748) (by decide +kernel)) rfl
theorem fl_X9_69 : Cond.fieldLink RX9 69 "MarkCabinetModel" "found" "[I" ∈ zc_tb := zc_mem (List.mem_of_getElem? (i := 756) (by decide +kernel)) rfl
theorem fl_X9_72 : Cond.fieldLink RX9 72 "MarkCabinetModel" "told" "[I" ∈ zc_tb := zc_mem (List.mem_of_getElem? (i := 757) (by decide +kernel)) rfl
theorem fl_X9_75 : Cond.fieldLink RX9 75 "MarkCabinetModel" "toldPair" "[I" ∈ zc_tb := zc_mem (List.mem_of_getElem? (i := 758) (by decide +kernel)) rfl
theorem fl_X9_78 : Cond.fieldLink RX9 78 "MarkCabinetModel" "toldMany" "I" ∈ zc_tb := zc_mem (List.mem_of_getElem? (i := 759) (by decide +kernel)) rfl
theorem fl_X9_81 : Cond.fieldLink RX9 81 "MarkCabinetModel" "flawPoint" "[I" ∈ zc_tb := zc_mem (List.mem_of_getElem? (i := 760) (by decide +kernel)) rfl
theorem fl_X9_84 : Cond.fieldLink RX9 84 "MarkCabinetModel" "flawYear" "[I" ∈ zc_tb := zc_mem (List.mem_of_getElem? (i := 761) (by decide +kernel)) rfl
theorem fl_X9_87 : Cond.fieldLink RX9 87 "MarkCabinetModel" "verdict" "[I" ∈ zc_tb := zc_mem (List.mem_of_getElem? (i := 764) (by decide +kernel)) rfl
theorem fl_X9_90 : Cond.fieldLink RX9 90 "MarkCabinetModel" "from" "I" ∈ zc_tb := zc_mem (List.mem_of_getElem? (i := 765) (by decide +kernel)) rfl
theorem fl_X9_93 : Cond.fieldLink RX9 93 "MarkCabinetModel" "till" "I" ∈ zc_tb := zc_mem (List.mem_of_getElem? (i := 766) (by decide +kernel)) rfl
theorem fl_X9_131 : Cond.fieldLink RX9 131 "MarkCabinetModel" "prints" "I" ∈ zc_tb := zc_mem (List.mem_of_getElem? (i := 740) (by decide +kernel)) rfl
theorem fl_X9_158 : Cond.fieldLink RX9 158 "MarkCabinetModel" "pairs" "I" ∈ zc_tb := zc_mem (List.mem_of_getElem? (i := 749) (by decide +kernel)) rfl
theorem fl_X9_165 : Cond.fieldLink RX9 165 "MarkCabinetModel" "bare" "I" ∈ zc_tb := zc_mem (List.mem_of_getElem? (i := 750) (by decide +kernel)) rfl
theorem fl_X9_168 : Cond.fieldLink RX9 168 "MarkCabinetModel" "isLaid" "Z" ∈ zc_tb := zc_mem (List.mem_of_getElem? (i := 755) (by decide +kernel)) rfl
theorem fl_X9_172 : Cond.fieldLink RX9 172 "MarkCabinetModel" "score" "I" ∈ zc_tb := zc_mem (List.mem_of_getElem? (i := 754) (by decide +kernel)) rfl
theorem fl_X9_175 : Cond.fieldLink RX9 175 "MarkCabinetModel" "q" "I" ∈ zc_tb := zc_mem (List.mem_of_getElem? (i := 751) (by decide +kernel)) rfl
theorem fl_X9_178 : Cond.fieldLink RX9 178 "MarkCabinetModel" "dx" "I" ∈ zc_tb := zc_mem (List.mem_of_getElem? (i := 752) (by decide +kernel)) rfl
theorem fl_X9_181 : Cond.fieldLink RX9 181 "MarkCabinetModel" "dy" "I" ∈ zc_tb := zc_mem (List.mem_of_getElem? (i := 753) (by decide +kernel)) rfl
theorem fl_X9_211 : Cond.fieldLink RX9 211 "MarkCabinetModel" "latest" "I" ∈ zc_tb := zc_mem (List.mem_of_getElem? (i := 763) (by decide +kernel)) rfl
theorem fl_X9_217 : Cond.fieldLink RX9 217 "MarkCabinetModel" "flaws" "I" ∈ zc_tb := zc_mem (List.mem_of_getElem? (i := 762) (by decide +kernel)) rfl
theorem ck_X8_71 : Cond.constant RX8 71 65535 ∈ zc_tb := zc_mem (List.mem_of_getElem? (i := 299) (by decide +kernel)) rfl
theorem ck_X1_58 : Cond.constant RX1 58 262143 ∈ zc_tb := zc_mem (List.mem_of_getElem? (i := 383) (by decide +kernel)) rfl
theorem ck_X9_100 : Cond.constant RX9 100 65535 ∈ zc_tb := zc_mem (List.mem_of_getElem? (i := 852) (by decide +kernel)) rfl
theorem ck_J6_265 : Cond.constant RJ6 265 1431655765 ∈ zc_tb := zc_mem (List.mem_of_getElem? (i := 311) (by decide +kernel)) rfl
theorem ck_J6_266 : Cond.constant RJ6 266 858993459 ∈ zc_tb := zc_mem (List.mem_of_getElem? (i := 312) (by decide +kernel)) rfl
theorem ck_J6_267 : Cond.constant RJ6 267 252645135 ∈ zc_tb := zc_mem (List.mem_of_getElem? (i := 313) (by decide +kernel)) rfl
abbrev mX0_init : zc_M := (yX0_init, cX0_init, 1, none)
abbrev mJ7_fill_53178 : zc_M := (yJ7_fill_53178, cJ7_fill_53178, 4, none)
abbrev mX7_size : zc_M := (yX7_size, cX7_size, 1, (some .int))
abbrev mX7_columnOf : zc_M := (yX7_columnOf, cX7_columnOf, 2, (some .int))
abbrev mX0_mark : zc_M := (yX0_mark, cX0_mark, 5, none)
abbrev mX7_rowOf : zc_M := (yX7_rowOf, cX7_rowOf, 2, (some .int))
abbrev mX7_kindOf : zc_M := (yX7_kindOf, cX7_kindOf, 2, (some .int))
abbrev mX0_learn : zc_M := (yX0_learn, cX0_learn, 4, none)
abbrev mX0_near : zc_M := (yX0_near, cX0_near, 6, (some .int))
abbrev mX1_init : zc_M := (yX1_init, cX1_init, 1, none)
abbrev mX1_setRow : zc_M := (yX1_setRow, cX1_setRow, 3, none)
abbrev mX1_bitsOf : zc_M := (yX1_bitsOf, cX1_bitsOf, 2, (some .int))
abbrev mJ6_bitCount_0f7a4 : zc_M := (yJ6_bitCount_0f7a4, cJ6_bitCount_0f7a4, 1, (some .int))
abbrev mX1_darkCells : zc_M := (yX1_darkCells, cX1_darkCells, 3, (some .int))
abbrev mX1_isDark : zc_M := (yX1_isDark, cX1_isDark, 3, (some .boolean))
abbrev mX1_threeAt : zc_M := (yX1_threeAt, cX1_threeAt, 2, (some .int))
abbrev mX1_ringAt : zc_M := (yX1_ringAt, cX1_ringAt, 8, (some .int))
abbrev mX1_hangsTogether : zc_M := (yX1_hangsTogether, cX1_hangsTogether, 4, (some .boolean))
abbrev mX1_goes : zc_M := (yX1_goes, cX1_goes, 2, (some .boolean))
abbrev mX1_sweepOnce : zc_M := (yX1_sweepOnce, cX1_sweepOnce, 4, (some .int))
abbrev mX1_takeThinned : zc_M := (yX1_takeThinned, cX1_takeThinned, 4, (some .int))
abbrev mX8_isWithin : zc_M := (yX8_isWithin, cX8_isWithin, 3, (some .boolean))
abbrev mX1_takes : zc_M := (yX1_takes, cX1_takes, 5, (some .boolean))
abbrev mX1_takeRest : zc_M := (yX1_takeRest, cX1_takeRest, 9, none)
abbrev mX1_takePieces : zc_M := (yX1_takePieces, cX1_takePieces, 5, (some .int))
abbrev mX1_darkPieces : zc_M := (yX1_darkPieces, cX1_darkPieces, 1, (some .int))
abbrev mX1_holes : zc_M := (yX1_holes, cX1_holes, 2, (some .int))
abbrev mX1_kindOf : zc_M := (yX1_kindOf, cX1_kindOf, 2, (some .int))
abbrev mX1_readPoints : zc_M := (yX1_readPoints, cX1_readPoints, 9, (some .int))
abbrev mX2_init : zc_M := (yX2_init, cX2_init, 1, none)
abbrev mX2_clear : zc_M := (yX2_clear, cX2_clear, 1, none)
abbrev mX2_hear : zc_M := (yX2_hear, cX2_hear, 5, none)
abbrev mX2_dateFlaws : zc_M := (yX2_dateFlaws, cX2_dateFlaws, 3, none)
abbrev mX2_flawAt : zc_M := (yX2_flawAt, cX2_flawAt, 4, (some .int))
abbrev mX2_lastComing : zc_M := (yX2_lastComing, cX2_lastComing, 5, (some .int))
abbrev mX2_firstComing : zc_M := (yX2_firstComing, cX2_firstComing, 5, (some .int))
abbrev mX3_init : zc_M := (yX3_init, cX3_init, 1, none)
abbrev mX3_set : zc_M := (yX3_set, cX3_set, 4, none)
abbrev mX3_setNone : zc_M := (yX3_setNone, cX3_setNone, 1, none)
abbrev mX3_lacking : zc_M := (yX3_lacking, cX3_lacking, 1, (some .int))
abbrev mX5_init : zc_M := (yX5_init, cX5_init, 1, none)
abbrev mX6_init : zc_M := (yX6_init, cX6_init, 5, none)
abbrev mX4_init : zc_M := (yX4_init, cX4_init, 1, none)
abbrev mX6_turnedColumn : zc_M := (yX6_turnedColumn, cX6_turnedColumn, 3, (some .int))
abbrev mX6_turnedRow : zc_M := (yX6_turnedRow, cX6_turnedRow, 3, (some .int))
abbrev mX6_becomeTurned : zc_M := (yX6_becomeTurned, cX6_becomeTurned, 7, none)
abbrev mX4_turnBy : zc_M := (yX4_turnBy, cX4_turnBy, 4, none)
abbrev mX4_markLandings : zc_M := (yX4_markLandings, cX4_markLandings, 7, none)
abbrev mX5_clear : zc_M := (yX5_clear, cX5_clear, 1, none)
abbrev mX5_add : zc_M := (yX5_add, cX5_add, 2, none)
abbrev mX6_holds : zc_M := (yX6_holds, cX6_holds, 3, (some .boolean))
abbrev mX4_shiftBy : zc_M := (yX4_shiftBy, cX4_shiftBy, 8, none)
abbrev mX5_bound : zc_M := (yX5_bound, cX5_bound, 4, (some .int))
abbrev mX4_bareWith : zc_M := (yX4_bareWith, cX4_bareWith, 2, (some .int))
abbrev mX4_scoreWith : zc_M := (yX4_scoreWith, cX4_scoreWith, 2, (some .int))
abbrev mX5_finds : zc_M := (yX5_finds, cX5_finds, 7, (some .boolean))
abbrev mX5_most : zc_M := (yX5_most, cX5_most, 5, (some .int))
abbrev mX4_pack : zc_M := (yX4_pack, cX4_pack, 4, (some .int))
abbrev mX4_search : zc_M := (yX4_search, cX4_search, 9, (some .int))
abbrev mX4_bestOf : zc_M := (yX4_bestOf, cX4_bestOf, 4, (some .int))
abbrev mX4_unpackScore : zc_M := (yX4_unpackScore, cX4_unpackScore, 1, (some .int))
abbrev mX4_scoreOf : zc_M := (yX4_scoreOf, cX4_scoreOf, 4, (some .int))
abbrev mX4_unpackTurn : zc_M := (yX4_unpackTurn, cX4_unpackTurn, 1, (some .int))
abbrev mX4_unpackColumn : zc_M := (yX4_unpackColumn, cX4_unpackColumn, 1, (some .int))
abbrev mX4_unpackRow : zc_M := (yX4_unpackRow, cX4_unpackRow, 1, (some .int))
abbrev mX5_choose : zc_M := (yX5_choose, cX5_choose, 9, (some .int))
abbrev mX4_fillIn : zc_M := (yX4_fillIn, cX4_fillIn, 4, none)
abbrev mX4_layBest : zc_M := (yX4_layBest, cX4_layBest, 5, none)
abbrev mX7_init : zc_M := (yX7_init, cX7_init, 4, none)
abbrev mX8_init : zc_M := (yX8_init, cX8_init, 1, none)
abbrev mX8_feed : zc_M := (yX8_feed, cX8_feed, 3, (some .int))
abbrev mX8_row : zc_M := (yX8_row, cX8_row, 2, (some .int))
abbrev mX8_thin : zc_M := (yX8_thin, cX8_thin, 1, (some .int))
abbrev mX8_pieces : zc_M := (yX8_pieces, cX8_pieces, 2, (some .int))
abbrev mJ7_copyOf_59c91 : zc_M := (yJ7_copyOf_59c91, cJ7_copyOf_59c91, 3, (some (.array .int)))
abbrev mX8_print : zc_M := (yX8_print, cX8_print, 7, (some .int))
abbrev mX8_printAt : zc_M := (yX8_printAt, cX8_printAt, 2, (some (.object "MarkCabinet$Print")))
abbrev mX8_point : zc_M := (yX8_point, cX8_point, 4, (some .int))
abbrev mX8_reach : zc_M := (yX8_reach, cX8_reach, 3, (some .int))
abbrev mX8_lay : zc_M := (yX8_lay, cX8_lay, 8, (some .int))
abbrev mX8_match : zc_M := (yX8_match, cX8_match, 5, (some .int))
abbrev mX8_told : zc_M := (yX8_told, cX8_told, 2, (some .int))
abbrev mX8_pair : zc_M := (yX8_pair, cX8_pair, 2, (some .int))
abbrev mX8_isTool : zc_M := (yX8_isTool, cX8_isTool, 1, (some .boolean))
abbrev mX8_hasYear : zc_M := (yX8_hasYear, cX8_hasYear, 4, (some .boolean))
abbrev mX8_keptBy : zc_M := (yX8_keptBy, cX8_keptBy, 4, (some .int))
abbrev mX8_keep : zc_M := (yX8_keep, cX8_keep, 5, (some .int))
abbrev mX8_part : zc_M := (yX8_part, cX8_part, 3, (some .int))
abbrev mX8_of : zc_M := (yX8_of, cX8_of, 4, (some .int))
abbrev mX8_melt : zc_M := (yX8_melt, cX8_melt, 4, (some .int))
abbrev mX8_like : zc_M := (yX8_like, cX8_like, 8, (some .int))
abbrev mX8_areStrangers : zc_M := (yX8_areStrangers, cX8_areStrangers, 2, (some .boolean))
abbrev mX8_strangers : zc_M := (yX8_strangers, cX8_strangers, 6, (some .int))
abbrev mX8_newestOf : zc_M := (yX8_newestOf, cX8_newestOf, 4, (some (.object "MarkCabinet$Print")))
abbrev mX8_readHistory : zc_M := (yX8_readHistory, cX8_readHistory, 4, (some .boolean))
abbrev mX8_flaws : zc_M := (yX8_flaws, cX8_flaws, 2, (some .int))
abbrev mX8_flaw : zc_M := (yX8_flaw, cX8_flaw, 5, (some .int))
abbrev mX8_age : zc_M := (yX8_age, cX8_age, 5, (some .int))
abbrev mX8_struck : zc_M := (yX8_struck, cX8_struck, 2, (some .int))
abbrev mX8_toolsWithPrints : zc_M := (yX8_toolsWithPrints, cX8_toolsWithPrints, 3, (some .int))
abbrev mX8_count : zc_M := (yX8_count, cX8_count, 2, (some .int))
abbrev mX9_init : zc_M := (yX9_init, cX9_init, 1, none)
abbrev mX9_within : zc_M := (yX9_within, cX9_within, 3, (some .boolean))
abbrev mX9_isDark : zc_M := (yX9_isDark, cX9_isDark, 3, (some .boolean))
abbrev mX9_darkMany : zc_M := (yX9_darkMany, cX9_darkMany, 3, (some .int))
abbrev mX9_feed : zc_M := (yX9_feed, cX9_feed, 4, (some .int))
abbrev mX9_row : zc_M := (yX9_row, cX9_row, 4, (some .int))
abbrev mX9_neighbours : zc_M := (yX9_neighbours, cX9_neighbours, 6, (some .int))
abbrev mX9_stepX : zc_M := (yX9_stepX, cX9_stepX, 1, (some .int))
abbrev mX9_stepY : zc_M := (yX9_stepY, cX9_stepY, 1, (some .int))
abbrev mX9_hangTogether : zc_M := (yX9_hangTogether, cX9_hangTogether, 11, (some .boolean))
abbrev mX9_thin : zc_M := (yX9_thin, cX9_thin, 7, (some .int))
abbrev mX9_besideSeen : zc_M := (yX9_besideSeen, cX9_besideSeen, 8, (some .boolean))
abbrev mX9_spread : zc_M := (yX9_spread, cX9_spread, 5, none)
abbrev mX9_pieces : zc_M := (yX9_pieces, cX9_pieces, 5, (some .int))
abbrev mX9_findPoints : zc_M := (yX9_findPoints, cX9_findPoints, 8, (some .int))
abbrev mX9_print : zc_M := (yX9_print, cX9_print, 10, (some .int))
abbrev mX9_isPrint : zc_M := (yX9_isPrint, cX9_isPrint, 2, (some .boolean))
abbrev mX9_point : zc_M := (yX9_point, cX9_point, 4, (some .int))
abbrev mX9_reach : zc_M := (yX9_reach, cX9_reach, 3, (some .int))
abbrev mX9_turnedX : zc_M := (yX9_turnedX, cX9_turnedX, 3, (some .int))
abbrev mX9_turnedY : zc_M := (yX9_turnedY, cX9_turnedY, 3, (some .int))
abbrev mX9_layOut : zc_M := (yX9_layOut, cX9_layOut, 10, none)
abbrev mX9_finds : zc_M := (yX9_finds, cX9_finds, 4, (some .boolean))
abbrev mX9_mostPairs : zc_M := (yX9_mostPairs, cX9_mostPairs, 8, (some .int))
abbrev mX9_liesIn : zc_M := (yX9_liesIn, cX9_liesIn, 4, (some .boolean))
abbrev mX9_scoreOf : zc_M := (yX9_scoreOf, cX9_scoreOf, 8, (some .int))
abbrev mX9_findFirst : zc_M := (yX9_findFirst, cX9_findFirst, 9, none)
abbrev mX9_offer : zc_M := (yX9_offer, cX9_offer, 8, none)
abbrev mX9_matchOf : zc_M := (yX9_matchOf, cX9_matchOf, 8, (some .int))
abbrev mX9_tell : zc_M := (yX9_tell, cX9_tell, 3, none)
abbrev mX9_lay : zc_M := (yX9_lay, cX9_lay, 6, (some .int))
abbrev mX9_match : zc_M := (yX9_match, cX9_match, 4, (some .int))
abbrev mX9_told : zc_M := (yX9_told, cX9_told, 2, (some .int))
abbrev mX9_pair : zc_M := (yX9_pair, cX9_pair, 2, (some .int))
abbrev mX9_isTool : zc_M := (yX9_isTool, cX9_isTool, 1, (some .boolean))
abbrev mX9_keptBy : zc_M := (yX9_keptBy, cX9_keptBy, 4, (some .int))
abbrev mX9_printOf : zc_M := (yX9_printOf, cX9_printOf, 4, (some .int))
abbrev mX9_keep : zc_M := (yX9_keep, cX9_keep, 4, (some .int))
abbrev mX9_part : zc_M := (yX9_part, cX9_part, 2, (some .int))
abbrev mX9_of : zc_M := (yX9_of, cX9_of, 3, (some .int))
abbrev mX9_melt : zc_M := (yX9_melt, cX9_melt, 4, (some .int))
abbrev mX9_like : zc_M := (yX9_like, cX9_like, 7, (some .int))
abbrev mX9_strangers : zc_M := (yX9_strangers, cX9_strangers, 6, (some .int))
abbrev mX9_ask : zc_M := (yX9_ask, cX9_ask, 5, none)
abbrev mX9_findFlaws : zc_M := (yX9_findFlaws, cX9_findFlaws, 7, none)
abbrev mX9_flaws : zc_M := (yX9_flaws, cX9_flaws, 2, (some .int))
abbrev mX9_flaw : zc_M := (yX9_flaw, cX9_flaw, 4, (some .int))
abbrev mX9_age : zc_M := (yX9_age, cX9_age, 5, (some .int))
abbrev mX9_struck : zc_M := (yX9_struck, cX9_struck, 2, (some .int))
abbrev mX9_count : zc_M := (yX9_count, cX9_count, 4, (some .int))
abbrev mJ9_max_7cf53 : zc_M := (yJ9_max_7cf53, cJ9_max_7cf53, 2, (some .int))
abbrev mJ9_min_7cf53 : zc_M := (yJ9_min_7cf53, cJ9_min_7cf53, 2, (some .int))
theorem lk_X8_67 : zc_lk RX8 67 mX8_isWithin 3 := ⟨(List.mem_of_getElem? (i := 296) (by decide +kernel)), rfl, (List.mem_of_getElem? (i := 40) (by decide +kernel)), rfl, (List.mem_of_getElem? (i := 298) (by decide +kernel)), rfl, ⟨by decide +kernel, by decide +kernel, by decide +kernel⟩, by decide⟩
theorem lk_X8_72 : zc_lk RX8 72 mX1_setRow 2 := ⟨(List.mem_of_getElem? (i := 300) (by decide +kernel)), rfl, (List.mem_of_getElem? (i := 41) (by decide +kernel)), rfl, (List.mem_of_getElem? (i := 303) (by decide +kernel)), rfl, ⟨by decide +kernel, by decide +kernel, by decide +kernel⟩, by decide⟩
theorem lk_X8_76 : zc_lk RX8 76 mX1_darkCells 0 := ⟨(List.mem_of_getElem? (i := 304) (by decide +kernel)), rfl, (List.mem_of_getElem? (i := 41) (by decide +kernel)), rfl, (List.mem_of_getElem? (i := 307) (by decide +kernel)), rfl, ⟨by decide +kernel, by decide +kernel, by decide +kernel⟩, by decide⟩
theorem lk_X8_80 : zc_lk RX8 80 mX1_bitsOf 1 := ⟨(List.mem_of_getElem? (i := 318) (by decide +kernel)), rfl, (List.mem_of_getElem? (i := 41) (by decide +kernel)), rfl, (List.mem_of_getElem? (i := 321) (by decide +kernel)), rfl, ⟨by decide +kernel, by decide +kernel, by decide +kernel⟩, by decide⟩
theorem lk_X8_84 : zc_lk RX8 84 mX1_takeThinned 0 := ⟨(List.mem_of_getElem? (i := 326) (by decide +kernel)), rfl, (List.mem_of_getElem? (i := 41) (by decide +kernel)), rfl, (List.mem_of_getElem? (i := 329) (by decide +kernel)), rfl, ⟨by decide +kernel, by decide +kernel, by decide +kernel⟩, by decide⟩
theorem lk_X8_87 : zc_lk RX8 87 mX1_darkPieces 0 := ⟨(List.mem_of_getElem? (i := 355) (by decide +kernel)), rfl, (List.mem_of_getElem? (i := 41) (by decide +kernel)), rfl, (List.mem_of_getElem? (i := 358) (by decide +kernel)), rfl, ⟨by decide +kernel, by decide +kernel, by decide +kernel⟩, by decide⟩
theorem lk_X8_90 : zc_lk RX8 90 mX1_holes 0 := ⟨(List.mem_of_getElem? (i := 379) (by decide +kernel)), rfl, (List.mem_of_getElem? (i := 41) (by decide +kernel)), rfl, (List.mem_of_getElem? (i := 382) (by decide +kernel)), rfl, ⟨by decide +kernel, by decide +kernel, by decide +kernel⟩, by decide⟩
theorem lk_X8_93 : zc_lk RX8 93 mX1_readPoints 1 := ⟨(List.mem_of_getElem? (i := 388) (by decide +kernel)), rfl, (List.mem_of_getElem? (i := 41) (by decide +kernel)), rfl, (List.mem_of_getElem? (i := 391) (by decide +kernel)), rfl, ⟨by decide +kernel, by decide +kernel, by decide +kernel⟩, by decide⟩
theorem lk_X8_97 : zc_lk RX8 97 mJ9_min_7cf53 2 := ⟨(List.mem_of_getElem? (i := 395) (by decide +kernel)), rfl, (List.mem_of_getElem? (i := 51) (by decide +kernel)), rfl, (List.mem_of_getElem? (i := 397) (by decide +kernel)), rfl, ⟨by decide +kernel, by decide +kernel, by decide +kernel⟩, by decide⟩
theorem lk_X8_103 : zc_lk RX8 103 mJ7_copyOf_59c91 2 := ⟨(List.mem_of_getElem? (i := 399) (by decide +kernel)), rfl, (List.mem_of_getElem? (i := 53) (by decide +kernel)), rfl, (List.mem_of_getElem? (i := 401) (by decide +kernel)), rfl, ⟨by decide +kernel, by decide +kernel, by decide +kernel⟩, by decide⟩
theorem lk_X8_111 : zc_lk RX8 111 mX6_init 4 := ⟨(List.mem_of_getElem? (i := 412) (by decide +kernel)), rfl, (List.mem_of_getElem? (i := 45) (by decide +kernel)), rfl, (List.mem_of_getElem? (i := 126) (by decide +kernel)), rfl, ⟨by decide +kernel, by decide +kernel, by decide +kernel⟩, by decide⟩
theorem lk_X8_114 : zc_lk RX8 114 mX7_init 3 := ⟨(List.mem_of_getElem? (i := 413) (by decide +kernel)), rfl, (List.mem_of_getElem? (i := 52) (by decide +kernel)), rfl, (List.mem_of_getElem? (i := 415) (by decide +kernel)), rfl, ⟨by decide +kernel, by decide +kernel, by decide +kernel⟩, by decide⟩
theorem lk_X8_117 : zc_lk RX8 117 mX8_printAt 1 := ⟨(List.mem_of_getElem? (i := 442) (by decide +kernel)), rfl, (List.mem_of_getElem? (i := 40) (by decide +kernel)), rfl, (List.mem_of_getElem? (i := 445) (by decide +kernel)), rfl, ⟨by decide +kernel, by decide +kernel, by decide +kernel⟩, by decide⟩
theorem lk_X8_121 : zc_lk RX8 121 mX7_size 0 := ⟨(List.mem_of_getElem? (i := 446) (by decide +kernel)), rfl, (List.mem_of_getElem? (i := 52) (by decide +kernel)), rfl, (List.mem_of_getElem? (i := 449) (by decide +kernel)), rfl, ⟨by decide +kernel, by decide +kernel, by decide +kernel⟩, by decide⟩
theorem lk_X8_124 : zc_lk RX8 124 mX7_columnOf 1 := ⟨(List.mem_of_getElem? (i := 450) (by decide +kernel)), rfl, (List.mem_of_getElem? (i := 52) (by decide +kernel)), rfl, (List.mem_of_getElem? (i := 453) (by decide +kernel)), rfl, ⟨by decide +kernel, by decide +kernel, by decide +kernel⟩, by decide⟩
theorem lk_X8_127 : zc_lk RX8 127 mX7_rowOf 1 := ⟨(List.mem_of_getElem? (i := 454) (by decide +kernel)), rfl, (List.mem_of_getElem? (i := 52) (by decide +kernel)), rfl, (List.mem_of_getElem? (i := 457) (by decide +kernel)), rfl, ⟨by decide +kernel, by decide +kernel, by decide +kernel⟩, by decide⟩
theorem lk_X8_130 : zc_lk RX8 130 mX7_kindOf 1 := ⟨(List.mem_of_getElem? (i := 458) (by decide +kernel)), rfl, (List.mem_of_getElem? (i := 52) (by decide +kernel)), rfl, (List.mem_of_getElem? (i := 461) (by decide +kernel)), rfl, ⟨by decide +kernel, by decide +kernel, by decide +kernel⟩, by decide⟩
theorem lk_X8_136 : zc_lk RX8 136 mX3_set 3 := ⟨(List.mem_of_getElem? (i := 470) (by decide +kernel)), rfl, (List.mem_of_getElem? (i := 46) (by decide +kernel)), rfl, (List.mem_of_getElem? (i := 473) (by decide +kernel)), rfl, ⟨by decide +kernel, by decide +kernel, by decide +kernel⟩, by decide⟩
theorem lk_X8_140 : zc_lk RX8 140 mX4_fillIn 3 := ⟨(List.mem_of_getElem? (i := 474) (by decide +kernel)), rfl, (List.mem_of_getElem? (i := 42) (by decide +kernel)), rfl, (List.mem_of_getElem? (i := 477) (by decide +kernel)), rfl, ⟨by decide +kernel, by decide +kernel, by decide +kernel⟩, by decide⟩
theorem lk_X8_147 : zc_lk RX8 147 mX4_layBest 3 := ⟨(List.mem_of_getElem? (i := 564) (by decide +kernel)), rfl, (List.mem_of_getElem? (i := 42) (by decide +kernel)), rfl, (List.mem_of_getElem? (i := 567) (by decide +kernel)), rfl, ⟨by decide +kernel, by decide +kernel, by decide +kernel⟩, by decide⟩
theorem lk_X8_171 : zc_lk RX8 171 mX8_isTool 1 := ⟨(List.mem_of_getElem? (i := 618) (by decide +kernel)), rfl, (List.mem_of_getElem? (i := 40) (by decide +kernel)), rfl, (List.mem_of_getElem? (i := 620) (by decide +kernel)), rfl, ⟨by decide +kernel, by decide +kernel, by decide +kernel⟩, by decide⟩
theorem lk_X8_178 : zc_lk RX8 178 mX8_hasYear 2 := ⟨(List.mem_of_getElem? (i := 621) (by decide +kernel)), rfl, (List.mem_of_getElem? (i := 40) (by decide +kernel)), rfl, (List.mem_of_getElem? (i := 624) (by decide +kernel)), rfl, ⟨by decide +kernel, by decide +kernel, by decide +kernel⟩, by decide⟩
theorem lk_X8_185 : zc_lk RX8 185 mX8_keptBy 1 := ⟨(List.mem_of_getElem? (i := 625) (by decide +kernel)), rfl, (List.mem_of_getElem? (i := 40) (by decide +kernel)), rfl, (List.mem_of_getElem? (i := 628) (by decide +kernel)), rfl, ⟨by decide +kernel, by decide +kernel, by decide +kernel⟩, by decide⟩
theorem lk_X8_188 : zc_lk RX8 188 mX4_scoreOf 2 := ⟨(List.mem_of_getElem? (i := 645) (by decide +kernel)), rfl, (List.mem_of_getElem? (i := 42) (by decide +kernel)), rfl, (List.mem_of_getElem? (i := 648) (by decide +kernel)), rfl, ⟨by decide +kernel, by decide +kernel, by decide +kernel⟩, by decide⟩
theorem lk_X8_192 : zc_lk RX8 192 mX8_areStrangers 2 := ⟨(List.mem_of_getElem? (i := 656) (by decide +kernel)), rfl, (List.mem_of_getElem? (i := 40) (by decide +kernel)), rfl, (List.mem_of_getElem? (i := 658) (by decide +kernel)), rfl, ⟨by decide +kernel, by decide +kernel, by decide +kernel⟩, by decide⟩
theorem lk_X8_196 : zc_lk RX8 196 mX8_readHistory 1 := ⟨(List.mem_of_getElem? (i := 663) (by decide +kernel)), rfl, (List.mem_of_getElem? (i := 40) (by decide +kernel)), rfl, (List.mem_of_getElem? (i := 666) (by decide +kernel)), rfl, ⟨by decide +kernel, by decide +kernel, by decide +kernel⟩, by decide⟩
theorem lk_X8_202 : zc_lk RX8 202 mJ6_bitCount_0f7a4 1 := ⟨(List.mem_of_getElem? (i := 690) (by decide +kernel)), rfl, (List.mem_of_getElem? (i := 49) (by decide +kernel)), rfl, (List.mem_of_getElem? (i := 310) (by decide +kernel)), rfl, ⟨by decide +kernel, by decide +kernel, by decide +kernel⟩, by decide⟩
theorem lk_X8_207 : zc_lk RX8 207 mX2_flawAt 1 := ⟨(List.mem_of_getElem? (i := 695) (by decide +kernel)), rfl, (List.mem_of_getElem? (i := 47) (by decide +kernel)), rfl, (List.mem_of_getElem? (i := 698) (by decide +kernel)), rfl, ⟨by decide +kernel, by decide +kernel, by decide +kernel⟩, by decide⟩
theorem lk_X8_213 : zc_lk RX8 213 mX8_newestOf 1 := ⟨(List.mem_of_getElem? (i := 667) (by decide +kernel)), rfl, (List.mem_of_getElem? (i := 40) (by decide +kernel)), rfl, (List.mem_of_getElem? (i := 670) (by decide +kernel)), rfl, ⟨by decide +kernel, by decide +kernel, by decide +kernel⟩, by decide⟩
theorem lk_X8_219 : zc_lk RX8 219 mX2_lastComing 2 := ⟨(List.mem_of_getElem? (i := 703) (by decide +kernel)), rfl, (List.mem_of_getElem? (i := 47) (by decide +kernel)), rfl, (List.mem_of_getElem? (i := 706) (by decide +kernel)), rfl, ⟨by decide +kernel, by decide +kernel, by decide +kernel⟩, by decide⟩
theorem lk_X8_222 : zc_lk RX8 222 mX3_lacking 0 := ⟨(List.mem_of_getElem? (i := 676) (by decide +kernel)), rfl, (List.mem_of_getElem? (i := 46) (by decide +kernel)), rfl, (List.mem_of_getElem? (i := 679) (by decide +kernel)), rfl, ⟨by decide +kernel, by decide +kernel, by decide +kernel⟩, by decide⟩
theorem lk_X8_225 : zc_lk RX8 225 mX2_firstComing 2 := ⟨(List.mem_of_getElem? (i := 707) (by decide +kernel)), rfl, (List.mem_of_getElem? (i := 47) (by decide +kernel)), rfl, (List.mem_of_getElem? (i := 710) (by decide +kernel)), rfl, ⟨by decide +kernel, by decide +kernel, by decide +kernel⟩, by decide⟩
theorem lk_X8_228 : zc_lk RX8 228 mX8_toolsWithPrints 0 := ⟨(List.mem_of_getElem? (i := 719) (by decide +kernel)), rfl, (List.mem_of_getElem? (i := 40) (by decide +kernel)), rfl, (List.mem_of_getElem? (i := 722) (by decide +kernel)), rfl, ⟨by decide +kernel, by decide +kernel, by decide +kernel⟩, by decide⟩
theorem lk_X8_231 : zc_lk RX8 231 mX2_clear 0 := ⟨(List.mem_of_getElem? (i := 671) (by decide +kernel)), rfl, (List.mem_of_getElem? (i := 47) (by decide +kernel)), rfl, (List.mem_of_getElem? (i := 674) (by decide +kernel)), rfl, ⟨by decide +kernel, by decide +kernel, by decide +kernel⟩, by decide⟩
theorem lk_X8_234 : zc_lk RX8 234 mX2_hear 3 := ⟨(List.mem_of_getElem? (i := 680) (by decide +kernel)), rfl, (List.mem_of_getElem? (i := 47) (by decide +kernel)), rfl, (List.mem_of_getElem? (i := 683) (by decide +kernel)), rfl, ⟨by decide +kernel, by decide +kernel, by decide +kernel⟩, by decide⟩
theorem lk_X8_238 : zc_lk RX8 238 mX2_dateFlaws 0 := ⟨(List.mem_of_getElem? (i := 685) (by decide +kernel)), rfl, (List.mem_of_getElem? (i := 47) (by decide +kernel)), rfl, (List.mem_of_getElem? (i := 688) (by decide +kernel)), rfl, ⟨by decide +kernel, by decide +kernel, by decide +kernel⟩, by decide⟩
theorem lk_X0_21 : zc_lk RX0 21 mJ7_fill_53178 2 := ⟨(List.mem_of_getElem? (i := 482) (by decide +kernel)), rfl, (List.mem_of_getElem? (i := 53) (by decide +kernel)), rfl, (List.mem_of_getElem? (i := 484) (by decide +kernel)), rfl, ⟨by decide +kernel, by decide +kernel, by decide +kernel⟩, by decide⟩
theorem lk_X0_27 : zc_lk RX0 27 mX7_size 0 := ⟨(List.mem_of_getElem? (i := 485) (by decide +kernel)), rfl, (List.mem_of_getElem? (i := 52) (by decide +kernel)), rfl, (List.mem_of_getElem? (i := 449) (by decide +kernel)), rfl, ⟨by decide +kernel, by decide +kernel, by decide +kernel⟩, by decide⟩
theorem lk_X0_33 : zc_lk RX0 33 mX7_columnOf 1 := ⟨(List.mem_of_getElem? (i := 486) (by decide +kernel)), rfl, (List.mem_of_getElem? (i := 52) (by decide +kernel)), rfl, (List.mem_of_getElem? (i := 453) (by decide +kernel)), rfl, ⟨by decide +kernel, by decide +kernel, by decide +kernel⟩, by decide⟩
theorem lk_X0_37 : zc_lk RX0 37 mX0_mark 4 := ⟨(List.mem_of_getElem? (i := 487) (by decide +kernel)), rfl, (List.mem_of_getElem? (i := 43) (by decide +kernel)), rfl, (List.mem_of_getElem? (i := 489) (by decide +kernel)), rfl, ⟨by decide +kernel, by decide +kernel, by decide +kernel⟩, by decide⟩
theorem lk_X0_41 : zc_lk RX0 41 mX7_rowOf 1 := ⟨(List.mem_of_getElem? (i := 490) (by decide +kernel)), rfl, (List.mem_of_getElem? (i := 52) (by decide +kernel)), rfl, (List.mem_of_getElem? (i := 457) (by decide +kernel)), rfl, ⟨by decide +kernel, by decide +kernel, by decide +kernel⟩, by decide⟩
theorem lk_X0_44 : zc_lk RX0 44 mX7_kindOf 1 := ⟨(List.mem_of_getElem? (i := 491) (by decide +kernel)), rfl, (List.mem_of_getElem? (i := 52) (by decide +kernel)), rfl, (List.mem_of_getElem? (i := 461) (by decide +kernel)), rfl, ⟨by decide +kernel, by decide +kernel, by decide +kernel⟩, by decide⟩
theorem lk_X1_21 : zc_lk RX1 21 mJ6_bitCount_0f7a4 1 := ⟨(List.mem_of_getElem? (i := 308) (by decide +kernel)), rfl, (List.mem_of_getElem? (i := 49) (by decide +kernel)), rfl, (List.mem_of_getElem? (i := 310) (by decide +kernel)), rfl, ⟨by decide +kernel, by decide +kernel, by decide +kernel⟩, by decide⟩
theorem lk_X1_27 : zc_lk RX1 27 mX1_sweepOnce 0 := ⟨(List.mem_of_getElem? (i := 330) (by decide +kernel)), rfl, (List.mem_of_getElem? (i := 41) (by decide +kernel)), rfl, (List.mem_of_getElem? (i := 333) (by decide +kernel)), rfl, ⟨by decide +kernel, by decide +kernel, by decide +kernel⟩, by decide⟩
theorem lk_X1_31 : zc_lk RX1 31 mX1_isDark 2 := ⟨(List.mem_of_getElem? (i := 334) (by decide +kernel)), rfl, (List.mem_of_getElem? (i := 41) (by decide +kernel)), rfl, (List.mem_of_getElem? (i := 337) (by decide +kernel)), rfl, ⟨by decide +kernel, by decide +kernel, by decide +kernel⟩, by decide⟩
theorem lk_X1_35 : zc_lk RX1 35 mX1_ringAt 2 := ⟨(List.mem_of_getElem? (i := 338) (by decide +kernel)), rfl, (List.mem_of_getElem? (i := 41) (by decide +kernel)), rfl, (List.mem_of_getElem? (i := 341) (by decide +kernel)), rfl, ⟨by decide +kernel, by decide +kernel, by decide +kernel⟩, by decide⟩
theorem lk_X1_39 : zc_lk RX1 39 mX1_goes 1 := ⟨(List.mem_of_getElem? (i := 345) (by decide +kernel)), rfl, (List.mem_of_getElem? (i := 41) (by decide +kernel)), rfl, (List.mem_of_getElem? (i := 347) (by decide +kernel)), rfl, ⟨by decide +kernel, by decide +kernel, by decide +kernel⟩, by decide⟩
theorem lk_X1_43 : zc_lk RX1 43 mX1_hangsTogether 1 := ⟨(List.mem_of_getElem? (i := 348) (by decide +kernel)), rfl, (List.mem_of_getElem? (i := 41) (by decide +kernel)), rfl, (List.mem_of_getElem? (i := 350) (by decide +kernel)), rfl, ⟨by decide +kernel, by decide +kernel, by decide +kernel⟩, by decide⟩
theorem lk_X1_46 : zc_lk RX1 46 mX1_threeAt 2 := ⟨(List.mem_of_getElem? (i := 342) (by decide +kernel)), rfl, (List.mem_of_getElem? (i := 41) (by decide +kernel)), rfl, (List.mem_of_getElem? (i := 344) (by decide +kernel)), rfl, ⟨by decide +kernel, by decide +kernel, by decide +kernel⟩, by decide⟩
theorem lk_X1_55 : zc_lk RX1 55 mX1_takePieces 1 := ⟨(List.mem_of_getElem? (i := 362) (by decide +kernel)), rfl, (List.mem_of_getElem? (i := 41) (by decide +kernel)), rfl, (List.mem_of_getElem? (i := 365) (by decide +kernel)), rfl, ⟨by decide +kernel, by decide +kernel, by decide +kernel⟩, by decide⟩
theorem lk_X1_59 : zc_lk RX1 59 mX1_takes 2 := ⟨(List.mem_of_getElem? (i := 366) (by decide +kernel)), rfl, (List.mem_of_getElem? (i := 41) (by decide +kernel)), rfl, (List.mem_of_getElem? (i := 369) (by decide +kernel)), rfl, ⟨by decide +kernel, by decide +kernel, by decide +kernel⟩, by decide⟩
theorem lk_X1_62 : zc_lk RX1 62 mX1_takeRest 3 := ⟨(List.mem_of_getElem? (i := 371) (by decide +kernel)), rfl, (List.mem_of_getElem? (i := 41) (by decide +kernel)), rfl, (List.mem_of_getElem? (i := 374) (by decide +kernel)), rfl, ⟨by decide +kernel, by decide +kernel, by decide +kernel⟩, by decide⟩
theorem lk_X1_76 : zc_lk RX1 76 mX1_kindOf 2 := ⟨(List.mem_of_getElem? (i := 392) (by decide +kernel)), rfl, (List.mem_of_getElem? (i := 41) (by decide +kernel)), rfl, (List.mem_of_getElem? (i := 394) (by decide +kernel)), rfl, ⟨by decide +kernel, by decide +kernel, by decide +kernel⟩, by decide⟩
theorem lk_X2_31 : zc_lk RX2 31 mJ7_fill_53178 2 := ⟨(List.mem_of_getElem? (i := 675) (by decide +kernel)), rfl, (List.mem_of_getElem? (i := 53) (by decide +kernel)), rfl, (List.mem_of_getElem? (i := 484) (by decide +kernel)), rfl, ⟨by decide +kernel, by decide +kernel, by decide +kernel⟩, by decide⟩
theorem lk_X2_42 : zc_lk RX2 42 mJ9_max_7cf53 2 := ⟨(List.mem_of_getElem? (i := 684) (by decide +kernel)), rfl, (List.mem_of_getElem? (i := 51) (by decide +kernel)), rfl, (List.mem_of_getElem? (i := 514) (by decide +kernel)), rfl, ⟨by decide +kernel, by decide +kernel, by decide +kernel⟩, by decide⟩
theorem lk_X2_48 : zc_lk RX2 48 mJ9_min_7cf53 2 := ⟨(List.mem_of_getElem? (i := 689) (by decide +kernel)), rfl, (List.mem_of_getElem? (i := 51) (by decide +kernel)), rfl, (List.mem_of_getElem? (i := 397) (by decide +kernel)), rfl, ⟨by decide +kernel, by decide +kernel, by decide +kernel⟩, by decide⟩
theorem lk_X3_44 : zc_lk RX3 44 mX3_set 3 := ⟨(List.mem_of_getElem? (i := 593) (by decide +kernel)), rfl, (List.mem_of_getElem? (i := 46) (by decide +kernel)), rfl, (List.mem_of_getElem? (i := 473) (by decide +kernel)), rfl, ⟨by decide +kernel, by decide +kernel, by decide +kernel⟩, by decide⟩
theorem lk_X3_48 : zc_lk RX3 48 mJ7_fill_53178 2 := ⟨(List.mem_of_getElem? (i := 594) (by decide +kernel)), rfl, (List.mem_of_getElem? (i := 53) (by decide +kernel)), rfl, (List.mem_of_getElem? (i := 484) (by decide +kernel)), rfl, ⟨by decide +kernel, by decide +kernel, by decide +kernel⟩, by decide⟩
theorem lk_X4_41 : zc_lk RX4 41 mX6_init 4 := ⟨(List.mem_of_getElem? (i := 124) (by decide +kernel)), rfl, (List.mem_of_getElem? (i := 45) (by decide +kernel)), rfl, (List.mem_of_getElem? (i := 126) (by decide +kernel)), rfl, ⟨by decide +kernel, by decide +kernel, by decide +kernel⟩, by decide⟩
theorem lk_X4_57 : zc_lk RX4 57 mX4_bestOf 2 := ⟨(List.mem_of_getElem? (i := 568) (by decide +kernel)), rfl, (List.mem_of_getElem? (i := 42) (by decide +kernel)), rfl, (List.mem_of_getElem? (i := 571) (by decide +kernel)), rfl, ⟨by decide +kernel, by decide +kernel, by decide +kernel⟩, by decide⟩
theorem lk_X4_61 : zc_lk RX4 61 mX4_unpackScore 1 := ⟨(List.mem_of_getElem? (i := 649) (by decide +kernel)), rfl, (List.mem_of_getElem? (i := 42) (by decide +kernel)), rfl, (List.mem_of_getElem? (i := 651) (by decide +kernel)), rfl, ⟨by decide +kernel, by decide +kernel, by decide +kernel⟩, by decide⟩
theorem lk_X4_65 : zc_lk RX4 65 mX3_setNone 0 := ⟨(List.mem_of_getElem? (i := 589) (by decide +kernel)), rfl, (List.mem_of_getElem? (i := 46) (by decide +kernel)), rfl, (List.mem_of_getElem? (i := 592) (by decide +kernel)), rfl, ⟨by decide +kernel, by decide +kernel, by decide +kernel⟩, by decide⟩
theorem lk_X4_70 : zc_lk RX4 70 mX4_unpackTurn 1 := ⟨(List.mem_of_getElem? (i := 595) (by decide +kernel)), rfl, (List.mem_of_getElem? (i := 42) (by decide +kernel)), rfl, (List.mem_of_getElem? (i := 597) (by decide +kernel)), rfl, ⟨by decide +kernel, by decide +kernel, by decide +kernel⟩, by decide⟩
theorem lk_X4_73 : zc_lk RX4 73 mX4_unpackColumn 1 := ⟨(List.mem_of_getElem? (i := 598) (by decide +kernel)), rfl, (List.mem_of_getElem? (i := 42) (by decide +kernel)), rfl, (List.mem_of_getElem? (i := 600) (by decide +kernel)), rfl, ⟨by decide +kernel, by decide +kernel, by decide +kernel⟩, by decide⟩
theorem lk_X4_76 : zc_lk RX4 76 mX4_unpackRow 1 := ⟨(List.mem_of_getElem? (i := 601) (by decide +kernel)), rfl, (List.mem_of_getElem? (i := 42) (by decide +kernel)), rfl, (List.mem_of_getElem? (i := 603) (by decide +kernel)), rfl, ⟨by decide +kernel, by decide +kernel, by decide +kernel⟩, by decide⟩
theorem lk_X4_79 : zc_lk RX4 79 mX3_set 3 := ⟨(List.mem_of_getElem? (i := 604) (by decide +kernel)), rfl, (List.mem_of_getElem? (i := 46) (by decide +kernel)), rfl, (List.mem_of_getElem? (i := 473) (by decide +kernel)), rfl, ⟨by decide +kernel, by decide +kernel, by decide +kernel⟩, by decide⟩
theorem lk_X4_83 : zc_lk RX4 83 mX4_fillIn 3 := ⟨(List.mem_of_getElem? (i := 605) (by decide +kernel)), rfl, (List.mem_of_getElem? (i := 42) (by decide +kernel)), rfl, (List.mem_of_getElem? (i := 477) (by decide +kernel)), rfl, ⟨by decide +kernel, by decide +kernel, by decide +kernel⟩, by decide⟩
theorem lk_X4_87 : zc_lk RX4 87 mX0_learn 2 := ⟨(List.mem_of_getElem? (i := 478) (by decide +kernel)), rfl, (List.mem_of_getElem? (i := 43) (by decide +kernel)), rfl, (List.mem_of_getElem? (i := 481) (by decide +kernel)), rfl, ⟨by decide +kernel, by decide +kernel, by decide +kernel⟩, by decide⟩
theorem lk_X4_94 : zc_lk RX4 94 mX4_turnBy 2 := ⟨(List.mem_of_getElem? (i := 492) (by decide +kernel)), rfl, (List.mem_of_getElem? (i := 42) (by decide +kernel)), rfl, (List.mem_of_getElem? (i := 495) (by decide +kernel)), rfl, ⟨by decide +kernel, by decide +kernel, by decide +kernel⟩, by decide⟩
theorem lk_X4_103 : zc_lk RX4 103 mX4_shiftBy 4 := ⟨(List.mem_of_getElem? (i := 515) (by decide +kernel)), rfl, (List.mem_of_getElem? (i := 42) (by decide +kernel)), rfl, (List.mem_of_getElem? (i := 518) (by decide +kernel)), rfl, ⟨by decide +kernel, by decide +kernel, by decide +kernel⟩, by decide⟩
theorem lk_X4_107 : zc_lk RX4 107 mX5_most 2 := ⟨(List.mem_of_getElem? (i := 537) (by decide +kernel)), rfl, (List.mem_of_getElem? (i := 44) (by decide +kernel)), rfl, (List.mem_of_getElem? (i := 540) (by decide +kernel)), rfl, ⟨by decide +kernel, by decide +kernel, by decide +kernel⟩, by decide⟩
theorem lk_X4_114 : zc_lk RX4 114 mX4_bareWith 1 := ⟨(List.mem_of_getElem? (i := 546) (by decide +kernel)), rfl, (List.mem_of_getElem? (i := 42) (by decide +kernel)), rfl, (List.mem_of_getElem? (i := 549) (by decide +kernel)), rfl, ⟨by decide +kernel, by decide +kernel, by decide +kernel⟩, by decide⟩
theorem lk_X4_120 : zc_lk RX4 120 mX4_scoreWith 1 := ⟨(List.mem_of_getElem? (i := 551) (by decide +kernel)), rfl, (List.mem_of_getElem? (i := 42) (by decide +kernel)), rfl, (List.mem_of_getElem? (i := 554) (by decide +kernel)), rfl, ⟨by decide +kernel, by decide +kernel, by decide +kernel⟩, by decide⟩
theorem lk_X4_130 : zc_lk RX4 130 mX5_choose 2 := ⟨(List.mem_of_getElem? (i := 555) (by decide +kernel)), rfl, (List.mem_of_getElem? (i := 44) (by decide +kernel)), rfl, (List.mem_of_getElem? (i := 558) (by decide +kernel)), rfl, ⟨by decide +kernel, by decide +kernel, by decide +kernel⟩, by decide⟩
theorem lk_X4_142 : zc_lk RX4 142 mX4_search 2 := ⟨(List.mem_of_getElem? (i := 572) (by decide +kernel)), rfl, (List.mem_of_getElem? (i := 42) (by decide +kernel)), rfl, (List.mem_of_getElem? (i := 575) (by decide +kernel)), rfl, ⟨by decide +kernel, by decide +kernel, by decide +kernel⟩, by decide⟩
theorem lk_X4_145 : zc_lk RX4 145 mX4_markLandings 2 := ⟨(List.mem_of_getElem? (i := 576) (by decide +kernel)), rfl, (List.mem_of_getElem? (i := 42) (by decide +kernel)), rfl, (List.mem_of_getElem? (i := 579) (by decide +kernel)), rfl, ⟨by decide +kernel, by decide +kernel, by decide +kernel⟩, by decide⟩
theorem lk_X4_149 : zc_lk RX4 149 mX5_bound 0 := ⟨(List.mem_of_getElem? (i := 581) (by decide +kernel)), rfl, (List.mem_of_getElem? (i := 44) (by decide +kernel)), rfl, (List.mem_of_getElem? (i := 584) (by decide +kernel)), rfl, ⟨by decide +kernel, by decide +kernel, by decide +kernel⟩, by decide⟩
theorem lk_X4_153 : zc_lk RX4 153 mX4_pack 4 := ⟨(List.mem_of_getElem? (i := 586) (by decide +kernel)), rfl, (List.mem_of_getElem? (i := 42) (by decide +kernel)), rfl, (List.mem_of_getElem? (i := 588) (by decide +kernel)), rfl, ⟨by decide +kernel, by decide +kernel, by decide +kernel⟩, by decide⟩
theorem lk_X4_157 : zc_lk RX4 157 mX7_size 0 := ⟨(List.mem_of_getElem? (i := 496) (by decide +kernel)), rfl, (List.mem_of_getElem? (i := 52) (by decide +kernel)), rfl, (List.mem_of_getElem? (i := 449) (by decide +kernel)), rfl, ⟨by decide +kernel, by decide +kernel, by decide +kernel⟩, by decide⟩
theorem lk_X4_160 : zc_lk RX4 160 mX7_columnOf 1 := ⟨(List.mem_of_getElem? (i := 497) (by decide +kernel)), rfl, (List.mem_of_getElem? (i := 52) (by decide +kernel)), rfl, (List.mem_of_getElem? (i := 453) (by decide +kernel)), rfl, ⟨by decide +kernel, by decide +kernel, by decide +kernel⟩, by decide⟩
theorem lk_X4_163 : zc_lk RX4 163 mX7_rowOf 1 := ⟨(List.mem_of_getElem? (i := 498) (by decide +kernel)), rfl, (List.mem_of_getElem? (i := 52) (by decide +kernel)), rfl, (List.mem_of_getElem? (i := 457) (by decide +kernel)), rfl, ⟨by decide +kernel, by decide +kernel, by decide +kernel⟩, by decide⟩
theorem lk_X4_166 : zc_lk RX4 166 mX6_turnedColumn 3 := ⟨(List.mem_of_getElem? (i := 499) (by decide +kernel)), rfl, (List.mem_of_getElem? (i := 45) (by decide +kernel)), rfl, (List.mem_of_getElem? (i := 501) (by decide +kernel)), rfl, ⟨by decide +kernel, by decide +kernel, by decide +kernel⟩, by decide⟩
theorem lk_X4_170 : zc_lk RX4 170 mX6_turnedRow 3 := ⟨(List.mem_of_getElem? (i := 502) (by decide +kernel)), rfl, (List.mem_of_getElem? (i := 45) (by decide +kernel)), rfl, (List.mem_of_getElem? (i := 504) (by decide +kernel)), rfl, ⟨by decide +kernel, by decide +kernel, by decide +kernel⟩, by decide⟩
theorem lk_X4_176 : zc_lk RX4 176 mX6_becomeTurned 2 := ⟨(List.mem_of_getElem? (i := 505) (by decide +kernel)), rfl, (List.mem_of_getElem? (i := 45) (by decide +kernel)), rfl, (List.mem_of_getElem? (i := 508) (by decide +kernel)), rfl, ⟨by decide +kernel, by decide +kernel, by decide +kernel⟩, by decide⟩
theorem lk_X4_180 : zc_lk RX4 180 mJ7_fill_53178 2 := ⟨(List.mem_of_getElem? (i := 580) (by decide +kernel)), rfl, (List.mem_of_getElem? (i := 53) (by decide +kernel)), rfl, (List.mem_of_getElem? (i := 484) (by decide +kernel)), rfl, ⟨by decide +kernel, by decide +kernel, by decide +kernel⟩, by decide⟩
theorem lk_X4_186 : zc_lk RX4 186 mX7_kindOf 1 := ⟨(List.mem_of_getElem? (i := 523) (by decide +kernel)), rfl, (List.mem_of_getElem? (i := 52) (by decide +kernel)), rfl, (List.mem_of_getElem? (i := 461) (by decide +kernel)), rfl, ⟨by decide +kernel, by decide +kernel, by decide +kernel⟩, by decide⟩
theorem lk_X4_189 : zc_lk RX4 189 mX5_clear 0 := ⟨(List.mem_of_getElem? (i := 519) (by decide +kernel)), rfl, (List.mem_of_getElem? (i := 44) (by decide +kernel)), rfl, (List.mem_of_getElem? (i := 522) (by decide +kernel)), rfl, ⟨by decide +kernel, by decide +kernel, by decide +kernel⟩, by decide⟩
theorem lk_X4_192 : zc_lk RX4 192 mX0_near 3 := ⟨(List.mem_of_getElem? (i := 524) (by decide +kernel)), rfl, (List.mem_of_getElem? (i := 43) (by decide +kernel)), rfl, (List.mem_of_getElem? (i := 527) (by decide +kernel)), rfl, ⟨by decide +kernel, by decide +kernel, by decide +kernel⟩, by decide⟩
theorem lk_X4_195 : zc_lk RX4 195 mX5_add 1 := ⟨(List.mem_of_getElem? (i := 528) (by decide +kernel)), rfl, (List.mem_of_getElem? (i := 44) (by decide +kernel)), rfl, (List.mem_of_getElem? (i := 531) (by decide +kernel)), rfl, ⟨by decide +kernel, by decide +kernel, by decide +kernel⟩, by decide⟩
theorem lk_X4_199 : zc_lk RX4 199 mX6_holds 2 := ⟨(List.mem_of_getElem? (i := 532) (by decide +kernel)), rfl, (List.mem_of_getElem? (i := 45) (by decide +kernel)), rfl, (List.mem_of_getElem? (i := 535) (by decide +kernel)), rfl, ⟨by decide +kernel, by decide +kernel, by decide +kernel⟩, by decide⟩
theorem lk_X4_203 : zc_lk RX4 203 mJ6_bitCount_0f7a4 1 := ⟨(List.mem_of_getElem? (i := 536) (by decide +kernel)), rfl, (List.mem_of_getElem? (i := 49) (by decide +kernel)), rfl, (List.mem_of_getElem? (i := 310) (by decide +kernel)), rfl, ⟨by decide +kernel, by decide +kernel, by decide +kernel⟩, by decide⟩
theorem lk_X4_208 : zc_lk RX4 208 mJ9_max_7cf53 2 := ⟨(List.mem_of_getElem? (i := 550) (by decide +kernel)), rfl, (List.mem_of_getElem? (i := 51) (by decide +kernel)), rfl, (List.mem_of_getElem? (i := 514) (by decide +kernel)), rfl, ⟨by decide +kernel, by decide +kernel, by decide +kernel⟩, by decide⟩
theorem lk_X5_25 : zc_lk RX5 25 mJ6_bitCount_0f7a4 1 := ⟨(List.mem_of_getElem? (i := 545) (by decide +kernel)), rfl, (List.mem_of_getElem? (i := 49) (by decide +kernel)), rfl, (List.mem_of_getElem? (i := 310) (by decide +kernel)), rfl, ⟨by decide +kernel, by decide +kernel, by decide +kernel⟩, by decide⟩
theorem lk_X5_31 : zc_lk RX5 31 mJ9_min_7cf53 2 := ⟨(List.mem_of_getElem? (i := 585) (by decide +kernel)), rfl, (List.mem_of_getElem? (i := 51) (by decide +kernel)), rfl, (List.mem_of_getElem? (i := 397) (by decide +kernel)), rfl, ⟨by decide +kernel, by decide +kernel, by decide +kernel⟩, by decide⟩
theorem lk_X5_37 : zc_lk RX5 37 mJ7_fill_53178 2 := ⟨(List.mem_of_getElem? (i := 541) (by decide +kernel)), rfl, (List.mem_of_getElem? (i := 53) (by decide +kernel)), rfl, (List.mem_of_getElem? (i := 484) (by decide +kernel)), rfl, ⟨by decide +kernel, by decide +kernel, by decide +kernel⟩, by decide⟩
theorem lk_X5_43 : zc_lk RX5 43 mX5_finds 3 := ⟨(List.mem_of_getElem? (i := 542) (by decide +kernel)), rfl, (List.mem_of_getElem? (i := 44) (by decide +kernel)), rfl, (List.mem_of_getElem? (i := 544) (by decide +kernel)), rfl, ⟨by decide +kernel, by decide +kernel, by decide +kernel⟩, by decide⟩
theorem lk_X5_47 : zc_lk RX5 47 mX5_most 2 := ⟨(List.mem_of_getElem? (i := 559) (by decide +kernel)), rfl, (List.mem_of_getElem? (i := 44) (by decide +kernel)), rfl, (List.mem_of_getElem? (i := 540) (by decide +kernel)), rfl, ⟨by decide +kernel, by decide +kernel, by decide +kernel⟩, by decide⟩
theorem lk_X6_24 : zc_lk RX6 24 mX6_turnedColumn 3 := ⟨(List.mem_of_getElem? (i := 509) (by decide +kernel)), rfl, (List.mem_of_getElem? (i := 45) (by decide +kernel)), rfl, (List.mem_of_getElem? (i := 501) (by decide +kernel)), rfl, ⟨by decide +kernel, by decide +kernel, by decide +kernel⟩, by decide⟩
theorem lk_X6_28 : zc_lk RX6 28 mX6_turnedRow 3 := ⟨(List.mem_of_getElem? (i := 510) (by decide +kernel)), rfl, (List.mem_of_getElem? (i := 45) (by decide +kernel)), rfl, (List.mem_of_getElem? (i := 504) (by decide +kernel)), rfl, ⟨by decide +kernel, by decide +kernel, by decide +kernel⟩, by decide⟩
theorem lk_X6_31 : zc_lk RX6 31 mJ9_min_7cf53 2 := ⟨(List.mem_of_getElem? (i := 511) (by decide +kernel)), rfl, (List.mem_of_getElem? (i := 51) (by decide +kernel)), rfl, (List.mem_of_getElem? (i := 397) (by decide +kernel)), rfl, ⟨by decide +kernel, by decide +kernel, by decide +kernel⟩, by decide⟩
theorem lk_X6_37 : zc_lk RX6 37 mJ9_max_7cf53 2 := ⟨(List.mem_of_getElem? (i := 512) (by decide +kernel)), rfl, (List.mem_of_getElem? (i := 51) (by decide +kernel)), rfl, (List.mem_of_getElem? (i := 514) (by decide +kernel)), rfl, ⟨by decide +kernel, by decide +kernel, by decide +kernel⟩, by decide⟩
theorem lk_L_9 : zc_lk RL 9 mX8_init 0 := ⟨(List.mem_of_getElem? (i := 56) (by decide +kernel)), rfl, (List.mem_of_getElem? (i := 40) (by decide +kernel)), rfl, (List.mem_of_getElem? (i := 58) (by decide +kernel)), rfl, ⟨by decide +kernel, by decide +kernel, by decide +kernel⟩, by decide⟩
theorem lk_L_12 : zc_lk RL 12 mX9_init 0 := ⟨(List.mem_of_getElem? (i := 725) (by decide +kernel)), rfl, (List.mem_of_getElem? (i := 48) (by decide +kernel)), rfl, (List.mem_of_getElem? (i := 727) (by decide +kernel)), rfl, ⟨by decide +kernel, by decide +kernel, by decide +kernel⟩, by decide⟩
theorem lk_L_13 : zc_lk RL 13 mX8_feed 2 := ⟨(List.mem_of_getElem? (i := 292) (by decide +kernel)), rfl, (List.mem_of_getElem? (i := 40) (by decide +kernel)), rfl, (List.mem_of_getElem? (i := 295) (by decide +kernel)), rfl, ⟨by decide +kernel, by decide +kernel, by decide +kernel⟩, by decide⟩
theorem lk_L_17 : zc_lk RL 17 mX9_feed 2 := ⟨(List.mem_of_getElem? (i := 845) (by decide +kernel)), rfl, (List.mem_of_getElem? (i := 48) (by decide +kernel)), rfl, (List.mem_of_getElem? (i := 848) (by decide +kernel)), rfl, ⟨by decide +kernel, by decide +kernel, by decide +kernel⟩, by decide⟩
theorem lk_L_18 : zc_lk RL 18 mX8_row 1 := ⟨(List.mem_of_getElem? (i := 314) (by decide +kernel)), rfl, (List.mem_of_getElem? (i := 40) (by decide +kernel)), rfl, (List.mem_of_getElem? (i := 317) (by decide +kernel)), rfl, ⟨by decide +kernel, by decide +kernel, by decide +kernel⟩, by decide⟩
theorem lk_L_22 : zc_lk RL 22 mX9_row 1 := ⟨(List.mem_of_getElem? (i := 857) (by decide +kernel)), rfl, (List.mem_of_getElem? (i := 48) (by decide +kernel)), rfl, (List.mem_of_getElem? (i := 860) (by decide +kernel)), rfl, ⟨by decide +kernel, by decide +kernel, by decide +kernel⟩, by decide⟩
theorem lk_L_23 : zc_lk RL 23 mX8_thin 0 := ⟨(List.mem_of_getElem? (i := 322) (by decide +kernel)), rfl, (List.mem_of_getElem? (i := 40) (by decide +kernel)), rfl, (List.mem_of_getElem? (i := 325) (by decide +kernel)), rfl, ⟨by decide +kernel, by decide +kernel, by decide +kernel⟩, by decide⟩
theorem lk_L_27 : zc_lk RL 27 mX9_thin 0 := ⟨(List.mem_of_getElem? (i := 861) (by decide +kernel)), rfl, (List.mem_of_getElem? (i := 48) (by decide +kernel)), rfl, (List.mem_of_getElem? (i := 864) (by decide +kernel)), rfl, ⟨by decide +kernel, by decide +kernel, by decide +kernel⟩, by decide⟩
theorem lk_L_28 : zc_lk RL 28 mX8_pieces 1 := ⟨(List.mem_of_getElem? (i := 351) (by decide +kernel)), rfl, (List.mem_of_getElem? (i := 40) (by decide +kernel)), rfl, (List.mem_of_getElem? (i := 354) (by decide +kernel)), rfl, ⟨by decide +kernel, by decide +kernel, by decide +kernel⟩, by decide⟩
theorem lk_L_31 : zc_lk RL 31 mX9_pieces 1 := ⟨(List.mem_of_getElem? (i := 883) (by decide +kernel)), rfl, (List.mem_of_getElem? (i := 48) (by decide +kernel)), rfl, (List.mem_of_getElem? (i := 886) (by decide +kernel)), rfl, ⟨by decide +kernel, by decide +kernel, by decide +kernel⟩, by decide⟩
theorem lk_L_32 : zc_lk RL 32 mX8_print 1 := ⟨(List.mem_of_getElem? (i := 384) (by decide +kernel)), rfl, (List.mem_of_getElem? (i := 40) (by decide +kernel)), rfl, (List.mem_of_getElem? (i := 387) (by decide +kernel)), rfl, ⟨by decide +kernel, by decide +kernel, by decide +kernel⟩, by decide⟩
theorem lk_L_35 : zc_lk RL 35 mX9_print 1 := ⟨(List.mem_of_getElem? (i := 895) (by decide +kernel)), rfl, (List.mem_of_getElem? (i := 48) (by decide +kernel)), rfl, (List.mem_of_getElem? (i := 898) (by decide +kernel)), rfl, ⟨by decide +kernel, by decide +kernel, by decide +kernel⟩, by decide⟩
theorem lk_L_36 : zc_lk RL 36 mX8_point 2 := ⟨(List.mem_of_getElem? (i := 438) (by decide +kernel)), rfl, (List.mem_of_getElem? (i := 40) (by decide +kernel)), rfl, (List.mem_of_getElem? (i := 441) (by decide +kernel)), rfl, ⟨by decide +kernel, by decide +kernel, by decide +kernel⟩, by decide⟩
theorem lk_L_39 : zc_lk RL 39 mX9_point 2 := ⟨(List.mem_of_getElem? (i := 903) (by decide +kernel)), rfl, (List.mem_of_getElem? (i := 48) (by decide +kernel)), rfl, (List.mem_of_getElem? (i := 906) (by decide +kernel)), rfl, ⟨by decide +kernel, by decide +kernel, by decide +kernel⟩, by decide⟩
theorem lk_L_40 : zc_lk RL 40 mX8_reach 1 := ⟨(List.mem_of_getElem? (i := 462) (by decide +kernel)), rfl, (List.mem_of_getElem? (i := 40) (by decide +kernel)), rfl, (List.mem_of_getElem? (i := 465) (by decide +kernel)), rfl, ⟨by decide +kernel, by decide +kernel, by decide +kernel⟩, by decide⟩
theorem lk_L_43 : zc_lk RL 43 mX9_reach 1 := ⟨(List.mem_of_getElem? (i := 911) (by decide +kernel)), rfl, (List.mem_of_getElem? (i := 48) (by decide +kernel)), rfl, (List.mem_of_getElem? (i := 914) (by decide +kernel)), rfl, ⟨by decide +kernel, by decide +kernel, by decide +kernel⟩, by decide⟩
theorem lk_L_44 : zc_lk RL 44 mX8_lay 5 := ⟨(List.mem_of_getElem? (i := 466) (by decide +kernel)), rfl, (List.mem_of_getElem? (i := 40) (by decide +kernel)), rfl, (List.mem_of_getElem? (i := 469) (by decide +kernel)), rfl, ⟨by decide +kernel, by decide +kernel, by decide +kernel⟩, by decide⟩
theorem lk_L_48 : zc_lk RL 48 mX9_lay 5 := ⟨(List.mem_of_getElem? (i := 915) (by decide +kernel)), rfl, (List.mem_of_getElem? (i := 48) (by decide +kernel)), rfl, (List.mem_of_getElem? (i := 918) (by decide +kernel)), rfl, ⟨by decide +kernel, by decide +kernel, by decide +kernel⟩, by decide⟩
theorem lk_L_49 : zc_lk RL 49 mX8_match 2 := ⟨(List.mem_of_getElem? (i := 560) (by decide +kernel)), rfl, (List.mem_of_getElem? (i := 40) (by decide +kernel)), rfl, (List.mem_of_getElem? (i := 563) (by decide +kernel)), rfl, ⟨by decide +kernel, by decide +kernel, by decide +kernel⟩, by decide⟩
theorem lk_L_52 : zc_lk RL 52 mX9_match 2 := ⟨(List.mem_of_getElem? (i := 952) (by decide +kernel)), rfl, (List.mem_of_getElem? (i := 48) (by decide +kernel)), rfl, (List.mem_of_getElem? (i := 955) (by decide +kernel)), rfl, ⟨by decide +kernel, by decide +kernel, by decide +kernel⟩, by decide⟩
theorem lk_L_53 : zc_lk RL 53 mX8_told 1 := ⟨(List.mem_of_getElem? (i := 606) (by decide +kernel)), rfl, (List.mem_of_getElem? (i := 40) (by decide +kernel)), rfl, (List.mem_of_getElem? (i := 609) (by decide +kernel)), rfl, ⟨by decide +kernel, by decide +kernel, by decide +kernel⟩, by decide⟩
theorem lk_L_56 : zc_lk RL 56 mX9_told 1 := ⟨(List.mem_of_getElem? (i := 964) (by decide +kernel)), rfl, (List.mem_of_getElem? (i := 48) (by decide +kernel)), rfl, (List.mem_of_getElem? (i := 967) (by decide +kernel)), rfl, ⟨by decide +kernel, by decide +kernel, by decide +kernel⟩, by decide⟩
theorem lk_L_57 : zc_lk RL 57 mX8_pair 1 := ⟨(List.mem_of_getElem? (i := 610) (by decide +kernel)), rfl, (List.mem_of_getElem? (i := 40) (by decide +kernel)), rfl, (List.mem_of_getElem? (i := 613) (by decide +kernel)), rfl, ⟨by decide +kernel, by decide +kernel, by decide +kernel⟩, by decide⟩
theorem lk_L_60 : zc_lk RL 60 mX9_pair 1 := ⟨(List.mem_of_getElem? (i := 968) (by decide +kernel)), rfl, (List.mem_of_getElem? (i := 48) (by decide +kernel)), rfl, (List.mem_of_getElem? (i := 971) (by decide +kernel)), rfl, ⟨by decide +kernel, by decide +kernel, by decide +kernel⟩, by decide⟩
theorem lk_L_61 : zc_lk RL 61 mX8_keep 3 := ⟨(List.mem_of_getElem? (i := 614) (by decide +kernel)), rfl, (List.mem_of_getElem? (i := 40) (by decide +kernel)), rfl, (List.mem_of_getElem? (i := 617) (by decide +kernel)), rfl, ⟨by decide +kernel, by decide +kernel, by decide +kernel⟩, by decide⟩
theorem lk_L_65 : zc_lk RL 65 mX9_keep 3 := ⟨(List.mem_of_getElem? (i := 972) (by decide +kernel)), rfl, (List.mem_of_getElem? (i := 48) (by decide +kernel)), rfl, (List.mem_of_getElem? (i := 975) (by decide +kernel)), rfl, ⟨by decide +kernel, by decide +kernel, by decide +kernel⟩, by decide⟩
theorem lk_L_66 : zc_lk RL 66 mX8_part 1 := ⟨(List.mem_of_getElem? (i := 629) (by decide +kernel)), rfl, (List.mem_of_getElem? (i := 40) (by decide +kernel)), rfl, (List.mem_of_getElem? (i := 632) (by decide +kernel)), rfl, ⟨by decide +kernel, by decide +kernel, by decide +kernel⟩, by decide⟩
theorem lk_L_69 : zc_lk RL 69 mX9_part 1 := ⟨(List.mem_of_getElem? (i := 987) (by decide +kernel)), rfl, (List.mem_of_getElem? (i := 48) (by decide +kernel)), rfl, (List.mem_of_getElem? (i := 990) (by decide +kernel)), rfl, ⟨by decide +kernel, by decide +kernel, by decide +kernel⟩, by decide⟩
theorem lk_L_70 : zc_lk RL 70 mX8_of 2 := ⟨(List.mem_of_getElem? (i := 633) (by decide +kernel)), rfl, (List.mem_of_getElem? (i := 40) (by decide +kernel)), rfl, (List.mem_of_getElem? (i := 636) (by decide +kernel)), rfl, ⟨by decide +kernel, by decide +kernel, by decide +kernel⟩, by decide⟩
theorem lk_L_73 : zc_lk RL 73 mX9_of 2 := ⟨(List.mem_of_getElem? (i := 991) (by decide +kernel)), rfl, (List.mem_of_getElem? (i := 48) (by decide +kernel)), rfl, (List.mem_of_getElem? (i := 994) (by decide +kernel)), rfl, ⟨by decide +kernel, by decide +kernel, by decide +kernel⟩, by decide⟩
theorem lk_L_74 : zc_lk RL 74 mX8_melt 2 := ⟨(List.mem_of_getElem? (i := 637) (by decide +kernel)), rfl, (List.mem_of_getElem? (i := 40) (by decide +kernel)), rfl, (List.mem_of_getElem? (i := 640) (by decide +kernel)), rfl, ⟨by decide +kernel, by decide +kernel, by decide +kernel⟩, by decide⟩
theorem lk_L_77 : zc_lk RL 77 mX9_melt 2 := ⟨(List.mem_of_getElem? (i := 995) (by decide +kernel)), rfl, (List.mem_of_getElem? (i := 48) (by decide +kernel)), rfl, (List.mem_of_getElem? (i := 998) (by decide +kernel)), rfl, ⟨by decide +kernel, by decide +kernel, by decide +kernel⟩, by decide⟩
theorem lk_L_78 : zc_lk RL 78 mX8_like 1 := ⟨(List.mem_of_getElem? (i := 641) (by decide +kernel)), rfl, (List.mem_of_getElem? (i := 40) (by decide +kernel)), rfl, (List.mem_of_getElem? (i := 644) (by decide +kernel)), rfl, ⟨by decide +kernel, by decide +kernel, by decide +kernel⟩, by decide⟩
theorem lk_L_81 : zc_lk RL 81 mX9_like 1 := ⟨(List.mem_of_getElem? (i := 999) (by decide +kernel)), rfl, (List.mem_of_getElem? (i := 48) (by decide +kernel)), rfl, (List.mem_of_getElem? (i := 1002) (by decide +kernel)), rfl, ⟨by decide +kernel, by decide +kernel, by decide +kernel⟩, by decide⟩
theorem lk_L_82 : zc_lk RL 82 mX8_strangers 2 := ⟨(List.mem_of_getElem? (i := 652) (by decide +kernel)), rfl, (List.mem_of_getElem? (i := 40) (by decide +kernel)), rfl, (List.mem_of_getElem? (i := 655) (by decide +kernel)), rfl, ⟨by decide +kernel, by decide +kernel, by decide +kernel⟩, by decide⟩
theorem lk_L_85 : zc_lk RL 85 mX9_strangers 2 := ⟨(List.mem_of_getElem? (i := 1003) (by decide +kernel)), rfl, (List.mem_of_getElem? (i := 48) (by decide +kernel)), rfl, (List.mem_of_getElem? (i := 1006) (by decide +kernel)), rfl, ⟨by decide +kernel, by decide +kernel, by decide +kernel⟩, by decide⟩
theorem lk_L_86 : zc_lk RL 86 mX8_flaws 1 := ⟨(List.mem_of_getElem? (i := 659) (by decide +kernel)), rfl, (List.mem_of_getElem? (i := 40) (by decide +kernel)), rfl, (List.mem_of_getElem? (i := 662) (by decide +kernel)), rfl, ⟨by decide +kernel, by decide +kernel, by decide +kernel⟩, by decide⟩
theorem lk_L_89 : zc_lk RL 89 mX9_flaws 1 := ⟨(List.mem_of_getElem? (i := 1007) (by decide +kernel)), rfl, (List.mem_of_getElem? (i := 48) (by decide +kernel)), rfl, (List.mem_of_getElem? (i := 1010) (by decide +kernel)), rfl, ⟨by decide +kernel, by decide +kernel, by decide +kernel⟩, by decide⟩
theorem lk_L_90 : zc_lk RL 90 mX8_flaw 3 := ⟨(List.mem_of_getElem? (i := 691) (by decide +kernel)), rfl, (List.mem_of_getElem? (i := 40) (by decide +kernel)), rfl, (List.mem_of_getElem? (i := 694) (by decide +kernel)), rfl, ⟨by decide +kernel, by decide +kernel, by decide +kernel⟩, by decide⟩
theorem lk_L_93 : zc_lk RL 93 mX9_flaw 3 := ⟨(List.mem_of_getElem? (i := 1019) (by decide +kernel)), rfl, (List.mem_of_getElem? (i := 48) (by decide +kernel)), rfl, (List.mem_of_getElem? (i := 1022) (by decide +kernel)), rfl, ⟨by decide +kernel, by decide +kernel, by decide +kernel⟩, by decide⟩
theorem lk_L_94 : zc_lk RL 94 mX8_age 2 := ⟨(List.mem_of_getElem? (i := 699) (by decide +kernel)), rfl, (List.mem_of_getElem? (i := 40) (by decide +kernel)), rfl, (List.mem_of_getElem? (i := 702) (by decide +kernel)), rfl, ⟨by decide +kernel, by decide +kernel, by decide +kernel⟩, by decide⟩
theorem lk_L_97 : zc_lk RL 97 mX9_age 2 := ⟨(List.mem_of_getElem? (i := 1023) (by decide +kernel)), rfl, (List.mem_of_getElem? (i := 48) (by decide +kernel)), rfl, (List.mem_of_getElem? (i := 1026) (by decide +kernel)), rfl, ⟨by decide +kernel, by decide +kernel, by decide +kernel⟩, by decide⟩
theorem lk_L_98 : zc_lk RL 98 mX8_struck 1 := ⟨(List.mem_of_getElem? (i := 711) (by decide +kernel)), rfl, (List.mem_of_getElem? (i := 40) (by decide +kernel)), rfl, (List.mem_of_getElem? (i := 714) (by decide +kernel)), rfl, ⟨by decide +kernel, by decide +kernel, by decide +kernel⟩, by decide⟩
theorem lk_L_101 : zc_lk RL 101 mX9_struck 1 := ⟨(List.mem_of_getElem? (i := 1027) (by decide +kernel)), rfl, (List.mem_of_getElem? (i := 48) (by decide +kernel)), rfl, (List.mem_of_getElem? (i := 1030) (by decide +kernel)), rfl, ⟨by decide +kernel, by decide +kernel, by decide +kernel⟩, by decide⟩
theorem lk_L_102 : zc_lk RL 102 mX8_count 1 := ⟨(List.mem_of_getElem? (i := 715) (by decide +kernel)), rfl, (List.mem_of_getElem? (i := 40) (by decide +kernel)), rfl, (List.mem_of_getElem? (i := 718) (by decide +kernel)), rfl, ⟨by decide +kernel, by decide +kernel, by decide +kernel⟩, by decide⟩
theorem lk_L_105 : zc_lk RL 105 mX9_count 1 := ⟨(List.mem_of_getElem? (i := 1031) (by decide +kernel)), rfl, (List.mem_of_getElem? (i := 48) (by decide +kernel)), rfl, (List.mem_of_getElem? (i := 1034) (by decide +kernel)), rfl, ⟨by decide +kernel, by decide +kernel, by decide +kernel⟩, by decide⟩
theorem lk_X9_96 : zc_lk RX9 96 mX9_within 3 := ⟨(List.mem_of_getElem? (i := 849) (by decide +kernel)), rfl, (List.mem_of_getElem? (i := 48) (by decide +kernel)), rfl, (List.mem_of_getElem? (i := 851) (by decide +kernel)), rfl, ⟨by decide +kernel, by decide +kernel, by decide +kernel⟩, by decide⟩
theorem lk_X9_101 : zc_lk RX9 101 mX9_darkMany 0 := ⟨(List.mem_of_getElem? (i := 853) (by decide +kernel)), rfl, (List.mem_of_getElem? (i := 48) (by decide +kernel)), rfl, (List.mem_of_getElem? (i := 856) (by decide +kernel)), rfl, ⟨by decide +kernel, by decide +kernel, by decide +kernel⟩, by decide⟩
theorem lk_X9_105 : zc_lk RX9 105 mX9_isDark 2 := ⟨(List.mem_of_getElem? (i := 865) (by decide +kernel)), rfl, (List.mem_of_getElem? (i := 48) (by decide +kernel)), rfl, (List.mem_of_getElem? (i := 868) (by decide +kernel)), rfl, ⟨by decide +kernel, by decide +kernel, by decide +kernel⟩, by decide⟩
theorem lk_X9_109 : zc_lk RX9 109 mX9_stepX 1 := ⟨(List.mem_of_getElem? (i := 877) (by decide +kernel)), rfl, (List.mem_of_getElem? (i := 48) (by decide +kernel)), rfl, (List.mem_of_getElem? (i := 879) (by decide +kernel)), rfl, ⟨by decide +kernel, by decide +kernel, by decide +kernel⟩, by decide⟩
theorem lk_X9_113 : zc_lk RX9 113 mX9_stepY 1 := ⟨(List.mem_of_getElem? (i := 880) (by decide +kernel)), rfl, (List.mem_of_getElem? (i := 48) (by decide +kernel)), rfl, (List.mem_of_getElem? (i := 882) (by decide +kernel)), rfl, ⟨by decide +kernel, by decide +kernel, by decide +kernel⟩, by decide⟩
theorem lk_X9_116 : zc_lk RX9 116 mX9_neighbours 2 := ⟨(List.mem_of_getElem? (i := 869) (by decide +kernel)), rfl, (List.mem_of_getElem? (i := 48) (by decide +kernel)), rfl, (List.mem_of_getElem? (i := 872) (by decide +kernel)), rfl, ⟨by decide +kernel, by decide +kernel, by decide +kernel⟩, by decide⟩
theorem lk_X9_120 : zc_lk RX9 120 mX9_hangTogether 2 := ⟨(List.mem_of_getElem? (i := 873) (by decide +kernel)), rfl, (List.mem_of_getElem? (i := 48) (by decide +kernel)), rfl, (List.mem_of_getElem? (i := 876) (by decide +kernel)), rfl, ⟨by decide +kernel, by decide +kernel, by decide +kernel⟩, by decide⟩
theorem lk_X9_123 : zc_lk RX9 123 mX9_besideSeen 2 := ⟨(List.mem_of_getElem? (i := 891) (by decide +kernel)), rfl, (List.mem_of_getElem? (i := 48) (by decide +kernel)), rfl, (List.mem_of_getElem? (i := 894) (by decide +kernel)), rfl, ⟨by decide +kernel, by decide +kernel, by decide +kernel⟩, by decide⟩
theorem lk_X9_127 : zc_lk RX9 127 mX9_spread 2 := ⟨(List.mem_of_getElem? (i := 887) (by decide +kernel)), rfl, (List.mem_of_getElem? (i := 48) (by decide +kernel)), rfl, (List.mem_of_getElem? (i := 890) (by decide +kernel)), rfl, ⟨by decide +kernel, by decide +kernel, by decide +kernel⟩, by decide⟩
theorem lk_X9_134 : zc_lk RX9 134 mX9_findPoints 0 := ⟨(List.mem_of_getElem? (i := 899) (by decide +kernel)), rfl, (List.mem_of_getElem? (i := 48) (by decide +kernel)), rfl, (List.mem_of_getElem? (i := 902) (by decide +kernel)), rfl, ⟨by decide +kernel, by decide +kernel, by decide +kernel⟩, by decide⟩
theorem lk_X9_137 : zc_lk RX9 137 mX9_isPrint 1 := ⟨(List.mem_of_getElem? (i := 907) (by decide +kernel)), rfl, (List.mem_of_getElem? (i := 48) (by decide +kernel)), rfl, (List.mem_of_getElem? (i := 910) (by decide +kernel)), rfl, ⟨by decide +kernel, by decide +kernel, by decide +kernel⟩, by decide⟩
theorem lk_X9_141 : zc_lk RX9 141 mX9_turnedX 3 := ⟨(List.mem_of_getElem? (i := 927) (by decide +kernel)), rfl, (List.mem_of_getElem? (i := 48) (by decide +kernel)), rfl, (List.mem_of_getElem? (i := 929) (by decide +kernel)), rfl, ⟨by decide +kernel, by decide +kernel, by decide +kernel⟩, by decide⟩
theorem lk_X9_145 : zc_lk RX9 145 mX9_turnedY 3 := ⟨(List.mem_of_getElem? (i := 930) (by decide +kernel)), rfl, (List.mem_of_getElem? (i := 48) (by decide +kernel)), rfl, (List.mem_of_getElem? (i := 932) (by decide +kernel)), rfl, ⟨by decide +kernel, by decide +kernel, by decide +kernel⟩, by decide⟩
theorem lk_X9_148 : zc_lk RX9 148 mX9_finds 2 := ⟨(List.mem_of_getElem? (i := 937) (by decide +kernel)), rfl, (List.mem_of_getElem? (i := 48) (by decide +kernel)), rfl, (List.mem_of_getElem? (i := 940) (by decide +kernel)), rfl, ⟨by decide +kernel, by decide +kernel, by decide +kernel⟩, by decide⟩
theorem lk_X9_151 : zc_lk RX9 151 mX9_layOut 5 := ⟨(List.mem_of_getElem? (i := 923) (by decide +kernel)), rfl, (List.mem_of_getElem? (i := 48) (by decide +kernel)), rfl, (List.mem_of_getElem? (i := 926) (by decide +kernel)), rfl, ⟨by decide +kernel, by decide +kernel, by decide +kernel⟩, by decide⟩
theorem lk_X9_155 : zc_lk RX9 155 mX9_mostPairs 3 := ⟨(List.mem_of_getElem? (i := 933) (by decide +kernel)), rfl, (List.mem_of_getElem? (i := 48) (by decide +kernel)), rfl, (List.mem_of_getElem? (i := 936) (by decide +kernel)), rfl, ⟨by decide +kernel, by decide +kernel, by decide +kernel⟩, by decide⟩
theorem lk_X9_161 : zc_lk RX9 161 mX9_liesIn 4 := ⟨(List.mem_of_getElem? (i := 941) (by decide +kernel)), rfl, (List.mem_of_getElem? (i := 48) (by decide +kernel)), rfl, (List.mem_of_getElem? (i := 943) (by decide +kernel)), rfl, ⟨by decide +kernel, by decide +kernel, by decide +kernel⟩, by decide⟩
theorem lk_X9_184 : zc_lk RX9 184 mX9_offer 5 := ⟨(List.mem_of_getElem? (i := 960) (by decide +kernel)), rfl, (List.mem_of_getElem? (i := 48) (by decide +kernel)), rfl, (List.mem_of_getElem? (i := 963) (by decide +kernel)), rfl, ⟨by decide +kernel, by decide +kernel, by decide +kernel⟩, by decide⟩
theorem lk_X9_187 : zc_lk RX9 187 mX9_scoreOf 5 := ⟨(List.mem_of_getElem? (i := 919) (by decide +kernel)), rfl, (List.mem_of_getElem? (i := 48) (by decide +kernel)), rfl, (List.mem_of_getElem? (i := 922) (by decide +kernel)), rfl, ⟨by decide +kernel, by decide +kernel, by decide +kernel⟩, by decide⟩
theorem lk_X9_191 : zc_lk RX9 191 mX9_findFirst 2 := ⟨(List.mem_of_getElem? (i := 944) (by decide +kernel)), rfl, (List.mem_of_getElem? (i := 48) (by decide +kernel)), rfl, (List.mem_of_getElem? (i := 947) (by decide +kernel)), rfl, ⟨by decide +kernel, by decide +kernel, by decide +kernel⟩, by decide⟩
theorem lk_X9_195 : zc_lk RX9 195 mX9_tell 1 := ⟨(List.mem_of_getElem? (i := 948) (by decide +kernel)), rfl, (List.mem_of_getElem? (i := 48) (by decide +kernel)), rfl, (List.mem_of_getElem? (i := 951) (by decide +kernel)), rfl, ⟨by decide +kernel, by decide +kernel, by decide +kernel⟩, by decide⟩
theorem lk_X9_199 : zc_lk RX9 199 mX9_matchOf 2 := ⟨(List.mem_of_getElem? (i := 956) (by decide +kernel)), rfl, (List.mem_of_getElem? (i := 48) (by decide +kernel)), rfl, (List.mem_of_getElem? (i := 959) (by decide +kernel)), rfl, ⟨by decide +kernel, by decide +kernel, by decide +kernel⟩, by decide⟩
theorem lk_X9_202 : zc_lk RX9 202 mX9_isTool 1 := ⟨(List.mem_of_getElem? (i := 976) (by decide +kernel)), rfl, (List.mem_of_getElem? (i := 48) (by decide +kernel)), rfl, (List.mem_of_getElem? (i := 978) (by decide +kernel)), rfl, ⟨by decide +kernel, by decide +kernel, by decide +kernel⟩, by decide⟩
theorem lk_X9_205 : zc_lk RX9 205 mX9_printOf 2 := ⟨(List.mem_of_getElem? (i := 979) (by decide +kernel)), rfl, (List.mem_of_getElem? (i := 48) (by decide +kernel)), rfl, (List.mem_of_getElem? (i := 982) (by decide +kernel)), rfl, ⟨by decide +kernel, by decide +kernel, by decide +kernel⟩, by decide⟩
theorem lk_X9_208 : zc_lk RX9 208 mX9_keptBy 1 := ⟨(List.mem_of_getElem? (i := 983) (by decide +kernel)), rfl, (List.mem_of_getElem? (i := 48) (by decide +kernel)), rfl, (List.mem_of_getElem? (i := 986) (by decide +kernel)), rfl, ⟨by decide +kernel, by decide +kernel, by decide +kernel⟩, by decide⟩
theorem lk_X9_214 : zc_lk RX9 214 mX9_ask 1 := ⟨(List.mem_of_getElem? (i := 1015) (by decide +kernel)), rfl, (List.mem_of_getElem? (i := 48) (by decide +kernel)), rfl, (List.mem_of_getElem? (i := 1018) (by decide +kernel)), rfl, ⟨by decide +kernel, by decide +kernel, by decide +kernel⟩, by decide⟩
theorem lk_X9_220 : zc_lk RX9 220 mX9_findFlaws 1 := ⟨(List.mem_of_getElem? (i := 1011) (by decide +kernel)), rfl, (List.mem_of_getElem? (i := 48) (by decide +kernel)), rfl, (List.mem_of_getElem? (i := 1014) (by decide +kernel)), rfl, ⟨by decide +kernel, by decide +kernel, by decide +kernel⟩, by decide⟩
theorem lk_J7_304 : zc_lk RJ7 304 mJ9_min_7cf53 2 := ⟨(List.mem_of_getElem? (i := 409) (by decide +kernel)), rfl, (List.mem_of_getElem? (i := 51) (by decide +kernel)), rfl, (List.mem_of_getElem? (i := 397) (by decide +kernel)), rfl, ⟨by decide +kernel, by decide +kernel, by decide +kernel⟩, by decide⟩
theorem ln_X8_11 : zc_ln RX8 11 mX1_init 0 := ⟨(List.mem_of_getElem? (i := 64) (by decide +kernel)), (List.mem_of_getElem? (i := 41) (by decide +kernel)), rfl, (List.mem_of_getElem? (i := 66) (by decide +kernel)), rfl, ⟨by decide +kernel, by decide +kernel, by decide +kernel⟩, by decide⟩
theorem ln_X8_32 : zc_ln RX8 32 mX4_init 0 := ⟨(List.mem_of_getElem? (i := 83) (by decide +kernel)), (List.mem_of_getElem? (i := 42) (by decide +kernel)), rfl, (List.mem_of_getElem? (i := 85) (by decide +kernel)), rfl, ⟨by decide +kernel, by decide +kernel, by decide +kernel⟩, by decide⟩
theorem ln_X8_39 : zc_ln RX8 39 mX3_init 0 := ⟨(List.mem_of_getElem? (i := 175) (by decide +kernel)), (List.mem_of_getElem? (i := 46) (by decide +kernel)), rfl, (List.mem_of_getElem? (i := 177) (by decide +kernel)), rfl, ⟨by decide +kernel, by decide +kernel, by decide +kernel⟩, by decide⟩
theorem ln_X8_53 : zc_ln RX8 53 mX2_init 0 := ⟨(List.mem_of_getElem? (i := 230) (by decide +kernel)), (List.mem_of_getElem? (i := 47) (by decide +kernel)), rfl, (List.mem_of_getElem? (i := 232) (by decide +kernel)), rfl, ⟨by decide +kernel, by decide +kernel, by decide +kernel⟩, by decide⟩
theorem ln_X1_72 : zc_ln RX1 72 mX8_isWithin 3 := ⟨(List.mem_of_getElem? (i := 370) (by decide +kernel)), (List.mem_of_getElem? (i := 40) (by decide +kernel)), rfl, (List.mem_of_getElem? (i := 298) (by decide +kernel)), rfl, ⟨by decide +kernel, by decide +kernel, by decide +kernel⟩, by decide⟩
theorem ln_X4_21 : zc_ln RX4 21 mX0_init 0 := ⟨(List.mem_of_getElem? (i := 89) (by decide +kernel)), (List.mem_of_getElem? (i := 43) (by decide +kernel)), rfl, (List.mem_of_getElem? (i := 91) (by decide +kernel)), rfl, ⟨by decide +kernel, by decide +kernel, by decide +kernel⟩, by decide⟩
theorem ln_X4_28 : zc_ln RX4 28 mX5_init 0 := ⟨(List.mem_of_getElem? (i := 105) (by decide +kernel)), (List.mem_of_getElem? (i := 44) (by decide +kernel)), rfl, (List.mem_of_getElem? (i := 107) (by decide +kernel)), rfl, ⟨by decide +kernel, by decide +kernel, by decide +kernel⟩, by decide⟩
theorem ls_J6_bitCount_0f7a4 : zc_ls mJ6_bitCount_0f7a4 := ⟨(List.mem_of_getElem? (i := 309) (by decide +kernel)), rfl⟩
theorem ls_J7_copyOf_59c91 : zc_ls mJ7_copyOf_59c91 := ⟨(List.mem_of_getElem? (i := 400) (by decide +kernel)), rfl⟩
theorem ls_J7_fill_53178 : zc_ls mJ7_fill_53178 := ⟨(List.mem_of_getElem? (i := 483) (by decide +kernel)), rfl⟩
theorem ls_J9_max_7cf53 : zc_ls mJ9_max_7cf53 := ⟨(List.mem_of_getElem? (i := 513) (by decide +kernel)), rfl⟩
theorem ls_J9_min_7cf53 : zc_ls mJ9_min_7cf53 := ⟨(List.mem_of_getElem? (i := 396) (by decide +kernel)), rfl⟩
theorem li_X0_init : zc_li mX0_init := ⟨rfl, (List.mem_of_getElem? (i := 90) (by decide +kernel)), rfl⟩
theorem lv_X0_learn : zc_lv mX0_learn := ⟨(List.mem_of_getElem? (i := 479) (by decide +kernel)), rfl, (List.mem_of_getElem? (i := 480) (by decide +kernel)), rfl⟩
theorem ls_X0_mark : zc_ls mX0_mark := ⟨(List.mem_of_getElem? (i := 488) (by decide +kernel)), rfl⟩
theorem lv_X0_near : zc_lv mX0_near := ⟨(List.mem_of_getElem? (i := 525) (by decide +kernel)), rfl, (List.mem_of_getElem? (i := 526) (by decide +kernel)), rfl⟩
theorem lv_X1_bitsOf : zc_lv mX1_bitsOf := ⟨(List.mem_of_getElem? (i := 319) (by decide +kernel)), rfl, (List.mem_of_getElem? (i := 320) (by decide +kernel)), rfl⟩
theorem lv_X1_darkCells : zc_lv mX1_darkCells := ⟨(List.mem_of_getElem? (i := 305) (by decide +kernel)), rfl, (List.mem_of_getElem? (i := 306) (by decide +kernel)), rfl⟩
theorem lv_X1_darkPieces : zc_lv mX1_darkPieces := ⟨(List.mem_of_getElem? (i := 356) (by decide +kernel)), rfl, (List.mem_of_getElem? (i := 357) (by decide +kernel)), rfl⟩
theorem ls_X1_goes : zc_ls mX1_goes := ⟨(List.mem_of_getElem? (i := 346) (by decide +kernel)), rfl⟩
theorem ls_X1_hangsTogether : zc_ls mX1_hangsTogether := ⟨(List.mem_of_getElem? (i := 349) (by decide +kernel)), rfl⟩
theorem lv_X1_holes : zc_lv mX1_holes := ⟨(List.mem_of_getElem? (i := 380) (by decide +kernel)), rfl, (List.mem_of_getElem? (i := 381) (by decide +kernel)), rfl⟩
theorem li_X1_init : zc_li mX1_init := ⟨rfl, (List.mem_of_getElem? (i := 65) (by decide +kernel)), rfl⟩
theorem lv_X1_isDark : zc_lv mX1_isDark := ⟨(List.mem_of_getElem? (i := 336) (by decide +kernel)), rfl, (List.mem_of_getElem? (i := 1) (by decide +kernel)), rfl⟩
theorem ls_X1_kindOf : zc_ls mX1_kindOf := ⟨(List.mem_of_getElem? (i := 393) (by decide +kernel)), rfl⟩
theorem lv_X1_readPoints : zc_lv mX1_readPoints := ⟨(List.mem_of_getElem? (i := 389) (by decide +kernel)), rfl, (List.mem_of_getElem? (i := 390) (by decide +kernel)), rfl⟩
theorem lv_X1_ringAt : zc_lv mX1_ringAt := ⟨(List.mem_of_getElem? (i := 340) (by decide +kernel)), rfl, (List.mem_of_getElem? (i := 2) (by decide +kernel)), rfl⟩
theorem lv_X1_setRow : zc_lv mX1_setRow := ⟨(List.mem_of_getElem? (i := 301) (by decide +kernel)), rfl, (List.mem_of_getElem? (i := 302) (by decide +kernel)), rfl⟩
theorem lv_X1_sweepOnce : zc_lv mX1_sweepOnce := ⟨(List.mem_of_getElem? (i := 332) (by decide +kernel)), rfl, (List.mem_of_getElem? (i := 0) (by decide +kernel)), rfl⟩
theorem lv_X1_takePieces : zc_lv mX1_takePieces := ⟨(List.mem_of_getElem? (i := 364) (by decide +kernel)), rfl, (List.mem_of_getElem? (i := 3) (by decide +kernel)), rfl⟩
theorem lv_X1_takeRest : zc_lv mX1_takeRest := ⟨(List.mem_of_getElem? (i := 373) (by decide +kernel)), rfl, (List.mem_of_getElem? (i := 5) (by decide +kernel)), rfl⟩
theorem lv_X1_takeThinned : zc_lv mX1_takeThinned := ⟨(List.mem_of_getElem? (i := 327) (by decide +kernel)), rfl, (List.mem_of_getElem? (i := 328) (by decide +kernel)), rfl⟩
theorem lv_X1_takes : zc_lv mX1_takes := ⟨(List.mem_of_getElem? (i := 368) (by decide +kernel)), rfl, (List.mem_of_getElem? (i := 4) (by decide +kernel)), rfl⟩
theorem ls_X1_threeAt : zc_ls mX1_threeAt := ⟨(List.mem_of_getElem? (i := 343) (by decide +kernel)), rfl⟩
theorem lv_X2_clear : zc_lv mX2_clear := ⟨(List.mem_of_getElem? (i := 672) (by decide +kernel)), rfl, (List.mem_of_getElem? (i := 673) (by decide +kernel)), rfl⟩
theorem lv_X2_dateFlaws : zc_lv mX2_dateFlaws := ⟨(List.mem_of_getElem? (i := 686) (by decide +kernel)), rfl, (List.mem_of_getElem? (i := 687) (by decide +kernel)), rfl⟩
theorem lv_X2_firstComing : zc_lv mX2_firstComing := ⟨(List.mem_of_getElem? (i := 708) (by decide +kernel)), rfl, (List.mem_of_getElem? (i := 709) (by decide +kernel)), rfl⟩
theorem lv_X2_flawAt : zc_lv mX2_flawAt := ⟨(List.mem_of_getElem? (i := 696) (by decide +kernel)), rfl, (List.mem_of_getElem? (i := 697) (by decide +kernel)), rfl⟩
theorem lv_X2_hear : zc_lv mX2_hear := ⟨(List.mem_of_getElem? (i := 681) (by decide +kernel)), rfl, (List.mem_of_getElem? (i := 682) (by decide +kernel)), rfl⟩
theorem li_X2_init : zc_li mX2_init := ⟨rfl, (List.mem_of_getElem? (i := 231) (by decide +kernel)), rfl⟩
theorem lv_X2_lastComing : zc_lv mX2_lastComing := ⟨(List.mem_of_getElem? (i := 704) (by decide +kernel)), rfl, (List.mem_of_getElem? (i := 705) (by decide +kernel)), rfl⟩
theorem li_X3_init : zc_li mX3_init := ⟨rfl, (List.mem_of_getElem? (i := 176) (by decide +kernel)), rfl⟩
theorem lv_X3_lacking : zc_lv mX3_lacking := ⟨(List.mem_of_getElem? (i := 677) (by decide +kernel)), rfl, (List.mem_of_getElem? (i := 678) (by decide +kernel)), rfl⟩
theorem lv_X3_set : zc_lv mX3_set := ⟨(List.mem_of_getElem? (i := 471) (by decide +kernel)), rfl, (List.mem_of_getElem? (i := 472) (by decide +kernel)), rfl⟩
theorem lv_X3_setNone : zc_lv mX3_setNone := ⟨(List.mem_of_getElem? (i := 590) (by decide +kernel)), rfl, (List.mem_of_getElem? (i := 591) (by decide +kernel)), rfl⟩
theorem lv_X4_bareWith : zc_lv mX4_bareWith := ⟨(List.mem_of_getElem? (i := 548) (by decide +kernel)), rfl, (List.mem_of_getElem? (i := 9) (by decide +kernel)), rfl⟩
theorem lv_X4_bestOf : zc_lv mX4_bestOf := ⟨(List.mem_of_getElem? (i := 570) (by decide +kernel)), rfl, (List.mem_of_getElem? (i := 11) (by decide +kernel)), rfl⟩
theorem lv_X4_fillIn : zc_lv mX4_fillIn := ⟨(List.mem_of_getElem? (i := 475) (by decide +kernel)), rfl, (List.mem_of_getElem? (i := 476) (by decide +kernel)), rfl⟩
theorem li_X4_init : zc_li mX4_init := ⟨rfl, (List.mem_of_getElem? (i := 84) (by decide +kernel)), rfl⟩
theorem lv_X4_layBest : zc_lv mX4_layBest := ⟨(List.mem_of_getElem? (i := 565) (by decide +kernel)), rfl, (List.mem_of_getElem? (i := 566) (by decide +kernel)), rfl⟩
theorem lv_X4_markLandings : zc_lv mX4_markLandings := ⟨(List.mem_of_getElem? (i := 578) (by decide +kernel)), rfl, (List.mem_of_getElem? (i := 13) (by decide +kernel)), rfl⟩
theorem ls_X4_pack : zc_ls mX4_pack := ⟨(List.mem_of_getElem? (i := 587) (by decide +kernel)), rfl⟩
theorem lv_X4_scoreOf : zc_lv mX4_scoreOf := ⟨(List.mem_of_getElem? (i := 646) (by decide +kernel)), rfl, (List.mem_of_getElem? (i := 647) (by decide +kernel)), rfl⟩
theorem lv_X4_scoreWith : zc_lv mX4_scoreWith := ⟨(List.mem_of_getElem? (i := 553) (by decide +kernel)), rfl, (List.mem_of_getElem? (i := 10) (by decide +kernel)), rfl⟩
theorem lv_X4_search : zc_lv mX4_search := ⟨(List.mem_of_getElem? (i := 574) (by decide +kernel)), rfl, (List.mem_of_getElem? (i := 12) (by decide +kernel)), rfl⟩
theorem lv_X4_shiftBy : zc_lv mX4_shiftBy := ⟨(List.mem_of_getElem? (i := 517) (by decide +kernel)), rfl, (List.mem_of_getElem? (i := 8) (by decide +kernel)), rfl⟩
theorem lv_X4_turnBy : zc_lv mX4_turnBy := ⟨(List.mem_of_getElem? (i := 494) (by decide +kernel)), rfl, (List.mem_of_getElem? (i := 7) (by decide +kernel)), rfl⟩
theorem ls_X4_unpackColumn : zc_ls mX4_unpackColumn := ⟨(List.mem_of_getElem? (i := 599) (by decide +kernel)), rfl⟩
theorem ls_X4_unpackRow : zc_ls mX4_unpackRow := ⟨(List.mem_of_getElem? (i := 602) (by decide +kernel)), rfl⟩
theorem ls_X4_unpackScore : zc_ls mX4_unpackScore := ⟨(List.mem_of_getElem? (i := 650) (by decide +kernel)), rfl⟩
theorem ls_X4_unpackTurn : zc_ls mX4_unpackTurn := ⟨(List.mem_of_getElem? (i := 596) (by decide +kernel)), rfl⟩
theorem lv_X5_add : zc_lv mX5_add := ⟨(List.mem_of_getElem? (i := 529) (by decide +kernel)), rfl, (List.mem_of_getElem? (i := 530) (by decide +kernel)), rfl⟩
theorem lv_X5_bound : zc_lv mX5_bound := ⟨(List.mem_of_getElem? (i := 582) (by decide +kernel)), rfl, (List.mem_of_getElem? (i := 583) (by decide +kernel)), rfl⟩
theorem lv_X5_choose : zc_lv mX5_choose := ⟨(List.mem_of_getElem? (i := 556) (by decide +kernel)), rfl, (List.mem_of_getElem? (i := 557) (by decide +kernel)), rfl⟩
theorem lv_X5_clear : zc_lv mX5_clear := ⟨(List.mem_of_getElem? (i := 520) (by decide +kernel)), rfl, (List.mem_of_getElem? (i := 521) (by decide +kernel)), rfl⟩
theorem ls_X5_finds : zc_ls mX5_finds := ⟨(List.mem_of_getElem? (i := 543) (by decide +kernel)), rfl⟩
theorem li_X5_init : zc_li mX5_init := ⟨rfl, (List.mem_of_getElem? (i := 106) (by decide +kernel)), rfl⟩
theorem lv_X5_most : zc_lv mX5_most := ⟨(List.mem_of_getElem? (i := 538) (by decide +kernel)), rfl, (List.mem_of_getElem? (i := 539) (by decide +kernel)), rfl⟩
theorem lv_X6_becomeTurned : zc_lv mX6_becomeTurned := ⟨(List.mem_of_getElem? (i := 506) (by decide +kernel)), rfl, (List.mem_of_getElem? (i := 507) (by decide +kernel)), rfl⟩
theorem lv_X6_holds : zc_lv mX6_holds := ⟨(List.mem_of_getElem? (i := 533) (by decide +kernel)), rfl, (List.mem_of_getElem? (i := 534) (by decide +kernel)), rfl⟩
theorem li_X6_init : zc_li mX6_init := ⟨rfl, (List.mem_of_getElem? (i := 125) (by decide +kernel)), rfl⟩
theorem ls_X6_turnedColumn : zc_ls mX6_turnedColumn := ⟨(List.mem_of_getElem? (i := 500) (by decide +kernel)), rfl⟩
theorem ls_X6_turnedRow : zc_ls mX6_turnedRow := ⟨(List.mem_of_getElem? (i := 503) (by decide +kernel)), rfl⟩
theorem lv_X7_columnOf : zc_lv mX7_columnOf := ⟨(List.mem_of_getElem? (i := 451) (by decide +kernel)), rfl, (List.mem_of_getElem? (i := 452) (by decide +kernel)), rfl⟩
theorem li_X7_init : zc_li mX7_init := ⟨rfl, (List.mem_of_getElem? (i := 414) (by decide +kernel)), rfl⟩
theorem lv_X7_kindOf : zc_lv mX7_kindOf := ⟨(List.mem_of_getElem? (i := 459) (by decide +kernel)), rfl, (List.mem_of_getElem? (i := 460) (by decide +kernel)), rfl⟩
theorem lv_X7_rowOf : zc_lv mX7_rowOf := ⟨(List.mem_of_getElem? (i := 455) (by decide +kernel)), rfl, (List.mem_of_getElem? (i := 456) (by decide +kernel)), rfl⟩
theorem lv_X7_size : zc_lv mX7_size := ⟨(List.mem_of_getElem? (i := 447) (by decide +kernel)), rfl, (List.mem_of_getElem? (i := 448) (by decide +kernel)), rfl⟩
theorem lv_X8_age : zc_lv mX8_age := ⟨(List.mem_of_getElem? (i := 700) (by decide +kernel)), rfl, (List.mem_of_getElem? (i := 701) (by decide +kernel)), rfl⟩
theorem ls_X8_areStrangers : zc_ls mX8_areStrangers := ⟨(List.mem_of_getElem? (i := 657) (by decide +kernel)), rfl⟩
theorem lv_X8_count : zc_lv mX8_count := ⟨(List.mem_of_getElem? (i := 716) (by decide +kernel)), rfl, (List.mem_of_getElem? (i := 717) (by decide +kernel)), rfl⟩
theorem lv_X8_feed : zc_lv mX8_feed := ⟨(List.mem_of_getElem? (i := 293) (by decide +kernel)), rfl, (List.mem_of_getElem? (i := 294) (by decide +kernel)), rfl⟩
theorem lv_X8_flaw : zc_lv mX8_flaw := ⟨(List.mem_of_getElem? (i := 692) (by decide +kernel)), rfl, (List.mem_of_getElem? (i := 693) (by decide +kernel)), rfl⟩
theorem lv_X8_flaws : zc_lv mX8_flaws := ⟨(List.mem_of_getElem? (i := 660) (by decide +kernel)), rfl, (List.mem_of_getElem? (i := 661) (by decide +kernel)), rfl⟩
theorem lv_X8_hasYear : zc_lv mX8_hasYear := ⟨(List.mem_of_getElem? (i := 623) (by decide +kernel)), rfl, (List.mem_of_getElem? (i := 14) (by decide +kernel)), rfl⟩
theorem li_X8_init : zc_li mX8_init := ⟨rfl, (List.mem_of_getElem? (i := 57) (by decide +kernel)), rfl⟩
theorem ls_X8_isTool : zc_ls mX8_isTool := ⟨(List.mem_of_getElem? (i := 619) (by decide +kernel)), rfl⟩
theorem ls_X8_isWithin : zc_ls mX8_isWithin := ⟨(List.mem_of_getElem? (i := 297) (by decide +kernel)), rfl⟩
theorem lv_X8_keep : zc_lv mX8_keep := ⟨(List.mem_of_getElem? (i := 615) (by decide +kernel)), rfl, (List.mem_of_getElem? (i := 616) (by decide +kernel)), rfl⟩
theorem lv_X8_keptBy : zc_lv mX8_keptBy := ⟨(List.mem_of_getElem? (i := 627) (by decide +kernel)), rfl, (List.mem_of_getElem? (i := 15) (by decide +kernel)), rfl⟩
theorem lv_X8_lay : zc_lv mX8_lay := ⟨(List.mem_of_getElem? (i := 467) (by decide +kernel)), rfl, (List.mem_of_getElem? (i := 468) (by decide +kernel)), rfl⟩
theorem lv_X8_like : zc_lv mX8_like := ⟨(List.mem_of_getElem? (i := 642) (by decide +kernel)), rfl, (List.mem_of_getElem? (i := 643) (by decide +kernel)), rfl⟩
theorem lv_X8_match : zc_lv mX8_match := ⟨(List.mem_of_getElem? (i := 561) (by decide +kernel)), rfl, (List.mem_of_getElem? (i := 562) (by decide +kernel)), rfl⟩
theorem lv_X8_melt : zc_lv mX8_melt := ⟨(List.mem_of_getElem? (i := 638) (by decide +kernel)), rfl, (List.mem_of_getElem? (i := 639) (by decide +kernel)), rfl⟩
theorem lv_X8_newestOf : zc_lv mX8_newestOf := ⟨(List.mem_of_getElem? (i := 669) (by decide +kernel)), rfl, (List.mem_of_getElem? (i := 17) (by decide +kernel)), rfl⟩
theorem lv_X8_of : zc_lv mX8_of := ⟨(List.mem_of_getElem? (i := 634) (by decide +kernel)), rfl, (List.mem_of_getElem? (i := 635) (by decide +kernel)), rfl⟩
theorem lv_X8_pair : zc_lv mX8_pair := ⟨(List.mem_of_getElem? (i := 611) (by decide +kernel)), rfl, (List.mem_of_getElem? (i := 612) (by decide +kernel)), rfl⟩
theorem lv_X8_part : zc_lv mX8_part := ⟨(List.mem_of_getElem? (i := 630) (by decide +kernel)), rfl, (List.mem_of_getElem? (i := 631) (by decide +kernel)), rfl⟩
theorem lv_X8_pieces : zc_lv mX8_pieces := ⟨(List.mem_of_getElem? (i := 352) (by decide +kernel)), rfl, (List.mem_of_getElem? (i := 353) (by decide +kernel)), rfl⟩
theorem lv_X8_point : zc_lv mX8_point := ⟨(List.mem_of_getElem? (i := 439) (by decide +kernel)), rfl, (List.mem_of_getElem? (i := 440) (by decide +kernel)), rfl⟩
theorem lv_X8_print : zc_lv mX8_print := ⟨(List.mem_of_getElem? (i := 385) (by decide +kernel)), rfl, (List.mem_of_getElem? (i := 386) (by decide +kernel)), rfl⟩
theorem lv_X8_printAt : zc_lv mX8_printAt := ⟨(List.mem_of_getElem? (i := 444) (by decide +kernel)), rfl, (List.mem_of_getElem? (i := 6) (by decide +kernel)), rfl⟩
theorem lv_X8_reach : zc_lv mX8_reach := ⟨(List.mem_of_getElem? (i := 463) (by decide +kernel)), rfl, (List.mem_of_getElem? (i := 464) (by decide +kernel)), rfl⟩
theorem lv_X8_readHistory : zc_lv mX8_readHistory := ⟨(List.mem_of_getElem? (i := 665) (by decide +kernel)), rfl, (List.mem_of_getElem? (i := 16) (by decide +kernel)), rfl⟩
theorem lv_X8_row : zc_lv mX8_row := ⟨(List.mem_of_getElem? (i := 315) (by decide +kernel)), rfl, (List.mem_of_getElem? (i := 316) (by decide +kernel)), rfl⟩
theorem lv_X8_strangers : zc_lv mX8_strangers := ⟨(List.mem_of_getElem? (i := 653) (by decide +kernel)), rfl, (List.mem_of_getElem? (i := 654) (by decide +kernel)), rfl⟩
theorem lv_X8_struck : zc_lv mX8_struck := ⟨(List.mem_of_getElem? (i := 712) (by decide +kernel)), rfl, (List.mem_of_getElem? (i := 713) (by decide +kernel)), rfl⟩
theorem lv_X8_thin : zc_lv mX8_thin := ⟨(List.mem_of_getElem? (i := 323) (by decide +kernel)), rfl, (List.mem_of_getElem? (i := 324) (by decide +kernel)), rfl⟩
theorem lv_X8_told : zc_lv mX8_told := ⟨(List.mem_of_getElem? (i := 607) (by decide +kernel)), rfl, (List.mem_of_getElem? (i := 608) (by decide +kernel)), rfl⟩
theorem lv_X8_toolsWithPrints : zc_lv mX8_toolsWithPrints := ⟨(List.mem_of_getElem? (i := 721) (by decide +kernel)), rfl, (List.mem_of_getElem? (i := 18) (by decide +kernel)), rfl⟩
theorem lv_X9_age : zc_lv mX9_age := ⟨(List.mem_of_getElem? (i := 1024) (by decide +kernel)), rfl, (List.mem_of_getElem? (i := 1025) (by decide +kernel)), rfl⟩
theorem lv_X9_ask : zc_lv mX9_ask := ⟨(List.mem_of_getElem? (i := 1017) (by decide +kernel)), rfl, (List.mem_of_getElem? (i := 38) (by decide +kernel)), rfl⟩
theorem lv_X9_besideSeen : zc_lv mX9_besideSeen := ⟨(List.mem_of_getElem? (i := 893) (by decide +kernel)), rfl, (List.mem_of_getElem? (i := 24) (by decide +kernel)), rfl⟩
theorem lv_X9_count : zc_lv mX9_count := ⟨(List.mem_of_getElem? (i := 1032) (by decide +kernel)), rfl, (List.mem_of_getElem? (i := 1033) (by decide +kernel)), rfl⟩
theorem lv_X9_darkMany : zc_lv mX9_darkMany := ⟨(List.mem_of_getElem? (i := 855) (by decide +kernel)), rfl, (List.mem_of_getElem? (i := 19) (by decide +kernel)), rfl⟩
theorem lv_X9_feed : zc_lv mX9_feed := ⟨(List.mem_of_getElem? (i := 846) (by decide +kernel)), rfl, (List.mem_of_getElem? (i := 847) (by decide +kernel)), rfl⟩
theorem lv_X9_findFirst : zc_lv mX9_findFirst := ⟨(List.mem_of_getElem? (i := 946) (by decide +kernel)), rfl, (List.mem_of_getElem? (i := 31) (by decide +kernel)), rfl⟩
theorem lv_X9_findFlaws : zc_lv mX9_findFlaws := ⟨(List.mem_of_getElem? (i := 1013) (by decide +kernel)), rfl, (List.mem_of_getElem? (i := 37) (by decide +kernel)), rfl⟩
theorem lv_X9_findPoints : zc_lv mX9_findPoints := ⟨(List.mem_of_getElem? (i := 901) (by decide +kernel)), rfl, (List.mem_of_getElem? (i := 25) (by decide +kernel)), rfl⟩
theorem lv_X9_finds : zc_lv mX9_finds := ⟨(List.mem_of_getElem? (i := 939) (by decide +kernel)), rfl, (List.mem_of_getElem? (i := 30) (by decide +kernel)), rfl⟩
theorem lv_X9_flaw : zc_lv mX9_flaw := ⟨(List.mem_of_getElem? (i := 1020) (by decide +kernel)), rfl, (List.mem_of_getElem? (i := 1021) (by decide +kernel)), rfl⟩
theorem lv_X9_flaws : zc_lv mX9_flaws := ⟨(List.mem_of_getElem? (i := 1008) (by decide +kernel)), rfl, (List.mem_of_getElem? (i := 1009) (by decide +kernel)), rfl⟩
theorem lv_X9_hangTogether : zc_lv mX9_hangTogether := ⟨(List.mem_of_getElem? (i := 875) (by decide +kernel)), rfl, (List.mem_of_getElem? (i := 22) (by decide +kernel)), rfl⟩
theorem li_X9_init : zc_li mX9_init := ⟨rfl, (List.mem_of_getElem? (i := 726) (by decide +kernel)), rfl⟩
theorem lv_X9_isDark : zc_lv mX9_isDark := ⟨(List.mem_of_getElem? (i := 867) (by decide +kernel)), rfl, (List.mem_of_getElem? (i := 20) (by decide +kernel)), rfl⟩
theorem lv_X9_isPrint : zc_lv mX9_isPrint := ⟨(List.mem_of_getElem? (i := 909) (by decide +kernel)), rfl, (List.mem_of_getElem? (i := 26) (by decide +kernel)), rfl⟩
theorem ls_X9_isTool : zc_ls mX9_isTool := ⟨(List.mem_of_getElem? (i := 977) (by decide +kernel)), rfl⟩
theorem lv_X9_keep : zc_lv mX9_keep := ⟨(List.mem_of_getElem? (i := 973) (by decide +kernel)), rfl, (List.mem_of_getElem? (i := 974) (by decide +kernel)), rfl⟩
theorem lv_X9_keptBy : zc_lv mX9_keptBy := ⟨(List.mem_of_getElem? (i := 985) (by decide +kernel)), rfl, (List.mem_of_getElem? (i := 36) (by decide +kernel)), rfl⟩
theorem lv_X9_lay : zc_lv mX9_lay := ⟨(List.mem_of_getElem? (i := 916) (by decide +kernel)), rfl, (List.mem_of_getElem? (i := 917) (by decide +kernel)), rfl⟩
theorem lv_X9_layOut : zc_lv mX9_layOut := ⟨(List.mem_of_getElem? (i := 925) (by decide +kernel)), rfl, (List.mem_of_getElem? (i := 28) (by decide +kernel)), rfl⟩
theorem ls_X9_liesIn : zc_ls mX9_liesIn := ⟨(List.mem_of_getElem? (i := 942) (by decide +kernel)), rfl⟩
theorem lv_X9_like : zc_lv mX9_like := ⟨(List.mem_of_getElem? (i := 1000) (by decide +kernel)), rfl, (List.mem_of_getElem? (i := 1001) (by decide +kernel)), rfl⟩
theorem lv_X9_match : zc_lv mX9_match := ⟨(List.mem_of_getElem? (i := 953) (by decide +kernel)), rfl, (List.mem_of_getElem? (i := 954) (by decide +kernel)), rfl⟩
theorem lv_X9_matchOf : zc_lv mX9_matchOf := ⟨(List.mem_of_getElem? (i := 958) (by decide +kernel)), rfl, (List.mem_of_getElem? (i := 33) (by decide +kernel)), rfl⟩
theorem lv_X9_melt : zc_lv mX9_melt := ⟨(List.mem_of_getElem? (i := 996) (by decide +kernel)), rfl, (List.mem_of_getElem? (i := 997) (by decide +kernel)), rfl⟩
theorem lv_X9_mostPairs : zc_lv mX9_mostPairs := ⟨(List.mem_of_getElem? (i := 935) (by decide +kernel)), rfl, (List.mem_of_getElem? (i := 29) (by decide +kernel)), rfl⟩
theorem lv_X9_neighbours : zc_lv mX9_neighbours := ⟨(List.mem_of_getElem? (i := 871) (by decide +kernel)), rfl, (List.mem_of_getElem? (i := 21) (by decide +kernel)), rfl⟩
theorem lv_X9_of : zc_lv mX9_of := ⟨(List.mem_of_getElem? (i := 992) (by decide +kernel)), rfl, (List.mem_of_getElem? (i := 993) (by decide +kernel)), rfl⟩
theorem lv_X9_offer : zc_lv mX9_offer := ⟨(List.mem_of_getElem? (i := 962) (by decide +kernel)), rfl, (List.mem_of_getElem? (i := 34) (by decide +kernel)), rfl⟩
theorem lv_X9_pair : zc_lv mX9_pair := ⟨(List.mem_of_getElem? (i := 969) (by decide +kernel)), rfl, (List.mem_of_getElem? (i := 970) (by decide +kernel)), rfl⟩
theorem lv_X9_part : zc_lv mX9_part := ⟨(List.mem_of_getElem? (i := 988) (by decide +kernel)), rfl, (List.mem_of_getElem? (i := 989) (by decide +kernel)), rfl⟩
theorem lv_X9_pieces : zc_lv mX9_pieces := ⟨(List.mem_of_getElem? (i := 884) (by decide +kernel)), rfl, (List.mem_of_getElem? (i := 885) (by decide +kernel)), rfl⟩
theorem lv_X9_point : zc_lv mX9_point := ⟨(List.mem_of_getElem? (i := 904) (by decide +kernel)), rfl, (List.mem_of_getElem? (i := 905) (by decide +kernel)), rfl⟩
theorem lv_X9_print : zc_lv mX9_print := ⟨(List.mem_of_getElem? (i := 896) (by decide +kernel)), rfl, (List.mem_of_getElem? (i := 897) (by decide +kernel)), rfl⟩
theorem lv_X9_printOf : zc_lv mX9_printOf := ⟨(List.mem_of_getElem? (i := 981) (by decide +kernel)), rfl, (List.mem_of_getElem? (i := 35) (by decide +kernel)), rfl⟩
theorem lv_X9_reach : zc_lv mX9_reach := ⟨(List.mem_of_getElem? (i := 912) (by decide +kernel)), rfl, (List.mem_of_getElem? (i := 913) (by decide +kernel)), rfl⟩
theorem lv_X9_row : zc_lv mX9_row := ⟨(List.mem_of_getElem? (i := 858) (by decide +kernel)), rfl, (List.mem_of_getElem? (i := 859) (by decide +kernel)), rfl⟩
theorem lv_X9_scoreOf : zc_lv mX9_scoreOf := ⟨(List.mem_of_getElem? (i := 921) (by decide +kernel)), rfl, (List.mem_of_getElem? (i := 27) (by decide +kernel)), rfl⟩
theorem lv_X9_spread : zc_lv mX9_spread := ⟨(List.mem_of_getElem? (i := 889) (by decide +kernel)), rfl, (List.mem_of_getElem? (i := 23) (by decide +kernel)), rfl⟩
theorem ls_X9_stepX : zc_ls mX9_stepX := ⟨(List.mem_of_getElem? (i := 878) (by decide +kernel)), rfl⟩
theorem ls_X9_stepY : zc_ls mX9_stepY := ⟨(List.mem_of_getElem? (i := 881) (by decide +kernel)), rfl⟩
theorem lv_X9_strangers : zc_lv mX9_strangers := ⟨(List.mem_of_getElem? (i := 1004) (by decide +kernel)), rfl, (List.mem_of_getElem? (i := 1005) (by decide +kernel)), rfl⟩
theorem lv_X9_struck : zc_lv mX9_struck := ⟨(List.mem_of_getElem? (i := 1028) (by decide +kernel)), rfl, (List.mem_of_getElem? (i := 1029) (by decide +kernel)), rfl⟩
theorem lv_X9_tell : zc_lv mX9_tell := ⟨(List.mem_of_getElem? (i := 950) (by decide +kernel)), rfl, (List.mem_of_getElem? (i := 32) (by decide +kernel)), rfl⟩
theorem lv_X9_thin : zc_lv mX9_thin := ⟨(List.mem_of_getElem? (i := 862) (by decide +kernel)), rfl, (List.mem_of_getElem? (i := 863) (by decide +kernel)), rfl⟩
theorem lv_X9_told : zc_lv mX9_told := ⟨(List.mem_of_getElem? (i := 965) (by decide +kernel)), rfl, (List.mem_of_getElem? (i := 966) (by decide +kernel)), rfl⟩
theorem ls_X9_turnedX : zc_ls mX9_turnedX := ⟨(List.mem_of_getElem? (i := 928) (by decide +kernel)), rfl⟩
theorem ls_X9_turnedY : zc_ls mX9_turnedY := ⟨(List.mem_of_getElem? (i := 931) (by decide +kernel)), rfl⟩
theorem ls_X9_within : zc_ls mX9_within := ⟨(List.mem_of_getElem? (i := 850) (by decide +kernel)), rfl⟩
theorem df_X0 : ∀ j, j < 3 → defaultValue (zc_ty 0 j) = if zc_isr (zc_ty 0 j) then .null else .int 0 := by decide +kernel
theorem df_X1 : ∀ j, j < 3 → defaultValue (zc_ty 1 j) = if zc_isr (zc_ty 1 j) then .null else .int 0 := by decide +kernel
theorem df_X2 : ∀ j, j < 6 → defaultValue (zc_ty 2 j) = if zc_isr (zc_ty 2 j) then .null else .int 0 := by decide +kernel
theorem df_X3 : ∀ j, j < 10 → defaultValue (zc_ty 3 j) = if zc_isr (zc_ty 3 j) then .null else .int 0 := by decide +kernel
theorem df_X4 : ∀ j, j < 10 → defaultValue (zc_ty 4 j) = if zc_isr (zc_ty 4 j) then .null else .int 0 := by decide +kernel
theorem df_X5 : ∀ j, j < 4 → defaultValue (zc_ty 5 j) = if zc_isr (zc_ty 5 j) then .null else .int 0 := by decide +kernel
theorem df_X6 : ∀ j, j < 4 → defaultValue (zc_ty 6 j) = if zc_isr (zc_ty 6 j) then .null else .int 0 := by decide +kernel
theorem df_X7 : ∀ j, j < 5 → defaultValue (zc_ty 7 j) = if zc_isr (zc_ty 7 j) then .null else .int 0 := by decide +kernel
theorem df_X8 : ∀ j, j < 12 → defaultValue (zc_ty 8 j) = if zc_isr (zc_ty 8 j) then .null else .int 0 := by decide +kernel
theorem df_X9 : ∀ j, j < 38 → defaultValue (zc_ty 9 j) = if zc_isr (zc_ty 9 j) then .null else .int 0 := by decide +kernel
