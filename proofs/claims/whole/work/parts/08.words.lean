set_option maxRecDepth 20000 in
theorem gl_RL_87 : Cond.methodLink RL 87 yX7_init ∈ gw_tbl := gw_mem (List.mem_of_getElem? (i := 74) (by decide +kernel)) (by decide +kernel)
set_option maxRecDepth 20000 in
theorem gl_RX7_1 : Cond.methodLink RX7 1 objectInit ∈ gw_tbl := gw_mem (List.mem_of_getElem? (i := 77) (by decide +kernel)) (by decide +kernel)
set_option maxRecDepth 20000 in
theorem gn_RX7_9 : Cond.methodLinkNest RX7 9 yX5_init RX7 ∈ gw_nst := gw_nmem (List.mem_of_getElem? (i := 82) (by decide +kernel)) (by decide +kernel)
set_option maxRecDepth 20000 in
theorem gl_RX5_3 : Cond.methodLink RX5 3 objectInit ∈ gw_tbl := gw_mem (List.mem_of_getElem? (i := 85) (by decide +kernel)) (by decide +kernel)
set_option maxRecDepth 20000 in
theorem gl_RX5_9 : Cond.fieldLink RX5 9 RX5 "signs" "[C" ∈ gw_tbl := gw_mem (List.mem_of_getElem? (i := 86) (by decide +kernel)) (by decide +kernel)
set_option maxRecDepth 20000 in
theorem gl_RX5_15 : Cond.fieldLink RX5 15 RX5 "size" "I" ∈ gw_tbl := gw_mem (List.mem_of_getElem? (i := 87) (by decide +kernel)) (by decide +kernel)
set_option maxRecDepth 20000 in
theorem gn_RX7_18 : Cond.methodLinkNest RX7 18 yX3_init RX7 ∈ gw_nst := gw_nmem (List.mem_of_getElem? (i := 96) (by decide +kernel)) (by decide +kernel)
set_option maxRecDepth 20000 in
theorem gl_RX3_3 : Cond.methodLink RX3 3 objectInit ∈ gw_tbl := gw_mem (List.mem_of_getElem? (i := 99) (by decide +kernel)) (by decide +kernel)
set_option maxRecDepth 20000 in
theorem gl_RX3_36 : Cond.fieldLink RX3 36 RX3 "modules" "I" ∈ gw_tbl := gw_mem (List.mem_of_getElem? (i := 100) (by decide +kernel)) (by decide +kernel)
set_option maxRecDepth 20000 in
theorem gn_RX4_15 : Cond.fieldLinkNest RX4 15 RX3 "modules" "I" RX7 ∈ gw_nst := gw_nmem (List.mem_of_getElem? (i := 101) (by decide +kernel)) (by decide +kernel)
set_option maxRecDepth 20000 in
theorem gn_RX0_60 : Cond.fieldLinkNest RX0 60 RX3 "modules" "I" RX7 ∈ gw_nst := gw_nmem (List.mem_of_getElem? (i := 102) (by decide +kernel)) (by decide +kernel)
set_option maxRecDepth 20000 in
theorem gn_RX6_34 : Cond.fieldLinkNest RX6 34 RX3 "modules" "I" RX7 ∈ gw_nst := gw_nmem (List.mem_of_getElem? (i := 103) (by decide +kernel)) (by decide +kernel)
set_option maxRecDepth 20000 in
theorem gn_RX7_113 : Cond.fieldLinkNest RX7 113 RX3 "modules" "I" RX7 ∈ gw_nst := gw_nmem (List.mem_of_getElem? (i := 104) (by decide +kernel)) (by decide +kernel)
set_option maxRecDepth 20000 in
theorem gl_RX3_9 : Cond.fieldLink RX3 9 RX3 "uses" "[I" ∈ gw_tbl := gw_mem (List.mem_of_getElem? (i := 105) (by decide +kernel)) (by decide +kernel)
set_option maxRecDepth 20000 in
theorem gn_RX7_146 : Cond.fieldLinkNest RX7 146 RX3 "uses" "[I" RX7 ∈ gw_nst := gw_nmem (List.mem_of_getElem? (i := 106) (by decide +kernel)) (by decide +kernel)
set_option maxRecDepth 20000 in
theorem gl_RX3_15 : Cond.fieldLink RX3 15 RX3 "makes" "[I" ∈ gw_tbl := gw_mem (List.mem_of_getElem? (i := 107) (by decide +kernel)) (by decide +kernel)
set_option maxRecDepth 20000 in
theorem gn_RX7_150 : Cond.fieldLinkNest RX7 150 RX3 "makes" "[I" RX7 ∈ gw_nst := gw_nmem (List.mem_of_getElem? (i := 108) (by decide +kernel)) (by decide +kernel)
set_option maxRecDepth 20000 in
theorem gl_RX3_18 : Cond.fieldLink RX3 18 RX3 "worked" "[I" ∈ gw_tbl := gw_mem (List.mem_of_getElem? (i := 109) (by decide +kernel)) (by decide +kernel)
set_option maxRecDepth 20000 in
theorem gn_RX7_153 : Cond.fieldLinkNest RX7 153 RX3 "worked" "[I" RX7 ∈ gw_nst := gw_nmem (List.mem_of_getElem? (i := 110) (by decide +kernel)) (by decide +kernel)
set_option maxRecDepth 20000 in
theorem gl_RX3_40 : Cond.fieldLink RX3 40 RX3 "wires" "I" ∈ gw_tbl := gw_mem (List.mem_of_getElem? (i := 111) (by decide +kernel)) (by decide +kernel)
set_option maxRecDepth 20000 in
theorem gn_RX6_15 : Cond.fieldLinkNest RX6 15 RX3 "wires" "I" RX7 ∈ gw_nst := gw_nmem (List.mem_of_getElem? (i := 112) (by decide +kernel)) (by decide +kernel)
set_option maxRecDepth 20000 in
theorem gn_RX4_26 : Cond.fieldLinkNest RX4 26 RX3 "wires" "I" RX7 ∈ gw_nst := gw_nmem (List.mem_of_getElem? (i := 113) (by decide +kernel)) (by decide +kernel)
set_option maxRecDepth 20000 in
theorem gn_RX0_70 : Cond.fieldLinkNest RX0 70 RX3 "wires" "I" RX7 ∈ gw_nst := gw_nmem (List.mem_of_getElem? (i := 114) (by decide +kernel)) (by decide +kernel)
set_option maxRecDepth 20000 in
theorem gn_RX7_117 : Cond.fieldLinkNest RX7 117 RX3 "wires" "I" RX7 ∈ gw_nst := gw_nmem (List.mem_of_getElem? (i := 115) (by decide +kernel)) (by decide +kernel)
set_option maxRecDepth 20000 in
theorem gl_RX3_21 : Cond.fieldLink RX3 21 RX3 "from" "[I" ∈ gw_tbl := gw_mem (List.mem_of_getElem? (i := 116) (by decide +kernel)) (by decide +kernel)
set_option maxRecDepth 20000 in
theorem gn_RX6_21 : Cond.fieldLinkNest RX6 21 RX3 "from" "[I" RX7 ∈ gw_nst := gw_nmem (List.mem_of_getElem? (i := 117) (by decide +kernel)) (by decide +kernel)
set_option maxRecDepth 20000 in
theorem gn_RX4_29 : Cond.fieldLinkNest RX4 29 RX3 "from" "[I" RX7 ∈ gw_nst := gw_nmem (List.mem_of_getElem? (i := 118) (by decide +kernel)) (by decide +kernel)
set_option maxRecDepth 20000 in
theorem gn_RX7_166 : Cond.fieldLinkNest RX7 166 RX3 "from" "[I" RX7 ∈ gw_nst := gw_nmem (List.mem_of_getElem? (i := 119) (by decide +kernel)) (by decide +kernel)
set_option maxRecDepth 20000 in
theorem gl_RX3_24 : Cond.fieldLink RX3 24 RX3 "to" "[I" ∈ gw_tbl := gw_mem (List.mem_of_getElem? (i := 120) (by decide +kernel)) (by decide +kernel)
set_option maxRecDepth 20000 in
theorem gn_RX6_24 : Cond.fieldLinkNest RX6 24 RX3 "to" "[I" RX7 ∈ gw_nst := gw_nmem (List.mem_of_getElem? (i := 121) (by decide +kernel)) (by decide +kernel)
set_option maxRecDepth 20000 in
theorem gn_RX4_35 : Cond.fieldLinkNest RX4 35 RX3 "to" "[I" RX7 ∈ gw_nst := gw_nmem (List.mem_of_getElem? (i := 122) (by decide +kernel)) (by decide +kernel)
set_option maxRecDepth 20000 in
theorem gn_RX7_159 : Cond.fieldLinkNest RX7 159 RX3 "to" "[I" RX7 ∈ gw_nst := gw_nmem (List.mem_of_getElem? (i := 123) (by decide +kernel)) (by decide +kernel)
set_option maxRecDepth 20000 in
theorem gl_RX3_27 : Cond.fieldLink RX3 27 RX3 "comes" "[I" ∈ gw_tbl := gw_mem (List.mem_of_getElem? (i := 124) (by decide +kernel)) (by decide +kernel)
set_option maxRecDepth 20000 in
theorem gn_RX4_32 : Cond.fieldLinkNest RX4 32 RX3 "comes" "[I" RX7 ∈ gw_nst := gw_nmem (List.mem_of_getElem? (i := 125) (by decide +kernel)) (by decide +kernel)
set_option maxRecDepth 20000 in
theorem gn_RX7_172 : Cond.fieldLinkNest RX7 172 RX3 "comes" "[I" RX7 ∈ gw_nst := gw_nmem (List.mem_of_getElem? (i := 126) (by decide +kernel)) (by decide +kernel)
set_option maxRecDepth 20000 in
theorem gl_RX3_30 : Cond.fieldLink RX3 30 RX3 "used" "[I" ∈ gw_tbl := gw_mem (List.mem_of_getElem? (i := 127) (by decide +kernel)) (by decide +kernel)
set_option maxRecDepth 20000 in
theorem gn_RX4_38 : Cond.fieldLinkNest RX4 38 RX3 "used" "[I" RX7 ∈ gw_nst := gw_nmem (List.mem_of_getElem? (i := 128) (by decide +kernel)) (by decide +kernel)
set_option maxRecDepth 20000 in
theorem gn_RX7_175 : Cond.fieldLinkNest RX7 175 RX3 "used" "[I" RX7 ∈ gw_nst := gw_nmem (List.mem_of_getElem? (i := 129) (by decide +kernel)) (by decide +kernel)
set_option maxRecDepth 20000 in
theorem gl_RX3_33 : Cond.fieldLink RX3 33 RX3 "marks" "[I" ∈ gw_tbl := gw_mem (List.mem_of_getElem? (i := 130) (by decide +kernel)) (by decide +kernel)
set_option maxRecDepth 20000 in
theorem gn_RX6_27 : Cond.fieldLinkNest RX6 27 RX3 "marks" "[I" RX7 ∈ gw_nst := gw_nmem (List.mem_of_getElem? (i := 131) (by decide +kernel)) (by decide +kernel)
set_option maxRecDepth 20000 in
theorem gn_RX0_73 : Cond.fieldLinkNest RX0 73 RX3 "marks" "[I" RX7 ∈ gw_nst := gw_nmem (List.mem_of_getElem? (i := 132) (by decide +kernel)) (by decide +kernel)
set_option maxRecDepth 20000 in
theorem gn_RX7_178 : Cond.fieldLinkNest RX7 178 RX3 "marks" "[I" RX7 ∈ gw_nst := gw_nmem (List.mem_of_getElem? (i := 133) (by decide +kernel)) (by decide +kernel)
set_option maxRecDepth 20000 in
theorem gl_RX7_25 : Cond.methodLink RX7 25 yX2_init ∈ gw_tbl := gw_mem (List.mem_of_getElem? (i := 158) (by decide +kernel)) (by decide +kernel)
set_option maxRecDepth 20000 in
theorem gl_RX2_3 : Cond.methodLink RX2 3 objectInit ∈ gw_tbl := gw_mem (List.mem_of_getElem? (i := 161) (by decide +kernel)) (by decide +kernel)
set_option maxRecDepth 20000 in
theorem gn_RX2_17 : Cond.methodLinkNest RX2 17 yX3_init RX7 ∈ gw_nst := gw_nmem (List.mem_of_getElem? (i := 164) (by decide +kernel)) (by decide +kernel)
set_option maxRecDepth 20000 in
theorem gl_RX2_11 : Cond.fieldLink RX2 11 RX2 "states" "[LRateWires$Plan;" ∈ gw_tbl := gw_mem (List.mem_of_getElem? (i := 165) (by decide +kernel)) (by decide +kernel)
set_option maxRecDepth 20000 in
theorem gl_RX2_22 : Cond.fieldLink RX2 22 RX2 "oldest" "I" ∈ gw_tbl := gw_mem (List.mem_of_getElem? (i := 166) (by decide +kernel)) (by decide +kernel)
set_option maxRecDepth 20000 in
theorem gl_RX2_18 : Cond.fieldLink RX2 18 RX2 "size" "I" ∈ gw_tbl := gw_mem (List.mem_of_getElem? (i := 167) (by decide +kernel)) (by decide +kernel)
set_option maxRecDepth 20000 in
theorem gn_RX7_43 : Cond.methodLinkNest RX7 43 yX0_init RX7 ∈ gw_nst := gw_nmem (List.mem_of_getElem? (i := 177) (by decide +kernel)) (by decide +kernel)
set_option maxRecDepth 20000 in
theorem gl_RX0_3 : Cond.methodLink RX0 3 objectInit ∈ gw_tbl := gw_mem (List.mem_of_getElem? (i := 180) (by decide +kernel)) (by decide +kernel)
set_option maxRecDepth 20000 in
theorem gn_RX0_11 : Cond.methodLinkNest RX0 11 yX4_init RX7 ∈ gw_nst := gw_nmem (List.mem_of_getElem? (i := 183) (by decide +kernel)) (by decide +kernel)
set_option maxRecDepth 20000 in
theorem gl_RX4_3 : Cond.methodLink RX4 3 objectInit ∈ gw_tbl := gw_mem (List.mem_of_getElem? (i := 186) (by decide +kernel)) (by decide +kernel)
set_option maxRecDepth 20000 in
theorem gl_RX4_9 : Cond.fieldLink RX4 9 RX4 "due" "[I" ∈ gw_tbl := gw_mem (List.mem_of_getElem? (i := 187) (by decide +kernel)) (by decide +kernel)
set_option maxRecDepth 20000 in
theorem gn_RX0_63 : Cond.fieldLinkNest RX0 63 RX4 "due" "[I" RX7 ∈ gw_nst := gw_nmem (List.mem_of_getElem? (i := 188) (by decide +kernel)) (by decide +kernel)
set_option maxRecDepth 20000 in
theorem gn_RX7_156 : Cond.fieldLinkNest RX7 156 RX4 "due" "[I" RX7 ∈ gw_nst := gw_nmem (List.mem_of_getElem? (i := 189) (by decide +kernel)) (by decide +kernel)
set_option maxRecDepth 20000 in
theorem gl_RX4_21 : Cond.fieldLink RX4 21 RX4 "modules" "I" ∈ gw_tbl := gw_mem (List.mem_of_getElem? (i := 190) (by decide +kernel)) (by decide +kernel)
set_option maxRecDepth 20000 in
theorem gn_RX0_20 : Cond.methodLinkNest RX0 20 yX3_init RX7 ∈ gw_nst := gw_nmem (List.mem_of_getElem? (i := 198) (by decide +kernel)) (by decide +kernel)
set_option maxRecDepth 20000 in
theorem gl_RX0_12 : Cond.fieldLink RX0 12 RX0 "rates" "LRateWires$Rates;" ∈ gw_tbl := gw_mem (List.mem_of_getElem? (i := 199) (by decide +kernel)) (by decide +kernel)
set_option maxRecDepth 20000 in
theorem gl_RX0_21 : Cond.fieldLink RX0 21 RX0 "plan" "LRateWires$Plan;" ∈ gw_tbl := gw_mem (List.mem_of_getElem? (i := 200) (by decide +kernel)) (by decide +kernel)
set_option maxRecDepth 20000 in
theorem gl_RX0_25 : Cond.fieldLink RX0 25 RX0 "left" "[I" ∈ gw_tbl := gw_mem (List.mem_of_getElem? (i := 201) (by decide +kernel)) (by decide +kernel)
set_option maxRecDepth 20000 in
theorem gl_RX0_29 : Cond.fieldLink RX0 29 RX0 "gains" "[I" ∈ gw_tbl := gw_mem (List.mem_of_getElem? (i := 202) (by decide +kernel)) (by decide +kernel)
set_option maxRecDepth 20000 in
theorem gl_RX0_32 : Cond.fieldLink RX0 32 RX0 "steps" "[I" ∈ gw_tbl := gw_mem (List.mem_of_getElem? (i := 203) (by decide +kernel)) (by decide +kernel)
set_option maxRecDepth 20000 in
theorem gl_RX0_35 : Cond.fieldLink RX0 35 RX0 "most" "[I" ∈ gw_tbl := gw_mem (List.mem_of_getElem? (i := 204) (by decide +kernel)) (by decide +kernel)
set_option maxRecDepth 20000 in
theorem gn_RX7_255 : Cond.fieldLinkNest RX7 255 RX0 "most" "[I" RX7 ∈ gw_nst := gw_nmem (List.mem_of_getElem? (i := 205) (by decide +kernel)) (by decide +kernel)
set_option maxRecDepth 20000 in
theorem gl_RX0_46 : Cond.fieldLink RX0 46 RX0 "agree" "Z" ∈ gw_tbl := gw_mem (List.mem_of_getElem? (i := 206) (by decide +kernel)) (by decide +kernel)
set_option maxRecDepth 20000 in
theorem gn_RX7_248 : Cond.fieldLinkNest RX7 248 RX0 "agree" "Z" RX7 ∈ gw_nst := gw_nmem (List.mem_of_getElem? (i := 207) (by decide +kernel)) (by decide +kernel)
set_option maxRecDepth 20000 in
theorem gl_RX0_54 : Cond.fieldLink RX0 54 RX0 "total" "I" ∈ gw_tbl := gw_mem (List.mem_of_getElem? (i := 208) (by decide +kernel)) (by decide +kernel)
set_option maxRecDepth 20000 in
theorem gl_RX0_57 : Cond.fieldLink RX0 57 RX0 "length" "I" ∈ gw_tbl := gw_mem (List.mem_of_getElem? (i := 209) (by decide +kernel)) (by decide +kernel)
set_option maxRecDepth 20000 in
theorem gn_RX7_252 : Cond.fieldLinkNest RX7 252 RX0 "length" "I" RX7 ∈ gw_nst := gw_nmem (List.mem_of_getElem? (i := 210) (by decide +kernel)) (by decide +kernel)
set_option maxRecDepth 20000 in
theorem gn_RX7_50 : Cond.methodLinkNest RX7 50 yX4_init RX7 ∈ gw_nst := gw_nmem (List.mem_of_getElem? (i := 231) (by decide +kernel)) (by decide +kernel)
set_option maxRecDepth 20000 in
theorem gn_RX7_57 : Cond.methodLinkNest RX7 57 yX6_init RX7 ∈ gw_nst := gw_nmem (List.mem_of_getElem? (i := 234) (by decide +kernel)) (by decide +kernel)
set_option maxRecDepth 20000 in
theorem gl_RX6_3 : Cond.methodLink RX6 3 objectInit ∈ gw_tbl := gw_mem (List.mem_of_getElem? (i := 237) (by decide +kernel)) (by decide +kernel)
set_option maxRecDepth 20000 in
theorem gl_RX6_9 : Cond.fieldLink RX6 9 RX6 "near" "[I" ∈ gw_tbl := gw_mem (List.mem_of_getElem? (i := 238) (by decide +kernel)) (by decide +kernel)
set_option maxRecDepth 20000 in
theorem gl_RX7_10 : Cond.fieldLink RX7 10 RX7 "text" "LRateWires$Text;" ∈ gw_tbl := gw_mem (List.mem_of_getElem? (i := 242) (by decide +kernel)) (by decide +kernel)
set_option maxRecDepth 20000 in
theorem gl_RX7_19 : Cond.fieldLink RX7 19 RX7 "plan" "LRateWires$Plan;" ∈ gw_tbl := gw_mem (List.mem_of_getElem? (i := 243) (by decide +kernel)) (by decide +kernel)
set_option maxRecDepth 20000 in
theorem gl_RX7_26 : Cond.fieldLink RX7 26 RX7 "history" "LRateWires$History;" ∈ gw_tbl := gw_mem (List.mem_of_getElem? (i := 244) (by decide +kernel)) (by decide +kernel)
set_option maxRecDepth 20000 in
theorem gl_RX7_30 : Cond.fieldLink RX7 30 RX7 "slots" "[LRateWires$Plan;" ∈ gw_tbl := gw_mem (List.mem_of_getElem? (i := 245) (by decide +kernel)) (by decide +kernel)
set_option maxRecDepth 20000 in
theorem gl_RX7_34 : Cond.fieldLink RX7 34 RX7 "saved" "[Z" ∈ gw_tbl := gw_mem (List.mem_of_getElem? (i := 246) (by decide +kernel)) (by decide +kernel)
set_option maxRecDepth 20000 in
theorem gl_RX7_38 : Cond.fieldLink RX7 38 RX7 "copy" "LRateWires$Plan;" ∈ gw_tbl := gw_mem (List.mem_of_getElem? (i := 247) (by decide +kernel)) (by decide +kernel)
set_option maxRecDepth 20000 in
theorem gl_RX7_44 : Cond.fieldLink RX7 44 RX7 "course" "LRateWires$Course;" ∈ gw_tbl := gw_mem (List.mem_of_getElem? (i := 248) (by decide +kernel)) (by decide +kernel)
set_option maxRecDepth 20000 in
theorem gl_RX7_51 : Cond.fieldLink RX7 51 RX7 "rates" "LRateWires$Rates;" ∈ gw_tbl := gw_mem (List.mem_of_getElem? (i := 249) (by decide +kernel)) (by decide +kernel)
set_option maxRecDepth 20000 in
theorem gl_RX7_58 : Cond.fieldLink RX7 58 RX7 "ways" "LRateWires$Ways;" ∈ gw_tbl := gw_mem (List.mem_of_getElem? (i := 250) (by decide +kernel)) (by decide +kernel)
set_option maxRecDepth 20000 in
theorem gl_RL_100 : Cond.methodLink RL 100 yX7_clearText ∈ gw_tbl := gw_mem (List.mem_of_getElem? (i := 270) (by decide +kernel)) (by decide +kernel)
set_option maxRecDepth 20000 in
theorem gl_RX7_87 : Cond.methodLink RX7 87 yX5_empty ∈ gw_tbl := gw_mem (List.mem_of_getElem? (i := 274) (by decide +kernel)) (by decide +kernel)
set_option maxRecDepth 20000 in
theorem gl_RL_104 : Cond.methodLink RL 104 yX7_errorPosition ∈ gw_tbl := gw_mem (List.mem_of_getElem? (i := 278) (by decide +kernel)) (by decide +kernel)
set_option maxRecDepth 20000 in
theorem gl_RX7_91 : Cond.methodLink RX7 91 yX5_firstError ∈ gw_tbl := gw_mem (List.mem_of_getElem? (i := 282) (by decide +kernel)) (by decide +kernel)
set_option maxRecDepth 20000 in
theorem gl_RX5_19 : Cond.methodLink RX5 19 yX5_at ∈ gw_tbl := gw_mem (List.mem_of_getElem? (i := 286) (by decide +kernel)) (by decide +kernel)
set_option maxRecDepth 20000 in
theorem gl_RX5_23 : Cond.methodLink RX5 23 yX5_errorOfCommand ∈ gw_tbl := gw_mem (List.mem_of_getElem? (i := 290) (by decide +kernel)) (by decide +kernel)
set_option maxRecDepth 20000 in
theorem gl_RX5_27 : Cond.methodLink RX5 27 yX5_digitsOf ∈ gw_tbl := gw_mem (List.mem_of_getElem? (i := 294) (by decide +kernel)) (by decide +kernel)
set_option maxRecDepth 20000 in
theorem gl_RX5_31 : Cond.methodLink RX5 31 yX5_lowest ∈ gw_tbl := gw_mem (List.mem_of_getElem? (i := 297) (by decide +kernel)) (by decide +kernel)
set_option maxRecDepth 20000 in
theorem gl_RX5_35 : Cond.methodLink RX5 35 yX5_highest ∈ gw_tbl := gw_mem (List.mem_of_getElem? (i := 300) (by decide +kernel)) (by decide +kernel)
set_option maxRecDepth 20000 in
theorem gl_RL_156 : Cond.methodLink RL 156 yX7_bestRule ∈ gw_tbl := gw_mem (List.mem_of_getElem? (i := 303) (by decide +kernel)) (by decide +kernel)
set_option maxRecDepth 20000 in
theorem gl_RX7_225 : Cond.methodLink RX7 225 yX0_follow ∈ gw_tbl := gw_mem (List.mem_of_getElem? (i := 307) (by decide +kernel)) (by decide +kernel)
set_option maxRecDepth 20000 in
theorem gl_RX0_38 : Cond.methodLink RX0 38 yX3_become ∈ gw_tbl := gw_mem (List.mem_of_getElem? (i := 311) (by decide +kernel)) (by decide +kernel)
set_option maxRecDepth 20000 in
theorem gl_RX3_43 : Cond.methodLink RX3 43 arraycopyName ∈ gw_tbl := gw_mem (List.mem_of_getElem? (i := 315) (by decide +kernel)) (by decide +kernel)
set_option maxRecDepth 20000 in
theorem gl_RX0_42 : Cond.methodLink RX0 42 yX4_agreeIn ∈ gw_tbl := gw_mem (List.mem_of_getElem? (i := 318) (by decide +kernel)) (by decide +kernel)
set_option maxRecDepth 20000 in
theorem gl_RX4_22 : Cond.methodLink RX4 22 yX4_findsPart ∈ gw_tbl := gw_mem (List.mem_of_getElem? (i := 322) (by decide +kernel)) (by decide +kernel)
set_option maxRecDepth 20000 in
theorem gl_RX4_41 : Cond.methodLink RX4 41 yX4_joins ∈ gw_tbl := gw_mem (List.mem_of_getElem? (i := 326) (by decide +kernel)) (by decide +kernel)
set_option maxRecDepth 20000 in
theorem gl_RX0_50 : Cond.methodLink RX0 50 yX4_total ∈ gw_tbl := gw_mem (List.mem_of_getElem? (i := 330) (by decide +kernel)) (by decide +kernel)
set_option maxRecDepth 20000 in
theorem gl_RX0_66 : Cond.methodLink RX0 66 yX3_gain ∈ gw_tbl := gw_mem (List.mem_of_getElem? (i := 334) (by decide +kernel)) (by decide +kernel)
set_option maxRecDepth 20000 in
theorem gl_RX3_78 : Cond.methodLink RX3 78 yX3_marksBehind ∈ gw_tbl := gw_mem (List.mem_of_getElem? (i := 338) (by decide +kernel)) (by decide +kernel)
set_option maxRecDepth 20000 in
theorem gl_RX0_76 : Cond.methodLink RX0 76 yX0_choose ∈ gw_tbl := gw_mem (List.mem_of_getElem? (i := 342) (by decide +kernel)) (by decide +kernel)
set_option maxRecDepth 20000 in
theorem gl_RX0_114 : Cond.methodLink RX0 114 yX0_step ∈ gw_tbl := gw_mem (List.mem_of_getElem? (i := 346) (by decide +kernel)) (by decide +kernel)
set_option maxRecDepth 20000 in
theorem gl_RX0_117 : Cond.methodLink RX0 117 yX3_canWork ∈ gw_tbl := gw_mem (List.mem_of_getElem? (i := 350) (by decide +kernel)) (by decide +kernel)
set_option maxRecDepth 20000 in
theorem gl_RX0_79 : Cond.methodLink RX0 79 yX0_take ∈ gw_tbl := gw_mem (List.mem_of_getElem? (i := 354) (by decide +kernel)) (by decide +kernel)
set_option maxRecDepth 20000 in
theorem gl_RX0_105 : Cond.methodLink RX0 105 yX3_doWork ∈ gw_tbl := gw_mem (List.mem_of_getElem? (i := 358) (by decide +kernel)) (by decide +kernel)
set_option maxRecDepth 20000 in
theorem gl_RX0_108 : Cond.methodLink RX0 108 Lib.Math.max.name ∈ gw_tbl := gw_mem (List.mem_of_getElem? (i := 362) (by decide +kernel)) (by decide +kernel)
set_option maxRecDepth 20000 in
theorem gl_RX7_229 : Cond.methodLink RX7 229 yX0_isComplete ∈ gw_tbl := gw_mem (List.mem_of_getElem? (i := 365) (by decide +kernel)) (by decide +kernel)
set_option maxRecDepth 20000 in
theorem gl_RX7_258 : Cond.methodLink RX7 258 yX0_allMost ∈ gw_tbl := gw_mem (List.mem_of_getElem? (i := 369) (by decide +kernel)) (by decide +kernel)
set_option maxRecDepth 20000 in
theorem gl_RL_91 : Cond.methodLink RL 91 yL_append ∈ gw_tbl := gw_mem (List.mem_of_getElem? (i := 373) (by decide +kernel)) (by decide +kernel)
set_option maxRecDepth 20000 in
theorem gl_RL_7 : Cond.methodLink RL 7 yX7_append ∈ gw_tbl := gw_mem (List.mem_of_getElem? (i := 378) (by decide +kernel)) (by decide +kernel)
set_option maxRecDepth 20000 in
theorem gl_RX7_62 : Cond.methodLink RX7 62 yX7_range ∈ gw_tbl := gw_mem (List.mem_of_getElem? (i := 382) (by decide +kernel)) (by decide +kernel)
set_option maxRecDepth 20000 in
theorem gl_RX7_242 : Cond.fieldLink RX7 242 RX1 "RANGE" "LRateWires$Fault;" ∈ gw_tbl := gw_mem (List.mem_of_getElem? (i := 385) (by decide +kernel)) (by decide +kernel)
set_option maxRecDepth 20000 in
theorem gl_RX7_80 : Cond.fieldLink RX7 80 RX1 "FINE" "LRateWires$Fault;" ∈ gw_tbl := gw_mem (List.mem_of_getElem? (i := 387) (by decide +kernel)) (by decide +kernel)
set_option maxRecDepth 20000 in
theorem gl_RX7_66 : Cond.methodLink RX7 66 yX7_refuse ∈ gw_tbl := gw_mem (List.mem_of_getElem? (i := 389) (by decide +kernel)) (by decide +kernel)
set_option maxRecDepth 20000 in
theorem gl_RX7_292 : Cond.fieldLink RX7 292 RX1 "NO_SUCH" "LRateWires$Fault;" ∈ gw_tbl := gw_mem (List.mem_of_getElem? (i := 392) (by decide +kernel)) (by decide +kernel)
set_option maxRecDepth 20000 in
theorem gl_RX7_299 : Cond.methodLink RX7 299 (⟨"java/lang/IndexOutOfBoundsException", "<init>", "(Ljava/lang/String;)V"⟩ : MethodName) ∈ gw_tbl := gw_mem (List.mem_of_getElem? (i := 436) (by decide +kernel)) (by decide +kernel)
set_option maxRecDepth 20000 in
theorem gl_RX7_306 : Cond.methodLink RX7 306 (⟨"java/lang/IllegalArgumentException", "<init>", "(Ljava/lang/String;)V"⟩ : MethodName) ∈ gw_tbl := gw_mem (List.mem_of_getElem? (i := 472) (by decide +kernel)) (by decide +kernel)
set_option maxRecDepth 20000 in
theorem gl_RX7_74 : Cond.fieldLink RX7 74 RX1 "STATE" "LRateWires$Fault;" ∈ gw_tbl := gw_mem (List.mem_of_getElem? (i := 478) (by decide +kernel)) (by decide +kernel)
set_option maxRecDepth 20000 in
theorem gl_RX7_311 : Cond.methodLink RX7 311 (⟨"java/lang/IllegalStateException", "<init>", "(Ljava/lang/String;)V"⟩ : MethodName) ∈ gw_tbl := gw_mem (List.mem_of_getElem? (i := 490) (by decide +kernel)) (by decide +kernel)
set_option maxRecDepth 20000 in
theorem gl_RX7_70 : Cond.methodLink RX7 70 yX5_isFull ∈ gw_tbl := gw_mem (List.mem_of_getElem? (i := 496) (by decide +kernel)) (by decide +kernel)
set_option maxRecDepth 20000 in
theorem gl_RX7_83 : Cond.methodLink RX7 83 yX5_add ∈ gw_tbl := gw_mem (List.mem_of_getElem? (i := 500) (by decide +kernel)) (by decide +kernel)
set_option maxRecDepth 20000 in
theorem gl_RL_108 : Cond.methodLink RL 108 yL_load ∈ gw_tbl := gw_mem (List.mem_of_getElem? (i := 504) (by decide +kernel)) (by decide +kernel)
set_option maxRecDepth 20000 in
theorem gl_RL_17 : Cond.methodLink RL 17 yX7_load ∈ gw_tbl := gw_mem (List.mem_of_getElem? (i := 507) (by decide +kernel)) (by decide +kernel)
set_option maxRecDepth 20000 in
theorem gl_RX7_94 : Cond.methodLink RX7 94 yX3_empty ∈ gw_tbl := gw_mem (List.mem_of_getElem? (i := 511) (by decide +kernel)) (by decide +kernel)
set_option maxRecDepth 20000 in
theorem gl_RX7_96 : Cond.methodLink RX7 96 yX2_forget ∈ gw_tbl := gw_mem (List.mem_of_getElem? (i := 515) (by decide +kernel)) (by decide +kernel)
set_option maxRecDepth 20000 in
theorem gl_RX7_99 : Cond.methodLink RX7 99 yX5_size ∈ gw_tbl := gw_mem (List.mem_of_getElem? (i := 519) (by decide +kernel)) (by decide +kernel)
set_option maxRecDepth 20000 in
theorem gl_RX7_102 : Cond.methodLink RX7 102 yX7_obeysText ∈ gw_tbl := gw_mem (List.mem_of_getElem? (i := 523) (by decide +kernel)) (by decide +kernel)
set_option maxRecDepth 20000 in
theorem gl_RX7_106 : Cond.methodLink RX7 106 yX5_at ∈ gw_tbl := gw_mem (List.mem_of_getElem? (i := 527) (by decide +kernel)) (by decide +kernel)
set_option maxRecDepth 20000 in
theorem gl_RX7_312 : Cond.methodLink RX7 312 yX5_digit ∈ gw_tbl := gw_mem (List.mem_of_getElem? (i := 528) (by decide +kernel)) (by decide +kernel)
set_option maxRecDepth 20000 in
theorem gl_RX7_315 : Cond.methodLink RX7 315 yX3_triesModule ∈ gw_tbl := gw_mem (List.mem_of_getElem? (i := 532) (by decide +kernel)) (by decide +kernel)
set_option maxRecDepth 20000 in
theorem gl_RX3_82 : Cond.methodLink RX3 82 yX3_newModuleFault ∈ gw_tbl := gw_mem (List.mem_of_getElem? (i := 536) (by decide +kernel)) (by decide +kernel)
set_option maxRecDepth 20000 in
theorem gl_RX3_65 : Cond.fieldLink RX3 65 RX1 "RANGE" "LRateWires$Fault;" ∈ gw_tbl := gw_mem (List.mem_of_getElem? (i := 540) (by decide +kernel)) (by decide +kernel)
set_option maxRecDepth 20000 in
theorem gl_RX3_68 : Cond.fieldLink RX3 68 RX1 "STATE" "LRateWires$Fault;" ∈ gw_tbl := gw_mem (List.mem_of_getElem? (i := 541) (by decide +kernel)) (by decide +kernel)
set_option maxRecDepth 20000 in
theorem gl_RX3_53 : Cond.fieldLink RX3 53 RX1 "FINE" "LRateWires$Fault;" ∈ gw_tbl := gw_mem (List.mem_of_getElem? (i := 542) (by decide +kernel)) (by decide +kernel)
set_option maxRecDepth 20000 in
theorem gl_RX3_86 : Cond.methodLink RX3 86 yX3_newModule ∈ gw_tbl := gw_mem (List.mem_of_getElem? (i := 543) (by decide +kernel)) (by decide +kernel)
set_option maxRecDepth 20000 in
theorem gl_RX7_318 : Cond.methodLink RX7 318 yX3_triesWire ∈ gw_tbl := gw_mem (List.mem_of_getElem? (i := 547) (by decide +kernel)) (by decide +kernel)
set_option maxRecDepth 20000 in
theorem gl_RX3_89 : Cond.methodLink RX3 89 yX3_newWireFault ∈ gw_tbl := gw_mem (List.mem_of_getElem? (i := 551) (by decide +kernel)) (by decide +kernel)
set_option maxRecDepth 20000 in
theorem gl_RX3_49 : Cond.methodLink RX3 49 yX3_hasModule ∈ gw_tbl := gw_mem (List.mem_of_getElem? (i := 555) (by decide +kernel)) (by decide +kernel)
set_option maxRecDepth 20000 in
theorem gl_RX3_59 : Cond.fieldLink RX3 59 RX1 "NO_SUCH" "LRateWires$Fault;" ∈ gw_tbl := gw_mem (List.mem_of_getElem? (i := 559) (by decide +kernel)) (by decide +kernel)
set_option maxRecDepth 20000 in
theorem gl_RX3_71 : Cond.methodLink RX3 71 yX3_closesDeadLoop ∈ gw_tbl := gw_mem (List.mem_of_getElem? (i := 560) (by decide +kernel)) (by decide +kernel)
set_option maxRecDepth 20000 in
theorem gl_RX3_115 : Cond.methodLink RX3 115 yX3_reached ∈ gw_tbl := gw_mem (List.mem_of_getElem? (i := 564) (by decide +kernel)) (by decide +kernel)
set_option maxRecDepth 20000 in
theorem gl_RX3_93 : Cond.methodLink RX3 93 yX3_newWire ∈ gw_tbl := gw_mem (List.mem_of_getElem? (i := 568) (by decide +kernel)) (by decide +kernel)
set_option maxRecDepth 20000 in
theorem gl_RX7_322 : Cond.methodLink RX7 322 yX3_triesCut ∈ gw_tbl := gw_mem (List.mem_of_getElem? (i := 572) (by decide +kernel)) (by decide +kernel)
set_option maxRecDepth 20000 in
theorem gl_RX3_62 : Cond.methodLink RX3 62 yX3_hasWire ∈ gw_tbl := gw_mem (List.mem_of_getElem? (i := 576) (by decide +kernel)) (by decide +kernel)
set_option maxRecDepth 20000 in
theorem gl_RX3_97 : Cond.methodLink RX3 97 yX3_dropWire ∈ gw_tbl := gw_mem (List.mem_of_getElem? (i := 580) (by decide +kernel)) (by decide +kernel)
set_option maxRecDepth 20000 in
theorem gl_RX7_325 : Cond.methodLink RX7 325 yX3_triesWork ∈ gw_tbl := gw_mem (List.mem_of_getElem? (i := 584) (by decide +kernel)) (by decide +kernel)
set_option maxRecDepth 20000 in
theorem gl_RX3_107 : Cond.methodLink RX3 107 yX3_workFault ∈ gw_tbl := gw_mem (List.mem_of_getElem? (i := 588) (by decide +kernel)) (by decide +kernel)
set_option maxRecDepth 20000 in
theorem gl_RX3_75 : Cond.methodLink RX3 75 yX3_canWork ∈ gw_tbl := gw_mem (List.mem_of_getElem? (i := 592) (by decide +kernel)) (by decide +kernel)
set_option maxRecDepth 20000 in
theorem gl_RX3_111 : Cond.methodLink RX3 111 yX3_doWork ∈ gw_tbl := gw_mem (List.mem_of_getElem? (i := 593) (by decide +kernel)) (by decide +kernel)
set_option maxRecDepth 20000 in
theorem gl_RX7_110 : Cond.methodLink RX7 110 yX5_digitsOf ∈ gw_tbl := gw_mem (List.mem_of_getElem? (i := 594) (by decide +kernel)) (by decide +kernel)
set_option maxRecDepth 20000 in
theorem gl_RL_112 : Cond.methodLink RL 112 yL_about ∈ gw_tbl := gw_mem (List.mem_of_getElem? (i := 595) (by decide +kernel)) (by decide +kernel)
set_option maxRecDepth 20000 in
theorem gl_RL_21 : Cond.methodLink RL 21 yX7_about ∈ gw_tbl := gw_mem (List.mem_of_getElem? (i := 598) (by decide +kernel)) (by decide +kernel)
set_option maxRecDepth 20000 in
theorem gl_RX7_120 : Cond.methodLink RX7 120 yX3_allMarks ∈ gw_tbl := gw_mem (List.mem_of_getElem? (i := 602) (by decide +kernel)) (by decide +kernel)
set_option maxRecDepth 20000 in
theorem gl_RX7_123 : Cond.methodLink RX7 123 yX3_allWorks ∈ gw_tbl := gw_mem (List.mem_of_getElem? (i := 606) (by decide +kernel)) (by decide +kernel)
set_option maxRecDepth 20000 in
theorem gl_RX7_126 : Cond.methodLink RX7 126 yX4_agreeIn ∈ gw_tbl := gw_mem (List.mem_of_getElem? (i := 610) (by decide +kernel)) (by decide +kernel)
set_option maxRecDepth 20000 in
theorem gl_RX7_130 : Cond.methodLink RX7 130 yX3_parts ∈ gw_tbl := gw_mem (List.mem_of_getElem? (i := 611) (by decide +kernel)) (by decide +kernel)
set_option maxRecDepth 20000 in
theorem gl_RX3_118 : Cond.methodLink RX3 118 yX3_partOf ∈ gw_tbl := gw_mem (List.mem_of_getElem? (i := 615) (by decide +kernel)) (by decide +kernel)
set_option maxRecDepth 20000 in
theorem gl_RX7_133 : Cond.methodLink RX7 133 yX4_total ∈ gw_tbl := gw_mem (List.mem_of_getElem? (i := 619) (by decide +kernel)) (by decide +kernel)
set_option maxRecDepth 20000 in
theorem gl_RX7_136 : Cond.methodLink RX7 136 yX3_ready ∈ gw_tbl := gw_mem (List.mem_of_getElem? (i := 620) (by decide +kernel)) (by decide +kernel)
set_option maxRecDepth 20000 in
theorem gl_RX7_139 : Cond.methodLink RX7 139 yX3_onLoops ∈ gw_tbl := gw_mem (List.mem_of_getElem? (i := 624) (by decide +kernel)) (by decide +kernel)
set_option maxRecDepth 20000 in
theorem gl_RL_115 : Cond.methodLink RL 115 yL_module ∈ gw_tbl := gw_mem (List.mem_of_getElem? (i := 628) (by decide +kernel)) (by decide +kernel)
set_option maxRecDepth 20000 in
theorem gl_RL_24 : Cond.methodLink RL 24 yX7_module ∈ gw_tbl := gw_mem (List.mem_of_getElem? (i := 632) (by decide +kernel)) (by decide +kernel)
set_option maxRecDepth 20000 in
theorem gl_RX7_142 : Cond.methodLink RX7 142 yX3_moduleFault ∈ gw_tbl := gw_mem (List.mem_of_getElem? (i := 636) (by decide +kernel)) (by decide +kernel)
set_option maxRecDepth 20000 in
theorem gl_RX7_162 : Cond.methodLink RX7 162 yX3_count ∈ gw_tbl := gw_mem (List.mem_of_getElem? (i := 640) (by decide +kernel)) (by decide +kernel)
set_option maxRecDepth 20000 in
theorem gl_RL_119 : Cond.methodLink RL 119 yL_wire ∈ gw_tbl := gw_mem (List.mem_of_getElem? (i := 643) (by decide +kernel)) (by decide +kernel)
set_option maxRecDepth 20000 in
theorem gl_RL_30 : Cond.methodLink RL 30 yX7_wire ∈ gw_tbl := gw_mem (List.mem_of_getElem? (i := 646) (by decide +kernel)) (by decide +kernel)
set_option maxRecDepth 20000 in
theorem gl_RX7_169 : Cond.methodLink RX7 169 yX3_wireFault ∈ gw_tbl := gw_mem (List.mem_of_getElem? (i := 650) (by decide +kernel)) (by decide +kernel)
set_option maxRecDepth 20000 in
theorem gl_RL_122 : Cond.methodLink RL 122 yL_between ∈ gw_tbl := gw_mem (List.mem_of_getElem? (i := 654) (by decide +kernel)) (by decide +kernel)
set_option maxRecDepth 20000 in
theorem gl_RL_33 : Cond.methodLink RL 33 yX7_between ∈ gw_tbl := gw_mem (List.mem_of_getElem? (i := 657) (by decide +kernel)) (by decide +kernel)
set_option maxRecDepth 20000 in
theorem gl_RX7_181 : Cond.methodLink RX7 181 yX6_fewestMarks ∈ gw_tbl := gw_mem (List.mem_of_getElem? (i := 661) (by decide +kernel)) (by decide +kernel)
set_option maxRecDepth 20000 in
theorem gl_RX6_30 : Cond.methodLink RX6 30 yX6_shorten ∈ gw_tbl := gw_mem (List.mem_of_getElem? (i := 665) (by decide +kernel)) (by decide +kernel)
set_option maxRecDepth 20000 in
theorem gl_RL_125 : Cond.methodLink RL 125 yL_addModule ∈ gw_tbl := gw_mem (List.mem_of_getElem? (i := 669) (by decide +kernel)) (by decide +kernel)
set_option maxRecDepth 20000 in
theorem gl_RL_36 : Cond.methodLink RL 36 yX7_addModule ∈ gw_tbl := gw_mem (List.mem_of_getElem? (i := 672) (by decide +kernel)) (by decide +kernel)
set_option maxRecDepth 20000 in
theorem gl_RX7_185 : Cond.methodLink RX7 185 yX3_newModuleFault ∈ gw_tbl := gw_mem (List.mem_of_getElem? (i := 676) (by decide +kernel)) (by decide +kernel)
set_option maxRecDepth 20000 in
theorem gl_RX7_189 : Cond.methodLink RX7 189 yX2_remember ∈ gw_tbl := gw_mem (List.mem_of_getElem? (i := 677) (by decide +kernel)) (by decide +kernel)
set_option maxRecDepth 20000 in
theorem gl_RX2_25 : Cond.methodLink RX2 25 yX3_become ∈ gw_tbl := gw_mem (List.mem_of_getElem? (i := 681) (by decide +kernel)) (by decide +kernel)
set_option maxRecDepth 20000 in
theorem gl_RX7_193 : Cond.methodLink RX7 193 yX3_newModule ∈ gw_tbl := gw_mem (List.mem_of_getElem? (i := 682) (by decide +kernel)) (by decide +kernel)
set_option maxRecDepth 20000 in
theorem gl_RL_128 : Cond.methodLink RL 128 yL_lay ∈ gw_tbl := gw_mem (List.mem_of_getElem? (i := 683) (by decide +kernel)) (by decide +kernel)
set_option maxRecDepth 20000 in
theorem gl_RL_39 : Cond.methodLink RL 39 yX7_lay ∈ gw_tbl := gw_mem (List.mem_of_getElem? (i := 686) (by decide +kernel)) (by decide +kernel)
set_option maxRecDepth 20000 in
theorem gl_RX7_197 : Cond.methodLink RX7 197 yX3_newWireFault ∈ gw_tbl := gw_mem (List.mem_of_getElem? (i := 690) (by decide +kernel)) (by decide +kernel)
set_option maxRecDepth 20000 in
theorem gl_RX7_201 : Cond.methodLink RX7 201 yX3_newWire ∈ gw_tbl := gw_mem (List.mem_of_getElem? (i := 691) (by decide +kernel)) (by decide +kernel)
set_option maxRecDepth 20000 in
theorem gl_RL_132 : Cond.methodLink RL 132 yL_cut ∈ gw_tbl := gw_mem (List.mem_of_getElem? (i := 692) (by decide +kernel)) (by decide +kernel)
set_option maxRecDepth 20000 in
theorem gl_RL_43 : Cond.methodLink RL 43 yX7_cut ∈ gw_tbl := gw_mem (List.mem_of_getElem? (i := 695) (by decide +kernel)) (by decide +kernel)
set_option maxRecDepth 20000 in
theorem gl_RX7_205 : Cond.methodLink RX7 205 yX3_dropWire ∈ gw_tbl := gw_mem (List.mem_of_getElem? (i := 699) (by decide +kernel)) (by decide +kernel)
set_option maxRecDepth 20000 in
theorem gl_RL_135 : Cond.methodLink RL 135 yL_put ∈ gw_tbl := gw_mem (List.mem_of_getElem? (i := 700) (by decide +kernel)) (by decide +kernel)
set_option maxRecDepth 20000 in
theorem gl_RL_46 : Cond.methodLink RL 46 yX7_put ∈ gw_tbl := gw_mem (List.mem_of_getElem? (i := 703) (by decide +kernel)) (by decide +kernel)
set_option maxRecDepth 20000 in
theorem gl_RX7_209 : Cond.methodLink RX7 209 yX3_newMarksFault ∈ gw_tbl := gw_mem (List.mem_of_getElem? (i := 707) (by decide +kernel)) (by decide +kernel)
set_option maxRecDepth 20000 in
theorem gl_RX7_212 : Cond.methodLink RX7 212 yX3_newMarks ∈ gw_tbl := gw_mem (List.mem_of_getElem? (i := 711) (by decide +kernel)) (by decide +kernel)
set_option maxRecDepth 20000 in
theorem gl_RL_138 : Cond.methodLink RL 138 yL_work ∈ gw_tbl := gw_mem (List.mem_of_getElem? (i := 715) (by decide +kernel)) (by decide +kernel)
set_option maxRecDepth 20000 in
theorem gl_RL_49 : Cond.methodLink RL 49 yX7_work ∈ gw_tbl := gw_mem (List.mem_of_getElem? (i := 718) (by decide +kernel)) (by decide +kernel)
set_option maxRecDepth 20000 in
theorem gl_RX7_215 : Cond.methodLink RX7 215 yX3_workFault ∈ gw_tbl := gw_mem (List.mem_of_getElem? (i := 722) (by decide +kernel)) (by decide +kernel)
set_option maxRecDepth 20000 in
theorem gl_RX7_218 : Cond.methodLink RX7 218 yX3_doWork ∈ gw_tbl := gw_mem (List.mem_of_getElem? (i := 723) (by decide +kernel)) (by decide +kernel)
set_option maxRecDepth 20000 in
theorem gl_RL_141 : Cond.methodLink RL 141 yL_round ∈ gw_tbl := gw_mem (List.mem_of_getElem? (i := 724) (by decide +kernel)) (by decide +kernel)
set_option maxRecDepth 20000 in
theorem gl_RL_52 : Cond.methodLink RL 52 yX7_round ∈ gw_tbl := gw_mem (List.mem_of_getElem? (i := 727) (by decide +kernel)) (by decide +kernel)
set_option maxRecDepth 20000 in
theorem gl_RX7_222 : Cond.methodLink RX7 222 yX7_ruleFault ∈ gw_tbl := gw_mem (List.mem_of_getElem? (i := 731) (by decide +kernel)) (by decide +kernel)
set_option maxRecDepth 20000 in
theorem gl_RX7_232 : Cond.methodLink RX7 232 yX0_takeOver ∈ gw_tbl := gw_mem (List.mem_of_getElem? (i := 734) (by decide +kernel)) (by decide +kernel)
set_option maxRecDepth 20000 in
theorem gl_RL_144 : Cond.methodLink RL 144 yL_undo ∈ gw_tbl := gw_mem (List.mem_of_getElem? (i := 738) (by decide +kernel)) (by decide +kernel)
set_option maxRecDepth 20000 in
theorem gl_RL_55 : Cond.methodLink RL 55 yX7_undo ∈ gw_tbl := gw_mem (List.mem_of_getElem? (i := 741) (by decide +kernel)) (by decide +kernel)
set_option maxRecDepth 20000 in
theorem gl_RX7_236 : Cond.methodLink RX7 236 yX2_isEmpty ∈ gw_tbl := gw_mem (List.mem_of_getElem? (i := 745) (by decide +kernel)) (by decide +kernel)
set_option maxRecDepth 20000 in
theorem gl_RX7_239 : Cond.methodLink RX7 239 yX2_takeBack ∈ gw_tbl := gw_mem (List.mem_of_getElem? (i := 749) (by decide +kernel)) (by decide +kernel)
set_option maxRecDepth 20000 in
theorem gl_RL_147 : Cond.methodLink RL 147 yL_order ∈ gw_tbl := gw_mem (List.mem_of_getElem? (i := 753) (by decide +kernel)) (by decide +kernel)
set_option maxRecDepth 20000 in
theorem gl_RL_58 : Cond.methodLink RL 58 yX7_order ∈ gw_tbl := gw_mem (List.mem_of_getElem? (i := 756) (by decide +kernel)) (by decide +kernel)
set_option maxRecDepth 20000 in
theorem gl_RX7_245 : Cond.methodLink RX7 245 yX0_step ∈ gw_tbl := gw_mem (List.mem_of_getElem? (i := 760) (by decide +kernel)) (by decide +kernel)
set_option maxRecDepth 20000 in
theorem gl_RL_150 : Cond.methodLink RL 150 yL_sticks ∈ gw_tbl := gw_mem (List.mem_of_getElem? (i := 761) (by decide +kernel)) (by decide +kernel)
set_option maxRecDepth 20000 in
theorem gl_RL_61 : Cond.methodLink RL 61 yX7_sticks ∈ gw_tbl := gw_mem (List.mem_of_getElem? (i := 764) (by decide +kernel)) (by decide +kernel)
set_option maxRecDepth 20000 in
theorem gl_RL_153 : Cond.methodLink RL 153 yL_holds ∈ gw_tbl := gw_mem (List.mem_of_getElem? (i := 768) (by decide +kernel)) (by decide +kernel)
set_option maxRecDepth 20000 in
theorem gl_RL_64 : Cond.methodLink RL 64 yX7_holds ∈ gw_tbl := gw_mem (List.mem_of_getElem? (i := 771) (by decide +kernel)) (by decide +kernel)
set_option maxRecDepth 20000 in
theorem gl_RL_160 : Cond.methodLink RL 160 yL_fewest ∈ gw_tbl := gw_mem (List.mem_of_getElem? (i := 775) (by decide +kernel)) (by decide +kernel)
set_option maxRecDepth 20000 in
theorem gl_RL_67 : Cond.methodLink RL 67 yX7_fewest ∈ gw_tbl := gw_mem (List.mem_of_getElem? (i := 778) (by decide +kernel)) (by decide +kernel)
set_option maxRecDepth 20000 in
theorem gl_RX7_261 : Cond.methodLink RX7 261 yX3_become ∈ gw_tbl := gw_mem (List.mem_of_getElem? (i := 782) (by decide +kernel)) (by decide +kernel)
set_option maxRecDepth 20000 in
theorem gl_RX7_264 : Cond.methodLink RX7 264 yX7_isCompleteWith ∈ gw_tbl := gw_mem (List.mem_of_getElem? (i := 783) (by decide +kernel)) (by decide +kernel)
set_option maxRecDepth 20000 in
theorem gl_RL_163 : Cond.methodLink RL 163 yL_agrees ∈ gw_tbl := gw_mem (List.mem_of_getElem? (i := 787) (by decide +kernel)) (by decide +kernel)
set_option maxRecDepth 20000 in
theorem gl_RL_70 : Cond.methodLink RL 70 yX7_agrees ∈ gw_tbl := gw_mem (List.mem_of_getElem? (i := 790) (by decide +kernel)) (by decide +kernel)
set_option maxRecDepth 20000 in
theorem gl_RL_168 : Cond.methodLink RL 168 yL_runScript ∈ gw_tbl := gw_mem (List.mem_of_getElem? (i := 794) (by decide +kernel)) (by decide +kernel)
set_option maxRecDepth 20000 in
theorem gl_RL_73 : Cond.methodLink RL 73 yX7_runScript ∈ gw_tbl := gw_mem (List.mem_of_getElem? (i := 797) (by decide +kernel)) (by decide +kernel)
set_option maxRecDepth 20000 in
theorem gl_RX7_268 : Cond.methodLink RX7 268 yX7_withoutGroups ∈ gw_tbl := gw_mem (List.mem_of_getElem? (i := 801) (by decide +kernel)) (by decide +kernel)
set_option maxRecDepth 20000 in
theorem gl_RX7_272 : Cond.constantLong RX7 272 (1000000) ∈ gw_tbl := gw_mem (List.mem_of_getElem? (i := 804) (by decide +kernel)) (by decide +kernel)
set_option maxRecDepth 20000 in
theorem gl_RX7_274 : Cond.methodLink RX7 274 yX7_obeysGroup ∈ gw_tbl := gw_mem (List.mem_of_getElem? (i := 805) (by decide +kernel)) (by decide +kernel)
set_option maxRecDepth 20000 in
theorem gl_RX7_328 : Cond.constant RX7 328 (100000) ∈ gw_tbl := gw_mem (List.mem_of_getElem? (i := 809) (by decide +kernel)) (by decide +kernel)
set_option maxRecDepth 20000 in
theorem gl_RX7_329 : Cond.methodLink RX7 329 yX3_triesMarks ∈ gw_tbl := gw_mem (List.mem_of_getElem? (i := 810) (by decide +kernel)) (by decide +kernel)
set_option maxRecDepth 20000 in
theorem gl_RX3_101 : Cond.methodLink RX3 101 yX3_newMarksFault ∈ gw_tbl := gw_mem (List.mem_of_getElem? (i := 814) (by decide +kernel)) (by decide +kernel)
set_option maxRecDepth 20000 in
theorem gl_RX3_104 : Cond.methodLink RX3 104 yX3_newMarks ∈ gw_tbl := gw_mem (List.mem_of_getElem? (i := 815) (by decide +kernel)) (by decide +kernel)
set_option maxRecDepth 20000 in
theorem gl_RX7_332 : Cond.methodLink RX7 332 yX0_tries ∈ gw_tbl := gw_mem (List.mem_of_getElem? (i := 816) (by decide +kernel)) (by decide +kernel)
set_option maxRecDepth 20000 in
theorem gn_RX0_83 : Cond.methodLinkNest RX0 83 yX7_ruleFault RX7 ∈ gw_nst := gw_nmem (List.mem_of_getElem? (i := 820) (by decide +kernel)) (by decide +kernel)
set_option maxRecDepth 20000 in
theorem gl_RX0_87 : Cond.fieldLink RX0 87 RX1 "FINE" "LRateWires$Fault;" ∈ gw_tbl := gw_mem (List.mem_of_getElem? (i := 821) (by decide +kernel)) (by decide +kernel)
set_option maxRecDepth 20000 in
theorem gl_RX0_93 : Cond.methodLink RX0 93 yX0_follow ∈ gw_tbl := gw_mem (List.mem_of_getElem? (i := 822) (by decide +kernel)) (by decide +kernel)
set_option maxRecDepth 20000 in
theorem gl_RX0_97 : Cond.methodLink RX0 97 yX0_isComplete ∈ gw_tbl := gw_mem (List.mem_of_getElem? (i := 823) (by decide +kernel)) (by decide +kernel)
set_option maxRecDepth 20000 in
theorem gl_RX0_101 : Cond.methodLink RX0 101 yX0_takeOver ∈ gw_tbl := gw_mem (List.mem_of_getElem? (i := 824) (by decide +kernel)) (by decide +kernel)
set_option maxRecDepth 20000 in
theorem gl_RX7_336 : Cond.methodLink RX7 336 yX3_hasMarks ∈ gw_tbl := gw_mem (List.mem_of_getElem? (i := 825) (by decide +kernel)) (by decide +kernel)
set_option maxRecDepth 20000 in
theorem gl_RX7_339 : Cond.methodLink RX7 339 yX3_hasWorked ∈ gw_tbl := gw_mem (List.mem_of_getElem? (i := 829) (by decide +kernel)) (by decide +kernel)
set_option maxRecDepth 20000 in
theorem gl_RL_172 : Cond.methodLink RL 172 yL_simulate ∈ gw_tbl := gw_mem (List.mem_of_getElem? (i := 833) (by decide +kernel)) (by decide +kernel)
set_option maxRecDepth 20000 in
theorem gl_RL_77 : Cond.methodLink RL 77 yX7_simulate ∈ gw_tbl := gw_mem (List.mem_of_getElem? (i := 836) (by decide +kernel)) (by decide +kernel)
set_option maxRecDepth 20000 in
theorem gl_RX7_277 : Cond.constantLong RX7 277 (6364136223846793005) ∈ gw_tbl := gw_mem (List.mem_of_getElem? (i := 840) (by decide +kernel)) (by decide +kernel)
set_option maxRecDepth 20000 in
theorem gl_RX7_279 : Cond.constantLong RX7 279 (1442695040888963407) ∈ gw_tbl := gw_mem (List.mem_of_getElem? (i := 841) (by decide +kernel)) (by decide +kernel)
set_option maxRecDepth 20000 in
theorem gl_RX7_281 : Cond.methodLink RX7 281 yX7_takeTurn ∈ gw_tbl := gw_mem (List.mem_of_getElem? (i := 842) (by decide +kernel)) (by decide +kernel)
set_option maxRecDepth 20000 in
theorem gl_RX7_284 : Cond.methodLink RX7 284 Lib.Math.min.name ∈ gw_tbl := gw_mem (List.mem_of_getElem? (i := 846) (by decide +kernel)) (by decide +kernel)
set_option maxRecDepth 20000 in
theorem gl_RL_176 : Cond.methodLink RL 176 yL_save ∈ gw_tbl := gw_mem (List.mem_of_getElem? (i := 849) (by decide +kernel)) (by decide +kernel)
set_option maxRecDepth 20000 in
theorem gl_RL_81 : Cond.methodLink RL 81 yX7_save ∈ gw_tbl := gw_mem (List.mem_of_getElem? (i := 852) (by decide +kernel)) (by decide +kernel)
set_option maxRecDepth 20000 in
theorem gl_RX7_289 : Cond.methodLink RX7 289 yX7_slotFault ∈ gw_tbl := gw_mem (List.mem_of_getElem? (i := 856) (by decide +kernel)) (by decide +kernel)
set_option maxRecDepth 20000 in
theorem gl_RL_179 : Cond.methodLink RL 179 yL_restore ∈ gw_tbl := gw_mem (List.mem_of_getElem? (i := 859) (by decide +kernel)) (by decide +kernel)
set_option maxRecDepth 20000 in
theorem gl_RL_84 : Cond.methodLink RL 84 yX7_restore ∈ gw_tbl := gw_mem (List.mem_of_getElem? (i := 862) (by decide +kernel)) (by decide +kernel)
set_option maxRecDepth 20000 in
theorem gl_RL_90 : Cond.methodLink RL 90 yX8_init ∈ gw_tbl := gw_mem (List.mem_of_getElem? (i := 868) (by decide +kernel)) (by decide +kernel)
set_option maxRecDepth 20000 in
theorem gl_RX8_1 : Cond.methodLink RX8 1 objectInit ∈ gw_tbl := gw_mem (List.mem_of_getElem? (i := 871) (by decide +kernel)) (by decide +kernel)
set_option maxRecDepth 20000 in
theorem gl_RX8_60 : Cond.fieldLink RX8 60 RX8 "refusal" "I" ∈ gw_tbl := gw_mem (List.mem_of_getElem? (i := 872) (by decide +kernel)) (by decide +kernel)
set_option maxRecDepth 20000 in
theorem gl_RX8_7 : Cond.fieldLink RX8 7 RX8 "script" "[I" ∈ gw_tbl := gw_mem (List.mem_of_getElem? (i := 873) (by decide +kernel)) (by decide +kernel)
set_option maxRecDepth 20000 in
theorem gl_RX8_150 : Cond.fieldLink RX8 150 RX8 "scriptSize" "I" ∈ gw_tbl := gw_mem (List.mem_of_getElem? (i := 874) (by decide +kernel)) (by decide +kernel)
set_option maxRecDepth 20000 in
theorem gl_RX8_157 : Cond.fieldLink RX8 157 RX8 "spot" "I" ∈ gw_tbl := gw_mem (List.mem_of_getElem? (i := 875) (by decide +kernel)) (by decide +kernel)
set_option maxRecDepth 20000 in
theorem gl_RX8_160 : Cond.fieldLink RX8 160 RX8 "isGood" "Z" ∈ gw_tbl := gw_mem (List.mem_of_getElem? (i := 876) (by decide +kernel)) (by decide +kernel)
set_option maxRecDepth 20000 in
theorem gl_RX8_169 : Cond.fieldLink RX8 169 RX8 "leftOut" "I" ∈ gw_tbl := gw_mem (List.mem_of_getElem? (i := 877) (by decide +kernel)) (by decide +kernel)
set_option maxRecDepth 20000 in
theorem gl_RX8_13 : Cond.fieldLink RX8 13 RX8 "read" "[I" ∈ gw_tbl := gw_mem (List.mem_of_getElem? (i := 878) (by decide +kernel)) (by decide +kernel)
set_option maxRecDepth 20000 in
theorem gl_RX8_16 : Cond.fieldLink RX8 16 RX8 "now" "[I" ∈ gw_tbl := gw_mem (List.mem_of_getElem? (i := 879) (by decide +kernel)) (by decide +kernel)
set_option maxRecDepth 20000 in
theorem gl_RX8_19 : Cond.fieldLink RX8 19 RX8 "trial" "[I" ∈ gw_tbl := gw_mem (List.mem_of_getElem? (i := 880) (by decide +kernel)) (by decide +kernel)
set_option maxRecDepth 20000 in
theorem gl_RX8_22 : Cond.fieldLink RX8 22 RX8 "diary" "[I" ∈ gw_tbl := gw_mem (List.mem_of_getElem? (i := 881) (by decide +kernel)) (by decide +kernel)
set_option maxRecDepth 20000 in
theorem gl_RX8_66 : Cond.fieldLink RX8 66 RX8 "acts" "I" ∈ gw_tbl := gw_mem (List.mem_of_getElem? (i := 882) (by decide +kernel)) (by decide +kernel)
set_option maxRecDepth 20000 in
theorem gl_RX8_25 : Cond.fieldLink RX8 25 RX8 "kept" "[I" ∈ gw_tbl := gw_mem (List.mem_of_getElem? (i := 883) (by decide +kernel)) (by decide +kernel)
set_option maxRecDepth 20000 in
theorem gl_RX8_28 : Cond.fieldLink RX8 28 RX8 "isKept" "[Z" ∈ gw_tbl := gw_mem (List.mem_of_getElem? (i := 884) (by decide +kernel)) (by decide +kernel)
set_option maxRecDepth 20000 in
theorem gl_RX8_32 : Cond.fieldLink RX8 32 RX8 "due" "[I" ∈ gw_tbl := gw_mem (List.mem_of_getElem? (i := 885) (by decide +kernel)) (by decide +kernel)
set_option maxRecDepth 20000 in
theorem gl_RX8_35 : Cond.fieldLink RX8 35 RX8 "part" "[I" ∈ gw_tbl := gw_mem (List.mem_of_getElem? (i := 886) (by decide +kernel)) (by decide +kernel)
set_option maxRecDepth 20000 in
theorem gl_RX8_93 : Cond.fieldLink RX8 93 RX8 "partMany" "I" ∈ gw_tbl := gw_mem (List.mem_of_getElem? (i := 887) (by decide +kernel)) (by decide +kernel)
set_option maxRecDepth 20000 in
theorem gl_RX8_38 : Cond.fieldLink RX8 38 RX8 "over" "[J" ∈ gw_tbl := gw_mem (List.mem_of_getElem? (i := 888) (by decide +kernel)) (by decide +kernel)
set_option maxRecDepth 20000 in
theorem gl_RX8_42 : Cond.fieldLink RX8 42 RX8 "under" "[J" ∈ gw_tbl := gw_mem (List.mem_of_getElem? (i := 889) (by decide +kernel)) (by decide +kernel)
set_option maxRecDepth 20000 in
theorem gl_RX8_45 : Cond.fieldLink RX8 45 RX8 "done" "[I" ∈ gw_tbl := gw_mem (List.mem_of_getElem? (i := 890) (by decide +kernel)) (by decide +kernel)
set_option maxRecDepth 20000 in
theorem gl_RX8_48 : Cond.fieldLink RX8 48 RX8 "order" "[I" ∈ gw_tbl := gw_mem (List.mem_of_getElem? (i := 891) (by decide +kernel)) (by decide +kernel)
set_option maxRecDepth 20000 in
theorem gl_RX8_114 : Cond.fieldLink RX8 114 RX8 "orderMany" "I" ∈ gw_tbl := gw_mem (List.mem_of_getElem? (i := 892) (by decide +kernel)) (by decide +kernel)
set_option maxRecDepth 20000 in
theorem gl_RX8_51 : Cond.fieldLink RX8 51 RX8 "most" "[I" ∈ gw_tbl := gw_mem (List.mem_of_getElem? (i := 893) (by decide +kernel)) (by decide +kernel)
set_option maxRecDepth 20000 in
theorem gl_RX8_127 : Cond.fieldLink RX8 127 RX8 "isComplete" "Z" ∈ gw_tbl := gw_mem (List.mem_of_getElem? (i := 894) (by decide +kernel)) (by decide +kernel)
set_option maxRecDepth 20000 in
theorem gl_RX8_54 : Cond.fieldLink RX8 54 RX8 "reach" "[I" ∈ gw_tbl := gw_mem (List.mem_of_getElem? (i := 895) (by decide +kernel)) (by decide +kernel)
set_option maxRecDepth 20000 in
theorem gl_RX8_57 : Cond.fieldLink RX8 57 RX8 "beforeRound" "[I" ∈ gw_tbl := gw_mem (List.mem_of_getElem? (i := 896) (by decide +kernel)) (by decide +kernel)
set_option maxRecDepth 20000 in
theorem gl_RL_97 : Cond.methodLink RL 97 yX8_thrown ∈ gw_tbl := gw_mem (List.mem_of_getElem? (i := 949) (by decide +kernel)) (by decide +kernel)
set_option maxRecDepth 20000 in
theorem gl_RL_96 : Cond.methodLink RL 96 yX8_append ∈ gw_tbl := gw_mem (List.mem_of_getElem? (i := 953) (by decide +kernel)) (by decide +kernel)
set_option maxRecDepth 20000 in
theorem gl_RX8_144 : Cond.constantLong RX8 144 (255) ∈ gw_tbl := gw_mem (List.mem_of_getElem? (i := 957) (by decide +kernel)) (by decide +kernel)
set_option maxRecDepth 20000 in
theorem gl_RX8_146 : Cond.methodLink RX8 146 yX8_in ∈ gw_tbl := gw_mem (List.mem_of_getElem? (i := 958) (by decide +kernel)) (by decide +kernel)
set_option maxRecDepth 20000 in
theorem gl_RX8_153 : Cond.methodLink RX8 153 yX8_refused ∈ gw_tbl := gw_mem (List.mem_of_getElem? (i := 961) (by decide +kernel)) (by decide +kernel)
set_option maxRecDepth 20000 in
theorem gl_RL_103 : Cond.methodLink RL 103 yX8_clearText ∈ gw_tbl := gw_mem (List.mem_of_getElem? (i := 965) (by decide +kernel)) (by decide +kernel)
set_option maxRecDepth 20000 in
theorem gl_RL_107 : Cond.methodLink RL 107 yX8_errorPosition ∈ gw_tbl := gw_mem (List.mem_of_getElem? (i := 969) (by decide +kernel)) (by decide +kernel)
set_option maxRecDepth 20000 in
theorem gl_RX8_212 : Cond.methodLink RX8 212 yX8_readText ∈ gw_tbl := gw_mem (List.mem_of_getElem? (i := 973) (by decide +kernel)) (by decide +kernel)
set_option maxRecDepth 20000 in
theorem gl_RX8_194 : Cond.methodLink RX8 194 yX8_isNext ∈ gw_tbl := gw_mem (List.mem_of_getElem? (i := 977) (by decide +kernel)) (by decide +kernel)
set_option maxRecDepth 20000 in
theorem gl_RX8_165 : Cond.methodLink RX8 165 yX8_accept ∈ gw_tbl := gw_mem (List.mem_of_getElem? (i := 981) (by decide +kernel)) (by decide +kernel)
set_option maxRecDepth 20000 in
theorem gl_RX8_209 : Cond.methodLink RX8 209 yX8_readCommand ∈ gw_tbl := gw_mem (List.mem_of_getElem? (i := 985) (by decide +kernel)) (by decide +kernel)
set_option maxRecDepth 20000 in
theorem gl_RX8_197 : Cond.methodLink RX8 197 yX8_readModule ∈ gw_tbl := gw_mem (List.mem_of_getElem? (i := 989) (by decide +kernel)) (by decide +kernel)
set_option maxRecDepth 20000 in
theorem gl_RX8_172 : Cond.methodLink RX8 172 yX8_digit ∈ gw_tbl := gw_mem (List.mem_of_getElem? (i := 993) (by decide +kernel)) (by decide +kernel)
set_option maxRecDepth 20000 in
theorem gl_RX8_163 : Cond.constantLong RX8 163 (9) ∈ gw_tbl := gw_mem (List.mem_of_getElem? (i := 997) (by decide +kernel)) (by decide +kernel)
set_option maxRecDepth 20000 in
theorem gl_RX8_175 : Cond.methodLink RX8 175 yX8_goes ∈ gw_tbl := gw_mem (List.mem_of_getElem? (i := 998) (by decide +kernel)) (by decide +kernel)
set_option maxRecDepth 20000 in
theorem gl_RX8_179 : Cond.methodLink RX8 179 yX8_add ∈ gw_tbl := gw_mem (List.mem_of_getElem? (i := 1002) (by decide +kernel)) (by decide +kernel)
set_option maxRecDepth 20000 in
theorem gl_RX8_77 : Cond.methodLink RX8 77 yX8_moduleAt ∈ gw_tbl := gw_mem (List.mem_of_getElem? (i := 1005) (by decide +kernel)) (by decide +kernel)
set_option maxRecDepth 20000 in
theorem gl_RX8_200 : Cond.methodLink RX8 200 yX8_readWire ∈ gw_tbl := gw_mem (List.mem_of_getElem? (i := 1008) (by decide +kernel)) (by decide +kernel)
set_option maxRecDepth 20000 in
theorem gl_RX8_183 : Cond.methodLink RX8 183 yX8_canLay ∈ gw_tbl := gw_mem (List.mem_of_getElem? (i := 1012) (by decide +kernel)) (by decide +kernel)
set_option maxRecDepth 20000 in
theorem gl_RX8_141 : Cond.methodLink RX8 141 yX8_isDead ∈ gw_tbl := gw_mem (List.mem_of_getElem? (i := 1016) (by decide +kernel)) (by decide +kernel)
set_option maxRecDepth 20000 in
theorem gl_RX8_81 : Cond.methodLink RX8 81 yX8_layWays ∈ gw_tbl := gw_mem (List.mem_of_getElem? (i := 1020) (by decide +kernel)) (by decide +kernel)
set_option maxRecDepth 20000 in
theorem gl_RX8_80 : Cond.constant RX8 80 (1000000) ∈ gw_tbl := gw_mem (List.mem_of_getElem? (i := 1024) (by decide +kernel)) (by decide +kernel)
set_option maxRecDepth 20000 in
theorem gl_RX8_73 : Cond.methodLink RX8 73 yX8_wireAt ∈ gw_tbl := gw_mem (List.mem_of_getElem? (i := 1025) (by decide +kernel)) (by decide +kernel)
set_option maxRecDepth 20000 in
theorem gl_RX8_187 : Cond.methodLink RX8 187 yX8_layIn ∈ gw_tbl := gw_mem (List.mem_of_getElem? (i := 1028) (by decide +kernel)) (by decide +kernel)
set_option maxRecDepth 20000 in
theorem gl_RX8_203 : Cond.methodLink RX8 203 yX8_readCut ∈ gw_tbl := gw_mem (List.mem_of_getElem? (i := 1031) (by decide +kernel)) (by decide +kernel)
set_option maxRecDepth 20000 in
theorem gl_RX8_191 : Cond.methodLink RX8 191 yX8_cutIn ∈ gw_tbl := gw_mem (List.mem_of_getElem? (i := 1035) (by decide +kernel)) (by decide +kernel)
set_option maxRecDepth 20000 in
theorem gl_RX8_69 : Cond.methodLink RX8 69 yX8_copy ∈ gw_tbl := gw_mem (List.mem_of_getElem? (i := 1038) (by decide +kernel)) (by decide +kernel)
set_option maxRecDepth 20000 in
theorem gl_RX8_206 : Cond.methodLink RX8 206 yX8_readWork ∈ gw_tbl := gw_mem (List.mem_of_getElem? (i := 1041) (by decide +kernel)) (by decide +kernel)
set_option maxRecDepth 20000 in
theorem gl_RX8_106 : Cond.methodLink RX8 106 yX8_canWork ∈ gw_tbl := gw_mem (List.mem_of_getElem? (i := 1045) (by decide +kernel)) (by decide +kernel)
set_option maxRecDepth 20000 in
theorem gl_RX8_124 : Cond.methodLink RX8 124 yX8_workIn ∈ gw_tbl := gw_mem (List.mem_of_getElem? (i := 1048) (by decide +kernel)) (by decide +kernel)
set_option maxRecDepth 20000 in
theorem gl_RL_111 : Cond.methodLink RL 111 yX8_load ∈ gw_tbl := gw_mem (List.mem_of_getElem? (i := 1051) (by decide +kernel)) (by decide +kernel)
set_option maxRecDepth 20000 in
theorem gl_RL_114 : Cond.methodLink RL 114 yX8_about ∈ gw_tbl := gw_mem (List.mem_of_getElem? (i := 1055) (by decide +kernel)) (by decide +kernel)
set_option maxRecDepth 20000 in
theorem gl_RX8_216 : Cond.constantLong RX8 216 (8) ∈ gw_tbl := gw_mem (List.mem_of_getElem? (i := 1059) (by decide +kernel)) (by decide +kernel)
set_option maxRecDepth 20000 in
theorem gl_RX8_134 : Cond.methodLink RX8 134 yX8_layWorks ∈ gw_tbl := gw_mem (List.mem_of_getElem? (i := 1060) (by decide +kernel)) (by decide +kernel)
set_option maxRecDepth 20000 in
theorem gl_RX8_100 : Cond.methodLink RX8 100 yX8_layParts ∈ gw_tbl := gw_mem (List.mem_of_getElem? (i := 1064) (by decide +kernel)) (by decide +kernel)
set_option maxRecDepth 20000 in
theorem gl_RX8_96 : Cond.methodLink RX8 96 yX8_spread ∈ gw_tbl := gw_mem (List.mem_of_getElem? (i := 1068) (by decide +kernel)) (by decide +kernel)
set_option maxRecDepth 20000 in
theorem gl_RX8_89 : Cond.methodLink RX8 89 yX8_setWorks ∈ gw_tbl := gw_mem (List.mem_of_getElem? (i := 1072) (by decide +kernel)) (by decide +kernel)
set_option maxRecDepth 20000 in
theorem gl_RX8_85 : Cond.methodLink RX8 85 yX8_divisor ∈ gw_tbl := gw_mem (List.mem_of_getElem? (i := 1076) (by decide +kernel)) (by decide +kernel)
set_option maxRecDepth 20000 in
theorem gl_RX8_104 : Cond.constantLong RX8 104 (60) ∈ gw_tbl := gw_mem (List.mem_of_getElem? (i := 1079) (by decide +kernel)) (by decide +kernel)
set_option maxRecDepth 20000 in
theorem gl_RX8_218 : Cond.methodLink RX8 218 yX8_marks ∈ gw_tbl := gw_mem (List.mem_of_getElem? (i := 1080) (by decide +kernel)) (by decide +kernel)
set_option maxRecDepth 20000 in
theorem gl_RX8_222 : Cond.methodLink RX8 222 yX8_works ∈ gw_tbl := gw_mem (List.mem_of_getElem? (i := 1083) (by decide +kernel)) (by decide +kernel)
set_option maxRecDepth 20000 in
theorem gl_RX8_225 : Cond.methodLink RX8 225 yX8_dueTogether ∈ gw_tbl := gw_mem (List.mem_of_getElem? (i := 1086) (by decide +kernel)) (by decide +kernel)
set_option maxRecDepth 20000 in
theorem gl_RX8_228 : Cond.methodLink RX8 228 yX8_workers ∈ gw_tbl := gw_mem (List.mem_of_getElem? (i := 1090) (by decide +kernel)) (by decide +kernel)
set_option maxRecDepth 20000 in
theorem gl_RX8_231 : Cond.methodLink RX8 231 yX8_loopers ∈ gw_tbl := gw_mem (List.mem_of_getElem? (i := 1094) (by decide +kernel)) (by decide +kernel)
set_option maxRecDepth 20000 in
theorem gl_RL_118 : Cond.methodLink RL 118 yX8_module ∈ gw_tbl := gw_mem (List.mem_of_getElem? (i := 1098) (by decide +kernel)) (by decide +kernel)
set_option maxRecDepth 20000 in
theorem gl_RX8_234 : Cond.methodLink RX8 234 yX8_isModule ∈ gw_tbl := gw_mem (List.mem_of_getElem? (i := 1102) (by decide +kernel)) (by decide +kernel)
set_option maxRecDepth 20000 in
theorem gl_RX8_237 : Cond.constantLong RX8 237 (5) ∈ gw_tbl := gw_mem (List.mem_of_getElem? (i := 1106) (by decide +kernel)) (by decide +kernel)
set_option maxRecDepth 20000 in
theorem gl_RX8_239 : Cond.methodLink RX8 239 yX8_wiresOf ∈ gw_tbl := gw_mem (List.mem_of_getElem? (i := 1107) (by decide +kernel)) (by decide +kernel)
set_option maxRecDepth 20000 in
theorem gl_RL_121 : Cond.methodLink RL 121 yX8_wire ∈ gw_tbl := gw_mem (List.mem_of_getElem? (i := 1111) (by decide +kernel)) (by decide +kernel)
set_option maxRecDepth 20000 in
theorem gl_RX8_242 : Cond.methodLink RX8 242 yX8_isWire ∈ gw_tbl := gw_mem (List.mem_of_getElem? (i := 1115) (by decide +kernel)) (by decide +kernel)
set_option maxRecDepth 20000 in
theorem gl_RX8_245 : Cond.constantLong RX8 245 (4) ∈ gw_tbl := gw_mem (List.mem_of_getElem? (i := 1119) (by decide +kernel)) (by decide +kernel)
set_option maxRecDepth 20000 in
theorem gl_RL_124 : Cond.methodLink RL 124 yX8_between ∈ gw_tbl := gw_mem (List.mem_of_getElem? (i := 1120) (by decide +kernel)) (by decide +kernel)
set_option maxRecDepth 20000 in
theorem gl_RL_127 : Cond.methodLink RL 127 yX8_addModule ∈ gw_tbl := gw_mem (List.mem_of_getElem? (i := 1124) (by decide +kernel)) (by decide +kernel)
set_option maxRecDepth 20000 in
theorem gl_RX8_249 : Cond.methodLink RX8 249 yX8_isKind ∈ gw_tbl := gw_mem (List.mem_of_getElem? (i := 1128) (by decide +kernel)) (by decide +kernel)
set_option maxRecDepth 20000 in
theorem gl_RX8_247 : Cond.constantLong RX8 247 (3) ∈ gw_tbl := gw_mem (List.mem_of_getElem? (i := 1131) (by decide +kernel)) (by decide +kernel)
set_option maxRecDepth 20000 in
theorem gl_RX8_252 : Cond.methodLink RX8 252 yX8_remember ∈ gw_tbl := gw_mem (List.mem_of_getElem? (i := 1132) (by decide +kernel)) (by decide +kernel)
set_option maxRecDepth 20000 in
theorem gl_RL_131 : Cond.methodLink RL 131 yX8_lay ∈ gw_tbl := gw_mem (List.mem_of_getElem? (i := 1136) (by decide +kernel)) (by decide +kernel)
set_option maxRecDepth 20000 in
theorem gl_RX8_259 : Cond.methodLink RX8 259 yX8_isRate ∈ gw_tbl := gw_mem (List.mem_of_getElem? (i := 1140) (by decide +kernel)) (by decide +kernel)
set_option maxRecDepth 20000 in
theorem gl_RX8_255 : Cond.constantLong RX8 255 (6) ∈ gw_tbl := gw_mem (List.mem_of_getElem? (i := 1143) (by decide +kernel)) (by decide +kernel)
set_option maxRecDepth 20000 in
theorem gl_RX8_262 : Cond.methodLink RX8 262 yX8_isMarks ∈ gw_tbl := gw_mem (List.mem_of_getElem? (i := 1144) (by decide +kernel)) (by decide +kernel)
set_option maxRecDepth 20000 in
theorem gl_RX8_257 : Cond.constantLong RX8 257 (99) ∈ gw_tbl := gw_mem (List.mem_of_getElem? (i := 1147) (by decide +kernel)) (by decide +kernel)
set_option maxRecDepth 20000 in
theorem gl_RL_134 : Cond.methodLink RL 134 yX8_cut ∈ gw_tbl := gw_mem (List.mem_of_getElem? (i := 1148) (by decide +kernel)) (by decide +kernel)
set_option maxRecDepth 20000 in
theorem gl_RL_137 : Cond.methodLink RL 137 yX8_put ∈ gw_tbl := gw_mem (List.mem_of_getElem? (i := 1152) (by decide +kernel)) (by decide +kernel)
set_option maxRecDepth 20000 in
theorem gl_RX8_265 : Cond.methodLink RX8 265 yX8_canPut ∈ gw_tbl := gw_mem (List.mem_of_getElem? (i := 1156) (by decide +kernel)) (by decide +kernel)
set_option maxRecDepth 20000 in
theorem gl_RL_140 : Cond.methodLink RL 140 yX8_work ∈ gw_tbl := gw_mem (List.mem_of_getElem? (i := 1160) (by decide +kernel)) (by decide +kernel)
set_option maxRecDepth 20000 in
theorem gl_RL_143 : Cond.methodLink RL 143 yX8_round ∈ gw_tbl := gw_mem (List.mem_of_getElem? (i := 1164) (by decide +kernel)) (by decide +kernel)
set_option maxRecDepth 20000 in
theorem gl_RX8_270 : Cond.methodLink RX8 270 yX8_isRule ∈ gw_tbl := gw_mem (List.mem_of_getElem? (i := 1168) (by decide +kernel)) (by decide +kernel)
set_option maxRecDepth 20000 in
theorem gl_RX8_268 : Cond.constantLong RX8 268 (2) ∈ gw_tbl := gw_mem (List.mem_of_getElem? (i := 1171) (by decide +kernel)) (by decide +kernel)
set_option maxRecDepth 20000 in
theorem gl_RX8_273 : Cond.methodLink RX8 273 yX8_tryRound ∈ gw_tbl := gw_mem (List.mem_of_getElem? (i := 1172) (by decide +kernel)) (by decide +kernel)
set_option maxRecDepth 20000 in
theorem gl_RX8_131 : Cond.methodLink RX8 131 yX8_tryIt ∈ gw_tbl := gw_mem (List.mem_of_getElem? (i := 1176) (by decide +kernel)) (by decide +kernel)
set_option maxRecDepth 20000 in
theorem gl_RX8_138 : Cond.methodLink RX8 138 yX8_play ∈ gw_tbl := gw_mem (List.mem_of_getElem? (i := 1180) (by decide +kernel)) (by decide +kernel)
set_option maxRecDepth 20000 in
theorem gl_RX8_117 : Cond.methodLink RX8 117 yX8_note ∈ gw_tbl := gw_mem (List.mem_of_getElem? (i := 1184) (by decide +kernel)) (by decide +kernel)
set_option maxRecDepth 20000 in
theorem gl_RX8_120 : Cond.methodLink RX8 120 yX8_choice ∈ gw_tbl := gw_mem (List.mem_of_getElem? (i := 1188) (by decide +kernel)) (by decide +kernel)
set_option maxRecDepth 20000 in
theorem gl_RX8_110 : Cond.methodLink RX8 110 yX8_gain ∈ gw_tbl := gw_mem (List.mem_of_getElem? (i := 1192) (by decide +kernel)) (by decide +kernel)
set_option maxRecDepth 20000 in
theorem gl_RL_146 : Cond.methodLink RL 146 yX8_undo ∈ gw_tbl := gw_mem (List.mem_of_getElem? (i := 1195) (by decide +kernel)) (by decide +kernel)
set_option maxRecDepth 20000 in
theorem gl_RL_149 : Cond.methodLink RL 149 yX8_order ∈ gw_tbl := gw_mem (List.mem_of_getElem? (i := 1199) (by decide +kernel)) (by decide +kernel)
set_option maxRecDepth 20000 in
theorem gl_RL_152 : Cond.methodLink RL 152 yX8_sticks ∈ gw_tbl := gw_mem (List.mem_of_getElem? (i := 1203) (by decide +kernel)) (by decide +kernel)
set_option maxRecDepth 20000 in
theorem gl_RL_155 : Cond.methodLink RL 155 yX8_holds ∈ gw_tbl := gw_mem (List.mem_of_getElem? (i := 1207) (by decide +kernel)) (by decide +kernel)
set_option maxRecDepth 20000 in
theorem gl_RL_159 : Cond.methodLink RL 159 yX8_bestRule ∈ gw_tbl := gw_mem (List.mem_of_getElem? (i := 1211) (by decide +kernel)) (by decide +kernel)
set_option maxRecDepth 20000 in
theorem gl_RL_162 : Cond.methodLink RL 162 yX8_fewest ∈ gw_tbl := gw_mem (List.mem_of_getElem? (i := 1215) (by decide +kernel)) (by decide +kernel)
set_option maxRecDepth 20000 in
theorem gl_RL_165 : Cond.methodLink RL 165 yX8_agrees ∈ gw_tbl := gw_mem (List.mem_of_getElem? (i := 1219) (by decide +kernel)) (by decide +kernel)
set_option maxRecDepth 20000 in
theorem gl_RL_171 : Cond.methodLink RL 171 yX8_runScript ∈ gw_tbl := gw_mem (List.mem_of_getElem? (i := 1223) (by decide +kernel)) (by decide +kernel)
set_option maxRecDepth 20000 in
theorem gl_RX8_294 : Cond.methodLink RX8 294 yX8_tenTo ∈ gw_tbl := gw_mem (List.mem_of_getElem? (i := 1227) (by decide +kernel)) (by decide +kernel)
set_option maxRecDepth 20000 in
theorem gl_RX8_64 : Cond.constantLong RX8 64 (10) ∈ gw_tbl := gw_mem (List.mem_of_getElem? (i := 1230) (by decide +kernel)) (by decide +kernel)
set_option maxRecDepth 20000 in
theorem gl_RX8_298 : Cond.constantLong RX8 298 (1000000) ∈ gw_tbl := gw_mem (List.mem_of_getElem? (i := 1231) (by decide +kernel)) (by decide +kernel)
set_option maxRecDepth 20000 in
theorem gl_RX8_300 : Cond.methodLink RX8 300 yX8_does ∈ gw_tbl := gw_mem (List.mem_of_getElem? (i := 1232) (by decide +kernel)) (by decide +kernel)
set_option maxRecDepth 20000 in
theorem gl_RX8_276 : Cond.constant RX8 276 (100000) ∈ gw_tbl := gw_mem (List.mem_of_getElem? (i := 1236) (by decide +kernel)) (by decide +kernel)
set_option maxRecDepth 20000 in
theorem gl_RX8_277 : Cond.methodLink RX8 277 yX8_lays ∈ gw_tbl := gw_mem (List.mem_of_getElem? (i := 1237) (by decide +kernel)) (by decide +kernel)
set_option maxRecDepth 20000 in
theorem gl_RX8_281 : Cond.methodLink RX8 281 yX8_cuts ∈ gw_tbl := gw_mem (List.mem_of_getElem? (i := 1241) (by decide +kernel)) (by decide +kernel)
set_option maxRecDepth 20000 in
theorem gl_RX8_284 : Cond.methodLink RX8 284 yX8_puts ∈ gw_tbl := gw_mem (List.mem_of_getElem? (i := 1245) (by decide +kernel)) (by decide +kernel)
set_option maxRecDepth 20000 in
theorem gl_RX8_288 : Cond.methodLink RX8 288 yX8_worksOne ∈ gw_tbl := gw_mem (List.mem_of_getElem? (i := 1249) (by decide +kernel)) (by decide +kernel)
set_option maxRecDepth 20000 in
theorem gl_RX8_291 : Cond.methodLink RX8 291 yX8_rounds ∈ gw_tbl := gw_mem (List.mem_of_getElem? (i := 1253) (by decide +kernel)) (by decide +kernel)
set_option maxRecDepth 20000 in
theorem gl_RL_175 : Cond.methodLink RL 175 yX8_simulate ∈ gw_tbl := gw_mem (List.mem_of_getElem? (i := 1257) (by decide +kernel)) (by decide +kernel)
set_option maxRecDepth 20000 in
theorem gl_RX8_303 : Cond.constantLong RX8 303 (6364136223846793005) ∈ gw_tbl := gw_mem (List.mem_of_getElem? (i := 1261) (by decide +kernel)) (by decide +kernel)
set_option maxRecDepth 20000 in
theorem gl_RX8_305 : Cond.constantLong RX8 305 (1442695040888963407) ∈ gw_tbl := gw_mem (List.mem_of_getElem? (i := 1262) (by decide +kernel)) (by decide +kernel)
set_option maxRecDepth 20000 in
theorem gl_RX8_307 : Cond.methodLink RX8 307 yX8_stir ∈ gw_tbl := gw_mem (List.mem_of_getElem? (i := 1263) (by decide +kernel)) (by decide +kernel)
set_option maxRecDepth 20000 in
theorem gl_RL_178 : Cond.methodLink RL 178 yX8_save ∈ gw_tbl := gw_mem (List.mem_of_getElem? (i := 1267) (by decide +kernel)) (by decide +kernel)
set_option maxRecDepth 20000 in
theorem gl_RL_181 : Cond.methodLink RL 181 yX8_restore ∈ gw_tbl := gw_mem (List.mem_of_getElem? (i := 1271) (by decide +kernel)) (by decide +kernel)
set_option maxRecDepth 20000 in
theorem gl_RL_166 : Cond.constantLong RL 166 (4294967295) ∈ gw_tbl := gw_mem (List.mem_of_getElem? (i := 1275) (by decide +kernel)) (by decide +kernel)
set_option maxRecDepth 20000 in
theorem gm_X4_init : Cond.code yX4_init cX4_init 1 none ∈ gw_tbl ∧ Cond.instanceMethod yX4_init ∈ gw_tbl ∧ Cond.initialized yX4_init.cls ∈ gw_tbl := ⟨gw_mem (List.mem_of_getElem? (i := 185) (by decide +kernel)) (by decide +kernel), gw_mem (List.mem_of_getElem? (i := 184) (by decide +kernel)) (by decide +kernel), gw_mem (List.mem_of_getElem? (i := 59) (by decide +kernel)) (by decide +kernel)⟩
set_option maxRecDepth 20000 in
theorem gm_X3_init : Cond.code yX3_init cX3_init 1 none ∈ gw_tbl ∧ Cond.instanceMethod yX3_init ∈ gw_tbl ∧ Cond.initialized yX3_init.cls ∈ gw_tbl := ⟨gw_mem (List.mem_of_getElem? (i := 98) (by decide +kernel)) (by decide +kernel), gw_mem (List.mem_of_getElem? (i := 97) (by decide +kernel)) (by decide +kernel), gw_mem (List.mem_of_getElem? (i := 56) (by decide +kernel)) (by decide +kernel)⟩
set_option maxRecDepth 20000 in
theorem gm_X0_init : Cond.code yX0_init cX0_init 1 none ∈ gw_tbl ∧ Cond.instanceMethod yX0_init ∈ gw_tbl ∧ Cond.initialized yX0_init.cls ∈ gw_tbl := ⟨gw_mem (List.mem_of_getElem? (i := 179) (by decide +kernel)) (by decide +kernel), gw_mem (List.mem_of_getElem? (i := 178) (by decide +kernel)) (by decide +kernel), gw_mem (List.mem_of_getElem? (i := 58) (by decide +kernel)) (by decide +kernel)⟩
set_option maxRecDepth 20000 in
theorem gm_X3_become : gw_MV yX3_become cX3_become 2 none 1 := ⟨gw_mem (List.mem_of_getElem? (i := 314) (by decide +kernel)) (by decide +kernel), gw_mem (List.mem_of_getElem? (i := 312) (by decide +kernel)) (by decide +kernel), gw_mem (List.mem_of_getElem? (i := 313) (by decide +kernel)) (by decide +kernel), gw_mem (List.mem_of_getElem? (i := 56) (by decide +kernel)) (by decide +kernel), ⟨by decide +kernel, by decide +kernel, by decide +kernel⟩⟩
set_option maxRecDepth 20000 in
theorem gm_X4_joins : gw_MV yX4_joins cX4_joins 7 (some .boolean) 4 := ⟨gw_mem (List.mem_of_getElem? (i := 329) (by decide +kernel)) (by decide +kernel), gw_mem (List.mem_of_getElem? (i := 328) (by decide +kernel)) (by decide +kernel), gw_mem (List.mem_of_getElem? (i := 2) (by decide +kernel)) (by decide +kernel), gw_mem (List.mem_of_getElem? (i := 59) (by decide +kernel)) (by decide +kernel), ⟨by decide +kernel, by decide +kernel, by decide +kernel⟩⟩
set_option maxRecDepth 20000 in
theorem gm_X4_findsPart : gw_MV yX4_findsPart cX4_findsPart 10 (some .boolean) 2 := ⟨gw_mem (List.mem_of_getElem? (i := 325) (by decide +kernel)) (by decide +kernel), gw_mem (List.mem_of_getElem? (i := 324) (by decide +kernel)) (by decide +kernel), gw_mem (List.mem_of_getElem? (i := 1) (by decide +kernel)) (by decide +kernel), gw_mem (List.mem_of_getElem? (i := 59) (by decide +kernel)) (by decide +kernel), ⟨by decide +kernel, by decide +kernel, by decide +kernel⟩⟩
set_option maxRecDepth 20000 in
theorem gm_X4_agreeIn : gw_MV yX4_agreeIn cX4_agreeIn 3 (some .boolean) 1 := ⟨gw_mem (List.mem_of_getElem? (i := 321) (by decide +kernel)) (by decide +kernel), gw_mem (List.mem_of_getElem? (i := 319) (by decide +kernel)) (by decide +kernel), gw_mem (List.mem_of_getElem? (i := 320) (by decide +kernel)) (by decide +kernel), gw_mem (List.mem_of_getElem? (i := 59) (by decide +kernel)) (by decide +kernel), ⟨by decide +kernel, by decide +kernel, by decide +kernel⟩⟩
set_option maxRecDepth 20000 in
theorem gm_X4_total : gw_MV yX4_total cX4_total 3 (some .int) 0 := ⟨gw_mem (List.mem_of_getElem? (i := 333) (by decide +kernel)) (by decide +kernel), gw_mem (List.mem_of_getElem? (i := 331) (by decide +kernel)) (by decide +kernel), gw_mem (List.mem_of_getElem? (i := 332) (by decide +kernel)) (by decide +kernel), gw_mem (List.mem_of_getElem? (i := 59) (by decide +kernel)) (by decide +kernel), ⟨by decide +kernel, by decide +kernel, by decide +kernel⟩⟩
set_option maxRecDepth 20000 in
theorem gm_X3_marksBehind : gw_MV yX3_marksBehind cX3_marksBehind 3 (some .int) 2 := ⟨gw_mem (List.mem_of_getElem? (i := 341) (by decide +kernel)) (by decide +kernel), gw_mem (List.mem_of_getElem? (i := 340) (by decide +kernel)) (by decide +kernel), gw_mem (List.mem_of_getElem? (i := 3) (by decide +kernel)) (by decide +kernel), gw_mem (List.mem_of_getElem? (i := 56) (by decide +kernel)) (by decide +kernel), ⟨by decide +kernel, by decide +kernel, by decide +kernel⟩⟩
set_option maxRecDepth 20000 in
theorem gm_X3_gain : gw_MV yX3_gain cX3_gain 4 (some .int) 1 := ⟨gw_mem (List.mem_of_getElem? (i := 337) (by decide +kernel)) (by decide +kernel), gw_mem (List.mem_of_getElem? (i := 335) (by decide +kernel)) (by decide +kernel), gw_mem (List.mem_of_getElem? (i := 336) (by decide +kernel)) (by decide +kernel), gw_mem (List.mem_of_getElem? (i := 56) (by decide +kernel)) (by decide +kernel), ⟨by decide +kernel, by decide +kernel, by decide +kernel⟩⟩
set_option maxRecDepth 20000 in
theorem gm_X0_step : gw_MV yX0_step cX0_step 2 (some .int) 1 := ⟨gw_mem (List.mem_of_getElem? (i := 349) (by decide +kernel)) (by decide +kernel), gw_mem (List.mem_of_getElem? (i := 347) (by decide +kernel)) (by decide +kernel), gw_mem (List.mem_of_getElem? (i := 348) (by decide +kernel)) (by decide +kernel), gw_mem (List.mem_of_getElem? (i := 58) (by decide +kernel)) (by decide +kernel), ⟨by decide +kernel, by decide +kernel, by decide +kernel⟩⟩
set_option maxRecDepth 20000 in
theorem gm_X3_canWork : gw_MV yX3_canWork cX3_canWork 3 (some .boolean) 1 := ⟨gw_mem (List.mem_of_getElem? (i := 353) (by decide +kernel)) (by decide +kernel), gw_mem (List.mem_of_getElem? (i := 351) (by decide +kernel)) (by decide +kernel), gw_mem (List.mem_of_getElem? (i := 352) (by decide +kernel)) (by decide +kernel), gw_mem (List.mem_of_getElem? (i := 56) (by decide +kernel)) (by decide +kernel), ⟨by decide +kernel, by decide +kernel, by decide +kernel⟩⟩
set_option maxRecDepth 20000 in
theorem gm_X0_choose : gw_MV yX0_choose cX0_choose 6 (some .int) 1 := ⟨gw_mem (List.mem_of_getElem? (i := 345) (by decide +kernel)) (by decide +kernel), gw_mem (List.mem_of_getElem? (i := 344) (by decide +kernel)) (by decide +kernel), gw_mem (List.mem_of_getElem? (i := 4) (by decide +kernel)) (by decide +kernel), gw_mem (List.mem_of_getElem? (i := 58) (by decide +kernel)) (by decide +kernel), ⟨by decide +kernel, by decide +kernel, by decide +kernel⟩⟩
set_option maxRecDepth 20000 in
theorem gm_X3_doWork : gw_MV yX3_doWork cX3_doWork 3 none 1 := ⟨gw_mem (List.mem_of_getElem? (i := 361) (by decide +kernel)) (by decide +kernel), gw_mem (List.mem_of_getElem? (i := 359) (by decide +kernel)) (by decide +kernel), gw_mem (List.mem_of_getElem? (i := 360) (by decide +kernel)) (by decide +kernel), gw_mem (List.mem_of_getElem? (i := 56) (by decide +kernel)) (by decide +kernel), ⟨by decide +kernel, by decide +kernel, by decide +kernel⟩⟩
set_option maxRecDepth 20000 in
theorem gm_X0_take : gw_MV yX0_take cX0_take 3 none 1 := ⟨gw_mem (List.mem_of_getElem? (i := 357) (by decide +kernel)) (by decide +kernel), gw_mem (List.mem_of_getElem? (i := 356) (by decide +kernel)) (by decide +kernel), gw_mem (List.mem_of_getElem? (i := 5) (by decide +kernel)) (by decide +kernel), gw_mem (List.mem_of_getElem? (i := 58) (by decide +kernel)) (by decide +kernel), ⟨by decide +kernel, by decide +kernel, by decide +kernel⟩⟩
set_option maxRecDepth 20000 in
theorem gm_X0_follow : gw_MV yX0_follow cX0_follow 5 none 2 := ⟨gw_mem (List.mem_of_getElem? (i := 310) (by decide +kernel)) (by decide +kernel), gw_mem (List.mem_of_getElem? (i := 308) (by decide +kernel)) (by decide +kernel), gw_mem (List.mem_of_getElem? (i := 309) (by decide +kernel)) (by decide +kernel), gw_mem (List.mem_of_getElem? (i := 58) (by decide +kernel)) (by decide +kernel), ⟨by decide +kernel, by decide +kernel, by decide +kernel⟩⟩
set_option maxRecDepth 20000 in
theorem gm_X0_isComplete : gw_MV yX0_isComplete cX0_isComplete 1 (some .boolean) 0 := ⟨gw_mem (List.mem_of_getElem? (i := 368) (by decide +kernel)) (by decide +kernel), gw_mem (List.mem_of_getElem? (i := 366) (by decide +kernel)) (by decide +kernel), gw_mem (List.mem_of_getElem? (i := 367) (by decide +kernel)) (by decide +kernel), gw_mem (List.mem_of_getElem? (i := 58) (by decide +kernel)) (by decide +kernel), ⟨by decide +kernel, by decide +kernel, by decide +kernel⟩⟩
set_option maxRecDepth 20000 in
theorem gm_X0_allMost : gw_MV yX0_allMost cX0_allMost 3 (some .int) 0 := ⟨gw_mem (List.mem_of_getElem? (i := 372) (by decide +kernel)) (by decide +kernel), gw_mem (List.mem_of_getElem? (i := 370) (by decide +kernel)) (by decide +kernel), gw_mem (List.mem_of_getElem? (i := 371) (by decide +kernel)) (by decide +kernel), gw_mem (List.mem_of_getElem? (i := 58) (by decide +kernel)) (by decide +kernel), ⟨by decide +kernel, by decide +kernel, by decide +kernel⟩⟩
set_option maxRecDepth 20000 in
theorem gm_X0_takeOver : gw_MV yX0_takeOver cX0_takeOver 2 (some .int) 1 := ⟨gw_mem (List.mem_of_getElem? (i := 737) (by decide +kernel)) (by decide +kernel), gw_mem (List.mem_of_getElem? (i := 735) (by decide +kernel)) (by decide +kernel), gw_mem (List.mem_of_getElem? (i := 736) (by decide +kernel)) (by decide +kernel), gw_mem (List.mem_of_getElem? (i := 58) (by decide +kernel)) (by decide +kernel), ⟨by decide +kernel, by decide +kernel, by decide +kernel⟩⟩
set_option maxRecDepth 20000 in
theorem gm_X7_range : gw_MS yX7_range cX7_range 3 (some (.object "RateWires$Fault")) 3 := ⟨gw_mem (List.mem_of_getElem? (i := 384) (by decide +kernel)) (by decide +kernel), gw_mem (List.mem_of_getElem? (i := 383) (by decide +kernel)) (by decide +kernel), gw_mem (List.mem_of_getElem? (i := 54) (by decide +kernel)) (by decide +kernel), ⟨by decide +kernel, by decide +kernel, by decide +kernel⟩⟩
set_option maxRecDepth 20000 in
theorem gm_X7_ruleFault : gw_MS yX7_ruleFault cX7_ruleFault 1 (some (.object "RateWires$Fault")) 1 := ⟨gw_mem (List.mem_of_getElem? (i := 733) (by decide +kernel)) (by decide +kernel), gw_mem (List.mem_of_getElem? (i := 732) (by decide +kernel)) (by decide +kernel), gw_mem (List.mem_of_getElem? (i := 54) (by decide +kernel)) (by decide +kernel), ⟨by decide +kernel, by decide +kernel, by decide +kernel⟩⟩
set_option maxRecDepth 20000 in
theorem gm_X0_tries : gw_MV yX0_tries cX0_tries 3 (some .boolean) 2 := ⟨gw_mem (List.mem_of_getElem? (i := 819) (by decide +kernel)) (by decide +kernel), gw_mem (List.mem_of_getElem? (i := 817) (by decide +kernel)) (by decide +kernel), gw_mem (List.mem_of_getElem? (i := 818) (by decide +kernel)) (by decide +kernel), gw_mem (List.mem_of_getElem? (i := 58) (by decide +kernel)) (by decide +kernel), ⟨by decide +kernel, by decide +kernel, by decide +kernel⟩⟩
set_option maxRecDepth 20000 in
theorem gm_X2_init : Cond.code yX2_init cX2_init 2 none ∈ gw_tbl ∧ Cond.instanceMethod yX2_init ∈ gw_tbl ∧ Cond.initialized yX2_init.cls ∈ gw_tbl := ⟨gw_mem (List.mem_of_getElem? (i := 160) (by decide +kernel)) (by decide +kernel), gw_mem (List.mem_of_getElem? (i := 159) (by decide +kernel)) (by decide +kernel), gw_mem (List.mem_of_getElem? (i := 57) (by decide +kernel)) (by decide +kernel)⟩
set_option maxRecDepth 20000 in
theorem gm_X2_isEmpty : gw_MV yX2_isEmpty cX2_isEmpty 1 (some .boolean) 0 := ⟨gw_mem (List.mem_of_getElem? (i := 748) (by decide +kernel)) (by decide +kernel), gw_mem (List.mem_of_getElem? (i := 746) (by decide +kernel)) (by decide +kernel), gw_mem (List.mem_of_getElem? (i := 747) (by decide +kernel)) (by decide +kernel), gw_mem (List.mem_of_getElem? (i := 57) (by decide +kernel)) (by decide +kernel), ⟨by decide +kernel, by decide +kernel, by decide +kernel⟩⟩
set_option maxRecDepth 20000 in
theorem gm_X2_remember : gw_MV yX2_remember cX2_remember 2 none 1 := ⟨gw_mem (List.mem_of_getElem? (i := 680) (by decide +kernel)) (by decide +kernel), gw_mem (List.mem_of_getElem? (i := 678) (by decide +kernel)) (by decide +kernel), gw_mem (List.mem_of_getElem? (i := 679) (by decide +kernel)) (by decide +kernel), gw_mem (List.mem_of_getElem? (i := 57) (by decide +kernel)) (by decide +kernel), ⟨by decide +kernel, by decide +kernel, by decide +kernel⟩⟩
set_option maxRecDepth 20000 in
theorem gm_X2_takeBack : gw_MV yX2_takeBack cX2_takeBack 2 (some .int) 1 := ⟨gw_mem (List.mem_of_getElem? (i := 752) (by decide +kernel)) (by decide +kernel), gw_mem (List.mem_of_getElem? (i := 750) (by decide +kernel)) (by decide +kernel), gw_mem (List.mem_of_getElem? (i := 751) (by decide +kernel)) (by decide +kernel), gw_mem (List.mem_of_getElem? (i := 57) (by decide +kernel)) (by decide +kernel), ⟨by decide +kernel, by decide +kernel, by decide +kernel⟩⟩
set_option maxRecDepth 20000 in
theorem gm_X2_forget : gw_MV yX2_forget cX2_forget 1 none 0 := ⟨gw_mem (List.mem_of_getElem? (i := 518) (by decide +kernel)) (by decide +kernel), gw_mem (List.mem_of_getElem? (i := 516) (by decide +kernel)) (by decide +kernel), gw_mem (List.mem_of_getElem? (i := 517) (by decide +kernel)) (by decide +kernel), gw_mem (List.mem_of_getElem? (i := 57) (by decide +kernel)) (by decide +kernel), ⟨by decide +kernel, by decide +kernel, by decide +kernel⟩⟩
set_option maxRecDepth 20000 in
theorem gm_X3_empty : gw_MV yX3_empty cX3_empty 1 none 0 := ⟨gw_mem (List.mem_of_getElem? (i := 514) (by decide +kernel)) (by decide +kernel), gw_mem (List.mem_of_getElem? (i := 512) (by decide +kernel)) (by decide +kernel), gw_mem (List.mem_of_getElem? (i := 513) (by decide +kernel)) (by decide +kernel), gw_mem (List.mem_of_getElem? (i := 56) (by decide +kernel)) (by decide +kernel), ⟨by decide +kernel, by decide +kernel, by decide +kernel⟩⟩
set_option maxRecDepth 20000 in
theorem gm_X3_hasModule : gw_MV yX3_hasModule cX3_hasModule 2 (some .boolean) 1 := ⟨gw_mem (List.mem_of_getElem? (i := 558) (by decide +kernel)) (by decide +kernel), gw_mem (List.mem_of_getElem? (i := 556) (by decide +kernel)) (by decide +kernel), gw_mem (List.mem_of_getElem? (i := 557) (by decide +kernel)) (by decide +kernel), gw_mem (List.mem_of_getElem? (i := 56) (by decide +kernel)) (by decide +kernel), ⟨by decide +kernel, by decide +kernel, by decide +kernel⟩⟩
set_option maxRecDepth 20000 in
theorem gm_X3_hasWire : gw_MV yX3_hasWire cX3_hasWire 2 (some .boolean) 1 := ⟨gw_mem (List.mem_of_getElem? (i := 579) (by decide +kernel)) (by decide +kernel), gw_mem (List.mem_of_getElem? (i := 577) (by decide +kernel)) (by decide +kernel), gw_mem (List.mem_of_getElem? (i := 578) (by decide +kernel)) (by decide +kernel), gw_mem (List.mem_of_getElem? (i := 56) (by decide +kernel)) (by decide +kernel), ⟨by decide +kernel, by decide +kernel, by decide +kernel⟩⟩
set_option maxRecDepth 20000 in
theorem gm_X3_moduleFault : gw_MV yX3_moduleFault cX3_moduleFault 2 (some (.object "RateWires$Fault")) 1 := ⟨gw_mem (List.mem_of_getElem? (i := 639) (by decide +kernel)) (by decide +kernel), gw_mem (List.mem_of_getElem? (i := 637) (by decide +kernel)) (by decide +kernel), gw_mem (List.mem_of_getElem? (i := 638) (by decide +kernel)) (by decide +kernel), gw_mem (List.mem_of_getElem? (i := 56) (by decide +kernel)) (by decide +kernel), ⟨by decide +kernel, by decide +kernel, by decide +kernel⟩⟩
set_option maxRecDepth 20000 in
theorem gm_X3_wireFault : gw_MV yX3_wireFault cX3_wireFault 2 (some (.object "RateWires$Fault")) 1 := ⟨gw_mem (List.mem_of_getElem? (i := 653) (by decide +kernel)) (by decide +kernel), gw_mem (List.mem_of_getElem? (i := 651) (by decide +kernel)) (by decide +kernel), gw_mem (List.mem_of_getElem? (i := 652) (by decide +kernel)) (by decide +kernel), gw_mem (List.mem_of_getElem? (i := 56) (by decide +kernel)) (by decide +kernel), ⟨by decide +kernel, by decide +kernel, by decide +kernel⟩⟩
set_option maxRecDepth 20000 in
theorem gm_X3_newModuleFault : gw_MV yX3_newModuleFault cX3_newModuleFault 3 (some (.object "RateWires$Fault")) 2 := ⟨gw_mem (List.mem_of_getElem? (i := 539) (by decide +kernel)) (by decide +kernel), gw_mem (List.mem_of_getElem? (i := 537) (by decide +kernel)) (by decide +kernel), gw_mem (List.mem_of_getElem? (i := 538) (by decide +kernel)) (by decide +kernel), gw_mem (List.mem_of_getElem? (i := 56) (by decide +kernel)) (by decide +kernel), ⟨by decide +kernel, by decide +kernel, by decide +kernel⟩⟩
set_option maxRecDepth 20000 in
theorem gm_X3_reached : gw_MV yX3_reached cX3_reached 6 (some .int) 2 := ⟨gw_mem (List.mem_of_getElem? (i := 567) (by decide +kernel)) (by decide +kernel), gw_mem (List.mem_of_getElem? (i := 566) (by decide +kernel)) (by decide +kernel), gw_mem (List.mem_of_getElem? (i := 9) (by decide +kernel)) (by decide +kernel), gw_mem (List.mem_of_getElem? (i := 56) (by decide +kernel)) (by decide +kernel), ⟨by decide +kernel, by decide +kernel, by decide +kernel⟩⟩
set_option maxRecDepth 20000 in
theorem gm_X3_closesDeadLoop : gw_MV yX3_closesDeadLoop cX3_closesDeadLoop 3 (some .boolean) 2 := ⟨gw_mem (List.mem_of_getElem? (i := 563) (by decide +kernel)) (by decide +kernel), gw_mem (List.mem_of_getElem? (i := 562) (by decide +kernel)) (by decide +kernel), gw_mem (List.mem_of_getElem? (i := 8) (by decide +kernel)) (by decide +kernel), gw_mem (List.mem_of_getElem? (i := 56) (by decide +kernel)) (by decide +kernel), ⟨by decide +kernel, by decide +kernel, by decide +kernel⟩⟩
set_option maxRecDepth 20000 in
theorem gm_X3_newWireFault : gw_MV yX3_newWireFault cX3_newWireFault 6 (some (.object "RateWires$Fault")) 5 := ⟨gw_mem (List.mem_of_getElem? (i := 554) (by decide +kernel)) (by decide +kernel), gw_mem (List.mem_of_getElem? (i := 552) (by decide +kernel)) (by decide +kernel), gw_mem (List.mem_of_getElem? (i := 553) (by decide +kernel)) (by decide +kernel), gw_mem (List.mem_of_getElem? (i := 56) (by decide +kernel)) (by decide +kernel), ⟨by decide +kernel, by decide +kernel, by decide +kernel⟩⟩
set_option maxRecDepth 20000 in
theorem gm_X3_newMarksFault : gw_MV yX3_newMarksFault cX3_newMarksFault 3 (some (.object "RateWires$Fault")) 2 := ⟨gw_mem (List.mem_of_getElem? (i := 710) (by decide +kernel)) (by decide +kernel), gw_mem (List.mem_of_getElem? (i := 708) (by decide +kernel)) (by decide +kernel), gw_mem (List.mem_of_getElem? (i := 709) (by decide +kernel)) (by decide +kernel), gw_mem (List.mem_of_getElem? (i := 56) (by decide +kernel)) (by decide +kernel), ⟨by decide +kernel, by decide +kernel, by decide +kernel⟩⟩
set_option maxRecDepth 20000 in
theorem gm_X3_workFault : gw_MV yX3_workFault cX3_workFault 2 (some (.object "RateWires$Fault")) 1 := ⟨gw_mem (List.mem_of_getElem? (i := 591) (by decide +kernel)) (by decide +kernel), gw_mem (List.mem_of_getElem? (i := 589) (by decide +kernel)) (by decide +kernel), gw_mem (List.mem_of_getElem? (i := 590) (by decide +kernel)) (by decide +kernel), gw_mem (List.mem_of_getElem? (i := 56) (by decide +kernel)) (by decide +kernel), ⟨by decide +kernel, by decide +kernel, by decide +kernel⟩⟩
set_option maxRecDepth 20000 in
theorem gm_X3_newModule : gw_MV yX3_newModule cX3_newModule 3 (some .int) 2 := ⟨gw_mem (List.mem_of_getElem? (i := 546) (by decide +kernel)) (by decide +kernel), gw_mem (List.mem_of_getElem? (i := 544) (by decide +kernel)) (by decide +kernel), gw_mem (List.mem_of_getElem? (i := 545) (by decide +kernel)) (by decide +kernel), gw_mem (List.mem_of_getElem? (i := 56) (by decide +kernel)) (by decide +kernel), ⟨by decide +kernel, by decide +kernel, by decide +kernel⟩⟩
set_option maxRecDepth 20000 in
theorem gm_X3_newWire : gw_MV yX3_newWire cX3_newWire 6 (some .int) 5 := ⟨gw_mem (List.mem_of_getElem? (i := 571) (by decide +kernel)) (by decide +kernel), gw_mem (List.mem_of_getElem? (i := 569) (by decide +kernel)) (by decide +kernel), gw_mem (List.mem_of_getElem? (i := 570) (by decide +kernel)) (by decide +kernel), gw_mem (List.mem_of_getElem? (i := 56) (by decide +kernel)) (by decide +kernel), ⟨by decide +kernel, by decide +kernel, by decide +kernel⟩⟩
set_option maxRecDepth 20000 in
theorem gm_X3_dropWire : gw_MV yX3_dropWire cX3_dropWire 4 (some .int) 1 := ⟨gw_mem (List.mem_of_getElem? (i := 583) (by decide +kernel)) (by decide +kernel), gw_mem (List.mem_of_getElem? (i := 581) (by decide +kernel)) (by decide +kernel), gw_mem (List.mem_of_getElem? (i := 582) (by decide +kernel)) (by decide +kernel), gw_mem (List.mem_of_getElem? (i := 56) (by decide +kernel)) (by decide +kernel), ⟨by decide +kernel, by decide +kernel, by decide +kernel⟩⟩
set_option maxRecDepth 20000 in
theorem gm_X3_newMarks : gw_MV yX3_newMarks cX3_newMarks 4 (some .int) 2 := ⟨gw_mem (List.mem_of_getElem? (i := 714) (by decide +kernel)) (by decide +kernel), gw_mem (List.mem_of_getElem? (i := 712) (by decide +kernel)) (by decide +kernel), gw_mem (List.mem_of_getElem? (i := 713) (by decide +kernel)) (by decide +kernel), gw_mem (List.mem_of_getElem? (i := 56) (by decide +kernel)) (by decide +kernel), ⟨by decide +kernel, by decide +kernel, by decide +kernel⟩⟩
set_option maxRecDepth 20000 in
theorem gm_X3_triesModule : gw_MV yX3_triesModule cX3_triesModule 4 (some .boolean) 2 := ⟨gw_mem (List.mem_of_getElem? (i := 535) (by decide +kernel)) (by decide +kernel), gw_mem (List.mem_of_getElem? (i := 533) (by decide +kernel)) (by decide +kernel), gw_mem (List.mem_of_getElem? (i := 534) (by decide +kernel)) (by decide +kernel), gw_mem (List.mem_of_getElem? (i := 56) (by decide +kernel)) (by decide +kernel), ⟨by decide +kernel, by decide +kernel, by decide +kernel⟩⟩
set_option maxRecDepth 20000 in
theorem gm_X3_triesWire : gw_MV yX3_triesWire cX3_triesWire 7 (some .boolean) 5 := ⟨gw_mem (List.mem_of_getElem? (i := 550) (by decide +kernel)) (by decide +kernel), gw_mem (List.mem_of_getElem? (i := 548) (by decide +kernel)) (by decide +kernel), gw_mem (List.mem_of_getElem? (i := 549) (by decide +kernel)) (by decide +kernel), gw_mem (List.mem_of_getElem? (i := 56) (by decide +kernel)) (by decide +kernel), ⟨by decide +kernel, by decide +kernel, by decide +kernel⟩⟩
set_option maxRecDepth 20000 in
theorem gm_X3_triesCut : gw_MV yX3_triesCut cX3_triesCut 3 (some .boolean) 1 := ⟨gw_mem (List.mem_of_getElem? (i := 575) (by decide +kernel)) (by decide +kernel), gw_mem (List.mem_of_getElem? (i := 573) (by decide +kernel)) (by decide +kernel), gw_mem (List.mem_of_getElem? (i := 574) (by decide +kernel)) (by decide +kernel), gw_mem (List.mem_of_getElem? (i := 56) (by decide +kernel)) (by decide +kernel), ⟨by decide +kernel, by decide +kernel, by decide +kernel⟩⟩
set_option maxRecDepth 20000 in
theorem gm_X3_triesMarks : gw_MV yX3_triesMarks cX3_triesMarks 4 (some .boolean) 2 := ⟨gw_mem (List.mem_of_getElem? (i := 813) (by decide +kernel)) (by decide +kernel), gw_mem (List.mem_of_getElem? (i := 811) (by decide +kernel)) (by decide +kernel), gw_mem (List.mem_of_getElem? (i := 812) (by decide +kernel)) (by decide +kernel), gw_mem (List.mem_of_getElem? (i := 56) (by decide +kernel)) (by decide +kernel), ⟨by decide +kernel, by decide +kernel, by decide +kernel⟩⟩
set_option maxRecDepth 20000 in
theorem gm_X3_triesWork : gw_MV yX3_triesWork cX3_triesWork 3 (some .boolean) 1 := ⟨gw_mem (List.mem_of_getElem? (i := 587) (by decide +kernel)) (by decide +kernel), gw_mem (List.mem_of_getElem? (i := 585) (by decide +kernel)) (by decide +kernel), gw_mem (List.mem_of_getElem? (i := 586) (by decide +kernel)) (by decide +kernel), gw_mem (List.mem_of_getElem? (i := 56) (by decide +kernel)) (by decide +kernel), ⟨by decide +kernel, by decide +kernel, by decide +kernel⟩⟩
set_option maxRecDepth 20000 in
theorem gm_X3_hasMarks : gw_MV yX3_hasMarks cX3_hasMarks 3 (some .boolean) 2 := ⟨gw_mem (List.mem_of_getElem? (i := 828) (by decide +kernel)) (by decide +kernel), gw_mem (List.mem_of_getElem? (i := 826) (by decide +kernel)) (by decide +kernel), gw_mem (List.mem_of_getElem? (i := 827) (by decide +kernel)) (by decide +kernel), gw_mem (List.mem_of_getElem? (i := 56) (by decide +kernel)) (by decide +kernel), ⟨by decide +kernel, by decide +kernel, by decide +kernel⟩⟩
set_option maxRecDepth 20000 in
theorem gm_X3_hasWorked : gw_MV yX3_hasWorked cX3_hasWorked 3 (some .boolean) 2 := ⟨gw_mem (List.mem_of_getElem? (i := 832) (by decide +kernel)) (by decide +kernel), gw_mem (List.mem_of_getElem? (i := 830) (by decide +kernel)) (by decide +kernel), gw_mem (List.mem_of_getElem? (i := 831) (by decide +kernel)) (by decide +kernel), gw_mem (List.mem_of_getElem? (i := 56) (by decide +kernel)) (by decide +kernel), ⟨by decide +kernel, by decide +kernel, by decide +kernel⟩⟩
set_option maxRecDepth 20000 in
theorem gm_X3_allMarks : gw_MV yX3_allMarks cX3_allMarks 3 (some .int) 0 := ⟨gw_mem (List.mem_of_getElem? (i := 605) (by decide +kernel)) (by decide +kernel), gw_mem (List.mem_of_getElem? (i := 603) (by decide +kernel)) (by decide +kernel), gw_mem (List.mem_of_getElem? (i := 604) (by decide +kernel)) (by decide +kernel), gw_mem (List.mem_of_getElem? (i := 56) (by decide +kernel)) (by decide +kernel), ⟨by decide +kernel, by decide +kernel, by decide +kernel⟩⟩
set_option maxRecDepth 20000 in
theorem gm_X3_allWorks : gw_MV yX3_allWorks cX3_allWorks 3 (some .int) 0 := ⟨gw_mem (List.mem_of_getElem? (i := 609) (by decide +kernel)) (by decide +kernel), gw_mem (List.mem_of_getElem? (i := 607) (by decide +kernel)) (by decide +kernel), gw_mem (List.mem_of_getElem? (i := 608) (by decide +kernel)) (by decide +kernel), gw_mem (List.mem_of_getElem? (i := 56) (by decide +kernel)) (by decide +kernel), ⟨by decide +kernel, by decide +kernel, by decide +kernel⟩⟩
set_option maxRecDepth 20000 in
theorem gm_X3_count : gw_MS yX3_count cX3_count 5 (some .int) 3 := ⟨gw_mem (List.mem_of_getElem? (i := 642) (by decide +kernel)) (by decide +kernel), gw_mem (List.mem_of_getElem? (i := 641) (by decide +kernel)) (by decide +kernel), gw_mem (List.mem_of_getElem? (i := 56) (by decide +kernel)) (by decide +kernel), ⟨by decide +kernel, by decide +kernel, by decide +kernel⟩⟩
set_option maxRecDepth 20000 in
theorem gm_X3_ready : gw_MV yX3_ready cX3_ready 3 (some .int) 0 := ⟨gw_mem (List.mem_of_getElem? (i := 623) (by decide +kernel)) (by decide +kernel), gw_mem (List.mem_of_getElem? (i := 621) (by decide +kernel)) (by decide +kernel), gw_mem (List.mem_of_getElem? (i := 622) (by decide +kernel)) (by decide +kernel), gw_mem (List.mem_of_getElem? (i := 56) (by decide +kernel)) (by decide +kernel), ⟨by decide +kernel, by decide +kernel, by decide +kernel⟩⟩
set_option maxRecDepth 20000 in
theorem gm_X3_onLoops : gw_MV yX3_onLoops cX3_onLoops 5 (some .int) 0 := ⟨gw_mem (List.mem_of_getElem? (i := 627) (by decide +kernel)) (by decide +kernel), gw_mem (List.mem_of_getElem? (i := 625) (by decide +kernel)) (by decide +kernel), gw_mem (List.mem_of_getElem? (i := 626) (by decide +kernel)) (by decide +kernel), gw_mem (List.mem_of_getElem? (i := 56) (by decide +kernel)) (by decide +kernel), ⟨by decide +kernel, by decide +kernel, by decide +kernel⟩⟩
set_option maxRecDepth 20000 in
theorem gm_X3_partOf : gw_MV yX3_partOf cX3_partOf 6 (some .int) 1 := ⟨gw_mem (List.mem_of_getElem? (i := 618) (by decide +kernel)) (by decide +kernel), gw_mem (List.mem_of_getElem? (i := 617) (by decide +kernel)) (by decide +kernel), gw_mem (List.mem_of_getElem? (i := 10) (by decide +kernel)) (by decide +kernel), gw_mem (List.mem_of_getElem? (i := 56) (by decide +kernel)) (by decide +kernel), ⟨by decide +kernel, by decide +kernel, by decide +kernel⟩⟩
set_option maxRecDepth 20000 in
theorem gm_X3_parts : gw_MV yX3_parts cX3_parts 4 (some .int) 0 := ⟨gw_mem (List.mem_of_getElem? (i := 614) (by decide +kernel)) (by decide +kernel), gw_mem (List.mem_of_getElem? (i := 612) (by decide +kernel)) (by decide +kernel), gw_mem (List.mem_of_getElem? (i := 613) (by decide +kernel)) (by decide +kernel), gw_mem (List.mem_of_getElem? (i := 56) (by decide +kernel)) (by decide +kernel), ⟨by decide +kernel, by decide +kernel, by decide +kernel⟩⟩
set_option maxRecDepth 20000 in
theorem gm_X5_init : Cond.code yX5_init cX5_init 1 none ∈ gw_tbl ∧ Cond.instanceMethod yX5_init ∈ gw_tbl ∧ Cond.initialized yX5_init.cls ∈ gw_tbl := ⟨gw_mem (List.mem_of_getElem? (i := 84) (by decide +kernel)) (by decide +kernel), gw_mem (List.mem_of_getElem? (i := 83) (by decide +kernel)) (by decide +kernel), gw_mem (List.mem_of_getElem? (i := 55) (by decide +kernel)) (by decide +kernel)⟩
set_option maxRecDepth 20000 in
theorem gm_X5_isFull : gw_MV yX5_isFull cX5_isFull 1 (some .boolean) 0 := ⟨gw_mem (List.mem_of_getElem? (i := 499) (by decide +kernel)) (by decide +kernel), gw_mem (List.mem_of_getElem? (i := 497) (by decide +kernel)) (by decide +kernel), gw_mem (List.mem_of_getElem? (i := 498) (by decide +kernel)) (by decide +kernel), gw_mem (List.mem_of_getElem? (i := 55) (by decide +kernel)) (by decide +kernel), ⟨by decide +kernel, by decide +kernel, by decide +kernel⟩⟩
set_option maxRecDepth 20000 in
theorem gm_X5_size : gw_MV yX5_size cX5_size 1 (some .int) 0 := ⟨gw_mem (List.mem_of_getElem? (i := 522) (by decide +kernel)) (by decide +kernel), gw_mem (List.mem_of_getElem? (i := 520) (by decide +kernel)) (by decide +kernel), gw_mem (List.mem_of_getElem? (i := 521) (by decide +kernel)) (by decide +kernel), gw_mem (List.mem_of_getElem? (i := 55) (by decide +kernel)) (by decide +kernel), ⟨by decide +kernel, by decide +kernel, by decide +kernel⟩⟩
set_option maxRecDepth 20000 in
theorem gm_X5_add : gw_MV yX5_add cX5_add 2 (some .int) 1 := ⟨gw_mem (List.mem_of_getElem? (i := 503) (by decide +kernel)) (by decide +kernel), gw_mem (List.mem_of_getElem? (i := 501) (by decide +kernel)) (by decide +kernel), gw_mem (List.mem_of_getElem? (i := 502) (by decide +kernel)) (by decide +kernel), gw_mem (List.mem_of_getElem? (i := 55) (by decide +kernel)) (by decide +kernel), ⟨by decide +kernel, by decide +kernel, by decide +kernel⟩⟩
set_option maxRecDepth 20000 in
theorem gm_X5_empty : gw_MV yX5_empty cX5_empty 2 (some .int) 0 := ⟨gw_mem (List.mem_of_getElem? (i := 277) (by decide +kernel)) (by decide +kernel), gw_mem (List.mem_of_getElem? (i := 275) (by decide +kernel)) (by decide +kernel), gw_mem (List.mem_of_getElem? (i := 276) (by decide +kernel)) (by decide +kernel), gw_mem (List.mem_of_getElem? (i := 55) (by decide +kernel)) (by decide +kernel), ⟨by decide +kernel, by decide +kernel, by decide +kernel⟩⟩
set_option maxRecDepth 20000 in
theorem gm_X5_at : gw_MV yX5_at cX5_at 2 (some .char) 1 := ⟨gw_mem (List.mem_of_getElem? (i := 289) (by decide +kernel)) (by decide +kernel), gw_mem (List.mem_of_getElem? (i := 287) (by decide +kernel)) (by decide +kernel), gw_mem (List.mem_of_getElem? (i := 288) (by decide +kernel)) (by decide +kernel), gw_mem (List.mem_of_getElem? (i := 55) (by decide +kernel)) (by decide +kernel), ⟨by decide +kernel, by decide +kernel, by decide +kernel⟩⟩
set_option maxRecDepth 20000 in
theorem gm_X5_digit : gw_MV yX5_digit cX5_digit 2 (some .int) 1 := ⟨gw_mem (List.mem_of_getElem? (i := 531) (by decide +kernel)) (by decide +kernel), gw_mem (List.mem_of_getElem? (i := 529) (by decide +kernel)) (by decide +kernel), gw_mem (List.mem_of_getElem? (i := 530) (by decide +kernel)) (by decide +kernel), gw_mem (List.mem_of_getElem? (i := 55) (by decide +kernel)) (by decide +kernel), ⟨by decide +kernel, by decide +kernel, by decide +kernel⟩⟩
set_option maxRecDepth 20000 in
theorem gm_X5_digitsOf : gw_MS yX5_digitsOf cX5_digitsOf 1 (some .int) 1 := ⟨gw_mem (List.mem_of_getElem? (i := 296) (by decide +kernel)) (by decide +kernel), gw_mem (List.mem_of_getElem? (i := 295) (by decide +kernel)) (by decide +kernel), gw_mem (List.mem_of_getElem? (i := 55) (by decide +kernel)) (by decide +kernel), ⟨by decide +kernel, by decide +kernel, by decide +kernel⟩⟩
set_option maxRecDepth 20000 in
theorem gm_X5_lowest : gw_MS yX5_lowest cX5_lowest 2 (some .char) 2 := ⟨gw_mem (List.mem_of_getElem? (i := 299) (by decide +kernel)) (by decide +kernel), gw_mem (List.mem_of_getElem? (i := 298) (by decide +kernel)) (by decide +kernel), gw_mem (List.mem_of_getElem? (i := 55) (by decide +kernel)) (by decide +kernel), ⟨by decide +kernel, by decide +kernel, by decide +kernel⟩⟩
set_option maxRecDepth 20000 in
theorem gm_X5_highest : gw_MS yX5_highest cX5_highest 3 (some .char) 3 := ⟨gw_mem (List.mem_of_getElem? (i := 302) (by decide +kernel)) (by decide +kernel), gw_mem (List.mem_of_getElem? (i := 301) (by decide +kernel)) (by decide +kernel), gw_mem (List.mem_of_getElem? (i := 55) (by decide +kernel)) (by decide +kernel), ⟨by decide +kernel, by decide +kernel, by decide +kernel⟩⟩
set_option maxRecDepth 20000 in
theorem gm_X5_errorOfCommand : gw_MV yX5_errorOfCommand cX5_errorOfCommand 4 (some .int) 1 := ⟨gw_mem (List.mem_of_getElem? (i := 293) (by decide +kernel)) (by decide +kernel), gw_mem (List.mem_of_getElem? (i := 292) (by decide +kernel)) (by decide +kernel), gw_mem (List.mem_of_getElem? (i := 0) (by decide +kernel)) (by decide +kernel), gw_mem (List.mem_of_getElem? (i := 55) (by decide +kernel)) (by decide +kernel), ⟨by decide +kernel, by decide +kernel, by decide +kernel⟩⟩
set_option maxRecDepth 20000 in
theorem gm_X5_firstError : gw_MV yX5_firstError cX5_firstError 3 (some .int) 0 := ⟨gw_mem (List.mem_of_getElem? (i := 285) (by decide +kernel)) (by decide +kernel), gw_mem (List.mem_of_getElem? (i := 283) (by decide +kernel)) (by decide +kernel), gw_mem (List.mem_of_getElem? (i := 284) (by decide +kernel)) (by decide +kernel), gw_mem (List.mem_of_getElem? (i := 55) (by decide +kernel)) (by decide +kernel), ⟨by decide +kernel, by decide +kernel, by decide +kernel⟩⟩
set_option maxRecDepth 20000 in
theorem gm_X6_init : Cond.code yX6_init cX6_init 1 none ∈ gw_tbl ∧ Cond.instanceMethod yX6_init ∈ gw_tbl ∧ Cond.initialized yX6_init.cls ∈ gw_tbl := ⟨gw_mem (List.mem_of_getElem? (i := 236) (by decide +kernel)) (by decide +kernel), gw_mem (List.mem_of_getElem? (i := 235) (by decide +kernel)) (by decide +kernel), gw_mem (List.mem_of_getElem? (i := 60) (by decide +kernel)) (by decide +kernel)⟩
set_option maxRecDepth 20000 in
theorem gm_X6_shorten : gw_MV yX6_shorten cX6_shorten 3 none 2 := ⟨gw_mem (List.mem_of_getElem? (i := 668) (by decide +kernel)) (by decide +kernel), gw_mem (List.mem_of_getElem? (i := 667) (by decide +kernel)) (by decide +kernel), gw_mem (List.mem_of_getElem? (i := 11) (by decide +kernel)) (by decide +kernel), gw_mem (List.mem_of_getElem? (i := 60) (by decide +kernel)) (by decide +kernel), ⟨by decide +kernel, by decide +kernel, by decide +kernel⟩⟩
set_option maxRecDepth 20000 in
theorem gm_X6_fewestMarks : gw_MV yX6_fewestMarks cX6_fewestMarks 6 (some .int) 3 := ⟨gw_mem (List.mem_of_getElem? (i := 664) (by decide +kernel)) (by decide +kernel), gw_mem (List.mem_of_getElem? (i := 662) (by decide +kernel)) (by decide +kernel), gw_mem (List.mem_of_getElem? (i := 663) (by decide +kernel)) (by decide +kernel), gw_mem (List.mem_of_getElem? (i := 60) (by decide +kernel)) (by decide +kernel), ⟨by decide +kernel, by decide +kernel, by decide +kernel⟩⟩
set_option maxRecDepth 20000 in
theorem gm_X7_init : Cond.code yX7_init cX7_init 2 none ∈ gw_tbl ∧ Cond.instanceMethod yX7_init ∈ gw_tbl ∧ Cond.initialized yX7_init.cls ∈ gw_tbl := ⟨gw_mem (List.mem_of_getElem? (i := 76) (by decide +kernel)) (by decide +kernel), gw_mem (List.mem_of_getElem? (i := 75) (by decide +kernel)) (by decide +kernel), gw_mem (List.mem_of_getElem? (i := 54) (by decide +kernel)) (by decide +kernel)⟩
set_option maxRecDepth 20000 in
theorem gm_X7_refuse : gw_MS yX7_refuse cX7_refuse 1 none 1 := ⟨gw_mem (List.mem_of_getElem? (i := 391) (by decide +kernel)) (by decide +kernel), gw_mem (List.mem_of_getElem? (i := 390) (by decide +kernel)) (by decide +kernel), gw_mem (List.mem_of_getElem? (i := 54) (by decide +kernel)) (by decide +kernel), ⟨by decide +kernel, by decide +kernel, by decide +kernel⟩⟩
set_option maxRecDepth 20000 in
theorem gm_X7_append : gw_MV yX7_append cX7_append 2 (some .int) 1 := ⟨gw_mem (List.mem_of_getElem? (i := 381) (by decide +kernel)) (by decide +kernel), gw_mem (List.mem_of_getElem? (i := 379) (by decide +kernel)) (by decide +kernel), gw_mem (List.mem_of_getElem? (i := 380) (by decide +kernel)) (by decide +kernel), gw_mem (List.mem_of_getElem? (i := 54) (by decide +kernel)) (by decide +kernel), ⟨by decide +kernel, by decide +kernel, by decide +kernel⟩⟩
set_option maxRecDepth 20000 in
theorem gm_X7_clearText : gw_MV yX7_clearText cX7_clearText 1 (some .int) 0 := ⟨gw_mem (List.mem_of_getElem? (i := 273) (by decide +kernel)) (by decide +kernel), gw_mem (List.mem_of_getElem? (i := 271) (by decide +kernel)) (by decide +kernel), gw_mem (List.mem_of_getElem? (i := 272) (by decide +kernel)) (by decide +kernel), gw_mem (List.mem_of_getElem? (i := 54) (by decide +kernel)) (by decide +kernel), ⟨by decide +kernel, by decide +kernel, by decide +kernel⟩⟩
set_option maxRecDepth 20000 in
theorem gm_X7_errorPosition : gw_MV yX7_errorPosition cX7_errorPosition 1 (some .int) 0 := ⟨gw_mem (List.mem_of_getElem? (i := 281) (by decide +kernel)) (by decide +kernel), gw_mem (List.mem_of_getElem? (i := 279) (by decide +kernel)) (by decide +kernel), gw_mem (List.mem_of_getElem? (i := 280) (by decide +kernel)) (by decide +kernel), gw_mem (List.mem_of_getElem? (i := 54) (by decide +kernel)) (by decide +kernel), ⟨by decide +kernel, by decide +kernel, by decide +kernel⟩⟩
set_option maxRecDepth 20000 in
theorem gm_X7_obeysText : gw_MV yX7_obeysText cX7_obeysText 2 (some .boolean) 1 := ⟨gw_mem (List.mem_of_getElem? (i := 526) (by decide +kernel)) (by decide +kernel), gw_mem (List.mem_of_getElem? (i := 525) (by decide +kernel)) (by decide +kernel), gw_mem (List.mem_of_getElem? (i := 7) (by decide +kernel)) (by decide +kernel), gw_mem (List.mem_of_getElem? (i := 54) (by decide +kernel)) (by decide +kernel), ⟨by decide +kernel, by decide +kernel, by decide +kernel⟩⟩
set_option maxRecDepth 20000 in
theorem gm_X7_load : gw_MV yX7_load cX7_load 3 (some .int) 0 := ⟨gw_mem (List.mem_of_getElem? (i := 510) (by decide +kernel)) (by decide +kernel), gw_mem (List.mem_of_getElem? (i := 508) (by decide +kernel)) (by decide +kernel), gw_mem (List.mem_of_getElem? (i := 509) (by decide +kernel)) (by decide +kernel), gw_mem (List.mem_of_getElem? (i := 54) (by decide +kernel)) (by decide +kernel), ⟨by decide +kernel, by decide +kernel, by decide +kernel⟩⟩
set_option maxRecDepth 20000 in
theorem gm_X7_about : gw_MV yX7_about cX7_about 2 (some .int) 1 := ⟨gw_mem (List.mem_of_getElem? (i := 601) (by decide +kernel)) (by decide +kernel), gw_mem (List.mem_of_getElem? (i := 599) (by decide +kernel)) (by decide +kernel), gw_mem (List.mem_of_getElem? (i := 600) (by decide +kernel)) (by decide +kernel), gw_mem (List.mem_of_getElem? (i := 54) (by decide +kernel)) (by decide +kernel), ⟨by decide +kernel, by decide +kernel, by decide +kernel⟩⟩
set_option maxRecDepth 20000 in
theorem gm_X7_module : gw_MV yX7_module cX7_module 3 (some .int) 2 := ⟨gw_mem (List.mem_of_getElem? (i := 635) (by decide +kernel)) (by decide +kernel), gw_mem (List.mem_of_getElem? (i := 633) (by decide +kernel)) (by decide +kernel), gw_mem (List.mem_of_getElem? (i := 634) (by decide +kernel)) (by decide +kernel), gw_mem (List.mem_of_getElem? (i := 54) (by decide +kernel)) (by decide +kernel), ⟨by decide +kernel, by decide +kernel, by decide +kernel⟩⟩
set_option maxRecDepth 20000 in
theorem gm_X7_wire : gw_MV yX7_wire cX7_wire 3 (some .int) 2 := ⟨gw_mem (List.mem_of_getElem? (i := 649) (by decide +kernel)) (by decide +kernel), gw_mem (List.mem_of_getElem? (i := 647) (by decide +kernel)) (by decide +kernel), gw_mem (List.mem_of_getElem? (i := 648) (by decide +kernel)) (by decide +kernel), gw_mem (List.mem_of_getElem? (i := 54) (by decide +kernel)) (by decide +kernel), ⟨by decide +kernel, by decide +kernel, by decide +kernel⟩⟩
set_option maxRecDepth 20000 in
theorem gm_X7_between : gw_MV yX7_between cX7_between 3 (some .int) 2 := ⟨gw_mem (List.mem_of_getElem? (i := 660) (by decide +kernel)) (by decide +kernel), gw_mem (List.mem_of_getElem? (i := 658) (by decide +kernel)) (by decide +kernel), gw_mem (List.mem_of_getElem? (i := 659) (by decide +kernel)) (by decide +kernel), gw_mem (List.mem_of_getElem? (i := 54) (by decide +kernel)) (by decide +kernel), ⟨by decide +kernel, by decide +kernel, by decide +kernel⟩⟩
set_option maxRecDepth 20000 in
theorem gm_X7_addModule : gw_MV yX7_addModule cX7_addModule 3 (some .int) 2 := ⟨gw_mem (List.mem_of_getElem? (i := 675) (by decide +kernel)) (by decide +kernel), gw_mem (List.mem_of_getElem? (i := 673) (by decide +kernel)) (by decide +kernel), gw_mem (List.mem_of_getElem? (i := 674) (by decide +kernel)) (by decide +kernel), gw_mem (List.mem_of_getElem? (i := 54) (by decide +kernel)) (by decide +kernel), ⟨by decide +kernel, by decide +kernel, by decide +kernel⟩⟩
set_option maxRecDepth 20000 in
theorem gm_X7_lay : gw_MV yX7_lay cX7_lay 6 (some .int) 5 := ⟨gw_mem (List.mem_of_getElem? (i := 689) (by decide +kernel)) (by decide +kernel), gw_mem (List.mem_of_getElem? (i := 687) (by decide +kernel)) (by decide +kernel), gw_mem (List.mem_of_getElem? (i := 688) (by decide +kernel)) (by decide +kernel), gw_mem (List.mem_of_getElem? (i := 54) (by decide +kernel)) (by decide +kernel), ⟨by decide +kernel, by decide +kernel, by decide +kernel⟩⟩
set_option maxRecDepth 20000 in
theorem gm_X7_cut : gw_MV yX7_cut cX7_cut 2 (some .int) 1 := ⟨gw_mem (List.mem_of_getElem? (i := 698) (by decide +kernel)) (by decide +kernel), gw_mem (List.mem_of_getElem? (i := 696) (by decide +kernel)) (by decide +kernel), gw_mem (List.mem_of_getElem? (i := 697) (by decide +kernel)) (by decide +kernel), gw_mem (List.mem_of_getElem? (i := 54) (by decide +kernel)) (by decide +kernel), ⟨by decide +kernel, by decide +kernel, by decide +kernel⟩⟩
set_option maxRecDepth 20000 in
theorem gm_X7_put : gw_MV yX7_put cX7_put 3 (some .int) 2 := ⟨gw_mem (List.mem_of_getElem? (i := 706) (by decide +kernel)) (by decide +kernel), gw_mem (List.mem_of_getElem? (i := 704) (by decide +kernel)) (by decide +kernel), gw_mem (List.mem_of_getElem? (i := 705) (by decide +kernel)) (by decide +kernel), gw_mem (List.mem_of_getElem? (i := 54) (by decide +kernel)) (by decide +kernel), ⟨by decide +kernel, by decide +kernel, by decide +kernel⟩⟩
set_option maxRecDepth 20000 in
theorem gm_X7_work : gw_MV yX7_work cX7_work 2 (some .int) 1 := ⟨gw_mem (List.mem_of_getElem? (i := 721) (by decide +kernel)) (by decide +kernel), gw_mem (List.mem_of_getElem? (i := 719) (by decide +kernel)) (by decide +kernel), gw_mem (List.mem_of_getElem? (i := 720) (by decide +kernel)) (by decide +kernel), gw_mem (List.mem_of_getElem? (i := 54) (by decide +kernel)) (by decide +kernel), ⟨by decide +kernel, by decide +kernel, by decide +kernel⟩⟩
set_option maxRecDepth 20000 in
theorem gm_X7_round : gw_MV yX7_round cX7_round 2 (some .int) 1 := ⟨gw_mem (List.mem_of_getElem? (i := 730) (by decide +kernel)) (by decide +kernel), gw_mem (List.mem_of_getElem? (i := 728) (by decide +kernel)) (by decide +kernel), gw_mem (List.mem_of_getElem? (i := 729) (by decide +kernel)) (by decide +kernel), gw_mem (List.mem_of_getElem? (i := 54) (by decide +kernel)) (by decide +kernel), ⟨by decide +kernel, by decide +kernel, by decide +kernel⟩⟩
set_option maxRecDepth 20000 in
theorem gm_X7_undo : gw_MV yX7_undo cX7_undo 1 (some .int) 0 := ⟨gw_mem (List.mem_of_getElem? (i := 744) (by decide +kernel)) (by decide +kernel), gw_mem (List.mem_of_getElem? (i := 742) (by decide +kernel)) (by decide +kernel), gw_mem (List.mem_of_getElem? (i := 743) (by decide +kernel)) (by decide +kernel), gw_mem (List.mem_of_getElem? (i := 54) (by decide +kernel)) (by decide +kernel), ⟨by decide +kernel, by decide +kernel, by decide +kernel⟩⟩
set_option maxRecDepth 20000 in
theorem gm_X7_order : gw_MV yX7_order cX7_order 3 (some .int) 2 := ⟨gw_mem (List.mem_of_getElem? (i := 759) (by decide +kernel)) (by decide +kernel), gw_mem (List.mem_of_getElem? (i := 757) (by decide +kernel)) (by decide +kernel), gw_mem (List.mem_of_getElem? (i := 758) (by decide +kernel)) (by decide +kernel), gw_mem (List.mem_of_getElem? (i := 54) (by decide +kernel)) (by decide +kernel), ⟨by decide +kernel, by decide +kernel, by decide +kernel⟩⟩
set_option maxRecDepth 20000 in
theorem gm_X7_sticks : gw_MV yX7_sticks cX7_sticks 2 (some .int) 1 := ⟨gw_mem (List.mem_of_getElem? (i := 767) (by decide +kernel)) (by decide +kernel), gw_mem (List.mem_of_getElem? (i := 765) (by decide +kernel)) (by decide +kernel), gw_mem (List.mem_of_getElem? (i := 766) (by decide +kernel)) (by decide +kernel), gw_mem (List.mem_of_getElem? (i := 54) (by decide +kernel)) (by decide +kernel), ⟨by decide +kernel, by decide +kernel, by decide +kernel⟩⟩
set_option maxRecDepth 20000 in
theorem gm_X7_holds : gw_MV yX7_holds cX7_holds 3 (some .int) 2 := ⟨gw_mem (List.mem_of_getElem? (i := 774) (by decide +kernel)) (by decide +kernel), gw_mem (List.mem_of_getElem? (i := 772) (by decide +kernel)) (by decide +kernel), gw_mem (List.mem_of_getElem? (i := 773) (by decide +kernel)) (by decide +kernel), gw_mem (List.mem_of_getElem? (i := 54) (by decide +kernel)) (by decide +kernel), ⟨by decide +kernel, by decide +kernel, by decide +kernel⟩⟩
set_option maxRecDepth 20000 in
theorem gm_X7_bestRule : gw_MV yX7_bestRule cX7_bestRule 4 (some .int) 0 := ⟨gw_mem (List.mem_of_getElem? (i := 306) (by decide +kernel)) (by decide +kernel), gw_mem (List.mem_of_getElem? (i := 304) (by decide +kernel)) (by decide +kernel), gw_mem (List.mem_of_getElem? (i := 305) (by decide +kernel)) (by decide +kernel), gw_mem (List.mem_of_getElem? (i := 54) (by decide +kernel)) (by decide +kernel), ⟨by decide +kernel, by decide +kernel, by decide +kernel⟩⟩
set_option maxRecDepth 20000 in
theorem gm_X7_isCompleteWith : gw_MV yX7_isCompleteWith cX7_isCompleteWith 3 (some .boolean) 2 := ⟨gw_mem (List.mem_of_getElem? (i := 786) (by decide +kernel)) (by decide +kernel), gw_mem (List.mem_of_getElem? (i := 785) (by decide +kernel)) (by decide +kernel), gw_mem (List.mem_of_getElem? (i := 12) (by decide +kernel)) (by decide +kernel), gw_mem (List.mem_of_getElem? (i := 54) (by decide +kernel)) (by decide +kernel), ⟨by decide +kernel, by decide +kernel, by decide +kernel⟩⟩
set_option maxRecDepth 20000 in
theorem gm_X7_fewest : gw_MV yX7_fewest cX7_fewest 6 (some .int) 1 := ⟨gw_mem (List.mem_of_getElem? (i := 781) (by decide +kernel)) (by decide +kernel), gw_mem (List.mem_of_getElem? (i := 779) (by decide +kernel)) (by decide +kernel), gw_mem (List.mem_of_getElem? (i := 780) (by decide +kernel)) (by decide +kernel), gw_mem (List.mem_of_getElem? (i := 54) (by decide +kernel)) (by decide +kernel), ⟨by decide +kernel, by decide +kernel, by decide +kernel⟩⟩
set_option maxRecDepth 20000 in
theorem gm_X7_agrees : gw_MV yX7_agrees cX7_agrees 4 (some .int) 2 := ⟨gw_mem (List.mem_of_getElem? (i := 793) (by decide +kernel)) (by decide +kernel), gw_mem (List.mem_of_getElem? (i := 791) (by decide +kernel)) (by decide +kernel), gw_mem (List.mem_of_getElem? (i := 792) (by decide +kernel)) (by decide +kernel), gw_mem (List.mem_of_getElem? (i := 54) (by decide +kernel)) (by decide +kernel), ⟨by decide +kernel, by decide +kernel, by decide +kernel⟩⟩
set_option maxRecDepth 20000 in
theorem gm_X7_withoutGroups : gw_MS yX7_withoutGroups cX7_withoutGroups 6 (some .long) 2 := ⟨gw_mem (List.mem_of_getElem? (i := 803) (by decide +kernel)) (by decide +kernel), gw_mem (List.mem_of_getElem? (i := 802) (by decide +kernel)) (by decide +kernel), gw_mem (List.mem_of_getElem? (i := 54) (by decide +kernel)) (by decide +kernel), ⟨by decide +kernel, by decide +kernel, by decide +kernel⟩⟩
set_option maxRecDepth 20000 in
theorem gm_X7_obeysGroup : gw_MV yX7_obeysGroup cX7_obeysGroup 3 (some .boolean) 1 := ⟨gw_mem (List.mem_of_getElem? (i := 808) (by decide +kernel)) (by decide +kernel), gw_mem (List.mem_of_getElem? (i := 807) (by decide +kernel)) (by decide +kernel), gw_mem (List.mem_of_getElem? (i := 13) (by decide +kernel)) (by decide +kernel), gw_mem (List.mem_of_getElem? (i := 54) (by decide +kernel)) (by decide +kernel), ⟨by decide +kernel, by decide +kernel, by decide +kernel⟩⟩
set_option maxRecDepth 20000 in
theorem gm_X7_runScript : gw_MV yX7_runScript cX7_runScript 5 (some .int) 2 := ⟨gw_mem (List.mem_of_getElem? (i := 800) (by decide +kernel)) (by decide +kernel), gw_mem (List.mem_of_getElem? (i := 798) (by decide +kernel)) (by decide +kernel), gw_mem (List.mem_of_getElem? (i := 799) (by decide +kernel)) (by decide +kernel), gw_mem (List.mem_of_getElem? (i := 54) (by decide +kernel)) (by decide +kernel), ⟨by decide +kernel, by decide +kernel, by decide +kernel⟩⟩
set_option maxRecDepth 20000 in
theorem gm_X7_takeTurn : gw_MV yX7_takeTurn cX7_takeTurn 3 (some .int) 1 := ⟨gw_mem (List.mem_of_getElem? (i := 845) (by decide +kernel)) (by decide +kernel), gw_mem (List.mem_of_getElem? (i := 844) (by decide +kernel)) (by decide +kernel), gw_mem (List.mem_of_getElem? (i := 14) (by decide +kernel)) (by decide +kernel), gw_mem (List.mem_of_getElem? (i := 54) (by decide +kernel)) (by decide +kernel), ⟨by decide +kernel, by decide +kernel, by decide +kernel⟩⟩
set_option maxRecDepth 20000 in
theorem gm_X7_simulate : gw_MV yX7_simulate cX7_simulate 8 (some .int) 2 := ⟨gw_mem (List.mem_of_getElem? (i := 839) (by decide +kernel)) (by decide +kernel), gw_mem (List.mem_of_getElem? (i := 837) (by decide +kernel)) (by decide +kernel), gw_mem (List.mem_of_getElem? (i := 838) (by decide +kernel)) (by decide +kernel), gw_mem (List.mem_of_getElem? (i := 54) (by decide +kernel)) (by decide +kernel), ⟨by decide +kernel, by decide +kernel, by decide +kernel⟩⟩
set_option maxRecDepth 20000 in
theorem gm_X7_slotFault : gw_MS yX7_slotFault cX7_slotFault 1 (some (.object "RateWires$Fault")) 1 := ⟨gw_mem (List.mem_of_getElem? (i := 858) (by decide +kernel)) (by decide +kernel), gw_mem (List.mem_of_getElem? (i := 857) (by decide +kernel)) (by decide +kernel), gw_mem (List.mem_of_getElem? (i := 54) (by decide +kernel)) (by decide +kernel), ⟨by decide +kernel, by decide +kernel, by decide +kernel⟩⟩
set_option maxRecDepth 20000 in
theorem gm_X7_save : gw_MV yX7_save cX7_save 2 (some .int) 1 := ⟨gw_mem (List.mem_of_getElem? (i := 855) (by decide +kernel)) (by decide +kernel), gw_mem (List.mem_of_getElem? (i := 853) (by decide +kernel)) (by decide +kernel), gw_mem (List.mem_of_getElem? (i := 854) (by decide +kernel)) (by decide +kernel), gw_mem (List.mem_of_getElem? (i := 54) (by decide +kernel)) (by decide +kernel), ⟨by decide +kernel, by decide +kernel, by decide +kernel⟩⟩
set_option maxRecDepth 20000 in
theorem gm_X7_restore : gw_MV yX7_restore cX7_restore 2 (some .int) 1 := ⟨gw_mem (List.mem_of_getElem? (i := 865) (by decide +kernel)) (by decide +kernel), gw_mem (List.mem_of_getElem? (i := 863) (by decide +kernel)) (by decide +kernel), gw_mem (List.mem_of_getElem? (i := 864) (by decide +kernel)) (by decide +kernel), gw_mem (List.mem_of_getElem? (i := 54) (by decide +kernel)) (by decide +kernel), ⟨by decide +kernel, by decide +kernel, by decide +kernel⟩⟩
set_option maxRecDepth 20000 in
theorem gm_X8_init : Cond.code yX8_init cX8_init 1 none ∈ gw_tbl ∧ Cond.instanceMethod yX8_init ∈ gw_tbl ∧ Cond.initialized yX8_init.cls ∈ gw_tbl := ⟨gw_mem (List.mem_of_getElem? (i := 870) (by decide +kernel)) (by decide +kernel), gw_mem (List.mem_of_getElem? (i := 869) (by decide +kernel)) (by decide +kernel), gw_mem (List.mem_of_getElem? (i := 61) (by decide +kernel)) (by decide +kernel)⟩
set_option maxRecDepth 20000 in
theorem gm_X8_thrown : gw_MV yX8_thrown cX8_thrown 1 (some .int) 0 := ⟨gw_mem (List.mem_of_getElem? (i := 952) (by decide +kernel)) (by decide +kernel), gw_mem (List.mem_of_getElem? (i := 950) (by decide +kernel)) (by decide +kernel), gw_mem (List.mem_of_getElem? (i := 951) (by decide +kernel)) (by decide +kernel), gw_mem (List.mem_of_getElem? (i := 61) (by decide +kernel)) (by decide +kernel), ⟨by decide +kernel, by decide +kernel, by decide +kernel⟩⟩
set_option maxRecDepth 20000 in
theorem gm_X8_refused : gw_MV yX8_refused cX8_refused 2 (some .boolean) 1 := ⟨gw_mem (List.mem_of_getElem? (i := 964) (by decide +kernel)) (by decide +kernel), gw_mem (List.mem_of_getElem? (i := 963) (by decide +kernel)) (by decide +kernel), gw_mem (List.mem_of_getElem? (i := 15) (by decide +kernel)) (by decide +kernel), gw_mem (List.mem_of_getElem? (i := 61) (by decide +kernel)) (by decide +kernel), ⟨by decide +kernel, by decide +kernel, by decide +kernel⟩⟩
set_option maxRecDepth 20000 in
theorem gm_X8_in : gw_MS yX8_in cX8_in 6 (some .boolean) 3 := ⟨gw_mem (List.mem_of_getElem? (i := 960) (by decide +kernel)) (by decide +kernel), gw_mem (List.mem_of_getElem? (i := 959) (by decide +kernel)) (by decide +kernel), gw_mem (List.mem_of_getElem? (i := 61) (by decide +kernel)) (by decide +kernel), ⟨by decide +kernel, by decide +kernel, by decide +kernel⟩⟩
set_option maxRecDepth 20000 in
theorem gm_X8_copy : gw_MS yX8_copy cX8_copy 6 none 5 := ⟨gw_mem (List.mem_of_getElem? (i := 1040) (by decide +kernel)) (by decide +kernel), gw_mem (List.mem_of_getElem? (i := 1039) (by decide +kernel)) (by decide +kernel), gw_mem (List.mem_of_getElem? (i := 61) (by decide +kernel)) (by decide +kernel), ⟨by decide +kernel, by decide +kernel, by decide +kernel⟩⟩
set_option maxRecDepth 20000 in
theorem gm_X8_tenTo : gw_MS yX8_tenTo cX8_tenTo 4 (some .long) 1 := ⟨gw_mem (List.mem_of_getElem? (i := 1229) (by decide +kernel)) (by decide +kernel), gw_mem (List.mem_of_getElem? (i := 1228) (by decide +kernel)) (by decide +kernel), gw_mem (List.mem_of_getElem? (i := 61) (by decide +kernel)) (by decide +kernel), ⟨by decide +kernel, by decide +kernel, by decide +kernel⟩⟩
set_option maxRecDepth 20000 in
theorem gm_X8_remember : gw_MV yX8_remember cX8_remember 1 none 0 := ⟨gw_mem (List.mem_of_getElem? (i := 1135) (by decide +kernel)) (by decide +kernel), gw_mem (List.mem_of_getElem? (i := 1134) (by decide +kernel)) (by decide +kernel), gw_mem (List.mem_of_getElem? (i := 39) (by decide +kernel)) (by decide +kernel), gw_mem (List.mem_of_getElem? (i := 61) (by decide +kernel)) (by decide +kernel), ⟨by decide +kernel, by decide +kernel, by decide +kernel⟩⟩
set_option maxRecDepth 20000 in
theorem gm_X8_tryIt : gw_MV yX8_tryIt cX8_tryIt 1 none 0 := ⟨gw_mem (List.mem_of_getElem? (i := 1179) (by decide +kernel)) (by decide +kernel), gw_mem (List.mem_of_getElem? (i := 1178) (by decide +kernel)) (by decide +kernel), gw_mem (List.mem_of_getElem? (i := 42) (by decide +kernel)) (by decide +kernel), gw_mem (List.mem_of_getElem? (i := 61) (by decide +kernel)) (by decide +kernel), ⟨by decide +kernel, by decide +kernel, by decide +kernel⟩⟩
set_option maxRecDepth 20000 in
theorem gm_X8_moduleAt : gw_MS yX8_moduleAt cX8_moduleAt 2 (some .int) 2 := ⟨gw_mem (List.mem_of_getElem? (i := 1007) (by decide +kernel)) (by decide +kernel), gw_mem (List.mem_of_getElem? (i := 1006) (by decide +kernel)) (by decide +kernel), gw_mem (List.mem_of_getElem? (i := 61) (by decide +kernel)) (by decide +kernel), ⟨by decide +kernel, by decide +kernel, by decide +kernel⟩⟩
set_option maxRecDepth 20000 in
theorem gm_X8_wireAt : gw_MS yX8_wireAt cX8_wireAt 2 (some .int) 2 := ⟨gw_mem (List.mem_of_getElem? (i := 1027) (by decide +kernel)) (by decide +kernel), gw_mem (List.mem_of_getElem? (i := 1026) (by decide +kernel)) (by decide +kernel), gw_mem (List.mem_of_getElem? (i := 61) (by decide +kernel)) (by decide +kernel), ⟨by decide +kernel, by decide +kernel, by decide +kernel⟩⟩
set_option maxRecDepth 20000 in
theorem gm_X8_marks : gw_MS yX8_marks cX8_marks 3 (some .int) 1 := ⟨gw_mem (List.mem_of_getElem? (i := 1082) (by decide +kernel)) (by decide +kernel), gw_mem (List.mem_of_getElem? (i := 1081) (by decide +kernel)) (by decide +kernel), gw_mem (List.mem_of_getElem? (i := 61) (by decide +kernel)) (by decide +kernel), ⟨by decide +kernel, by decide +kernel, by decide +kernel⟩⟩
set_option maxRecDepth 20000 in
theorem gm_X8_works : gw_MS yX8_works cX8_works 3 (some .int) 1 := ⟨gw_mem (List.mem_of_getElem? (i := 1085) (by decide +kernel)) (by decide +kernel), gw_mem (List.mem_of_getElem? (i := 1084) (by decide +kernel)) (by decide +kernel), gw_mem (List.mem_of_getElem? (i := 61) (by decide +kernel)) (by decide +kernel), ⟨by decide +kernel, by decide +kernel, by decide +kernel⟩⟩
set_option maxRecDepth 20000 in
theorem gm_X8_layWays : gw_MV yX8_layWays cX8_layWays 7 none 2 := ⟨gw_mem (List.mem_of_getElem? (i := 1023) (by decide +kernel)) (by decide +kernel), gw_mem (List.mem_of_getElem? (i := 1022) (by decide +kernel)) (by decide +kernel), gw_mem (List.mem_of_getElem? (i := 26) (by decide +kernel)) (by decide +kernel), gw_mem (List.mem_of_getElem? (i := 61) (by decide +kernel)) (by decide +kernel), ⟨by decide +kernel, by decide +kernel, by decide +kernel⟩⟩
set_option maxRecDepth 20000 in
theorem gm_X8_isDead : gw_MV yX8_isDead cX8_isDead 4 (some .boolean) 3 := ⟨gw_mem (List.mem_of_getElem? (i := 1019) (by decide +kernel)) (by decide +kernel), gw_mem (List.mem_of_getElem? (i := 1018) (by decide +kernel)) (by decide +kernel), gw_mem (List.mem_of_getElem? (i := 25) (by decide +kernel)) (by decide +kernel), gw_mem (List.mem_of_getElem? (i := 61) (by decide +kernel)) (by decide +kernel), ⟨by decide +kernel, by decide +kernel, by decide +kernel⟩⟩
set_option maxRecDepth 20000 in
theorem gm_X8_divisor : gw_MS yX8_divisor cX8_divisor 10 (some .long) 2 := ⟨gw_mem (List.mem_of_getElem? (i := 1078) (by decide +kernel)) (by decide +kernel), gw_mem (List.mem_of_getElem? (i := 1077) (by decide +kernel)) (by decide +kernel), gw_mem (List.mem_of_getElem? (i := 61) (by decide +kernel)) (by decide +kernel), ⟨by decide +kernel, by decide +kernel, by decide +kernel⟩⟩
set_option maxRecDepth 20000 in
theorem gm_X8_setWorks : gw_MV yX8_setWorks cX8_setWorks 8 none 3 := ⟨gw_mem (List.mem_of_getElem? (i := 1075) (by decide +kernel)) (by decide +kernel), gw_mem (List.mem_of_getElem? (i := 1074) (by decide +kernel)) (by decide +kernel), gw_mem (List.mem_of_getElem? (i := 32) (by decide +kernel)) (by decide +kernel), gw_mem (List.mem_of_getElem? (i := 61) (by decide +kernel)) (by decide +kernel), ⟨by decide +kernel, by decide +kernel, by decide +kernel⟩⟩
set_option maxRecDepth 20000 in
theorem gm_X8_spread : gw_MV yX8_spread cX8_spread 6 (some .boolean) 3 := ⟨gw_mem (List.mem_of_getElem? (i := 1071) (by decide +kernel)) (by decide +kernel), gw_mem (List.mem_of_getElem? (i := 1070) (by decide +kernel)) (by decide +kernel), gw_mem (List.mem_of_getElem? (i := 31) (by decide +kernel)) (by decide +kernel), gw_mem (List.mem_of_getElem? (i := 61) (by decide +kernel)) (by decide +kernel), ⟨by decide +kernel, by decide +kernel, by decide +kernel⟩⟩
set_option maxRecDepth 20000 in
theorem gm_X8_layParts : gw_MV yX8_layParts cX8_layParts 5 none 1 := ⟨gw_mem (List.mem_of_getElem? (i := 1067) (by decide +kernel)) (by decide +kernel), gw_mem (List.mem_of_getElem? (i := 1066) (by decide +kernel)) (by decide +kernel), gw_mem (List.mem_of_getElem? (i := 30) (by decide +kernel)) (by decide +kernel), gw_mem (List.mem_of_getElem? (i := 61) (by decide +kernel)) (by decide +kernel), ⟨by decide +kernel, by decide +kernel, by decide +kernel⟩⟩
set_option maxRecDepth 20000 in
theorem gm_X8_layWorks : gw_MV yX8_layWorks cX8_layWorks 11 (some .boolean) 1 := ⟨gw_mem (List.mem_of_getElem? (i := 1063) (by decide +kernel)) (by decide +kernel), gw_mem (List.mem_of_getElem? (i := 1062) (by decide +kernel)) (by decide +kernel), gw_mem (List.mem_of_getElem? (i := 29) (by decide +kernel)) (by decide +kernel), gw_mem (List.mem_of_getElem? (i := 61) (by decide +kernel)) (by decide +kernel), ⟨by decide +kernel, by decide +kernel, by decide +kernel⟩⟩
set_option maxRecDepth 20000 in
theorem gm_X8_dueTogether : gw_MV yX8_dueTogether cX8_dueTogether 3 (some .int) 0 := ⟨gw_mem (List.mem_of_getElem? (i := 1089) (by decide +kernel)) (by decide +kernel), gw_mem (List.mem_of_getElem? (i := 1088) (by decide +kernel)) (by decide +kernel), gw_mem (List.mem_of_getElem? (i := 33) (by decide +kernel)) (by decide +kernel), gw_mem (List.mem_of_getElem? (i := 61) (by decide +kernel)) (by decide +kernel), ⟨by decide +kernel, by decide +kernel, by decide +kernel⟩⟩
set_option maxRecDepth 20000 in
theorem gm_X8_canWork : gw_MS yX8_canWork cX8_canWork 7 (some .boolean) 2 := ⟨gw_mem (List.mem_of_getElem? (i := 1047) (by decide +kernel)) (by decide +kernel), gw_mem (List.mem_of_getElem? (i := 1046) (by decide +kernel)) (by decide +kernel), gw_mem (List.mem_of_getElem? (i := 61) (by decide +kernel)) (by decide +kernel), ⟨by decide +kernel, by decide +kernel, by decide +kernel⟩⟩
set_option maxRecDepth 20000 in
theorem gm_X8_workIn : gw_MS yX8_workIn cX8_workIn 3 none 2 := ⟨gw_mem (List.mem_of_getElem? (i := 1050) (by decide +kernel)) (by decide +kernel), gw_mem (List.mem_of_getElem? (i := 1049) (by decide +kernel)) (by decide +kernel), gw_mem (List.mem_of_getElem? (i := 61) (by decide +kernel)) (by decide +kernel), ⟨by decide +kernel, by decide +kernel, by decide +kernel⟩⟩
set_option maxRecDepth 20000 in
theorem gm_X8_gain : gw_MS yX8_gain cX8_gain 4 (some .int) 2 := ⟨gw_mem (List.mem_of_getElem? (i := 1194) (by decide +kernel)) (by decide +kernel), gw_mem (List.mem_of_getElem? (i := 1193) (by decide +kernel)) (by decide +kernel), gw_mem (List.mem_of_getElem? (i := 61) (by decide +kernel)) (by decide +kernel), ⟨by decide +kernel, by decide +kernel, by decide +kernel⟩⟩
set_option maxRecDepth 20000 in
theorem gm_X8_choice : gw_MV yX8_choice cX8_choice 10 (some .int) 3 := ⟨gw_mem (List.mem_of_getElem? (i := 1191) (by decide +kernel)) (by decide +kernel), gw_mem (List.mem_of_getElem? (i := 1190) (by decide +kernel)) (by decide +kernel), gw_mem (List.mem_of_getElem? (i := 45) (by decide +kernel)) (by decide +kernel), gw_mem (List.mem_of_getElem? (i := 61) (by decide +kernel)) (by decide +kernel), ⟨by decide +kernel, by decide +kernel, by decide +kernel⟩⟩
set_option maxRecDepth 20000 in
theorem gm_X8_note : gw_MV yX8_note cX8_note 3 none 1 := ⟨gw_mem (List.mem_of_getElem? (i := 1187) (by decide +kernel)) (by decide +kernel), gw_mem (List.mem_of_getElem? (i := 1186) (by decide +kernel)) (by decide +kernel), gw_mem (List.mem_of_getElem? (i := 44) (by decide +kernel)) (by decide +kernel), gw_mem (List.mem_of_getElem? (i := 61) (by decide +kernel)) (by decide +kernel), ⟨by decide +kernel, by decide +kernel, by decide +kernel⟩⟩
set_option maxRecDepth 20000 in
theorem gm_X8_play : gw_MV yX8_play cX8_play 6 none 2 := ⟨gw_mem (List.mem_of_getElem? (i := 1183) (by decide +kernel)) (by decide +kernel), gw_mem (List.mem_of_getElem? (i := 1182) (by decide +kernel)) (by decide +kernel), gw_mem (List.mem_of_getElem? (i := 43) (by decide +kernel)) (by decide +kernel), gw_mem (List.mem_of_getElem? (i := 61) (by decide +kernel)) (by decide +kernel), ⟨by decide +kernel, by decide +kernel, by decide +kernel⟩⟩
set_option maxRecDepth 20000 in
theorem gm_X8_tryRound : gw_MV yX8_tryRound cX8_tryRound 3 (some .boolean) 1 := ⟨gw_mem (List.mem_of_getElem? (i := 1175) (by decide +kernel)) (by decide +kernel), gw_mem (List.mem_of_getElem? (i := 1174) (by decide +kernel)) (by decide +kernel), gw_mem (List.mem_of_getElem? (i := 41) (by decide +kernel)) (by decide +kernel), gw_mem (List.mem_of_getElem? (i := 61) (by decide +kernel)) (by decide +kernel), ⟨by decide +kernel, by decide +kernel, by decide +kernel⟩⟩
set_option maxRecDepth 20000 in
theorem gm_X8_cutIn : gw_MS yX8_cutIn cX8_cutIn 2 none 2 := ⟨gw_mem (List.mem_of_getElem? (i := 1037) (by decide +kernel)) (by decide +kernel), gw_mem (List.mem_of_getElem? (i := 1036) (by decide +kernel)) (by decide +kernel), gw_mem (List.mem_of_getElem? (i := 61) (by decide +kernel)) (by decide +kernel), ⟨by decide +kernel, by decide +kernel, by decide +kernel⟩⟩
set_option maxRecDepth 20000 in
theorem gm_X8_add : gw_MS yX8_add cX8_add 4 none 3 := ⟨gw_mem (List.mem_of_getElem? (i := 1004) (by decide +kernel)) (by decide +kernel), gw_mem (List.mem_of_getElem? (i := 1003) (by decide +kernel)) (by decide +kernel), gw_mem (List.mem_of_getElem? (i := 61) (by decide +kernel)) (by decide +kernel), ⟨by decide +kernel, by decide +kernel, by decide +kernel⟩⟩
set_option maxRecDepth 20000 in
theorem gm_X8_canLay : gw_MV yX8_canLay cX8_canLay 5 (some .boolean) 4 := ⟨gw_mem (List.mem_of_getElem? (i := 1015) (by decide +kernel)) (by decide +kernel), gw_mem (List.mem_of_getElem? (i := 1014) (by decide +kernel)) (by decide +kernel), gw_mem (List.mem_of_getElem? (i := 24) (by decide +kernel)) (by decide +kernel), gw_mem (List.mem_of_getElem? (i := 61) (by decide +kernel)) (by decide +kernel), ⟨by decide +kernel, by decide +kernel, by decide +kernel⟩⟩
set_option maxRecDepth 20000 in
theorem gm_X8_layIn : gw_MS yX8_layIn cX8_layIn 7 none 6 := ⟨gw_mem (List.mem_of_getElem? (i := 1030) (by decide +kernel)) (by decide +kernel), gw_mem (List.mem_of_getElem? (i := 1029) (by decide +kernel)) (by decide +kernel), gw_mem (List.mem_of_getElem? (i := 61) (by decide +kernel)) (by decide +kernel), ⟨by decide +kernel, by decide +kernel, by decide +kernel⟩⟩
set_option maxRecDepth 20000 in
theorem gm_X8_canPut : gw_MV yX8_canPut cX8_canPut 4 (some .boolean) 3 := ⟨gw_mem (List.mem_of_getElem? (i := 1159) (by decide +kernel)) (by decide +kernel), gw_mem (List.mem_of_getElem? (i := 1158) (by decide +kernel)) (by decide +kernel), gw_mem (List.mem_of_getElem? (i := 40) (by decide +kernel)) (by decide +kernel), gw_mem (List.mem_of_getElem? (i := 61) (by decide +kernel)) (by decide +kernel), ⟨by decide +kernel, by decide +kernel, by decide +kernel⟩⟩
set_option maxRecDepth 20000 in
theorem gm_X8_append : gw_MV yX8_append cX8_append 2 (some .int) 1 := ⟨gw_mem (List.mem_of_getElem? (i := 956) (by decide +kernel)) (by decide +kernel), gw_mem (List.mem_of_getElem? (i := 954) (by decide +kernel)) (by decide +kernel), gw_mem (List.mem_of_getElem? (i := 955) (by decide +kernel)) (by decide +kernel), gw_mem (List.mem_of_getElem? (i := 61) (by decide +kernel)) (by decide +kernel), ⟨by decide +kernel, by decide +kernel, by decide +kernel⟩⟩
set_option maxRecDepth 20000 in
theorem gm_X8_clearText : gw_MV yX8_clearText cX8_clearText 2 (some .int) 0 := ⟨gw_mem (List.mem_of_getElem? (i := 968) (by decide +kernel)) (by decide +kernel), gw_mem (List.mem_of_getElem? (i := 966) (by decide +kernel)) (by decide +kernel), gw_mem (List.mem_of_getElem? (i := 967) (by decide +kernel)) (by decide +kernel), gw_mem (List.mem_of_getElem? (i := 61) (by decide +kernel)) (by decide +kernel), ⟨by decide +kernel, by decide +kernel, by decide +kernel⟩⟩
set_option maxRecDepth 20000 in
theorem gm_X8_isNext : gw_MV yX8_isNext cX8_isNext 2 (some .boolean) 1 := ⟨gw_mem (List.mem_of_getElem? (i := 980) (by decide +kernel)) (by decide +kernel), gw_mem (List.mem_of_getElem? (i := 979) (by decide +kernel)) (by decide +kernel), gw_mem (List.mem_of_getElem? (i := 17) (by decide +kernel)) (by decide +kernel), gw_mem (List.mem_of_getElem? (i := 61) (by decide +kernel)) (by decide +kernel), ⟨by decide +kernel, by decide +kernel, by decide +kernel⟩⟩
set_option maxRecDepth 20000 in
theorem gm_X8_accept : gw_MV yX8_accept cX8_accept 2 none 1 := ⟨gw_mem (List.mem_of_getElem? (i := 984) (by decide +kernel)) (by decide +kernel), gw_mem (List.mem_of_getElem? (i := 983) (by decide +kernel)) (by decide +kernel), gw_mem (List.mem_of_getElem? (i := 18) (by decide +kernel)) (by decide +kernel), gw_mem (List.mem_of_getElem? (i := 61) (by decide +kernel)) (by decide +kernel), ⟨by decide +kernel, by decide +kernel, by decide +kernel⟩⟩
set_option maxRecDepth 20000 in
theorem gm_X8_digit : gw_MV yX8_digit cX8_digit 4 (some .int) 2 := ⟨gw_mem (List.mem_of_getElem? (i := 996) (by decide +kernel)) (by decide +kernel), gw_mem (List.mem_of_getElem? (i := 995) (by decide +kernel)) (by decide +kernel), gw_mem (List.mem_of_getElem? (i := 21) (by decide +kernel)) (by decide +kernel), gw_mem (List.mem_of_getElem? (i := 61) (by decide +kernel)) (by decide +kernel), ⟨by decide +kernel, by decide +kernel, by decide +kernel⟩⟩
set_option maxRecDepth 20000 in
theorem gm_X8_goes : gw_MV yX8_goes cX8_goes 2 (some .boolean) 1 := ⟨gw_mem (List.mem_of_getElem? (i := 1001) (by decide +kernel)) (by decide +kernel), gw_mem (List.mem_of_getElem? (i := 1000) (by decide +kernel)) (by decide +kernel), gw_mem (List.mem_of_getElem? (i := 22) (by decide +kernel)) (by decide +kernel), gw_mem (List.mem_of_getElem? (i := 61) (by decide +kernel)) (by decide +kernel), ⟨by decide +kernel, by decide +kernel, by decide +kernel⟩⟩
set_option maxRecDepth 20000 in
theorem gm_X8_readModule : gw_MV yX8_readModule cX8_readModule 3 none 0 := ⟨gw_mem (List.mem_of_getElem? (i := 992) (by decide +kernel)) (by decide +kernel), gw_mem (List.mem_of_getElem? (i := 991) (by decide +kernel)) (by decide +kernel), gw_mem (List.mem_of_getElem? (i := 20) (by decide +kernel)) (by decide +kernel), gw_mem (List.mem_of_getElem? (i := 61) (by decide +kernel)) (by decide +kernel), ⟨by decide +kernel, by decide +kernel, by decide +kernel⟩⟩
set_option maxRecDepth 20000 in
theorem gm_X8_readWire : gw_MV yX8_readWire cX8_readWire 7 none 0 := ⟨gw_mem (List.mem_of_getElem? (i := 1011) (by decide +kernel)) (by decide +kernel), gw_mem (List.mem_of_getElem? (i := 1010) (by decide +kernel)) (by decide +kernel), gw_mem (List.mem_of_getElem? (i := 23) (by decide +kernel)) (by decide +kernel), gw_mem (List.mem_of_getElem? (i := 61) (by decide +kernel)) (by decide +kernel), ⟨by decide +kernel, by decide +kernel, by decide +kernel⟩⟩
set_option maxRecDepth 20000 in
theorem gm_X8_readCut : gw_MV yX8_readCut cX8_readCut 3 none 0 := ⟨gw_mem (List.mem_of_getElem? (i := 1034) (by decide +kernel)) (by decide +kernel), gw_mem (List.mem_of_getElem? (i := 1033) (by decide +kernel)) (by decide +kernel), gw_mem (List.mem_of_getElem? (i := 27) (by decide +kernel)) (by decide +kernel), gw_mem (List.mem_of_getElem? (i := 61) (by decide +kernel)) (by decide +kernel), ⟨by decide +kernel, by decide +kernel, by decide +kernel⟩⟩
set_option maxRecDepth 20000 in
theorem gm_X8_readWork : gw_MV yX8_readWork cX8_readWork 2 none 0 := ⟨gw_mem (List.mem_of_getElem? (i := 1044) (by decide +kernel)) (by decide +kernel), gw_mem (List.mem_of_getElem? (i := 1043) (by decide +kernel)) (by decide +kernel), gw_mem (List.mem_of_getElem? (i := 28) (by decide +kernel)) (by decide +kernel), gw_mem (List.mem_of_getElem? (i := 61) (by decide +kernel)) (by decide +kernel), ⟨by decide +kernel, by decide +kernel, by decide +kernel⟩⟩
set_option maxRecDepth 20000 in
theorem gm_X8_readCommand : gw_MV yX8_readCommand cX8_readCommand 1 none 0 := ⟨gw_mem (List.mem_of_getElem? (i := 988) (by decide +kernel)) (by decide +kernel), gw_mem (List.mem_of_getElem? (i := 987) (by decide +kernel)) (by decide +kernel), gw_mem (List.mem_of_getElem? (i := 19) (by decide +kernel)) (by decide +kernel), gw_mem (List.mem_of_getElem? (i := 61) (by decide +kernel)) (by decide +kernel), ⟨by decide +kernel, by decide +kernel, by decide +kernel⟩⟩
set_option maxRecDepth 20000 in
theorem gm_X8_readText : gw_MV yX8_readText cX8_readText 2 (some .int) 0 := ⟨gw_mem (List.mem_of_getElem? (i := 976) (by decide +kernel)) (by decide +kernel), gw_mem (List.mem_of_getElem? (i := 975) (by decide +kernel)) (by decide +kernel), gw_mem (List.mem_of_getElem? (i := 16) (by decide +kernel)) (by decide +kernel), gw_mem (List.mem_of_getElem? (i := 61) (by decide +kernel)) (by decide +kernel), ⟨by decide +kernel, by decide +kernel, by decide +kernel⟩⟩
set_option maxRecDepth 20000 in
theorem gm_X8_errorPosition : gw_MV yX8_errorPosition cX8_errorPosition 1 (some .int) 0 := ⟨gw_mem (List.mem_of_getElem? (i := 972) (by decide +kernel)) (by decide +kernel), gw_mem (List.mem_of_getElem? (i := 970) (by decide +kernel)) (by decide +kernel), gw_mem (List.mem_of_getElem? (i := 971) (by decide +kernel)) (by decide +kernel), gw_mem (List.mem_of_getElem? (i := 61) (by decide +kernel)) (by decide +kernel), ⟨by decide +kernel, by decide +kernel, by decide +kernel⟩⟩
set_option maxRecDepth 20000 in
theorem gm_X8_load : gw_MV yX8_load cX8_load 1 (some .int) 0 := ⟨gw_mem (List.mem_of_getElem? (i := 1054) (by decide +kernel)) (by decide +kernel), gw_mem (List.mem_of_getElem? (i := 1052) (by decide +kernel)) (by decide +kernel), gw_mem (List.mem_of_getElem? (i := 1053) (by decide +kernel)) (by decide +kernel), gw_mem (List.mem_of_getElem? (i := 61) (by decide +kernel)) (by decide +kernel), ⟨by decide +kernel, by decide +kernel, by decide +kernel⟩⟩
set_option maxRecDepth 20000 in
theorem gm_X8_workers : gw_MV yX8_workers cX8_workers 3 (some .int) 0 := ⟨gw_mem (List.mem_of_getElem? (i := 1093) (by decide +kernel)) (by decide +kernel), gw_mem (List.mem_of_getElem? (i := 1092) (by decide +kernel)) (by decide +kernel), gw_mem (List.mem_of_getElem? (i := 34) (by decide +kernel)) (by decide +kernel), gw_mem (List.mem_of_getElem? (i := 61) (by decide +kernel)) (by decide +kernel), ⟨by decide +kernel, by decide +kernel, by decide +kernel⟩⟩
set_option maxRecDepth 20000 in
theorem gm_X8_loopers : gw_MV yX8_loopers cX8_loopers 3 (some .int) 0 := ⟨gw_mem (List.mem_of_getElem? (i := 1097) (by decide +kernel)) (by decide +kernel), gw_mem (List.mem_of_getElem? (i := 1096) (by decide +kernel)) (by decide +kernel), gw_mem (List.mem_of_getElem? (i := 35) (by decide +kernel)) (by decide +kernel), gw_mem (List.mem_of_getElem? (i := 61) (by decide +kernel)) (by decide +kernel), ⟨by decide +kernel, by decide +kernel, by decide +kernel⟩⟩
set_option maxRecDepth 20000 in
theorem gm_X8_about : gw_MV yX8_about cX8_about 3 (some .int) 1 := ⟨gw_mem (List.mem_of_getElem? (i := 1058) (by decide +kernel)) (by decide +kernel), gw_mem (List.mem_of_getElem? (i := 1056) (by decide +kernel)) (by decide +kernel), gw_mem (List.mem_of_getElem? (i := 1057) (by decide +kernel)) (by decide +kernel), gw_mem (List.mem_of_getElem? (i := 61) (by decide +kernel)) (by decide +kernel), ⟨by decide +kernel, by decide +kernel, by decide +kernel⟩⟩
set_option maxRecDepth 20000 in
theorem gm_X8_isModule : gw_MV yX8_isModule cX8_isModule 2 (some .boolean) 1 := ⟨gw_mem (List.mem_of_getElem? (i := 1105) (by decide +kernel)) (by decide +kernel), gw_mem (List.mem_of_getElem? (i := 1104) (by decide +kernel)) (by decide +kernel), gw_mem (List.mem_of_getElem? (i := 36) (by decide +kernel)) (by decide +kernel), gw_mem (List.mem_of_getElem? (i := 61) (by decide +kernel)) (by decide +kernel), ⟨by decide +kernel, by decide +kernel, by decide +kernel⟩⟩
set_option maxRecDepth 20000 in
theorem gm_X8_wiresOf : gw_MV yX8_wiresOf cX8_wiresOf 5 (some .int) 2 := ⟨gw_mem (List.mem_of_getElem? (i := 1110) (by decide +kernel)) (by decide +kernel), gw_mem (List.mem_of_getElem? (i := 1109) (by decide +kernel)) (by decide +kernel), gw_mem (List.mem_of_getElem? (i := 37) (by decide +kernel)) (by decide +kernel), gw_mem (List.mem_of_getElem? (i := 61) (by decide +kernel)) (by decide +kernel), ⟨by decide +kernel, by decide +kernel, by decide +kernel⟩⟩
set_option maxRecDepth 20000 in
theorem gm_X8_module : gw_MV yX8_module cX8_module 3 (some .int) 2 := ⟨gw_mem (List.mem_of_getElem? (i := 1101) (by decide +kernel)) (by decide +kernel), gw_mem (List.mem_of_getElem? (i := 1099) (by decide +kernel)) (by decide +kernel), gw_mem (List.mem_of_getElem? (i := 1100) (by decide +kernel)) (by decide +kernel), gw_mem (List.mem_of_getElem? (i := 61) (by decide +kernel)) (by decide +kernel), ⟨by decide +kernel, by decide +kernel, by decide +kernel⟩⟩
set_option maxRecDepth 20000 in
theorem gm_X8_isWire : gw_MV yX8_isWire cX8_isWire 2 (some .boolean) 1 := ⟨gw_mem (List.mem_of_getElem? (i := 1118) (by decide +kernel)) (by decide +kernel), gw_mem (List.mem_of_getElem? (i := 1117) (by decide +kernel)) (by decide +kernel), gw_mem (List.mem_of_getElem? (i := 38) (by decide +kernel)) (by decide +kernel), gw_mem (List.mem_of_getElem? (i := 61) (by decide +kernel)) (by decide +kernel), ⟨by decide +kernel, by decide +kernel, by decide +kernel⟩⟩
set_option maxRecDepth 20000 in
theorem gm_X8_wire : gw_MV yX8_wire cX8_wire 3 (some .int) 2 := ⟨gw_mem (List.mem_of_getElem? (i := 1114) (by decide +kernel)) (by decide +kernel), gw_mem (List.mem_of_getElem? (i := 1112) (by decide +kernel)) (by decide +kernel), gw_mem (List.mem_of_getElem? (i := 1113) (by decide +kernel)) (by decide +kernel), gw_mem (List.mem_of_getElem? (i := 61) (by decide +kernel)) (by decide +kernel), ⟨by decide +kernel, by decide +kernel, by decide +kernel⟩⟩
set_option maxRecDepth 20000 in
theorem gm_X8_between : gw_MV yX8_between cX8_between 3 (some .int) 2 := ⟨gw_mem (List.mem_of_getElem? (i := 1123) (by decide +kernel)) (by decide +kernel), gw_mem (List.mem_of_getElem? (i := 1121) (by decide +kernel)) (by decide +kernel), gw_mem (List.mem_of_getElem? (i := 1122) (by decide +kernel)) (by decide +kernel), gw_mem (List.mem_of_getElem? (i := 61) (by decide +kernel)) (by decide +kernel), ⟨by decide +kernel, by decide +kernel, by decide +kernel⟩⟩
set_option maxRecDepth 20000 in
theorem gm_X8_isKind : gw_MS yX8_isKind cX8_isKind 1 (some .boolean) 1 := ⟨gw_mem (List.mem_of_getElem? (i := 1130) (by decide +kernel)) (by decide +kernel), gw_mem (List.mem_of_getElem? (i := 1129) (by decide +kernel)) (by decide +kernel), gw_mem (List.mem_of_getElem? (i := 61) (by decide +kernel)) (by decide +kernel), ⟨by decide +kernel, by decide +kernel, by decide +kernel⟩⟩
set_option maxRecDepth 20000 in
theorem gm_X8_addModule : gw_MV yX8_addModule cX8_addModule 4 (some .int) 2 := ⟨gw_mem (List.mem_of_getElem? (i := 1127) (by decide +kernel)) (by decide +kernel), gw_mem (List.mem_of_getElem? (i := 1125) (by decide +kernel)) (by decide +kernel), gw_mem (List.mem_of_getElem? (i := 1126) (by decide +kernel)) (by decide +kernel), gw_mem (List.mem_of_getElem? (i := 61) (by decide +kernel)) (by decide +kernel), ⟨by decide +kernel, by decide +kernel, by decide +kernel⟩⟩
set_option maxRecDepth 20000 in
theorem gm_X8_isRate : gw_MS yX8_isRate cX8_isRate 1 (some .boolean) 1 := ⟨gw_mem (List.mem_of_getElem? (i := 1142) (by decide +kernel)) (by decide +kernel), gw_mem (List.mem_of_getElem? (i := 1141) (by decide +kernel)) (by decide +kernel), gw_mem (List.mem_of_getElem? (i := 61) (by decide +kernel)) (by decide +kernel), ⟨by decide +kernel, by decide +kernel, by decide +kernel⟩⟩
set_option maxRecDepth 20000 in
theorem gm_X8_isMarks : gw_MS yX8_isMarks cX8_isMarks 1 (some .boolean) 1 := ⟨gw_mem (List.mem_of_getElem? (i := 1146) (by decide +kernel)) (by decide +kernel), gw_mem (List.mem_of_getElem? (i := 1145) (by decide +kernel)) (by decide +kernel), gw_mem (List.mem_of_getElem? (i := 61) (by decide +kernel)) (by decide +kernel), ⟨by decide +kernel, by decide +kernel, by decide +kernel⟩⟩
set_option maxRecDepth 20000 in
theorem gm_X8_lay : gw_MV yX8_lay cX8_lay 8 (some .int) 5 := ⟨gw_mem (List.mem_of_getElem? (i := 1139) (by decide +kernel)) (by decide +kernel), gw_mem (List.mem_of_getElem? (i := 1137) (by decide +kernel)) (by decide +kernel), gw_mem (List.mem_of_getElem? (i := 1138) (by decide +kernel)) (by decide +kernel), gw_mem (List.mem_of_getElem? (i := 61) (by decide +kernel)) (by decide +kernel), ⟨by decide +kernel, by decide +kernel, by decide +kernel⟩⟩
set_option maxRecDepth 20000 in
theorem gm_X8_cut : gw_MV yX8_cut cX8_cut 3 (some .int) 1 := ⟨gw_mem (List.mem_of_getElem? (i := 1151) (by decide +kernel)) (by decide +kernel), gw_mem (List.mem_of_getElem? (i := 1149) (by decide +kernel)) (by decide +kernel), gw_mem (List.mem_of_getElem? (i := 1150) (by decide +kernel)) (by decide +kernel), gw_mem (List.mem_of_getElem? (i := 61) (by decide +kernel)) (by decide +kernel), ⟨by decide +kernel, by decide +kernel, by decide +kernel⟩⟩
set_option maxRecDepth 20000 in
theorem gm_X8_put : gw_MV yX8_put cX8_put 4 (some .int) 2 := ⟨gw_mem (List.mem_of_getElem? (i := 1155) (by decide +kernel)) (by decide +kernel), gw_mem (List.mem_of_getElem? (i := 1153) (by decide +kernel)) (by decide +kernel), gw_mem (List.mem_of_getElem? (i := 1154) (by decide +kernel)) (by decide +kernel), gw_mem (List.mem_of_getElem? (i := 61) (by decide +kernel)) (by decide +kernel), ⟨by decide +kernel, by decide +kernel, by decide +kernel⟩⟩
set_option maxRecDepth 20000 in
theorem gm_X8_work : gw_MV yX8_work cX8_work 2 (some .int) 1 := ⟨gw_mem (List.mem_of_getElem? (i := 1163) (by decide +kernel)) (by decide +kernel), gw_mem (List.mem_of_getElem? (i := 1161) (by decide +kernel)) (by decide +kernel), gw_mem (List.mem_of_getElem? (i := 1162) (by decide +kernel)) (by decide +kernel), gw_mem (List.mem_of_getElem? (i := 61) (by decide +kernel)) (by decide +kernel), ⟨by decide +kernel, by decide +kernel, by decide +kernel⟩⟩
set_option maxRecDepth 20000 in
theorem gm_X8_isRule : gw_MS yX8_isRule cX8_isRule 1 (some .boolean) 1 := ⟨gw_mem (List.mem_of_getElem? (i := 1170) (by decide +kernel)) (by decide +kernel), gw_mem (List.mem_of_getElem? (i := 1169) (by decide +kernel)) (by decide +kernel), gw_mem (List.mem_of_getElem? (i := 61) (by decide +kernel)) (by decide +kernel), ⟨by decide +kernel, by decide +kernel, by decide +kernel⟩⟩
set_option maxRecDepth 20000 in
theorem gm_X8_round : gw_MV yX8_round cX8_round 3 (some .int) 1 := ⟨gw_mem (List.mem_of_getElem? (i := 1167) (by decide +kernel)) (by decide +kernel), gw_mem (List.mem_of_getElem? (i := 1165) (by decide +kernel)) (by decide +kernel), gw_mem (List.mem_of_getElem? (i := 1166) (by decide +kernel)) (by decide +kernel), gw_mem (List.mem_of_getElem? (i := 61) (by decide +kernel)) (by decide +kernel), ⟨by decide +kernel, by decide +kernel, by decide +kernel⟩⟩
set_option maxRecDepth 20000 in
theorem gm_X8_undo : gw_MV yX8_undo cX8_undo 1 (some .int) 0 := ⟨gw_mem (List.mem_of_getElem? (i := 1198) (by decide +kernel)) (by decide +kernel), gw_mem (List.mem_of_getElem? (i := 1196) (by decide +kernel)) (by decide +kernel), gw_mem (List.mem_of_getElem? (i := 1197) (by decide +kernel)) (by decide +kernel), gw_mem (List.mem_of_getElem? (i := 61) (by decide +kernel)) (by decide +kernel), ⟨by decide +kernel, by decide +kernel, by decide +kernel⟩⟩
set_option maxRecDepth 20000 in
theorem gm_X8_order : gw_MV yX8_order cX8_order 3 (some .int) 2 := ⟨gw_mem (List.mem_of_getElem? (i := 1202) (by decide +kernel)) (by decide +kernel), gw_mem (List.mem_of_getElem? (i := 1200) (by decide +kernel)) (by decide +kernel), gw_mem (List.mem_of_getElem? (i := 1201) (by decide +kernel)) (by decide +kernel), gw_mem (List.mem_of_getElem? (i := 61) (by decide +kernel)) (by decide +kernel), ⟨by decide +kernel, by decide +kernel, by decide +kernel⟩⟩
set_option maxRecDepth 20000 in
theorem gm_X8_sticks : gw_MV yX8_sticks cX8_sticks 2 (some .int) 1 := ⟨gw_mem (List.mem_of_getElem? (i := 1206) (by decide +kernel)) (by decide +kernel), gw_mem (List.mem_of_getElem? (i := 1204) (by decide +kernel)) (by decide +kernel), gw_mem (List.mem_of_getElem? (i := 1205) (by decide +kernel)) (by decide +kernel), gw_mem (List.mem_of_getElem? (i := 61) (by decide +kernel)) (by decide +kernel), ⟨by decide +kernel, by decide +kernel, by decide +kernel⟩⟩
set_option maxRecDepth 20000 in
theorem gm_X8_holds : gw_MV yX8_holds cX8_holds 3 (some .int) 2 := ⟨gw_mem (List.mem_of_getElem? (i := 1210) (by decide +kernel)) (by decide +kernel), gw_mem (List.mem_of_getElem? (i := 1208) (by decide +kernel)) (by decide +kernel), gw_mem (List.mem_of_getElem? (i := 1209) (by decide +kernel)) (by decide +kernel), gw_mem (List.mem_of_getElem? (i := 61) (by decide +kernel)) (by decide +kernel), ⟨by decide +kernel, by decide +kernel, by decide +kernel⟩⟩
set_option maxRecDepth 20000 in
theorem gm_X8_bestRule : gw_MV yX8_bestRule cX8_bestRule 7 (some .int) 0 := ⟨gw_mem (List.mem_of_getElem? (i := 1214) (by decide +kernel)) (by decide +kernel), gw_mem (List.mem_of_getElem? (i := 1212) (by decide +kernel)) (by decide +kernel), gw_mem (List.mem_of_getElem? (i := 1213) (by decide +kernel)) (by decide +kernel), gw_mem (List.mem_of_getElem? (i := 61) (by decide +kernel)) (by decide +kernel), ⟨by decide +kernel, by decide +kernel, by decide +kernel⟩⟩
set_option maxRecDepth 20000 in
theorem gm_X8_fewest : gw_MV yX8_fewest cX8_fewest 3 (some .int) 1 := ⟨gw_mem (List.mem_of_getElem? (i := 1218) (by decide +kernel)) (by decide +kernel), gw_mem (List.mem_of_getElem? (i := 1216) (by decide +kernel)) (by decide +kernel), gw_mem (List.mem_of_getElem? (i := 1217) (by decide +kernel)) (by decide +kernel), gw_mem (List.mem_of_getElem? (i := 61) (by decide +kernel)) (by decide +kernel), ⟨by decide +kernel, by decide +kernel, by decide +kernel⟩⟩
set_option maxRecDepth 20000 in
theorem gm_X8_agrees : gw_MV yX8_agrees cX8_agrees 4 (some .int) 2 := ⟨gw_mem (List.mem_of_getElem? (i := 1222) (by decide +kernel)) (by decide +kernel), gw_mem (List.mem_of_getElem? (i := 1220) (by decide +kernel)) (by decide +kernel), gw_mem (List.mem_of_getElem? (i := 1221) (by decide +kernel)) (by decide +kernel), gw_mem (List.mem_of_getElem? (i := 61) (by decide +kernel)) (by decide +kernel), ⟨by decide +kernel, by decide +kernel, by decide +kernel⟩⟩
set_option maxRecDepth 20000 in
theorem gm_X8_lays : gw_MV yX8_lays cX8_lays 6 (some .boolean) 5 := ⟨gw_mem (List.mem_of_getElem? (i := 1240) (by decide +kernel)) (by decide +kernel), gw_mem (List.mem_of_getElem? (i := 1239) (by decide +kernel)) (by decide +kernel), gw_mem (List.mem_of_getElem? (i := 47) (by decide +kernel)) (by decide +kernel), gw_mem (List.mem_of_getElem? (i := 61) (by decide +kernel)) (by decide +kernel), ⟨by decide +kernel, by decide +kernel, by decide +kernel⟩⟩
set_option maxRecDepth 20000 in
theorem gm_X8_cuts : gw_MV yX8_cuts cX8_cuts 2 (some .boolean) 1 := ⟨gw_mem (List.mem_of_getElem? (i := 1244) (by decide +kernel)) (by decide +kernel), gw_mem (List.mem_of_getElem? (i := 1243) (by decide +kernel)) (by decide +kernel), gw_mem (List.mem_of_getElem? (i := 48) (by decide +kernel)) (by decide +kernel), gw_mem (List.mem_of_getElem? (i := 61) (by decide +kernel)) (by decide +kernel), ⟨by decide +kernel, by decide +kernel, by decide +kernel⟩⟩
set_option maxRecDepth 20000 in
theorem gm_X8_puts : gw_MV yX8_puts cX8_puts 3 (some .boolean) 2 := ⟨gw_mem (List.mem_of_getElem? (i := 1248) (by decide +kernel)) (by decide +kernel), gw_mem (List.mem_of_getElem? (i := 1247) (by decide +kernel)) (by decide +kernel), gw_mem (List.mem_of_getElem? (i := 49) (by decide +kernel)) (by decide +kernel), gw_mem (List.mem_of_getElem? (i := 61) (by decide +kernel)) (by decide +kernel), ⟨by decide +kernel, by decide +kernel, by decide +kernel⟩⟩
set_option maxRecDepth 20000 in
theorem gm_X8_worksOne : gw_MV yX8_worksOne cX8_worksOne 2 (some .boolean) 1 := ⟨gw_mem (List.mem_of_getElem? (i := 1252) (by decide +kernel)) (by decide +kernel), gw_mem (List.mem_of_getElem? (i := 1251) (by decide +kernel)) (by decide +kernel), gw_mem (List.mem_of_getElem? (i := 50) (by decide +kernel)) (by decide +kernel), gw_mem (List.mem_of_getElem? (i := 61) (by decide +kernel)) (by decide +kernel), ⟨by decide +kernel, by decide +kernel, by decide +kernel⟩⟩
set_option maxRecDepth 20000 in
theorem gm_X8_rounds : gw_MV yX8_rounds cX8_rounds 2 (some .boolean) 1 := ⟨gw_mem (List.mem_of_getElem? (i := 1256) (by decide +kernel)) (by decide +kernel), gw_mem (List.mem_of_getElem? (i := 1255) (by decide +kernel)) (by decide +kernel), gw_mem (List.mem_of_getElem? (i := 51) (by decide +kernel)) (by decide +kernel), gw_mem (List.mem_of_getElem? (i := 61) (by decide +kernel)) (by decide +kernel), ⟨by decide +kernel, by decide +kernel, by decide +kernel⟩⟩
set_option maxRecDepth 20000 in
theorem gm_X8_does : gw_MV yX8_does cX8_does 6 (some .boolean) 1 := ⟨gw_mem (List.mem_of_getElem? (i := 1235) (by decide +kernel)) (by decide +kernel), gw_mem (List.mem_of_getElem? (i := 1234) (by decide +kernel)) (by decide +kernel), gw_mem (List.mem_of_getElem? (i := 46) (by decide +kernel)) (by decide +kernel), gw_mem (List.mem_of_getElem? (i := 61) (by decide +kernel)) (by decide +kernel), ⟨by decide +kernel, by decide +kernel, by decide +kernel⟩⟩
set_option maxRecDepth 20000 in
theorem gm_X8_runScript : gw_MV yX8_runScript cX8_runScript 6 (some .int) 2 := ⟨gw_mem (List.mem_of_getElem? (i := 1226) (by decide +kernel)) (by decide +kernel), gw_mem (List.mem_of_getElem? (i := 1224) (by decide +kernel)) (by decide +kernel), gw_mem (List.mem_of_getElem? (i := 1225) (by decide +kernel)) (by decide +kernel), gw_mem (List.mem_of_getElem? (i := 61) (by decide +kernel)) (by decide +kernel), ⟨by decide +kernel, by decide +kernel, by decide +kernel⟩⟩
set_option maxRecDepth 20000 in
theorem gm_X8_stir : gw_MV yX8_stir cX8_stir 3 none 1 := ⟨gw_mem (List.mem_of_getElem? (i := 1266) (by decide +kernel)) (by decide +kernel), gw_mem (List.mem_of_getElem? (i := 1265) (by decide +kernel)) (by decide +kernel), gw_mem (List.mem_of_getElem? (i := 52) (by decide +kernel)) (by decide +kernel), gw_mem (List.mem_of_getElem? (i := 61) (by decide +kernel)) (by decide +kernel), ⟨by decide +kernel, by decide +kernel, by decide +kernel⟩⟩
set_option maxRecDepth 20000 in
theorem gm_X8_simulate : gw_MV yX8_simulate cX8_simulate 8 (some .int) 2 := ⟨gw_mem (List.mem_of_getElem? (i := 1260) (by decide +kernel)) (by decide +kernel), gw_mem (List.mem_of_getElem? (i := 1258) (by decide +kernel)) (by decide +kernel), gw_mem (List.mem_of_getElem? (i := 1259) (by decide +kernel)) (by decide +kernel), gw_mem (List.mem_of_getElem? (i := 61) (by decide +kernel)) (by decide +kernel), ⟨by decide +kernel, by decide +kernel, by decide +kernel⟩⟩
set_option maxRecDepth 20000 in
theorem gm_X8_save : gw_MV yX8_save cX8_save 2 (some .int) 1 := ⟨gw_mem (List.mem_of_getElem? (i := 1270) (by decide +kernel)) (by decide +kernel), gw_mem (List.mem_of_getElem? (i := 1268) (by decide +kernel)) (by decide +kernel), gw_mem (List.mem_of_getElem? (i := 1269) (by decide +kernel)) (by decide +kernel), gw_mem (List.mem_of_getElem? (i := 61) (by decide +kernel)) (by decide +kernel), ⟨by decide +kernel, by decide +kernel, by decide +kernel⟩⟩
set_option maxRecDepth 20000 in
theorem gm_X8_restore : gw_MV yX8_restore cX8_restore 2 (some .int) 1 := ⟨gw_mem (List.mem_of_getElem? (i := 1274) (by decide +kernel)) (by decide +kernel), gw_mem (List.mem_of_getElem? (i := 1272) (by decide +kernel)) (by decide +kernel), gw_mem (List.mem_of_getElem? (i := 1273) (by decide +kernel)) (by decide +kernel), gw_mem (List.mem_of_getElem? (i := 61) (by decide +kernel)) (by decide +kernel), ⟨by decide +kernel, by decide +kernel, by decide +kernel⟩⟩
set_option maxRecDepth 20000 in
theorem gq_acn : Cond.native arraycopyName ∈ gw_tbl := gw_mem (List.mem_of_getElem? (i := 317) (by decide +kernel)) (by decide +kernel)
set_option maxRecDepth 20000 in
theorem gq_acs : Cond.static arraycopyName ∈ gw_tbl := gw_mem (List.mem_of_getElem? (i := 316) (by decide +kernel)) (by decide +kernel)
set_option maxRecDepth 20000 in
theorem gq_sys : Cond.initialized "java/lang/System" ∈ gw_tbl := gw_mem (List.mem_of_getElem? (i := 70) (by decide +kernel)) (by decide +kernel)
set_option maxRecDepth 20000 in
theorem gq_maxs : Cond.static Lib.Math.max.name ∈ gw_tbl := gw_mem (List.mem_of_getElem? (i := 363) (by decide +kernel)) (by decide +kernel)
set_option maxRecDepth 20000 in
theorem gq_maxc : Cond.code Lib.Math.max.name Lib.Math.max.code 2 (some .int) ∈ gw_tbl := gw_mem (List.mem_of_getElem? (i := 364) (by decide +kernel)) (by decide +kernel)
set_option maxRecDepth 20000 in
theorem gq_mins : Cond.static Lib.Math.min.name ∈ gw_tbl := gw_mem (List.mem_of_getElem? (i := 847) (by decide +kernel)) (by decide +kernel)
set_option maxRecDepth 20000 in
theorem gq_minc : Cond.code Lib.Math.min.name Lib.Math.min.code 2 (some .int) ∈ gw_tbl := gw_mem (List.mem_of_getElem? (i := 848) (by decide +kernel)) (by decide +kernel)
set_option maxRecDepth 20000 in
theorem gq_math : Cond.initialized "java/lang/Math" ∈ gw_tbl := gw_mem (List.mem_of_getElem? (i := 71) (by decide +kernel)) (by decide +kernel)
