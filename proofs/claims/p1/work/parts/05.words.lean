/-! words by their places -/
theorem qw_oi : Cond.code objectInit ⟨#[0xb1]⟩ 1 none ∈ gw := mq_1 (i := 54) rfl rfl
set_option maxRecDepth 20000 in
theorem i_X10 : ∀ w ∈ u_ws RX10 TX10 8, w ∈ gw := uw_of (lt_s (lt_s (lt_s (lt_s (lt_s (lt_s (lt_s (lt_s lt_0 (mq_1 (i := 74) rfl rfl)) (mq_1 (i := 76) rfl rfl)) (mq_1 (i := 78) rfl rfl)) (mq_1 (i := 80) rfl rfl)) (mq_1 (i := 82) rfl rfl)) (mq_1 (i := 84) rfl rfl)) (mq_1 (i := 86) rfl rfl)) (mq_1 (i := 88) rfl rfl))
set_option maxRecDepth 20000 in
theorem i_X7 : ∀ w ∈ u_ws RX7 TX7 18, w ∈ gw := uw_of (lt_s (lt_s (lt_s (lt_s (lt_s (lt_s (lt_s (lt_s (lt_s (lt_s (lt_s (lt_s (lt_s (lt_s (lt_s (lt_s (lt_s (lt_s lt_0 (mq_1 (i := 117) rfl rfl)) (mq_1 (i := 119) rfl rfl)) (mq_1 (i := 121) rfl rfl)) (mq_1 (i := 123) rfl rfl)) (mq_1 (i := 125) rfl rfl)) (mq_1 (i := 127) rfl rfl)) (mq_1 (i := 129) rfl rfl)) (mq_1 (i := 131) rfl rfl)) (mq_1 (i := 133) rfl rfl)) (mq_1 (i := 135) rfl rfl)) (mq_1 (i := 137) rfl rfl)) (mq_1 (i := 139) rfl rfl)) (mq_1 (i := 141) rfl rfl)) (mq_1 (i := 143) rfl rfl)) (mq_1 (i := 145) rfl rfl)) (mq_1 (i := 147) rfl rfl)) (mq_1 (i := 149) rfl rfl)) (mq_1 (i := 151) rfl rfl))
set_option maxRecDepth 20000 in
theorem i_X6 : ∀ w ∈ u_ws RX6 TX6 13, w ∈ gw := uw_of (lt_s (lt_s (lt_s (lt_s (lt_s (lt_s (lt_s (lt_s (lt_s (lt_s (lt_s (lt_s (lt_s lt_0 (mq_3 (i := 200) rfl rfl)) (mq_3 (i := 202) rfl rfl)) (mq_3 (i := 204) rfl rfl)) (mq_3 (i := 206) rfl rfl)) (mq_3 (i := 208) rfl rfl)) (mq_3 (i := 210) rfl rfl)) (mq_3 (i := 212) rfl rfl)) (mq_3 (i := 214) rfl rfl)) (mq_3 (i := 216) rfl rfl)) (mq_3 (i := 218) rfl rfl)) (mq_3 (i := 220) rfl rfl)) (mq_3 (i := 222) rfl rfl)) (mq_3 (i := 224) rfl rfl))
set_option maxRecDepth 20000 in
theorem i_X9 : ∀ w ∈ u_ws RX9 TX9 6, w ∈ gw := uw_of (lt_s (lt_s (lt_s (lt_s (lt_s (lt_s lt_0 (mq_1 (i := 207) rfl rfl)) (mq_1 (i := 209) rfl rfl)) (mq_1 (i := 211) rfl rfl)) (mq_1 (i := 213) rfl rfl)) (mq_1 (i := 215) rfl rfl)) (mq_1 (i := 217) rfl rfl))
set_option maxRecDepth 20000 in
theorem i_X1 : ∀ w ∈ u_ws RX1 TX1 21, w ∈ gw := uw_of (lt_s (lt_s (lt_s (lt_s (lt_s (lt_s (lt_s (lt_s (lt_s (lt_s (lt_s (lt_s (lt_s (lt_s (lt_s (lt_s (lt_s (lt_s (lt_s (lt_s (lt_s lt_0 (mq_2 (i := 83) rfl rfl)) (mq_2 (i := 85) rfl rfl)) (mq_2 (i := 87) rfl rfl)) (mq_2 (i := 89) rfl rfl)) (mq_2 (i := 91) rfl rfl)) (mq_2 (i := 93) rfl rfl)) (mq_2 (i := 95) rfl rfl)) (mq_2 (i := 97) rfl rfl)) (mq_2 (i := 99) rfl rfl)) (mq_2 (i := 101) rfl rfl)) (mq_2 (i := 103) rfl rfl)) (mq_2 (i := 105) rfl rfl)) (mq_2 (i := 107) rfl rfl)) (mq_2 (i := 109) rfl rfl)) (mq_2 (i := 111) rfl rfl)) (mq_2 (i := 113) rfl rfl)) (mq_2 (i := 115) rfl rfl)) (mq_2 (i := 117) rfl rfl)) (mq_2 (i := 119) rfl rfl)) (mq_2 (i := 121) rfl rfl)) (mq_2 (i := 123) rfl rfl))
set_option maxRecDepth 20000 in
theorem i_X8 : ∀ w ∈ u_ws RX8 TX8 5, w ∈ gw := uw_of (lt_s (lt_s (lt_s (lt_s (lt_s lt_0 (mq_2 (i := 137) rfl rfl)) (mq_2 (i := 139) rfl rfl)) (mq_2 (i := 141) rfl rfl)) (mq_2 (i := 143) rfl rfl)) (mq_2 (i := 145) rfl rfl))
set_option maxRecDepth 20000 in
theorem i_X4 : ∀ w ∈ u_ws RX4 TX4 20, w ∈ gw := uw_of (lt_s (lt_s (lt_s (lt_s (lt_s (lt_s (lt_s (lt_s (lt_s (lt_s (lt_s (lt_s (lt_s (lt_s (lt_s (lt_s (lt_s (lt_s (lt_s (lt_s lt_0 (mq_2 (i := 174) rfl rfl)) (mq_2 (i := 176) rfl rfl)) (mq_2 (i := 178) rfl rfl)) (mq_2 (i := 180) rfl rfl)) (mq_2 (i := 182) rfl rfl)) (mq_2 (i := 184) rfl rfl)) (mq_2 (i := 186) rfl rfl)) (mq_2 (i := 188) rfl rfl)) (mq_2 (i := 190) rfl rfl)) (mq_2 (i := 192) rfl rfl)) (mq_2 (i := 194) rfl rfl)) (mq_2 (i := 196) rfl rfl)) (mq_2 (i := 198) rfl rfl)) (mq_2 (i := 200) rfl rfl)) (mq_2 (i := 202) rfl rfl)) (mq_2 (i := 204) rfl rfl)) (mq_2 (i := 206) rfl rfl)) (mq_2 (i := 208) rfl rfl)) (mq_2 (i := 210) rfl rfl)) (mq_2 (i := 212) rfl rfl))
set_option maxRecDepth 20000 in
theorem i_X5 : ∀ w ∈ u_ws RX5 TX5 12, w ∈ gw := uw_of (lt_s (lt_s (lt_s (lt_s (lt_s (lt_s (lt_s (lt_s (lt_s (lt_s (lt_s (lt_s lt_0 (mq_2 (i := 233) rfl rfl)) (mq_2 (i := 235) rfl rfl)) (mq_2 (i := 237) rfl rfl)) (mq_2 (i := 239) rfl rfl)) (mq_3 (i := 1) rfl rfl)) (mq_3 (i := 3) rfl rfl)) (mq_3 (i := 5) rfl rfl)) (mq_3 (i := 7) rfl rfl)) (mq_3 (i := 9) rfl rfl)) (mq_3 (i := 11) rfl rfl)) (mq_3 (i := 13) rfl rfl)) (mq_3 (i := 15) rfl rfl))
set_option maxRecDepth 20000 in
theorem i_X0 : ∀ w ∈ u_ws RX0 TX0 17, w ∈ gw := uw_of (lt_s (lt_s (lt_s (lt_s (lt_s (lt_s (lt_s (lt_s (lt_s (lt_s (lt_s (lt_s (lt_s (lt_s (lt_s (lt_s (lt_s lt_0 (mq_3 (i := 121) rfl rfl)) (mq_3 (i := 123) rfl rfl)) (mq_3 (i := 125) rfl rfl)) (mq_3 (i := 127) rfl rfl)) (mq_3 (i := 129) rfl rfl)) (mq_3 (i := 131) rfl rfl)) (mq_3 (i := 133) rfl rfl)) (mq_3 (i := 135) rfl rfl)) (mq_3 (i := 137) rfl rfl)) (mq_3 (i := 139) rfl rfl)) (mq_3 (i := 141) rfl rfl)) (mq_3 (i := 143) rfl rfl)) (mq_3 (i := 145) rfl rfl)) (mq_3 (i := 147) rfl rfl)) (mq_3 (i := 149) rfl rfl)) (mq_3 (i := 151) rfl rfl)) (mq_3 (i := 153) rfl rfl))
set_option maxRecDepth 20000 in
theorem i_X2 : ∀ w ∈ u_ws RX2 TX2 19, w ∈ gw := uw_of (lt_s (lt_s (lt_s (lt_s (lt_s (lt_s (lt_s (lt_s (lt_s (lt_s (lt_s (lt_s (lt_s (lt_s (lt_s (lt_s (lt_s (lt_s (lt_s lt_0 (mq_3 (i := 56) rfl rfl)) (mq_3 (i := 58) rfl rfl)) (mq_3 (i := 60) rfl rfl)) (mq_3 (i := 62) rfl rfl)) (mq_3 (i := 64) rfl rfl)) (mq_3 (i := 66) rfl rfl)) (mq_3 (i := 68) rfl rfl)) (mq_3 (i := 70) rfl rfl)) (mq_3 (i := 72) rfl rfl)) (mq_3 (i := 74) rfl rfl)) (mq_3 (i := 76) rfl rfl)) (mq_3 (i := 78) rfl rfl)) (mq_3 (i := 80) rfl rfl)) (mq_3 (i := 82) rfl rfl)) (mq_3 (i := 84) rfl rfl)) (mq_3 (i := 86) rfl rfl)) (mq_3 (i := 88) rfl rfl)) (mq_3 (i := 90) rfl rfl)) (mq_3 (i := 92) rfl rfl))
set_option maxRecDepth 20000 in
theorem i_X3 : ∀ w ∈ u_ws RX3 TX3 20, w ∈ gw := uw_of (lt_s (lt_s (lt_s (lt_s (lt_s (lt_s (lt_s (lt_s (lt_s (lt_s (lt_s (lt_s (lt_s (lt_s (lt_s (lt_s (lt_s (lt_s (lt_s (lt_s lt_0 (mq_4 (i := 17) rfl rfl)) (mq_4 (i := 19) rfl rfl)) (mq_4 (i := 21) rfl rfl)) (mq_4 (i := 23) rfl rfl)) (mq_4 (i := 25) rfl rfl)) (mq_4 (i := 27) rfl rfl)) (mq_4 (i := 29) rfl rfl)) (mq_4 (i := 31) rfl rfl)) (mq_4 (i := 33) rfl rfl)) (mq_4 (i := 35) rfl rfl)) (mq_4 (i := 37) rfl rfl)) (mq_4 (i := 39) rfl rfl)) (mq_4 (i := 41) rfl rfl)) (mq_4 (i := 43) rfl rfl)) (mq_4 (i := 45) rfl rfl)) (mq_4 (i := 47) rfl rfl)) (mq_4 (i := 49) rfl rfl)) (mq_4 (i := 51) rfl rfl)) (mq_4 (i := 53) rfl rfl)) (mq_4 (i := 55) rfl rfl))
set_option maxRecDepth 20000 in
theorem i_X11 : ∀ w ∈ u_ws RX11 TX11 11, w ∈ gw := uw_of (lt_s (lt_s (lt_s (lt_s (lt_s (lt_s (lt_s (lt_s (lt_s (lt_s (lt_s lt_0 (mq_4 (i := 71) rfl rfl)) (mq_4 (i := 73) rfl rfl)) (mq_4 (i := 75) rfl rfl)) (mq_4 (i := 77) rfl rfl)) (mq_4 (i := 79) rfl rfl)) (mq_4 (i := 81) rfl rfl)) (mq_4 (i := 83) rfl rfl)) (mq_4 (i := 85) rfl rfl)) (mq_4 (i := 87) rfl rfl)) (mq_4 (i := 89) rfl rfl)) (mq_4 (i := 91) rfl rfl))
set_option maxRecDepth 20000 in
theorem i_X20 : ∀ w ∈ u_ws RX20 TX20 2, w ∈ gw := uw_of (lt_s (lt_s lt_0 (mq_12 (i := 41) rfl rfl)) (mq_12 (i := 43) rfl rfl))
set_option maxRecDepth 20000 in
theorem i_X22 : ∀ w ∈ u_ws RX22 TX22 15, w ∈ gw := uw_of (lt_s (lt_s (lt_s (lt_s (lt_s (lt_s (lt_s (lt_s (lt_s (lt_s (lt_s (lt_s (lt_s (lt_s (lt_s lt_0 (mq_11 (i := 218) rfl rfl)) (mq_11 (i := 220) rfl rfl)) (mq_11 (i := 222) rfl rfl)) (mq_11 (i := 224) rfl rfl)) (mq_11 (i := 226) rfl rfl)) (mq_11 (i := 228) rfl rfl)) (mq_11 (i := 230) rfl rfl)) (mq_11 (i := 232) rfl rfl)) (mq_11 (i := 234) rfl rfl)) (mq_11 (i := 236) rfl rfl)) (mq_11 (i := 238) rfl rfl)) (mq_12 (i := 0) rfl rfl)) (mq_12 (i := 2) rfl rfl)) (mq_12 (i := 4) rfl rfl)) (mq_12 (i := 6) rfl rfl))
set_option maxRecDepth 20000 in
theorem i_X21 : ∀ w ∈ u_ws RX21 TX21 18, w ∈ gw := uw_of (lt_s (lt_s (lt_s (lt_s (lt_s (lt_s (lt_s (lt_s (lt_s (lt_s (lt_s (lt_s (lt_s (lt_s (lt_s (lt_s (lt_s (lt_s lt_0 (mq_12 (i := 74) rfl rfl)) (mq_12 (i := 76) rfl rfl)) (mq_12 (i := 78) rfl rfl)) (mq_12 (i := 80) rfl rfl)) (mq_12 (i := 82) rfl rfl)) (mq_12 (i := 84) rfl rfl)) (mq_12 (i := 86) rfl rfl)) (mq_12 (i := 88) rfl rfl)) (mq_12 (i := 90) rfl rfl)) (mq_12 (i := 92) rfl rfl)) (mq_12 (i := 94) rfl rfl)) (mq_12 (i := 96) rfl rfl)) (mq_12 (i := 98) rfl rfl)) (mq_12 (i := 100) rfl rfl)) (mq_12 (i := 102) rfl rfl)) (mq_12 (i := 104) rfl rfl)) (mq_12 (i := 106) rfl rfl)) (mq_12 (i := 108) rfl rfl))
set_option maxRecDepth 20000 in
theorem i_X24 : ∀ w ∈ u_ws RX24 TX24 9, w ∈ gw := uw_of (lt_s (lt_s (lt_s (lt_s (lt_s (lt_s (lt_s (lt_s (lt_s lt_0 (mq_12 (i := 120) rfl rfl)) (mq_12 (i := 122) rfl rfl)) (mq_12 (i := 124) rfl rfl)) (mq_12 (i := 126) rfl rfl)) (mq_12 (i := 128) rfl rfl)) (mq_12 (i := 130) rfl rfl)) (mq_12 (i := 132) rfl rfl)) (mq_12 (i := 134) rfl rfl)) (mq_12 (i := 136) rfl rfl))
theorem qw0 : Cond.methodLink RX10 3 objectInit ∈ gw := mq_1 (i := 60) rfl rfl
theorem qw1 : Cond.instanceMethod objectInit ∈ gw := mq_1 (i := 53) rfl rfl
theorem qw2 : Cond.arrayClass Jvm.ClassFile.FieldType.int ∈ gw := mq_1 (i := 91) rfl rfl
theorem qw3 : Cond.fieldLink RX10 9 "Gearbox$Tokens" "tape" "[I" ∈ gw := mq_1 (i := 61) rfl rfl
theorem qw4 : Cond.methodLink RX6 3 objectInit ∈ gw := mq_3 (i := 161) rfl rfl
theorem qw5 : Cond.arrayClass Jvm.ClassFile.FieldType.long ∈ gw := mq_1 (i := 154) rfl rfl
theorem qw6 : Cond.fieldLink RX6 9 "Gearbox$Program" "name" "[J" ∈ gw := mq_3 (i := 166) rfl rfl
theorem qw7 : Cond.fieldLink RX6 15 "Gearbox$Program" "namePlace" "[I" ∈ gw := mq_3 (i := 168) rfl rfl
theorem qw8 : Cond.fieldLink RX6 19 "Gearbox$Program" "parameters" "[I" ∈ gw := mq_3 (i := 171) rfl rfl
theorem qw9 : Cond.fieldLink RX6 22 "Gearbox$Program" "variables" "[I" ∈ gw := mq_3 (i := 176) rfl rfl
theorem qw10 : Cond.fieldLink RX6 25 "Gearbox$Program" "from" "[I" ∈ gw := mq_3 (i := 179) rfl rfl
theorem qw11 : Cond.fieldLink RX6 28 "Gearbox$Program" "to" "[I" ∈ gw := mq_3 (i := 183) rfl rfl
theorem qw12 : Cond.fieldLink RX6 31 "Gearbox$Program" "op" "[I" ∈ gw := mq_3 (i := 188) rfl rfl
theorem qw13 : Cond.fieldLink RX6 34 "Gearbox$Program" "argument" "[I" ∈ gw := mq_3 (i := 191) rfl rfl
theorem qw14 : Cond.fieldLink RX6 37 "Gearbox$Program" "ticks" "[I" ∈ gw := mq_3 (i := 195) rfl rfl
theorem qw15 : Cond.fieldLink RX6 40 "Gearbox$Program" "labelAt" "[I" ∈ gw := mq_3 (i := 198) rfl rfl
theorem qw16 : Cond.methodLink RX7 3 objectInit ∈ gw := mq_1 (i := 97) rfl rfl
theorem qw17 : Cond.fieldLink RX7 9 "Gearbox$Reader" "seenName" "[J" ∈ gw := mq_1 (i := 106) rfl rfl
theorem qw18 : Cond.fieldLink RX7 15 "Gearbox$Reader" "seenVariable" "[I" ∈ gw := mq_1 (i := 107) rfl rfl
theorem qw19 : Cond.fieldLink RX7 19 "Gearbox$Reader" "loopHead" "[I" ∈ gw := mq_1 (i := 109) rfl rfl
theorem qw20 : Cond.fieldLink RX7 22 "Gearbox$Reader" "loopEnd" "[I" ∈ gw := mq_1 (i := 110) rfl rfl
theorem qw21 : Cond.fieldLink RX7 25 "Gearbox$Reader" "callName" "[J" ∈ gw := mq_1 (i := 112) rfl rfl
theorem qw22 : Cond.fieldLink RX7 28 "Gearbox$Reader" "callOp" "[I" ∈ gw := mq_1 (i := 113) rfl rfl
theorem qw23 : Cond.fieldLink RX7 31 "Gearbox$Reader" "callPlace" "[I" ∈ gw := mq_1 (i := 114) rfl rfl
theorem qw24 : Cond.fieldLink RX7 34 "Gearbox$Reader" "callArguments" "[I" ∈ gw := mq_1 (i := 115) rfl rfl
theorem qw25 : Cond.fieldLink RX7 37 "Gearbox$Reader" "tokens" "LGearbox$Tokens;" ∈ gw := mq_1 (i := 100) rfl rfl
theorem qw26 : Cond.methodLink RX9 3 objectInit ∈ gw := mq_1 (i := 167) rfl rfl
theorem qw27 : Cond.fieldLink RX9 9 "Gearbox$Steps" "kind" "[I" ∈ gw := mq_1 (i := 172) rfl rfl
theorem qw28 : Cond.fieldLink RX9 15 "Gearbox$Steps" "gives" "[I" ∈ gw := mq_1 (i := 179) rfl rfl
theorem qw29 : Cond.fieldLink RX9 18 "Gearbox$Steps" "left" "[I" ∈ gw := mq_1 (i := 186) rfl rfl
theorem qw30 : Cond.fieldLink RX9 21 "Gearbox$Steps" "right" "[I" ∈ gw := mq_1 (i := 193) rfl rfl
theorem qw31 : Cond.fieldLink RX9 24 "Gearbox$Steps" "next" "[I" ∈ gw := mq_1 (i := 200) rfl rfl
theorem qw32 : Cond.methodLink RX1 3 objectInit ∈ gw := mq_1 (i := 161) rfl rfl
theorem qw33 : Cond.classLink RX1 9 RX9 ∈ gw := mq_1 (i := 162) rfl rfl
theorem qw34 : Cond.instantiable RX9 6 ∈ gw := mq_1 (i := 163) rfl rfl
theorem qw35 : Cond.initialized RX9 ∈ gw := mq_1 (i := 5) rfl rfl
theorem qw36 : Cond.code yX9_init cX9_init 2 (Option.none : Option Jvm.ClassFile.FieldType) ∈ gw := mq_1 (i := 166) rfl rfl
theorem qw37 : Cond.methodLink RX1 13 yX9_init ∈ gw := mq_1 (i := 164) rfl rfl
theorem qw38 : Cond.instanceMethod yX9_init ∈ gw := mq_1 (i := 165) rfl rfl
theorem qw39 : Cond.fieldLink RX1 16 "Gearbox$Flow" "steps" "LGearbox$Steps;" ∈ gw := mq_1 (i := 231) rfl rfl
theorem qw40 : Cond.fieldLink RX1 20 "Gearbox$Flow" "firstStep" "[I" ∈ gw := mq_1 (i := 237) rfl rfl
theorem qw41 : Cond.fieldLink RX1 24 "Gearbox$Flow" "lastStep" "[I" ∈ gw := mq_2 (i := 4) rfl rfl
theorem qw42 : Cond.fieldLink RX1 27 "Gearbox$Flow" "firstPhi" "[I" ∈ gw := mq_2 (i := 6) rfl rfl
theorem qw43 : Cond.fieldLink RX1 30 "Gearbox$Flow" "lastPhi" "[I" ∈ gw := mq_2 (i := 13) rfl rfl
theorem qw44 : Cond.fieldLink RX1 33 "Gearbox$Flow" "end" "[I" ∈ gw := mq_2 (i := 15) rfl rfl
theorem qw45 : Cond.fieldLink RX1 36 "Gearbox$Flow" "endValue" "[I" ∈ gw := mq_2 (i := 22) rfl rfl
theorem qw46 : Cond.fieldLink RX1 39 "Gearbox$Flow" "first" "[I" ∈ gw := mq_2 (i := 30) rfl rfl
theorem qw47 : Cond.fieldLink RX1 42 "Gearbox$Flow" "second" "[I" ∈ gw := mq_2 (i := 38) rfl rfl
theorem qw48 : Cond.fieldLink RX1 45 "Gearbox$Flow" "dominator" "[I" ∈ gw := mq_2 (i := 46) rfl rfl
theorem qw49 : Cond.fieldLink RX1 48 "Gearbox$Flow" "depth" "[I" ∈ gw := mq_2 (i := 51) rfl rfl
theorem qw50 : Cond.fieldLink RX1 51 "Gearbox$Flow" "waysBegin" "[I" ∈ gw := mq_2 (i := 55) rfl rfl
theorem qw51 : Cond.fieldLink RX1 54 "Gearbox$Flow" "ways" "[I" ∈ gw := mq_2 (i := 57) rfl rfl
theorem qw52 : Cond.fieldLink RX1 57 "Gearbox$Flow" "dominators" "[J" ∈ gw := mq_2 (i := 59) rfl rfl
theorem qw53 : Cond.fieldLink RX1 61 "Gearbox$Flow" "loop" "[J" ∈ gw := mq_2 (i := 63) rfl rfl
theorem qw54 : Cond.fieldLink RX1 64 "Gearbox$Flow" "phiGives" "[I" ∈ gw := mq_2 (i := 68) rfl rfl
theorem qw55 : Cond.fieldLink RX1 67 "Gearbox$Flow" "phiNext" "[I" ∈ gw := mq_2 (i := 74) rfl rfl
theorem qw56 : Cond.fieldLink RX1 70 "Gearbox$Flow" "takes" "[I" ∈ gw := mq_2 (i := 81) rfl rfl
theorem qw57 : Cond.methodLink RX8 3 objectInit ∈ gw := mq_2 (i := 131) rfl rfl
theorem qw58 : Cond.fieldLink RX8 9 "Gearbox$Shape" "renamed" "[I" ∈ gw := mq_2 (i := 132) rfl rfl
theorem qw59 : Cond.fieldLink RX8 15 "Gearbox$Shape" "stage" "[I" ∈ gw := mq_2 (i := 133) rfl rfl
theorem qw60 : Cond.fieldLink RX8 18 "Gearbox$Shape" "path" "[I" ∈ gw := mq_2 (i := 134) rfl rfl
theorem qw61 : Cond.fieldLink RX8 21 "Gearbox$Shape" "finished" "[I" ∈ gw := mq_2 (i := 135) rfl rfl
theorem qw62 : Cond.fieldLink RX8 24 "Gearbox$Shape" "row" "[I" ∈ gw := mq_2 (i := 136) rfl rfl
theorem qw63 : Cond.methodLink RX4 3 objectInit ∈ gw := mq_2 (i := 153) rfl rfl
theorem qw64 : Cond.fieldLink RX4 9 "Gearbox$Maker" "leftOp" "[I" ∈ gw := mq_2 (i := 155) rfl rfl
theorem qw65 : Cond.fieldLink RX4 15 "Gearbox$Maker" "rightOp" "[I" ∈ gw := mq_2 (i := 156) rfl rfl
theorem qw66 : Cond.fieldLink RX4 18 "Gearbox$Maker" "valueOf" "[I" ∈ gw := mq_2 (i := 157) rfl rfl
theorem qw67 : Cond.fieldLink RX4 21 "Gearbox$Maker" "waiting" "[I" ∈ gw := mq_2 (i := 158) rfl rfl
theorem qw68 : Cond.fieldLink RX4 24 "Gearbox$Maker" "pieceFrom" "[I" ∈ gw := mq_2 (i := 160) rfl rfl
theorem qw69 : Cond.fieldLink RX4 27 "Gearbox$Maker" "pieceTo" "[I" ∈ gw := mq_2 (i := 161) rfl rfl
theorem qw70 : Cond.fieldLink RX4 30 "Gearbox$Maker" "pieceFirst" "[I" ∈ gw := mq_2 (i := 162) rfl rfl
theorem qw71 : Cond.fieldLink RX4 33 "Gearbox$Maker" "pieceSecond" "[I" ∈ gw := mq_2 (i := 163) rfl rfl
theorem qw72 : Cond.fieldLink RX4 36 "Gearbox$Maker" "pieceWays" "[I" ∈ gw := mq_2 (i := 164) rfl rfl
theorem qw73 : Cond.fieldLink RX4 39 "Gearbox$Maker" "pieceBlock" "[I" ∈ gw := mq_2 (i := 165) rfl rfl
theorem qw74 : Cond.fieldLink RX4 42 "Gearbox$Maker" "labelPiece" "[I" ∈ gw := mq_2 (i := 166) rfl rfl
theorem qw75 : Cond.fieldLink RX4 45 "Gearbox$Maker" "found" "[I" ∈ gw := mq_2 (i := 167) rfl rfl
theorem qw76 : Cond.fieldLink RX4 48 "Gearbox$Maker" "pieceOf" "[I" ∈ gw := mq_2 (i := 168) rfl rfl
theorem qw77 : Cond.fieldLink RX4 51 "Gearbox$Maker" "uses" "[J" ∈ gw := mq_2 (i := 169) rfl rfl
theorem qw78 : Cond.fieldLink RX4 55 "Gearbox$Maker" "assigns" "[J" ∈ gw := mq_2 (i := 170) rfl rfl
theorem qw79 : Cond.fieldLink RX4 58 "Gearbox$Maker" "border" "[J" ∈ gw := mq_2 (i := 171) rfl rfl
theorem qw80 : Cond.fieldLink RX4 61 "Gearbox$Maker" "phiVariable" "[I" ∈ gw := mq_2 (i := 172) rfl rfl
theorem qw81 : Cond.fieldLink RX4 64 "Gearbox$Maker" "now" "[I" ∈ gw := mq_2 (i := 173) rfl rfl
theorem qw82 : Cond.fieldLink RX4 67 "Gearbox$Maker" "shape" "LGearbox$Shape;" ∈ gw := mq_2 (i := 154) rfl rfl
theorem qw83 : Cond.methodLink RX5 3 objectInit ∈ gw := mq_2 (i := 220) rfl rfl
theorem qw84 : Cond.fieldLink RX5 9 "Gearbox$Passes" "giver" "[I" ∈ gw := mq_2 (i := 222) rfl rfl
theorem qw85 : Cond.fieldLink RX5 15 "Gearbox$Passes" "home" "[I" ∈ gw := mq_2 (i := 223) rfl rfl
theorem qw86 : Cond.fieldLink RX5 18 "Gearbox$Passes" "state" "[I" ∈ gw := mq_2 (i := 224) rfl rfl
theorem qw87 : Cond.fieldLink RX5 21 "Gearbox$Passes" "number" "[I" ∈ gw := mq_2 (i := 225) rfl rfl
theorem qw88 : Cond.fieldLink RX5 24 "Gearbox$Passes" "standIn" "[I" ∈ gw := mq_2 (i := 226) rfl rfl
theorem qw89 : Cond.fieldLink RX5 27 "Gearbox$Passes" "marks" "[I" ∈ gw := mq_2 (i := 227) rfl rfl
theorem qw90 : Cond.fieldLink RX5 30 "Gearbox$Passes" "seenStep" "[I" ∈ gw := mq_2 (i := 229) rfl rfl
theorem qw91 : Cond.fieldLink RX5 33 "Gearbox$Passes" "seenBlock" "[I" ∈ gw := mq_2 (i := 230) rfl rfl
theorem qw92 : Cond.fieldLink RX5 36 "Gearbox$Passes" "path" "[I" ∈ gw := mq_2 (i := 232) rfl rfl
theorem qw93 : Cond.fieldLink RX5 39 "Gearbox$Passes" "shape" "LGearbox$Shape;" ∈ gw := mq_2 (i := 221) rfl rfl
theorem qw94 : Cond.methodLink RX2 3 objectInit ∈ gw := mq_3 (i := 33) rfl rfl
theorem qw95 : Cond.fieldLink RX2 11 "Gearbox$Graph" "uses" "[J" ∈ gw := mq_3 (i := 37) rfl rfl
theorem qw96 : Cond.fieldLink RX2 15 "Gearbox$Graph" "givenIn" "[J" ∈ gw := mq_3 (i := 38) rfl rfl
theorem qw97 : Cond.fieldLink RX2 18 "Gearbox$Graph" "liveIn" "[J" ∈ gw := mq_3 (i := 39) rfl rfl
theorem qw98 : Cond.fieldLink RX2 21 "Gearbox$Graph" "live" "[J" ∈ gw := mq_3 (i := 40) rfl rfl
theorem qw99 : Cond.fieldLink RX2 24 "Gearbox$Graph" "liveGuests" "[I" ∈ gw := mq_3 (i := 41) rfl rfl
theorem qw100 : Cond.fieldLink RX2 28 "Gearbox$Graph" "chain" "[I" ∈ gw := mq_3 (i := 43) rfl rfl
theorem qw101 : Cond.fieldLink RX2 31 "Gearbox$Graph" "near" "[J" ∈ gw := mq_3 (i := 44) rfl rfl
theorem qw102 : Cond.fieldLink RX2 34 "Gearbox$Graph" "mate" "[I" ∈ gw := mq_3 (i := 45) rfl rfl
theorem qw103 : Cond.fieldLink RX2 37 "Gearbox$Graph" "degree" "[I" ∈ gw := mq_3 (i := 46) rfl rfl
theorem qw104 : Cond.fieldLink RX2 40 "Gearbox$Graph" "cost" "[J" ∈ gw := mq_3 (i := 47) rfl rfl
theorem qw105 : Cond.fieldLink RX2 43 "Gearbox$Graph" "givers" "[I" ∈ gw := mq_3 (i := 48) rfl rfl
theorem qw106 : Cond.fieldLink RX2 46 "Gearbox$Graph" "giver" "[I" ∈ gw := mq_3 (i := 50) rfl rfl
theorem qw107 : Cond.fieldLink RX2 49 "Gearbox$Graph" "register" "[I" ∈ gw := mq_3 (i := 52) rfl rfl
theorem qw108 : Cond.fieldLink RX2 52 "Gearbox$Graph" "left" "[I" ∈ gw := mq_3 (i := 54) rfl rfl
theorem qw109 : Cond.fieldLink RX2 55 "Gearbox$Graph" "order" "[I" ∈ gw := mq_3 (i := 55) rfl rfl
theorem qw110 : Cond.methodLink RX0 3 objectInit ∈ gw := mq_3 (i := 23) rfl rfl
theorem qw111 : Cond.classLink RX0 9 RX1 ∈ gw := mq_3 (i := 24) rfl rfl
theorem qw112 : Cond.instantiable RX1 21 ∈ gw := mq_1 (i := 157) rfl rfl
theorem qw113 : Cond.initialized RX1 ∈ gw := mq_1 (i := 4) rfl rfl
theorem qw114 : Cond.code yX1_init cX1_init 1 (Option.none : Option Jvm.ClassFile.FieldType) ∈ gw := mq_1 (i := 160) rfl rfl
theorem qw115 : Cond.instanceMethod yX1_init ∈ gw := mq_1 (i := 159) rfl rfl
theorem qw116 : Cond.fieldLink RX0 12 "Gearbox$Allocator" "work" "LGearbox$Flow;" ∈ gw := mq_3 (i := 96) rfl rfl
theorem qw117 : Cond.classLink RX0 18 RX9 ∈ gw := mq_3 (i := 26) rfl rfl
theorem qw118 : Cond.fieldLink RX0 20 "Gearbox$Allocator" "code" "[LGearbox$Steps;" ∈ gw := mq_3 (i := 98) rfl rfl
theorem qw119 : Cond.fieldLink RX0 24 "Gearbox$Allocator" "slotCounts" "[I" ∈ gw := mq_3 (i := 101) rfl rfl
theorem qw120 : Cond.fieldLink RX0 28 "Gearbox$Allocator" "unitedCounts" "[I" ∈ gw := mq_3 (i := 104) rfl rfl
theorem qw121 : Cond.fieldLink RX0 31 "Gearbox$Allocator" "roundCounts" "[I" ∈ gw := mq_3 (i := 106) rfl rfl
theorem qw122 : Cond.classLink RX0 34 RX2 ∈ gw := mq_3 (i := 28) rfl rfl
theorem qw123 : Cond.instantiable RX2 19 ∈ gw := mq_3 (i := 29) rfl rfl
theorem qw124 : Cond.initialized RX2 ∈ gw := mq_1 (i := 10) rfl rfl
theorem qw125 : Cond.code yX2_init cX2_init 1 (Option.none : Option Jvm.ClassFile.FieldType) ∈ gw := mq_3 (i := 32) rfl rfl
theorem qw126 : Cond.instanceMethod yX2_init ∈ gw := mq_3 (i := 31) rfl rfl
theorem qw127 : Cond.fieldLink RX0 37 "Gearbox$Allocator" "graph" "LGearbox$Graph;" ∈ gw := mq_3 (i := 110) rfl rfl
theorem qw128 : Cond.fieldLink RX0 41 "Gearbox$Allocator" "slot" "[I" ∈ gw := mq_3 (i := 116) rfl rfl
theorem qw129 : Cond.fieldLink RX0 44 "Gearbox$Allocator" "number" "[I" ∈ gw := mq_3 (i := 117) rfl rfl
theorem qw130 : Cond.fieldLink RX0 47 "Gearbox$Allocator" "copyTo" "[I" ∈ gw := mq_3 (i := 118) rfl rfl
theorem qw131 : Cond.fieldLink RX0 50 "Gearbox$Allocator" "copyFrom" "[I" ∈ gw := mq_3 (i := 119) rfl rfl
theorem qw132 : Cond.fieldLink RX0 53 "Gearbox$Allocator" "lineOf" "[I" ∈ gw := mq_3 (i := 120) rfl rfl
theorem qw133 : Cond.methodLink RX0 56 yX9_init ∈ gw := mq_3 (i := 95) rfl rfl
theorem qw134 : Cond.methodLink RX3 3 objectInit ∈ gw := mq_3 (i := 232) rfl rfl
theorem qw135 : Cond.fieldLink RX3 9 "Gearbox$Machine" "memory" "[I" ∈ gw := mq_3 (i := 239) rfl rfl
theorem qw136 : Cond.fieldLink RX3 15 "Gearbox$Machine" "told" "[I" ∈ gw := mq_4 (i := 4) rfl rfl
theorem qw137 : Cond.fieldLink RX3 18 "Gearbox$Machine" "function" "[I" ∈ gw := mq_4 (i := 7) rfl rfl
theorem qw138 : Cond.fieldLink RX3 21 "Gearbox$Machine" "at" "[I" ∈ gw := mq_4 (i := 8) rfl rfl
theorem qw139 : Cond.fieldLink RX3 24 "Gearbox$Machine" "block" "[I" ∈ gw := mq_4 (i := 9) rfl rfl
theorem qw140 : Cond.fieldLink RX3 27 "Gearbox$Machine" "blockAhead" "[I" ∈ gw := mq_4 (i := 10) rfl rfl
theorem qw141 : Cond.fieldLink RX3 30 "Gearbox$Machine" "arguments" "[I" ∈ gw := mq_4 (i := 11) rfl rfl
theorem qw142 : Cond.fieldLink RX3 33 "Gearbox$Machine" "cells" "[I" ∈ gw := mq_4 (i := 12) rfl rfl
theorem qw143 : Cond.fieldLink RX3 36 "Gearbox$Machine" "slots" "[I" ∈ gw := mq_4 (i := 13) rfl rfl
theorem qw144 : Cond.fieldLink RX3 39 "Gearbox$Machine" "waiting" "[I" ∈ gw := mq_4 (i := 15) rfl rfl
theorem qw145 : Cond.fieldLink RX3 42 "Gearbox$Machine" "program" "LGearbox$Program;" ∈ gw := mq_4 (i := 1) rfl rfl
theorem qw146 : Cond.fieldLink RX3 46 "Gearbox$Machine" "flows" "[LGearbox$Flow;" ∈ gw := mq_4 (i := 2) rfl rfl
theorem qw147 : Cond.fieldLink RX3 50 "Gearbox$Machine" "allocator" "LGearbox$Allocator;" ∈ gw := mq_4 (i := 3) rfl rfl
theorem qw148 : Cond.methodLink RX11 1 objectInit ∈ gw := mq_1 (i := 52) rfl rfl
theorem qw149 : Cond.classLink RX11 7 RX10 ∈ gw := mq_1 (i := 55) rfl rfl
theorem qw150 : Cond.instantiable RX10 8 ∈ gw := mq_1 (i := 56) rfl rfl
theorem qw151 : Cond.initialized RX10 ∈ gw := mq_1 (i := 2) rfl rfl
theorem qw152 : Cond.code yX10_init cX10_init 1 (Option.none : Option Jvm.ClassFile.FieldType) ∈ gw := mq_1 (i := 59) rfl rfl
theorem qw153 : Cond.instanceMethod yX10_init ∈ gw := mq_1 (i := 58) rfl rfl
theorem qw154 : Cond.fieldLink RX11 10 "Gearbox" "tokens" "LGearbox$Tokens;" ∈ gw := mq_4 (i := 60) rfl rfl
theorem qw155 : Cond.classLink RX11 16 RX7 ∈ gw := mq_1 (i := 92) rfl rfl
theorem qw156 : Cond.instantiable RX7 18 ∈ gw := mq_1 (i := 93) rfl rfl
theorem qw157 : Cond.initialized RX7 ∈ gw := mq_1 (i := 3) rfl rfl
theorem qw158 : Cond.code yX7_init cX7_init 2 (Option.none : Option Jvm.ClassFile.FieldType) ∈ gw := mq_1 (i := 96) rfl rfl
theorem qw159 : Cond.methodLink RX11 18 yX7_init ∈ gw := mq_1 (i := 94) rfl rfl
theorem qw160 : Cond.instanceMethod yX7_init ∈ gw := mq_1 (i := 95) rfl rfl
theorem qw161 : Cond.fieldLink RX11 21 "Gearbox" "reader" "LGearbox$Reader;" ∈ gw := mq_4 (i := 61) rfl rfl
theorem qw162 : Cond.classLink RX11 25 RX1 ∈ gw := mq_1 (i := 155) rfl rfl
theorem qw163 : Cond.fieldLink RX11 27 "Gearbox" "flows" "[LGearbox$Flow;" ∈ gw := mq_4 (i := 62) rfl rfl
theorem qw164 : Cond.classLink RX11 32 RX8 ∈ gw := mq_2 (i := 126) rfl rfl
theorem qw165 : Cond.instantiable RX8 5 ∈ gw := mq_2 (i := 127) rfl rfl
theorem qw166 : Cond.initialized RX8 ∈ gw := mq_1 (i := 6) rfl rfl
theorem qw167 : Cond.code yX8_init cX8_init 1 (Option.none : Option Jvm.ClassFile.FieldType) ∈ gw := mq_2 (i := 130) rfl rfl
theorem qw168 : Cond.instanceMethod yX8_init ∈ gw := mq_2 (i := 129) rfl rfl
theorem qw169 : Cond.classLink RX11 35 RX4 ∈ gw := mq_2 (i := 148) rfl rfl
theorem qw170 : Cond.instantiable RX4 20 ∈ gw := mq_2 (i := 149) rfl rfl
theorem qw171 : Cond.initialized RX4 ∈ gw := mq_1 (i := 7) rfl rfl
theorem qw172 : Cond.code yX4_init cX4_init 2 (Option.none : Option Jvm.ClassFile.FieldType) ∈ gw := mq_2 (i := 152) rfl rfl
theorem qw173 : Cond.methodLink RX11 37 yX4_init ∈ gw := mq_2 (i := 150) rfl rfl
theorem qw174 : Cond.instanceMethod yX4_init ∈ gw := mq_2 (i := 151) rfl rfl
theorem qw175 : Cond.fieldLink RX11 40 "Gearbox" "maker" "LGearbox$Maker;" ∈ gw := mq_4 (i := 63) rfl rfl
theorem qw176 : Cond.classLink RX11 44 RX5 ∈ gw := mq_2 (i := 215) rfl rfl
theorem qw177 : Cond.instantiable RX5 12 ∈ gw := mq_2 (i := 216) rfl rfl
theorem qw178 : Cond.initialized RX5 ∈ gw := mq_1 (i := 8) rfl rfl
theorem qw179 : Cond.code yX5_init cX5_init 2 (Option.none : Option Jvm.ClassFile.FieldType) ∈ gw := mq_2 (i := 219) rfl rfl
theorem qw180 : Cond.methodLink RX11 46 yX5_init ∈ gw := mq_2 (i := 217) rfl rfl
theorem qw181 : Cond.instanceMethod yX5_init ∈ gw := mq_2 (i := 218) rfl rfl
theorem qw182 : Cond.fieldLink RX11 47 "Gearbox" "passes" "LGearbox$Passes;" ∈ gw := mq_4 (i := 64) rfl rfl
theorem qw183 : Cond.classLink RX11 51 RX0 ∈ gw := mq_3 (i := 18) rfl rfl
theorem qw184 : Cond.instantiable RX0 17 ∈ gw := mq_3 (i := 19) rfl rfl
theorem qw185 : Cond.initialized RX0 ∈ gw := mq_1 (i := 9) rfl rfl
theorem qw186 : Cond.code yX0_init cX0_init 2 (Option.none : Option Jvm.ClassFile.FieldType) ∈ gw := mq_3 (i := 22) rfl rfl
theorem qw187 : Cond.methodLink RX11 53 yX0_init ∈ gw := mq_3 (i := 20) rfl rfl
theorem qw188 : Cond.instanceMethod yX0_init ∈ gw := mq_3 (i := 21) rfl rfl
theorem qw189 : Cond.fieldLink RX11 54 "Gearbox" "allocator" "LGearbox$Allocator;" ∈ gw := mq_4 (i := 65) rfl rfl
theorem qw190 : Cond.classLink RX11 58 RX6 ∈ gw := mq_3 (i := 156) rfl rfl
theorem qw191 : Cond.instantiable RX6 13 ∈ gw := mq_3 (i := 157) rfl rfl
theorem qw192 : Cond.initialized RX6 ∈ gw := mq_1 (i := 11) rfl rfl
theorem qw193 : Cond.code yX6_init cX6_init 1 (Option.none : Option Jvm.ClassFile.FieldType) ∈ gw := mq_3 (i := 160) rfl rfl
theorem qw194 : Cond.instanceMethod yX6_init ∈ gw := mq_3 (i := 159) rfl rfl
theorem qw195 : Cond.fieldLink RX11 61 "Gearbox" "program" "LGearbox$Program;" ∈ gw := mq_4 (i := 68) rfl rfl
theorem qw196 : Cond.fieldLink RX11 65 "Gearbox" "spare" "LGearbox$Program;" ∈ gw := mq_4 (i := 69) rfl rfl
theorem qw197 : Cond.classLink RX11 68 RX3 ∈ gw := mq_3 (i := 227) rfl rfl
theorem qw198 : Cond.instantiable RX3 20 ∈ gw := mq_3 (i := 228) rfl rfl
theorem qw199 : Cond.initialized RX3 ∈ gw := mq_1 (i := 12) rfl rfl
theorem qw200 : Cond.code yX3_init cX3_init 4 (Option.none : Option Jvm.ClassFile.FieldType) ∈ gw := mq_3 (i := 231) rfl rfl
theorem qw201 : Cond.methodLink RX11 70 yX3_init ∈ gw := mq_3 (i := 229) rfl rfl
theorem qw202 : Cond.instanceMethod yX3_init ∈ gw := mq_3 (i := 230) rfl rfl
theorem qw203 : Cond.fieldLink RX11 73 "Gearbox" "machine" "LGearbox$Machine;" ∈ gw := mq_4 (i := 66) rfl rfl
theorem qw204 : Cond.classLink RX11 77 "[[I" ∈ gw := mq_4 (i := 58) rfl rfl
theorem qw205 : Cond.fieldLink RX11 79 "Gearbox" "ends" "[[I" ∈ gw := mq_4 (i := 67) rfl rfl
theorem qw206 : Cond.fieldLink RX11 82 "Gearbox" "errorPlace" "I" ∈ gw := mq_4 (i := 70) rfl rfl
theorem qw207 : Cond.fieldLink RX11 86 "Gearbox$Tokens" "length" "I" ∈ gw := mq_1 (i := 62) rfl rfl
theorem qw208 : Cond.fieldLink RX10 15 "Gearbox$Tokens" "length" "I" ∈ gw := mq_1 (i := 63) rfl rfl
theorem qw209 : Cond.code yX10_append cX10_append 3 (Option.none : Option Jvm.ClassFile.FieldType) ∈ gw := mq_9 (i := 12) rfl rfl
theorem qw210 : Cond.methodLink RX11 96 yX10_append ∈ gw := mq_9 (i := 9) rfl rfl
theorem qw211 : Cond.instanceMethod yX10_append ∈ gw := mq_9 (i := 10) rfl rfl
theorem qw212 : Cond.selects RX10 yX10_append yX10_append ∈ gw := mq_9 (i := 11) rfl rfl
theorem qw213 : Cond.classLink RX11 100 "java/lang/IllegalArgumentException" ∈ gw := mq_9 (i := 21) rfl rfl
theorem qw214 : Cond.initialized "java/lang/IllegalArgumentException" ∈ gw := mq_1 (i := 21) rfl rfl
theorem qw215 : Cond.fieldLink RX11 112 "Gearbox$Program" "functions" "I" ∈ gw := mq_3 (i := 164) rfl rfl
theorem qw216 : Cond.fieldLink RX11 138 "Gearbox$Allocator" "hasCode" "Z" ∈ gw := mq_3 (i := 109) rfl rfl
theorem qw217 : Cond.constant RX11 244 (1000000) ∈ gw := mq_8 (i := 168) rfl rfl
theorem qw218 : Cond.code yX11_fold cX11_fold 3 (Option.some Jvm.ClassFile.FieldType.int) ∈ gw := mq_7 (i := 183) rfl rfl
theorem qw219 : Cond.methodLink RX11 245 yX11_fold ∈ gw := mq_8 (i := 169) rfl rfl
theorem qw220 : Cond.instanceMethod yX11_fold ∈ gw := mq_7 (i := 181) rfl rfl
theorem qw221 : Cond.selects RX11 yX11_fold yX11_fold ∈ gw := mq_7 (i := 182) rfl rfl
theorem qw222 : Cond.initialized RX11 ∈ gw := mq_1 (i := 1) rfl rfl
theorem qw223 : Cond.code yX11_same cX11_same 3 (Option.some Jvm.ClassFile.FieldType.int) ∈ gw := mq_8 (i := 10) rfl rfl
theorem qw224 : Cond.methodLink RX11 248 yX11_same ∈ gw := mq_8 (i := 170) rfl rfl
theorem qw225 : Cond.instanceMethod yX11_same ∈ gw := mq_8 (i := 8) rfl rfl
theorem qw226 : Cond.selects RX11 yX11_same yX11_same ∈ gw := mq_8 (i := 9) rfl rfl
theorem qw227 : Cond.code yX11_drop cX11_drop 3 (Option.some Jvm.ClassFile.FieldType.int) ∈ gw := mq_8 (i := 92) rfl rfl
theorem qw228 : Cond.methodLink RX11 251 yX11_drop ∈ gw := mq_8 (i := 171) rfl rfl
theorem qw229 : Cond.instanceMethod yX11_drop ∈ gw := mq_8 (i := 90) rfl rfl
theorem qw230 : Cond.selects RX11 yX11_drop yX11_drop ∈ gw := mq_8 (i := 91) rfl rfl
theorem qw231 : Cond.code yX11_lift cX11_lift 3 (Option.some Jvm.ClassFile.FieldType.int) ∈ gw := mq_8 (i := 128) rfl rfl
theorem qw232 : Cond.methodLink RX11 254 yX11_lift ∈ gw := mq_8 (i := 172) rfl rfl
theorem qw233 : Cond.instanceMethod yX11_lift ∈ gw := mq_8 (i := 126) rfl rfl
theorem qw234 : Cond.selects RX11 yX11_lift yX11_lift ∈ gw := mq_8 (i := 127) rfl rfl
theorem qw235 : Cond.code yX11_merge cX11_merge 3 (Option.some Jvm.ClassFile.FieldType.int) ∈ gw := mq_8 (i := 147) rfl rfl
theorem qw236 : Cond.methodLink RX11 257 yX11_merge ∈ gw := mq_8 (i := 173) rfl rfl
theorem qw237 : Cond.instanceMethod yX11_merge ∈ gw := mq_8 (i := 145) rfl rfl
theorem qw238 : Cond.selects RX11 yX11_merge yX11_merge ∈ gw := mq_8 (i := 146) rfl rfl
theorem qw239 : Cond.fieldLink RX11 295 "Gearbox$Machine" "outcome" "I" ∈ gw := mq_3 (i := 234) rfl rfl
theorem qw240 : Cond.fieldLink RX11 298 "Gearbox$Machine" "result" "I" ∈ gw := mq_3 (i := 236) rfl rfl
theorem qw241 : Cond.fieldLink RX11 301 "Gearbox$Machine" "steps" "I" ∈ gw := mq_3 (i := 238) rfl rfl
theorem qw242 : Cond.classLink RX11 329 "java/lang/IndexOutOfBoundsException" ∈ gw := mq_9 (i := 36) rfl rfl
theorem qw243 : Cond.initialized "java/lang/IndexOutOfBoundsException" ∈ gw := mq_1 (i := 35) rfl rfl
theorem qw244 : Cond.code yX11_needFunction cX11_needFunction 2 (Option.none : Option Jvm.ClassFile.FieldType) ∈ gw := mq_9 (i := 35) rfl rfl
theorem qw245 : Cond.methodLink RX11 142 yX11_needFunction ∈ gw := mq_9 (i := 32) rfl rfl
theorem qw246 : Cond.instanceMethod yX11_needFunction ∈ gw := mq_9 (i := 34) rfl rfl
theorem qw247 : Cond.selects RX11 yX11_needFunction yX11_needFunction ∈ gw := mk_s (i := 0) rfl rfl
theorem qw248 : Cond.code yX11_flowWith cX11_flowWith 3 (Option.some (Jvm.ClassFile.FieldType.object "Gearbox$Flow")) ∈ gw := mq_9 (i := 84) rfl rfl
theorem qw249 : Cond.methodLink RX11 155 yX11_flowWith ∈ gw := mq_9 (i := 81) rfl rfl
theorem qw250 : Cond.instanceMethod yX11_flowWith ∈ gw := mq_9 (i := 83) rfl rfl
theorem qw251 : Cond.selects RX11 yX11_flowWith yX11_flowWith ∈ gw := mk_s (i := 1) rfl rfl
theorem qw252 : Cond.code yX11_stepAt cX11_stepAt 5 (Option.some Jvm.ClassFile.FieldType.int) ∈ gw := mq_9 (i := 179) rfl rfl
theorem qw253 : Cond.methodLink RX11 206 yX11_stepAt ∈ gw := mq_9 (i := 176) rfl rfl
theorem qw254 : Cond.instanceMethod yX11_stepAt ∈ gw := mq_9 (i := 178) rfl rfl
theorem qw255 : Cond.selects RX11 yX11_stepAt yX11_stepAt ∈ gw := mk_s (i := 2) rfl rfl
theorem qw256 : Cond.code yX11_codeWith cX11_codeWith 3 (Option.some (Jvm.ClassFile.FieldType.object "Gearbox$Steps")) ∈ gw := mq_10 (i := 213) rfl rfl
theorem qw257 : Cond.methodLink RX11 271 yX11_codeWith ∈ gw := mq_10 (i := 210) rfl rfl
theorem qw258 : Cond.instanceMethod yX11_codeWith ∈ gw := mq_10 (i := 212) rfl rfl
theorem qw259 : Cond.selects RX11 yX11_codeWith yX11_codeWith ∈ gw := mk_s (i := 3) rfl rfl
theorem qw260 : Cond.code yX11_needPlace cX11_needPlace 3 (Option.none : Option Jvm.ClassFile.FieldType) ∈ gw := mq_9 (i := 88) rfl rfl
theorem qw261 : Cond.methodLink RX11 168 yX11_needPlace ∈ gw := mq_9 (i := 85) rfl rfl
theorem qw262 : Cond.instanceMethod yX11_needPlace ∈ gw := mq_9 (i := 87) rfl rfl
theorem qw263 : Cond.selects RX11 yX11_needPlace yX11_needPlace ∈ gw := mk_s (i := 4) rfl rfl
theorem qw264 : Cond.fieldLink RX11 303 "Gearbox$Machine" "memory" "[I" ∈ gw := mq_4 (i := 0) rfl rfl
theorem qw265 : Cond.classLink RX11 89 "java/lang/IllegalStateException" ∈ gw := mq_8 (i := 233) rfl rfl
theorem qw266 : Cond.initialized "java/lang/IllegalStateException" ∈ gw := mq_1 (i := 20) rfl rfl
theorem qw267 : Cond.constantLong RX11 321 (58009) ∈ gw := mq_8 (i := 198) rfl rfl
theorem qw268 : Cond.constantLong RX11 323 (31) ∈ gw := mq_8 (i := 199) rfl rfl
theorem qw269 : Cond.fieldLink RX7 41 "Gearbox$Reader" "program" "LGearbox$Program;" ∈ gw := mq_1 (i := 101) rfl rfl
theorem qw270 : Cond.fieldLink RX6 43 "Gearbox$Program" "functions" "I" ∈ gw := mq_3 (i := 162) rfl rfl
theorem qw271 : Cond.fieldLink RX6 47 "Gearbox$Program" "ops" "I" ∈ gw := mq_3 (i := 186) rfl rfl
theorem qw272 : Cond.fieldLink RX6 50 "Gearbox$Program" "labels" "I" ∈ gw := mq_3 (i := 197) rfl rfl
theorem qw273 : Cond.code yX6_clear cX6_clear 1 (Option.none : Option Jvm.ClassFile.FieldType) ∈ gw := mq_4 (i := 106) rfl rfl
theorem qw274 : Cond.methodLink RX7 45 yX6_clear ∈ gw := mq_4 (i := 103) rfl rfl
theorem qw275 : Cond.instanceMethod yX6_clear ∈ gw := mq_4 (i := 104) rfl rfl
theorem qw276 : Cond.selects RX6 yX6_clear yX6_clear ∈ gw := mq_4 (i := 105) rfl rfl
theorem qw277 : Cond.fieldLink RX7 50 "Gearbox$Reader" "open" "I" ∈ gw := mq_1 (i := 103) rfl rfl
theorem qw278 : Cond.fieldLink RX7 54 "Gearbox$Reader" "tallPlace" "I" ∈ gw := mq_1 (i := 104) rfl rfl
theorem qw279 : Cond.fieldLink RX7 57 "Gearbox$Reader" "fault" "I" ∈ gw := mq_1 (i := 105) rfl rfl
theorem qw280 : Cond.fieldLink RX7 60 "Gearbox$Reader" "faultPlace" "I" ∈ gw := mq_1 (i := 98) rfl rfl
theorem qw281 : Cond.fieldLink RX7 63 "Gearbox$Reader" "calls" "I" ∈ gw := mq_1 (i := 116) rfl rfl
theorem qw282 : Cond.fieldLink RX10 19 "Gearbox$Tokens" "after" "I" ∈ gw := mq_1 (i := 72) rfl rfl
theorem qw283 : Cond.fieldLink RX10 22 "Gearbox$Tokens" "count" "I" ∈ gw := mq_1 (i := 73) rfl rfl
theorem qw284 : Cond.fieldLink RX10 28 "Gearbox$Tokens" "place" "I" ∈ gw := mq_1 (i := 67) rfl rfl
theorem qw285 : Cond.fieldLink RX10 31 "Gearbox$Tokens" "kind" "I" ∈ gw := mq_1 (i := 65) rfl rfl
theorem qw286 : Cond.code yX10_advance cX10_advance 2 (Option.none : Option Jvm.ClassFile.FieldType) ∈ gw := mq_4 (i := 114) rfl rfl
theorem qw287 : Cond.methodLink RX10 25 yX10_advance ∈ gw := mq_4 (i := 111) rfl rfl
theorem qw288 : Cond.instanceMethod yX10_advance ∈ gw := mq_4 (i := 112) rfl rfl
theorem qw289 : Cond.selects RX10 yX10_advance yX10_advance ∈ gw := mq_4 (i := 113) rfl rfl
theorem qw290 : Cond.code yX10_begin cX10_begin 1 (Option.none : Option Jvm.ClassFile.FieldType) ∈ gw := mq_4 (i := 110) rfl rfl
theorem qw291 : Cond.methodLink RX7 66 yX10_begin ∈ gw := mq_4 (i := 107) rfl rfl
theorem qw292 : Cond.instanceMethod yX10_begin ∈ gw := mq_4 (i := 108) rfl rfl
theorem qw293 : Cond.selects RX10 yX10_begin yX10_begin ∈ gw := mq_4 (i := 109) rfl rfl
theorem qw294 : Cond.fieldLink RX7 89 "Gearbox$Reader" "function" "I" ∈ gw := mq_1 (i := 102) rfl rfl
theorem qw295 : Cond.fieldLink RX7 92 "Gearbox$Reader" "seen" "I" ∈ gw := mq_1 (i := 108) rfl rfl
theorem qw296 : Cond.fieldLink RX7 95 "Gearbox$Reader" "loops" "I" ∈ gw := mq_1 (i := 111) rfl rfl
theorem qw297 : Cond.fieldLink RX7 71 "Gearbox$Tokens" "kind" "I" ∈ gw := mq_1 (i := 64) rfl rfl
theorem qw298 : Cond.classLink RX7 78 "java/lang/IllegalArgumentException" ∈ gw := mq_4 (i := 102) rfl rfl
theorem qw299 : Cond.code yX7_refuse cX7_refuse 1 (Option.none : Option Jvm.ClassFile.FieldType) ∈ gw := mq_4 (i := 239) rfl rfl
theorem qw300 : Cond.methodLink RX7 86 yX7_refuse ∈ gw := mq_4 (i := 236) rfl rfl
theorem qw301 : Cond.instanceMethod yX7_refuse ∈ gw := mq_4 (i := 238) rfl rfl
theorem qw302 : Cond.selects RX7 yX7_refuse yX7_refuse ∈ gw := mk_s (i := 5) rfl rfl
theorem qw303 : Cond.code yX7_expect cX7_expect 3 (Option.none : Option Jvm.ClassFile.FieldType) ∈ gw := mq_5 (i := 72) rfl rfl
theorem qw304 : Cond.methodLink RX7 98 yX7_expect ∈ gw := mq_5 (i := 69) rfl rfl
theorem qw305 : Cond.instanceMethod yX7_expect ∈ gw := mq_5 (i := 71) rfl rfl
theorem qw306 : Cond.selects RX7 yX7_expect yX7_expect ∈ gw := mk_s (i := 6) rfl rfl
theorem qw307 : Cond.code yX7_readFunction cX7_readFunction 2 (Option.none : Option Jvm.ClassFile.FieldType) ∈ gw := mq_4 (i := 235) rfl rfl
theorem qw308 : Cond.methodLink RX7 74 yX7_readFunction ∈ gw := mq_4 (i := 232) rfl rfl
theorem qw309 : Cond.instanceMethod yX7_readFunction ∈ gw := mq_4 (i := 234) rfl rfl
theorem qw310 : Cond.selects RX7 yX7_readFunction yX7_readFunction ∈ gw := mk_s (i := 7) rfl rfl
theorem qw311 : Cond.fieldLink RX7 80 "Gearbox$Tokens" "place" "I" ∈ gw := mq_1 (i := 66) rfl rfl
theorem qw312 : Cond.codeWith yX7_readProgram cX7_readProgram 3 (Option.some Jvm.ClassFile.FieldType.int) [(44, 77, 80, 78)] ∈ gw := mq_4 (i := 101) rfl rfl
theorem qw313 : Cond.methodLink RX11 105 yX7_readProgram ∈ gw := mq_4 (i := 98) rfl rfl
theorem qw314 : Cond.instanceMethod yX7_readProgram ∈ gw := mq_4 (i := 99) rfl rfl
theorem qw315 : Cond.selects RX7 yX7_readProgram yX7_readProgram ∈ gw := mq_4 (i := 100) rfl rfl
theorem qw316 : Cond.fieldLink RX11 109 "Gearbox$Reader" "faultPlace" "I" ∈ gw := mq_1 (i := 99) rfl rfl
theorem qw317 : Cond.fieldLink RJ0 9 "java/lang/String" "value" "[B" ∈ gw := mq_7 (i := 95) rfl rfl
theorem qw318 : Cond.fieldLink RJ0 38 "java/lang/String" "COMPACT_STRINGS" "Z" ∈ gw := mq_4 (i := 158) rfl rfl
theorem qw319 : Cond.fieldLink RJ0 15 "java/lang/String" "coder" "B" ∈ gw := mq_7 (i := 96) rfl rfl
theorem qw320 : Cond.code yJ0_coder_7d493 cJ0_coder_7d493 1 (Option.some Jvm.ClassFile.FieldType.byte) ∈ gw := mq_4 (i := 167) rfl rfl
theorem qw321 : Cond.methodLink RJ0 335 yJ0_coder_7d493 ∈ gw := mq_4 (i := 164) rfl rfl
theorem qw322 : Cond.instanceMethod yJ0_coder_7d493 ∈ gw := mq_4 (i := 165) rfl rfl
theorem qw323 : Cond.selects RJ0 yJ0_coder_7d493 yJ0_coder_7d493 ∈ gw := mq_4 (i := 166) rfl rfl
theorem qw324 : Cond.initialized RJ0 ∈ gw := mq_1 (i := 22) rfl rfl
theorem qw325 : Cond.code yJ0_isLatin1_aae02 cJ0_isLatin1_aae02 1 (Option.some Jvm.ClassFile.FieldType.boolean) ∈ gw := mq_4 (i := 157) rfl rfl
theorem qw326 : Cond.methodLink RJ0 492 yJ0_isLatin1_aae02 ∈ gw := mq_4 (i := 154) rfl rfl
theorem qw327 : Cond.instanceMethod yJ0_isLatin1_aae02 ∈ gw := mq_4 (i := 155) rfl rfl
theorem qw328 : Cond.selects RJ0 yJ0_isLatin1_aae02 yJ0_isLatin1_aae02 ∈ gw := mq_4 (i := 156) rfl rfl
theorem qw329 : Cond.fieldLink RJ0 1053 "jdk/internal/util/Preconditions" "SIOOBE_FORMATTER" "Ljava/util/function/BiFunction;" ∈ gw := mq_4 (i := 201) rfl rfl
theorem qw330 : Cond.code yJ3_checkIndex_8e157 cJ3_checkIndex_8e157 3 (Option.some Jvm.ClassFile.FieldType.int) ∈ gw := mq_12 (i := 187) rfl rfl
theorem qw331 : Cond.methodLink RJ0 1059 yJ3_checkIndex_8e157 ∈ gw := mq_12 (i := 185) rfl rfl
theorem qw332 : Cond.static yJ3_checkIndex_8e157 ∈ gw := mq_12 (i := 186) rfl rfl
theorem qw333 : Cond.initialized RJ3 ∈ gw := mq_1 (i := 26) rfl rfl
theorem qw334 : Cond.code yJ0_checkIndex_df160 cJ0_checkIndex_df160 2 (Option.none : Option Jvm.ClassFile.FieldType) ∈ gw := mq_12 (i := 184) rfl rfl
theorem qw335 : Cond.methodLink RJ1 9 yJ0_checkIndex_df160 ∈ gw := mq_12 (i := 182) rfl rfl
theorem qw336 : Cond.static yJ0_checkIndex_df160 ∈ gw := mq_12 (i := 183) rfl rfl
theorem qw337 : Cond.code yJ1_charAt_3b067 cJ1_charAt_3b067 2 (Option.some Jvm.ClassFile.FieldType.char) ∈ gw := mq_12 (i := 181) rfl rfl
theorem qw338 : Cond.methodLink RJ0 495 yJ1_charAt_3b067 ∈ gw := mq_12 (i := 179) rfl rfl
theorem qw339 : Cond.static yJ1_charAt_3b067 ∈ gw := mq_12 (i := 180) rfl rfl
theorem qw340 : Cond.initialized RJ1 ∈ gw := mq_1 (i := 23) rfl rfl
theorem qw341 : Cond.methodLink RX20 1 objectInit ∈ gw := mq_12 (i := 26) rfl rfl
theorem qw342 : Cond.fieldLink RX20 7 "GearboxModel$Row" "at" "[I" ∈ gw := mq_12 (i := 27) rfl rfl
theorem qw343 : Cond.methodLink RX22 3 objectInit ∈ gw := mq_11 (i := 169) rfl rfl
theorem qw344 : Cond.fieldLink RX22 9 "GearboxModel$Text" "knots" "I" ∈ gw := mq_11 (i := 170) rfl rfl
theorem qw345 : Cond.fieldLink RX22 15 "GearboxModel$Text" "sort" "[I" ∈ gw := mq_11 (i := 172) rfl rfl
theorem qw346 : Cond.fieldLink RX22 19 "GearboxModel$Text" "a" "[I" ∈ gw := mq_11 (i := 176) rfl rfl
theorem qw347 : Cond.fieldLink RX22 22 "GearboxModel$Text" "b" "[I" ∈ gw := mq_11 (i := 180) rfl rfl
theorem qw348 : Cond.fieldLink RX22 25 "GearboxModel$Text" "c" "[I" ∈ gw := mq_11 (i := 184) rfl rfl
theorem qw349 : Cond.fieldLink RX22 28 "GearboxModel$Text" "d" "[I" ∈ gw := mq_11 (i := 188) rfl rfl
theorem qw350 : Cond.fieldLink RX22 31 "GearboxModel$Text" "next" "[I" ∈ gw := mq_11 (i := 191) rfl rfl
theorem qw351 : Cond.fieldLink RX22 34 "GearboxModel$Text" "at" "[I" ∈ gw := mq_11 (i := 195) rfl rfl
theorem qw352 : Cond.fieldLink RX22 37 "GearboxModel$Text" "high" "[I" ∈ gw := mq_11 (i := 197) rfl rfl
theorem qw353 : Cond.fieldLink RX22 40 "GearboxModel$Text" "name" "[I" ∈ gw := mq_11 (i := 201) rfl rfl
theorem qw354 : Cond.fieldLink RX22 43 "GearboxModel$Text" "nameAt" "[I" ∈ gw := mq_11 (i := 203) rfl rfl
theorem qw355 : Cond.fieldLink RX22 46 "GearboxModel$Text" "parameters" "[I" ∈ gw := mq_11 (i := 206) rfl rfl
theorem qw356 : Cond.fieldLink RX22 49 "GearboxModel$Text" "variables" "[I" ∈ gw := mq_11 (i := 211) rfl rfl
theorem qw357 : Cond.fieldLink RX22 52 "GearboxModel$Text" "body" "[I" ∈ gw := mq_11 (i := 214) rfl rfl
theorem qw358 : Cond.methodLink RX21 3 objectInit ∈ gw := mq_12 (i := 18) rfl rfl
theorem qw359 : Cond.fieldLink RX21 9 "GearboxModel$Runner" "memory" "[I" ∈ gw := mq_12 (i := 49) rfl rfl
theorem qw360 : Cond.classLink RX21 15 RX14 ∈ gw := mq_12 (i := 19) rfl rfl
theorem qw361 : Cond.fieldLink RX21 17 "GearboxModel$Runner" "graphs" "[LGearboxModel$Graph;" ∈ gw := mq_12 (i := 59) rfl rfl
theorem qw362 : Cond.classLink RX21 21 RX13 ∈ gw := mq_12 (i := 20) rfl rfl
theorem qw363 : Cond.fieldLink RX21 23 "GearboxModel$Runner" "codes" "[LGearboxModel$Code;" ∈ gw := mq_12 (i := 61) rfl rfl
theorem qw364 : Cond.classLink RX21 27 RX20 ∈ gw := mq_12 (i := 21) rfl rfl
theorem qw365 : Cond.instantiable RX20 2 ∈ gw := mq_12 (i := 22) rfl rfl
theorem qw366 : Cond.initialized RX20 ∈ gw := mq_1 (i := 16) rfl rfl
theorem qw367 : Cond.code yX20_init cX20_init 1 (Option.none : Option Jvm.ClassFile.FieldType) ∈ gw := mq_12 (i := 25) rfl rfl
theorem qw368 : Cond.instanceMethod yX20_init ∈ gw := mq_12 (i := 24) rfl rfl
theorem qw369 : Cond.fieldLink RX21 30 "GearboxModel$Runner" "todo" "LGearboxModel$Row;" ∈ gw := mq_12 (i := 63) rfl rfl
theorem qw370 : Cond.fieldLink RX21 34 "GearboxModel$Runner" "values" "LGearboxModel$Row;" ∈ gw := mq_12 (i := 64) rfl rfl
theorem qw371 : Cond.fieldLink RX21 37 "GearboxModel$Runner" "variables" "LGearboxModel$Row;" ∈ gw := mq_12 (i := 65) rfl rfl
theorem qw372 : Cond.classLink RX21 40 "[I" ∈ gw := mq_12 (i := 46) rfl rfl
theorem qw373 : Cond.fieldLink RX21 41 "GearboxModel$Runner" "own" "[[I" ∈ gw := mq_12 (i := 68) rfl rfl
theorem qw374 : Cond.fieldLink RX21 45 "GearboxModel$Runner" "runs" "[I" ∈ gw := mq_12 (i := 69) rfl rfl
theorem qw375 : Cond.fieldLink RX21 48 "GearboxModel$Runner" "at" "[I" ∈ gw := mq_12 (i := 70) rfl rfl
theorem qw376 : Cond.classLink RX21 51 RX12 ∈ gw := mq_12 (i := 47) rfl rfl
theorem qw377 : Cond.fieldLink RX21 53 "GearboxModel$Runner" "block" "[LGearboxModel$Block;" ∈ gw := mq_12 (i := 71) rfl rfl
theorem qw378 : Cond.fieldLink RX21 57 "GearboxModel$Runner" "given" "LGearboxModel$Row;" ∈ gw := mq_12 (i := 72) rfl rfl
theorem qw379 : Cond.fieldLink RX21 60 "GearboxModel$Runner" "taken" "[I" ∈ gw := mq_12 (i := 73) rfl rfl
theorem qw380 : Cond.methodLink RX24 9 objectInit ∈ gw := mq_11 (i := 163) rfl rfl
theorem qw381 : Cond.fieldLink RX24 15 "GearboxModel" "tape" "[I" ∈ gw := mq_12 (i := 111) rfl rfl
theorem qw382 : Cond.fieldLink RX24 19 "GearboxModel" "errorAt" "I" ∈ gw := mq_12 (i := 113) rfl rfl
theorem qw383 : Cond.classLink RX24 23 RX22 ∈ gw := mq_11 (i := 164) rfl rfl
theorem qw384 : Cond.instantiable RX22 15 ∈ gw := mq_11 (i := 165) rfl rfl
theorem qw385 : Cond.initialized RX22 ∈ gw := mq_1 (i := 14) rfl rfl
theorem qw386 : Cond.code yX22_init cX22_init 1 (Option.none : Option Jvm.ClassFile.FieldType) ∈ gw := mq_11 (i := 168) rfl rfl
theorem qw387 : Cond.instanceMethod yX22_init ∈ gw := mq_11 (i := 167) rfl rfl
theorem qw388 : Cond.fieldLink RX24 26 "GearboxModel" "program" "LGearboxModel$Text;" ∈ gw := mq_12 (i := 115) rfl rfl
theorem qw389 : Cond.classLink RX24 30 RX14 ∈ gw := mq_12 (i := 9) rfl rfl
theorem qw390 : Cond.fieldLink RX24 32 "GearboxModel" "graphs" "[LGearboxModel$Graph;" ∈ gw := mq_12 (i := 116) rfl rfl
theorem qw391 : Cond.classLink RX24 36 RX13 ∈ gw := mq_12 (i := 11) rfl rfl
theorem qw392 : Cond.fieldLink RX24 38 "GearboxModel" "codes" "[LGearboxModel$Code;" ∈ gw := mq_12 (i := 117) rfl rfl
theorem qw393 : Cond.classLink RX24 42 RX21 ∈ gw := mq_12 (i := 13) rfl rfl
theorem qw394 : Cond.instantiable RX21 18 ∈ gw := mq_12 (i := 14) rfl rfl
theorem qw395 : Cond.initialized RX21 ∈ gw := mq_1 (i := 15) rfl rfl
theorem qw396 : Cond.code yX21_init cX21_init 1 (Option.none : Option Jvm.ClassFile.FieldType) ∈ gw := mq_12 (i := 17) rfl rfl
theorem qw397 : Cond.instanceMethod yX21_init ∈ gw := mq_12 (i := 16) rfl rfl
theorem qw398 : Cond.fieldLink RX24 45 "GearboxModel" "runner" "LGearboxModel$Runner;" ∈ gw := mq_12 (i := 118) rfl rfl
theorem qw399 : Cond.fieldLink RX24 49 "GearboxModel" "trial" "LGearboxModel$Runner;" ∈ gw := mq_12 (i := 119) rfl rfl
theorem qw400 : Cond.fieldLink RX24 52 "GearboxModel" "thrown" "I" ∈ gw := mq_12 (i := 114) rfl rfl
theorem qw401 : Cond.fieldLink RX24 55 "GearboxModel" "length" "I" ∈ gw := mq_12 (i := 112) rfl rfl
theorem qw402 : Cond.code yX24_add cX24_add 3 (Option.none : Option Jvm.ClassFile.FieldType) ∈ gw := mq_12 (i := 154) rfl rfl
theorem qw403 : Cond.methodLink RX24 62 yX24_add ∈ gw := mq_12 (i := 151) rfl rfl
theorem qw404 : Cond.instanceMethod yX24_add ∈ gw := mq_12 (i := 153) rfl rfl
theorem qw405 : Cond.selects RX24 yX24_add yX24_add ∈ gw := mk_s (i := 8) rfl rfl
theorem qw406 : Cond.initialized RX24 ∈ gw := mq_1 (i := 13) rfl rfl
theorem qw407 : Cond.code yX24_no cX24_no 2 (Option.some Jvm.ClassFile.FieldType.int) ∈ gw := mq_12 (i := 150) rfl rfl
theorem qw408 : Cond.methodLink RX24 58 yX24_no ∈ gw := mq_12 (i := 147) rfl rfl
theorem qw409 : Cond.instanceMethod yX24_no ∈ gw := mq_12 (i := 149) rfl rfl
theorem qw410 : Cond.selects RX24 yX24_no yX24_no ∈ gw := mk_s (i := 9) rfl rfl
theorem qw411 : Cond.code yX24_ok cX24_ok 2 (Option.some Jvm.ClassFile.FieldType.int) ∈ gw := mq_15 (i := 194) rfl rfl
theorem qw412 : Cond.methodLink RX24 118 yX24_ok ∈ gw := mq_15 (i := 191) rfl rfl
theorem qw413 : Cond.instanceMethod yX24_ok ∈ gw := mq_15 (i := 193) rfl rfl
theorem qw414 : Cond.selects RX24 yX24_ok yX24_ok ∈ gw := mk_s (i := 10) rfl rfl
theorem qw415 : Cond.code yX24_passAll cX24_passAll 7 (Option.some Jvm.ClassFile.FieldType.int) ∈ gw := mq_16 (i := 95) rfl rfl
theorem qw416 : Cond.methodLink RX24 244 yX24_passAll ∈ gw := mq_16 (i := 92) rfl rfl
theorem qw417 : Cond.instanceMethod yX24_passAll ∈ gw := mq_16 (i := 94) rfl rfl
theorem qw418 : Cond.selects RX24 yX24_passAll yX24_passAll ∈ gw := mk_s (i := 11) rfl rfl
theorem qw419 : Cond.fieldLink RX24 292 "GearboxModel$Runner" "outcome" "I" ∈ gw := mq_12 (i := 52) rfl rfl
theorem qw420 : Cond.fieldLink RX24 295 "GearboxModel$Runner" "result" "I" ∈ gw := mq_12 (i := 54) rfl rfl
theorem qw421 : Cond.fieldLink RX24 298 "GearboxModel$Runner" "steps" "I" ∈ gw := mq_12 (i := 56) rfl rfl
theorem qw422 : Cond.code yX24_isFunction cX24_isFunction 2 (Option.some Jvm.ClassFile.FieldType.boolean) ∈ gw := mq_15 (i := 210) rfl rfl
theorem qw423 : Cond.methodLink RX24 121 yX24_isFunction ∈ gw := mq_15 (i := 207) rfl rfl
theorem qw424 : Cond.instanceMethod yX24_isFunction ∈ gw := mq_15 (i := 209) rfl rfl
theorem qw425 : Cond.selects RX24 yX24_isFunction yX24_isFunction ∈ gw := mk_s (i := 12) rfl rfl
theorem qw426 : Cond.code yX24_isBlock cX24_isBlock 3 (Option.some Jvm.ClassFile.FieldType.boolean) ∈ gw := mq_16 (i := 4) rfl rfl
theorem qw427 : Cond.methodLink RX24 163 yX24_isBlock ∈ gw := mq_16 (i := 1) rfl rfl
theorem qw428 : Cond.instanceMethod yX24_isBlock ∈ gw := mq_16 (i := 3) rfl rfl
theorem qw429 : Cond.selects RX24 yX24_isBlock yX24_isBlock ∈ gw := mk_s (i := 13) rfl rfl
theorem qw430 : Cond.code yX24_isAhead cX24_isAhead 4 (Option.some Jvm.ClassFile.FieldType.boolean) ∈ gw := mq_16 (i := 24) rfl rfl
theorem qw431 : Cond.methodLink RX24 180 yX24_isAhead ∈ gw := mq_16 (i := 21) rfl rfl
theorem qw432 : Cond.instanceMethod yX24_isAhead ∈ gw := mq_16 (i := 23) rfl rfl
theorem qw433 : Cond.selects RX24 yX24_isAhead yX24_isAhead ∈ gw := mk_s (i := 14) rfl rfl
theorem qw434 : Cond.code yX24_isPhi cX24_isPhi 4 (Option.some Jvm.ClassFile.FieldType.boolean) ∈ gw := mq_16 (i := 51) rfl rfl
theorem qw435 : Cond.methodLink RX24 207 yX24_isPhi ∈ gw := mq_16 (i := 48) rfl rfl
theorem qw436 : Cond.instanceMethod yX24_isPhi ∈ gw := mq_16 (i := 50) rfl rfl
theorem qw437 : Cond.selects RX24 yX24_isPhi yX24_isPhi ∈ gw := mk_s (i := 15) rfl rfl
theorem qw438 : Cond.code yX24_inStep cX24_inStep 5 (Option.some Jvm.ClassFile.FieldType.int) ∈ gw := mq_16 (i := 71) rfl rfl
theorem qw439 : Cond.methodLink RX24 213 yX24_inStep ∈ gw := mq_16 (i := 68) rfl rfl
theorem qw440 : Cond.instanceMethod yX24_inStep ∈ gw := mq_16 (i := 70) rfl rfl
theorem qw441 : Cond.selects RX24 yX24_inStep yX24_inStep ∈ gw := mk_s (i := 16) rfl rfl
theorem qw442 : Cond.code yX24_inLine cX24_inLine 4 (Option.some Jvm.ClassFile.FieldType.int) ∈ gw := mq_18 (i := 137) rfl rfl
theorem qw443 : Cond.methodLink RX24 264 yX24_inLine ∈ gw := mq_18 (i := 134) rfl rfl
theorem qw444 : Cond.instanceMethod yX24_inLine ∈ gw := mq_18 (i := 136) rfl rfl
theorem qw445 : Cond.selects RX24 yX24_inLine yX24_inLine ∈ gw := mk_s (i := 17) rfl rfl
theorem qw446 : Cond.fieldLink RX24 301 "GearboxModel$Runner" "memory" "[I" ∈ gw := mq_12 (i := 50) rfl rfl
theorem qw447 : Cond.constantLong RX24 330 (58009) ∈ gw := mq_19 (i := 79) rfl rfl
theorem qw448 : Cond.constantLong RX24 320 (31) ∈ gw := mq_19 (i := 80) rfl rfl
theorem qw449 : Cond.code yX11_feed cX11_feed 6 (Option.some Jvm.ClassFile.FieldType.int) ∈ gw := mq_8 (i := 232) rfl rfl
theorem qw450 : Cond.methodLink RL 7 yX11_feed ∈ gw := mq_8 (i := 229) rfl rfl
theorem qw451 : Cond.instanceMethod yX11_feed ∈ gw := mq_8 (i := 230) rfl rfl
theorem qw452 : Cond.selects RX11 yX11_feed yX11_feed ∈ gw := mq_8 (i := 231) rfl rfl
theorem qw453 : Cond.code yX11_trim cX11_trim 2 (Option.some Jvm.ClassFile.FieldType.int) ∈ gw := mq_9 (i := 20) rfl rfl
theorem qw454 : Cond.methodLink RL 15 yX11_trim ∈ gw := mq_9 (i := 17) rfl rfl
theorem qw455 : Cond.instanceMethod yX11_trim ∈ gw := mq_9 (i := 18) rfl rfl
theorem qw456 : Cond.selects RX11 yX11_trim yX11_trim ∈ gw := mq_9 (i := 19) rfl rfl
theorem qw457 : Cond.classLink RL 19 "java/lang/IllegalArgumentException" ∈ gw := mq_9 (i := 16) rfl rfl
theorem qw458 : Cond.code yX11_parametersOf cX11_parametersOf 2 (Option.some Jvm.ClassFile.FieldType.int) ∈ gw := mq_9 (i := 31) rfl rfl
theorem qw459 : Cond.methodLink RL 21 yX11_parametersOf ∈ gw := mq_9 (i := 28) rfl rfl
theorem qw460 : Cond.instanceMethod yX11_parametersOf ∈ gw := mq_9 (i := 29) rfl rfl
theorem qw461 : Cond.selects RX11 yX11_parametersOf yX11_parametersOf ∈ gw := mq_9 (i := 30) rfl rfl
theorem qw462 : Cond.classLink RL 24 "java/lang/IndexOutOfBoundsException" ∈ gw := mq_9 (i := 27) rfl rfl
theorem qw463 : Cond.code yX11_blocks cX11_blocks 2 (Option.some Jvm.ClassFile.FieldType.int) ∈ gw := mq_9 (i := 55) rfl rfl
theorem qw464 : Cond.methodLink RL 26 yX11_blocks ∈ gw := mq_9 (i := 52) rfl rfl
theorem qw465 : Cond.instanceMethod yX11_blocks ∈ gw := mq_9 (i := 53) rfl rfl
theorem qw466 : Cond.selects RX11 yX11_blocks yX11_blocks ∈ gw := mq_9 (i := 54) rfl rfl
theorem qw467 : Cond.code yX11_values cX11_values 2 (Option.some Jvm.ClassFile.FieldType.int) ∈ gw := mq_9 (i := 62) rfl rfl
theorem qw468 : Cond.methodLink RL 29 yX11_values ∈ gw := mq_9 (i := 59) rfl rfl
theorem qw469 : Cond.instanceMethod yX11_values ∈ gw := mq_9 (i := 60) rfl rfl
theorem qw470 : Cond.selects RX11 yX11_values yX11_values ∈ gw := mq_9 (i := 61) rfl rfl
theorem qw471 : Cond.code yX11_blockOf cX11_blockOf 3 (Option.some Jvm.ClassFile.FieldType.int) ∈ gw := mq_9 (i := 69) rfl rfl
theorem qw472 : Cond.methodLink RL 32 yX11_blockOf ∈ gw := mq_9 (i := 66) rfl rfl
theorem qw473 : Cond.instanceMethod yX11_blockOf ∈ gw := mq_9 (i := 67) rfl rfl
theorem qw474 : Cond.selects RX11 yX11_blockOf yX11_blockOf ∈ gw := mq_9 (i := 68) rfl rfl
theorem qw475 : Cond.code yX11_dominatorOf cX11_dominatorOf 3 (Option.some Jvm.ClassFile.FieldType.int) ∈ gw := mq_9 (i := 80) rfl rfl
theorem qw476 : Cond.methodLink RL 36 yX11_dominatorOf ∈ gw := mq_9 (i := 77) rfl rfl
theorem qw477 : Cond.instanceMethod yX11_dominatorOf ∈ gw := mq_9 (i := 78) rfl rfl
theorem qw478 : Cond.selects RX11 yX11_dominatorOf yX11_dominatorOf ∈ gw := mq_9 (i := 79) rfl rfl
theorem qw479 : Cond.code yX11_depthOf cX11_depthOf 3 (Option.some Jvm.ClassFile.FieldType.int) ∈ gw := mq_9 (i := 96) rfl rfl
theorem qw480 : Cond.methodLink RL 39 yX11_depthOf ∈ gw := mq_9 (i := 93) rfl rfl
theorem qw481 : Cond.instanceMethod yX11_depthOf ∈ gw := mq_9 (i := 94) rfl rfl
theorem qw482 : Cond.selects RX11 yX11_depthOf yX11_depthOf ∈ gw := mq_9 (i := 95) rfl rfl
theorem qw483 : Cond.code yX11_predecessors cX11_predecessors 3 (Option.some Jvm.ClassFile.FieldType.int) ∈ gw := mq_9 (i := 103) rfl rfl
theorem qw484 : Cond.methodLink RL 42 yX11_predecessors ∈ gw := mq_9 (i := 100) rfl rfl
theorem qw485 : Cond.instanceMethod yX11_predecessors ∈ gw := mq_9 (i := 101) rfl rfl
theorem qw486 : Cond.selects RX11 yX11_predecessors yX11_predecessors ∈ gw := mq_9 (i := 102) rfl rfl
theorem qw487 : Cond.code yX11_predecessor cX11_predecessor 5 (Option.some Jvm.ClassFile.FieldType.int) ∈ gw := mq_9 (i := 110) rfl rfl
theorem qw488 : Cond.methodLink RL 45 yX11_predecessor ∈ gw := mq_9 (i := 107) rfl rfl
theorem qw489 : Cond.instanceMethod yX11_predecessor ∈ gw := mq_9 (i := 108) rfl rfl
theorem qw490 : Cond.selects RX11 yX11_predecessor yX11_predecessor ∈ gw := mq_9 (i := 109) rfl rfl
theorem qw491 : Cond.code yX11_endOf cX11_endOf 3 (Option.some Jvm.ClassFile.FieldType.int) ∈ gw := mq_9 (i := 117) rfl rfl
theorem qw492 : Cond.methodLink RL 49 yX11_endOf ∈ gw := mq_9 (i := 114) rfl rfl
theorem qw493 : Cond.instanceMethod yX11_endOf ∈ gw := mq_9 (i := 115) rfl rfl
theorem qw494 : Cond.selects RX11 yX11_endOf yX11_endOf ∈ gw := mq_9 (i := 116) rfl rfl
theorem qw495 : Cond.code yX11_successor cX11_successor 5 (Option.some Jvm.ClassFile.FieldType.int) ∈ gw := mq_9 (i := 124) rfl rfl
theorem qw496 : Cond.methodLink RL 52 yX11_successor ∈ gw := mq_9 (i := 121) rfl rfl
theorem qw497 : Cond.instanceMethod yX11_successor ∈ gw := mq_9 (i := 122) rfl rfl
theorem qw498 : Cond.selects RX11 yX11_successor yX11_successor ∈ gw := mq_9 (i := 123) rfl rfl
theorem qw499 : Cond.code yX11_endValue cX11_endValue 3 (Option.some Jvm.ClassFile.FieldType.int) ∈ gw := mq_9 (i := 131) rfl rfl
theorem qw500 : Cond.methodLink RL 56 yX11_endValue ∈ gw := mq_9 (i := 128) rfl rfl
theorem qw501 : Cond.instanceMethod yX11_endValue ∈ gw := mq_9 (i := 129) rfl rfl
theorem qw502 : Cond.selects RX11 yX11_endValue yX11_endValue ∈ gw := mq_9 (i := 130) rfl rfl
theorem qw503 : Cond.code yX11_phis cX11_phis 3 (Option.some Jvm.ClassFile.FieldType.int) ∈ gw := mq_9 (i := 138) rfl rfl
theorem qw504 : Cond.methodLink RL 59 yX11_phis ∈ gw := mq_9 (i := 135) rfl rfl
theorem qw505 : Cond.instanceMethod yX11_phis ∈ gw := mq_9 (i := 136) rfl rfl
theorem qw506 : Cond.selects RX11 yX11_phis yX11_phis ∈ gw := mq_9 (i := 137) rfl rfl
theorem qw507 : Cond.code yX11_phiGives cX11_phiGives 6 (Option.some Jvm.ClassFile.FieldType.int) ∈ gw := mq_9 (i := 145) rfl rfl
theorem qw508 : Cond.methodLink RL 62 yX11_phiGives ∈ gw := mq_9 (i := 142) rfl rfl
theorem qw509 : Cond.instanceMethod yX11_phiGives ∈ gw := mq_9 (i := 143) rfl rfl
theorem qw510 : Cond.selects RX11 yX11_phiGives yX11_phiGives ∈ gw := mq_9 (i := 144) rfl rfl
theorem qw511 : Cond.code yX11_phiTakes cX11_phiTakes 7 (Option.some Jvm.ClassFile.FieldType.int) ∈ gw := mq_9 (i := 161) rfl rfl
theorem qw512 : Cond.methodLink RL 65 yX11_phiTakes ∈ gw := mq_9 (i := 158) rfl rfl
theorem qw513 : Cond.instanceMethod yX11_phiTakes ∈ gw := mq_9 (i := 159) rfl rfl
theorem qw514 : Cond.selects RX11 yX11_phiTakes yX11_phiTakes ∈ gw := mq_9 (i := 160) rfl rfl
theorem qw515 : Cond.code yX11_steps cX11_steps 3 (Option.some Jvm.ClassFile.FieldType.int) ∈ gw := mq_9 (i := 168) rfl rfl
theorem qw516 : Cond.methodLink RL 69 yX11_steps ∈ gw := mq_9 (i := 165) rfl rfl
theorem qw517 : Cond.instanceMethod yX11_steps ∈ gw := mq_9 (i := 166) rfl rfl
theorem qw518 : Cond.selects RX11 yX11_steps yX11_steps ∈ gw := mq_9 (i := 167) rfl rfl
theorem qw519 : Cond.code yX11_kindOf cX11_kindOf 5 (Option.some Jvm.ClassFile.FieldType.int) ∈ gw := mq_9 (i := 175) rfl rfl
theorem qw520 : Cond.methodLink RL 72 yX11_kindOf ∈ gw := mq_9 (i := 172) rfl rfl
theorem qw521 : Cond.instanceMethod yX11_kindOf ∈ gw := mq_9 (i := 173) rfl rfl
theorem qw522 : Cond.selects RX11 yX11_kindOf yX11_kindOf ∈ gw := mq_9 (i := 174) rfl rfl
theorem qw523 : Cond.code yX11_gives cX11_gives 5 (Option.some Jvm.ClassFile.FieldType.int) ∈ gw := mq_9 (i := 190) rfl rfl
theorem qw524 : Cond.methodLink RL 75 yX11_gives ∈ gw := mq_9 (i := 187) rfl rfl
theorem qw525 : Cond.instanceMethod yX11_gives ∈ gw := mq_9 (i := 188) rfl rfl
theorem qw526 : Cond.selects RX11 yX11_gives yX11_gives ∈ gw := mq_9 (i := 189) rfl rfl
theorem qw527 : Cond.code yX11_leftOf cX11_leftOf 5 (Option.some Jvm.ClassFile.FieldType.int) ∈ gw := mq_9 (i := 197) rfl rfl
theorem qw528 : Cond.methodLink RL 78 yX11_leftOf ∈ gw := mq_9 (i := 194) rfl rfl
theorem qw529 : Cond.instanceMethod yX11_leftOf ∈ gw := mq_9 (i := 195) rfl rfl
theorem qw530 : Cond.selects RX11 yX11_leftOf yX11_leftOf ∈ gw := mq_9 (i := 196) rfl rfl
theorem qw531 : Cond.code yX11_rightOf cX11_rightOf 5 (Option.some Jvm.ClassFile.FieldType.int) ∈ gw := mq_9 (i := 204) rfl rfl
theorem qw532 : Cond.methodLink RL 81 yX11_rightOf ∈ gw := mq_9 (i := 201) rfl rfl
theorem qw533 : Cond.instanceMethod yX11_rightOf ∈ gw := mq_9 (i := 202) rfl rfl
theorem qw534 : Cond.selects RX11 yX11_rightOf yX11_rightOf ∈ gw := mq_9 (i := 203) rfl rfl
theorem qw535 : Cond.code yX11_lines cX11_lines 2 (Option.some Jvm.ClassFile.FieldType.int) ∈ gw := mq_10 (i := 202) rfl rfl
theorem qw536 : Cond.methodLink RL 87 yX11_lines ∈ gw := mq_10 (i := 199) rfl rfl
theorem qw537 : Cond.instanceMethod yX11_lines ∈ gw := mq_10 (i := 200) rfl rfl
theorem qw538 : Cond.selects RX11 yX11_lines yX11_lines ∈ gw := mq_10 (i := 201) rfl rfl
theorem qw539 : Cond.code yX11_codeKind cX11_codeKind 3 (Option.some Jvm.ClassFile.FieldType.int) ∈ gw := mq_10 (i := 209) rfl rfl
theorem qw540 : Cond.methodLink RL 90 yX11_codeKind ∈ gw := mq_10 (i := 206) rfl rfl
theorem qw541 : Cond.instanceMethod yX11_codeKind ∈ gw := mq_10 (i := 207) rfl rfl
theorem qw542 : Cond.selects RX11 yX11_codeKind yX11_codeKind ∈ gw := mq_10 (i := 208) rfl rfl
theorem qw543 : Cond.code yX11_codeGives cX11_codeGives 3 (Option.some Jvm.ClassFile.FieldType.int) ∈ gw := mq_10 (i := 220) rfl rfl
theorem qw544 : Cond.methodLink RL 93 yX11_codeGives ∈ gw := mq_10 (i := 217) rfl rfl
theorem qw545 : Cond.instanceMethod yX11_codeGives ∈ gw := mq_10 (i := 218) rfl rfl
theorem qw546 : Cond.selects RX11 yX11_codeGives yX11_codeGives ∈ gw := mq_10 (i := 219) rfl rfl
theorem qw547 : Cond.code yX11_codeLeft cX11_codeLeft 3 (Option.some Jvm.ClassFile.FieldType.int) ∈ gw := mq_10 (i := 227) rfl rfl
theorem qw548 : Cond.methodLink RL 96 yX11_codeLeft ∈ gw := mq_10 (i := 224) rfl rfl
theorem qw549 : Cond.instanceMethod yX11_codeLeft ∈ gw := mq_10 (i := 225) rfl rfl
theorem qw550 : Cond.selects RX11 yX11_codeLeft yX11_codeLeft ∈ gw := mq_10 (i := 226) rfl rfl
theorem qw551 : Cond.code yX11_codeRight cX11_codeRight 3 (Option.some Jvm.ClassFile.FieldType.int) ∈ gw := mq_10 (i := 234) rfl rfl
theorem qw552 : Cond.methodLink RL 99 yX11_codeRight ∈ gw := mq_10 (i := 231) rfl rfl
theorem qw553 : Cond.instanceMethod yX11_codeRight ∈ gw := mq_10 (i := 232) rfl rfl
theorem qw554 : Cond.selects RX11 yX11_codeRight yX11_codeRight ∈ gw := mq_10 (i := 233) rfl rfl
theorem qw555 : Cond.code yX11_slots cX11_slots 2 (Option.some Jvm.ClassFile.FieldType.int) ∈ gw := mq_11 (i := 1) rfl rfl
theorem qw556 : Cond.methodLink RL 102 yX11_slots ∈ gw := mq_10 (i := 238) rfl rfl
theorem qw557 : Cond.instanceMethod yX11_slots ∈ gw := mq_10 (i := 239) rfl rfl
theorem qw558 : Cond.selects RX11 yX11_slots yX11_slots ∈ gw := mq_11 (i := 0) rfl rfl
theorem qw559 : Cond.code yX11_united cX11_united 2 (Option.some Jvm.ClassFile.FieldType.int) ∈ gw := mq_11 (i := 8) rfl rfl
theorem qw560 : Cond.methodLink RL 105 yX11_united ∈ gw := mq_11 (i := 5) rfl rfl
theorem qw561 : Cond.instanceMethod yX11_united ∈ gw := mq_11 (i := 6) rfl rfl
theorem qw562 : Cond.selects RX11 yX11_united yX11_united ∈ gw := mq_11 (i := 7) rfl rfl
theorem qw563 : Cond.code yX11_rounds cX11_rounds 2 (Option.some Jvm.ClassFile.FieldType.int) ∈ gw := mq_11 (i := 15) rfl rfl
theorem qw564 : Cond.methodLink RL 108 yX11_rounds ∈ gw := mq_11 (i := 12) rfl rfl
theorem qw565 : Cond.instanceMethod yX11_rounds ∈ gw := mq_11 (i := 13) rfl rfl
theorem qw566 : Cond.selects RX11 yX11_rounds yX11_rounds ∈ gw := mq_11 (i := 14) rfl rfl
theorem qw567 : Cond.code yX11_run cX11_run 7 (Option.some Jvm.ClassFile.FieldType.int) ∈ gw := mq_11 (i := 22) rfl rfl
theorem qw568 : Cond.methodLink RL 111 yX11_run ∈ gw := mq_11 (i := 19) rfl rfl
theorem qw569 : Cond.instanceMethod yX11_run ∈ gw := mq_11 (i := 20) rfl rfl
theorem qw570 : Cond.selects RX11 yX11_run yX11_run ∈ gw := mq_11 (i := 21) rfl rfl
theorem qw571 : Cond.code yX11_differences cX11_differences 8 (Option.some Jvm.ClassFile.FieldType.int) ∈ gw := mq_11 (i := 139) rfl rfl
theorem qw572 : Cond.methodLink RL 118 yX11_differences ∈ gw := mq_11 (i := 136) rfl rfl
theorem qw573 : Cond.instanceMethod yX11_differences ∈ gw := mq_11 (i := 137) rfl rfl
theorem qw574 : Cond.selects RX11 yX11_differences yX11_differences ∈ gw := mq_11 (i := 138) rfl rfl
theorem qw575 : Cond.code yX11_word cX11_word 2 (Option.some Jvm.ClassFile.FieldType.int) ∈ gw := mq_11 (i := 132) rfl rfl
theorem qw576 : Cond.methodLink RL 115 yX11_word ∈ gw := mq_11 (i := 129) rfl rfl
theorem qw577 : Cond.instanceMethod yX11_word ∈ gw := mq_11 (i := 130) rfl rfl
theorem qw578 : Cond.selects RX11 yX11_word yX11_word ∈ gw := mq_11 (i := 131) rfl rfl
theorem qw579 : Cond.code yX11_allocate cX11_allocate 2 (Option.some Jvm.ClassFile.FieldType.int) ∈ gw := mq_9 (i := 211) rfl rfl
theorem qw580 : Cond.methodLink RL 84 yX11_allocate ∈ gw := mq_9 (i := 208) rfl rfl
theorem qw581 : Cond.instanceMethod yX11_allocate ∈ gw := mq_9 (i := 209) rfl rfl
theorem qw582 : Cond.selects RX11 yX11_allocate yX11_allocate ∈ gw := mq_9 (i := 210) rfl rfl
theorem qw583 : Cond.classLink RL 13 "java/lang/IllegalStateException" ∈ gw := mq_8 (i := 228) rfl rfl
theorem qw584 : Cond.classLink RL 8 RX11 ∈ gw := mq_1 (i := 47) rfl rfl
theorem qw585 : Cond.instantiable RX11 11 ∈ gw := mq_1 (i := 48) rfl rfl
theorem qw586 : Cond.code yX11_init cX11_init 2 (Option.none : Option Jvm.ClassFile.FieldType) ∈ gw := mq_1 (i := 51) rfl rfl
theorem qw587 : Cond.methodLink RL 121 yX11_init ∈ gw := mq_1 (i := 49) rfl rfl
theorem qw588 : Cond.instanceMethod yX11_init ∈ gw := mq_1 (i := 50) rfl rfl
theorem qw589 : Cond.classLink RL 122 RX24 ∈ gw := mq_11 (i := 158) rfl rfl
theorem qw590 : Cond.instantiable RX24 9 ∈ gw := mq_11 (i := 159) rfl rfl
theorem qw591 : Cond.code yX24_init cX24_init 1 (Option.none : Option Jvm.ClassFile.FieldType) ∈ gw := mq_11 (i := 162) rfl rfl
theorem qw592 : Cond.methodLink RL 124 yX24_init ∈ gw := mq_11 (i := 160) rfl rfl
theorem qw593 : Cond.instanceMethod yX24_init ∈ gw := mq_11 (i := 161) rfl rfl
theorem qw594 : Cond.codeWith yL_feed cL_feed 8 (Option.some Jvm.ClassFile.FieldType.int) [(0, 16, 19, 13)] ∈ gw := mq_8 (i := 227) rfl rfl
theorem qw595 : Cond.methodLink RL 125 yL_feed ∈ gw := mq_8 (i := 225) rfl rfl
theorem qw596 : Cond.static yL_feed ∈ gw := mq_8 (i := 226) rfl rfl
theorem qw597 : Cond.initialized RL ∈ gw := mq_1 (i := 0) rfl rfl
theorem qw598 : Cond.code yX24_feed cX24_feed 6 (Option.some Jvm.ClassFile.FieldType.int) ∈ gw := mq_12 (i := 146) rfl rfl
theorem qw599 : Cond.methodLink RL 130 yX24_feed ∈ gw := mq_12 (i := 143) rfl rfl
theorem qw600 : Cond.instanceMethod yX24_feed ∈ gw := mq_12 (i := 144) rfl rfl
theorem qw601 : Cond.selects RX24 yX24_feed yX24_feed ∈ gw := mq_12 (i := 145) rfl rfl
theorem qw602 : Cond.code yX24_thrown cX24_thrown 1 (Option.some Jvm.ClassFile.FieldType.int) ∈ gw := mq_12 (i := 142) rfl rfl
theorem qw603 : Cond.methodLink RL 131 yX24_thrown ∈ gw := mq_12 (i := 139) rfl rfl
theorem qw604 : Cond.instanceMethod yX24_thrown ∈ gw := mq_12 (i := 140) rfl rfl
theorem qw605 : Cond.selects RX24 yX24_thrown yX24_thrown ∈ gw := mq_12 (i := 141) rfl rfl
theorem qw606 : Cond.codeWith yL_trim cL_trim 4 (Option.some Jvm.ClassFile.FieldType.int) [(0, 9, 12, 19)] ∈ gw := mq_9 (i := 15) rfl rfl
theorem qw607 : Cond.methodLink RL 135 yL_trim ∈ gw := mq_9 (i := 13) rfl rfl
theorem qw608 : Cond.static yL_trim ∈ gw := mq_9 (i := 14) rfl rfl
theorem qw609 : Cond.code yX24_trim cX24_trim 2 (Option.some Jvm.ClassFile.FieldType.int) ∈ gw := mq_12 (i := 158) rfl rfl
theorem qw610 : Cond.methodLink RL 138 yX24_trim ∈ gw := mq_12 (i := 155) rfl rfl
theorem qw611 : Cond.instanceMethod yX24_trim ∈ gw := mq_12 (i := 156) rfl rfl
theorem qw612 : Cond.selects RX24 yX24_trim yX24_trim ∈ gw := mq_12 (i := 157) rfl rfl
theorem qw613 : Cond.code yX11_errorAt cX11_errorAt 1 (Option.some Jvm.ClassFile.FieldType.int) ∈ gw := mq_7 (i := 174) rfl rfl
theorem qw614 : Cond.methodLink RL 143 yX11_errorAt ∈ gw := mq_7 (i := 171) rfl rfl
theorem qw615 : Cond.instanceMethod yX11_errorAt ∈ gw := mq_7 (i := 172) rfl rfl
theorem qw616 : Cond.selects RX11 yX11_errorAt yX11_errorAt ∈ gw := mq_7 (i := 173) rfl rfl
theorem qw617 : Cond.code yX24_errorAt cX24_errorAt 1 (Option.some Jvm.ClassFile.FieldType.int) ∈ gw := mq_15 (i := 190) rfl rfl
theorem qw618 : Cond.methodLink RL 146 yX24_errorAt ∈ gw := mq_15 (i := 187) rfl rfl
theorem qw619 : Cond.instanceMethod yX24_errorAt ∈ gw := mq_15 (i := 188) rfl rfl
theorem qw620 : Cond.selects RX24 yX24_errorAt yX24_errorAt ∈ gw := mq_15 (i := 189) rfl rfl
theorem qw621 : Cond.code yX11_restore cX11_restore 3 (Option.some Jvm.ClassFile.FieldType.int) ∈ gw := mq_7 (i := 170) rfl rfl
theorem qw622 : Cond.methodLink RL 147 yX11_restore ∈ gw := mq_7 (i := 175) rfl rfl
theorem qw623 : Cond.instanceMethod yX11_restore ∈ gw := mq_7 (i := 168) rfl rfl
theorem qw624 : Cond.selects RX11 yX11_restore yX11_restore ∈ gw := mq_7 (i := 169) rfl rfl
theorem qw625 : Cond.code yX24_restore cX24_restore 3 (Option.some Jvm.ClassFile.FieldType.int) ∈ gw := mq_15 (i := 198) rfl rfl
theorem qw626 : Cond.methodLink RL 150 yX24_restore ∈ gw := mq_15 (i := 195) rfl rfl
theorem qw627 : Cond.instanceMethod yX24_restore ∈ gw := mq_15 (i := 196) rfl rfl
theorem qw628 : Cond.selects RX24 yX24_restore yX24_restore ∈ gw := mq_15 (i := 197) rfl rfl
theorem qw629 : Cond.code yX11_functions cX11_functions 1 (Option.some Jvm.ClassFile.FieldType.int) ∈ gw := mq_7 (i := 179) rfl rfl
theorem qw630 : Cond.methodLink RL 151 yX11_functions ∈ gw := mq_7 (i := 176) rfl rfl
theorem qw631 : Cond.instanceMethod yX11_functions ∈ gw := mq_7 (i := 177) rfl rfl
theorem qw632 : Cond.selects RX11 yX11_functions yX11_functions ∈ gw := mq_7 (i := 178) rfl rfl
theorem qw633 : Cond.code yX24_functions cX24_functions 1 (Option.some Jvm.ClassFile.FieldType.int) ∈ gw := mq_15 (i := 202) rfl rfl
theorem qw634 : Cond.methodLink RL 154 yX24_functions ∈ gw := mq_15 (i := 199) rfl rfl
theorem qw635 : Cond.instanceMethod yX24_functions ∈ gw := mq_15 (i := 200) rfl rfl
theorem qw636 : Cond.selects RX24 yX24_functions yX24_functions ∈ gw := mq_15 (i := 201) rfl rfl
theorem qw637 : Cond.codeWith yL_parametersOf cL_parametersOf 4 (Option.some Jvm.ClassFile.FieldType.int) [(0, 9, 12, 24)] ∈ gw := mq_9 (i := 26) rfl rfl
theorem qw638 : Cond.methodLink RL 155 yL_parametersOf ∈ gw := mq_9 (i := 24) rfl rfl
theorem qw639 : Cond.static yL_parametersOf ∈ gw := mq_9 (i := 25) rfl rfl
theorem qw640 : Cond.code yX24_parametersOf cX24_parametersOf 2 (Option.some Jvm.ClassFile.FieldType.int) ∈ gw := mq_15 (i := 206) rfl rfl
theorem qw641 : Cond.methodLink RL 157 yX24_parametersOf ∈ gw := mq_15 (i := 203) rfl rfl
theorem qw642 : Cond.instanceMethod yX24_parametersOf ∈ gw := mq_15 (i := 204) rfl rfl
theorem qw643 : Cond.selects RX24 yX24_parametersOf yX24_parametersOf ∈ gw := mq_15 (i := 205) rfl rfl
theorem qw644 : Cond.codeWith yL_blocks cL_blocks 4 (Option.some Jvm.ClassFile.FieldType.int) [(0, 9, 12, 24)] ∈ gw := mq_9 (i := 51) rfl rfl
theorem qw645 : Cond.methodLink RL 158 yL_blocks ∈ gw := mq_9 (i := 49) rfl rfl
theorem qw646 : Cond.static yL_blocks ∈ gw := mq_9 (i := 50) rfl rfl
theorem qw647 : Cond.code yX24_blocks cX24_blocks 2 (Option.some Jvm.ClassFile.FieldType.int) ∈ gw := mq_15 (i := 214) rfl rfl
theorem qw648 : Cond.methodLink RL 160 yX24_blocks ∈ gw := mq_15 (i := 211) rfl rfl
theorem qw649 : Cond.instanceMethod yX24_blocks ∈ gw := mq_15 (i := 212) rfl rfl
theorem qw650 : Cond.selects RX24 yX24_blocks yX24_blocks ∈ gw := mq_15 (i := 213) rfl rfl
theorem qw651 : Cond.codeWith yL_values cL_values 4 (Option.some Jvm.ClassFile.FieldType.int) [(0, 9, 12, 24)] ∈ gw := mq_9 (i := 58) rfl rfl
theorem qw652 : Cond.methodLink RL 161 yL_values ∈ gw := mq_9 (i := 56) rfl rfl
theorem qw653 : Cond.static yL_values ∈ gw := mq_9 (i := 57) rfl rfl
theorem qw654 : Cond.code yX24_values cX24_values 2 (Option.some Jvm.ClassFile.FieldType.int) ∈ gw := mq_15 (i := 218) rfl rfl
theorem qw655 : Cond.methodLink RL 163 yX24_values ∈ gw := mq_15 (i := 215) rfl rfl
theorem qw656 : Cond.instanceMethod yX24_values ∈ gw := mq_15 (i := 216) rfl rfl
theorem qw657 : Cond.selects RX24 yX24_values yX24_values ∈ gw := mq_15 (i := 217) rfl rfl
theorem qw658 : Cond.codeWith yL_blockOf cL_blockOf 5 (Option.some Jvm.ClassFile.FieldType.int) [(0, 10, 13, 24)] ∈ gw := mq_9 (i := 65) rfl rfl
theorem qw659 : Cond.methodLink RL 164 yL_blockOf ∈ gw := mq_9 (i := 63) rfl rfl
theorem qw660 : Cond.static yL_blockOf ∈ gw := mq_9 (i := 64) rfl rfl
theorem qw661 : Cond.code yX24_blockOf cX24_blockOf 3 (Option.some Jvm.ClassFile.FieldType.int) ∈ gw := mq_15 (i := 229) rfl rfl
theorem qw662 : Cond.methodLink RL 167 yX24_blockOf ∈ gw := mq_15 (i := 226) rfl rfl
theorem qw663 : Cond.instanceMethod yX24_blockOf ∈ gw := mq_15 (i := 227) rfl rfl
theorem qw664 : Cond.selects RX24 yX24_blockOf yX24_blockOf ∈ gw := mq_15 (i := 228) rfl rfl
theorem qw665 : Cond.codeWith yL_dominatorOf cL_dominatorOf 5 (Option.some Jvm.ClassFile.FieldType.int) [(0, 10, 13, 24)] ∈ gw := mq_9 (i := 76) rfl rfl
theorem qw666 : Cond.methodLink RL 168 yL_dominatorOf ∈ gw := mq_9 (i := 74) rfl rfl
theorem qw667 : Cond.static yL_dominatorOf ∈ gw := mq_9 (i := 75) rfl rfl
theorem qw668 : Cond.code yX24_dominatorOf cX24_dominatorOf 3 (Option.some Jvm.ClassFile.FieldType.int) ∈ gw := mq_16 (i := 0) rfl rfl
theorem qw669 : Cond.methodLink RL 170 yX24_dominatorOf ∈ gw := mq_15 (i := 237) rfl rfl
theorem qw670 : Cond.instanceMethod yX24_dominatorOf ∈ gw := mq_15 (i := 238) rfl rfl
theorem qw671 : Cond.selects RX24 yX24_dominatorOf yX24_dominatorOf ∈ gw := mq_15 (i := 239) rfl rfl
theorem qw672 : Cond.codeWith yL_depthOf cL_depthOf 5 (Option.some Jvm.ClassFile.FieldType.int) [(0, 10, 13, 24)] ∈ gw := mq_9 (i := 92) rfl rfl
theorem qw673 : Cond.methodLink RL 171 yL_depthOf ∈ gw := mq_9 (i := 90) rfl rfl
theorem qw674 : Cond.static yL_depthOf ∈ gw := mq_9 (i := 91) rfl rfl
theorem qw675 : Cond.code yX24_depthOf cX24_depthOf 3 (Option.some Jvm.ClassFile.FieldType.int) ∈ gw := mq_16 (i := 12) rfl rfl
theorem qw676 : Cond.methodLink RL 173 yX24_depthOf ∈ gw := mq_16 (i := 9) rfl rfl
theorem qw677 : Cond.instanceMethod yX24_depthOf ∈ gw := mq_16 (i := 10) rfl rfl
theorem qw678 : Cond.selects RX24 yX24_depthOf yX24_depthOf ∈ gw := mq_16 (i := 11) rfl rfl
theorem qw679 : Cond.codeWith yL_predecessors cL_predecessors 5 (Option.some Jvm.ClassFile.FieldType.int) [(0, 10, 13, 24)] ∈ gw := mq_9 (i := 99) rfl rfl
theorem qw680 : Cond.methodLink RL 174 yL_predecessors ∈ gw := mq_9 (i := 97) rfl rfl
theorem qw681 : Cond.static yL_predecessors ∈ gw := mq_9 (i := 98) rfl rfl
theorem qw682 : Cond.code yX24_predecessors cX24_predecessors 3 (Option.some Jvm.ClassFile.FieldType.int) ∈ gw := mq_16 (i := 16) rfl rfl
theorem qw683 : Cond.methodLink RL 176 yX24_predecessors ∈ gw := mq_16 (i := 13) rfl rfl
theorem qw684 : Cond.instanceMethod yX24_predecessors ∈ gw := mq_16 (i := 14) rfl rfl
theorem qw685 : Cond.selects RX24 yX24_predecessors yX24_predecessors ∈ gw := mq_16 (i := 15) rfl rfl
theorem qw686 : Cond.codeWith yL_predecessor cL_predecessor 6 (Option.some Jvm.ClassFile.FieldType.int) [(0, 12, 15, 24)] ∈ gw := mq_9 (i := 106) rfl rfl
theorem qw687 : Cond.methodLink RL 177 yL_predecessor ∈ gw := mq_9 (i := 104) rfl rfl
theorem qw688 : Cond.static yL_predecessor ∈ gw := mq_9 (i := 105) rfl rfl
theorem qw689 : Cond.code yX24_predecessor cX24_predecessor 4 (Option.some Jvm.ClassFile.FieldType.int) ∈ gw := mq_16 (i := 20) rfl rfl
theorem qw690 : Cond.methodLink RL 180 yX24_predecessor ∈ gw := mq_16 (i := 17) rfl rfl
theorem qw691 : Cond.instanceMethod yX24_predecessor ∈ gw := mq_16 (i := 18) rfl rfl
theorem qw692 : Cond.selects RX24 yX24_predecessor yX24_predecessor ∈ gw := mq_16 (i := 19) rfl rfl
theorem qw693 : Cond.codeWith yL_endOf cL_endOf 5 (Option.some Jvm.ClassFile.FieldType.int) [(0, 10, 13, 24)] ∈ gw := mq_9 (i := 113) rfl rfl
theorem qw694 : Cond.methodLink RL 181 yL_endOf ∈ gw := mq_9 (i := 111) rfl rfl
theorem qw695 : Cond.static yL_endOf ∈ gw := mq_9 (i := 112) rfl rfl
theorem qw696 : Cond.code yX24_endOf cX24_endOf 3 (Option.some Jvm.ClassFile.FieldType.int) ∈ gw := mq_16 (i := 28) rfl rfl
theorem qw697 : Cond.methodLink RL 183 yX24_endOf ∈ gw := mq_16 (i := 25) rfl rfl
theorem qw698 : Cond.instanceMethod yX24_endOf ∈ gw := mq_16 (i := 26) rfl rfl
theorem qw699 : Cond.selects RX24 yX24_endOf yX24_endOf ∈ gw := mq_16 (i := 27) rfl rfl
theorem qw700 : Cond.codeWith yL_successor cL_successor 6 (Option.some Jvm.ClassFile.FieldType.int) [(0, 12, 15, 24)] ∈ gw := mq_9 (i := 120) rfl rfl
theorem qw701 : Cond.methodLink RL 184 yL_successor ∈ gw := mq_9 (i := 118) rfl rfl
theorem qw702 : Cond.static yL_successor ∈ gw := mq_9 (i := 119) rfl rfl
theorem qw703 : Cond.code yX24_successor cX24_successor 4 (Option.some Jvm.ClassFile.FieldType.int) ∈ gw := mq_16 (i := 32) rfl rfl
theorem qw704 : Cond.methodLink RL 187 yX24_successor ∈ gw := mq_16 (i := 29) rfl rfl
theorem qw705 : Cond.instanceMethod yX24_successor ∈ gw := mq_16 (i := 30) rfl rfl
theorem qw706 : Cond.selects RX24 yX24_successor yX24_successor ∈ gw := mq_16 (i := 31) rfl rfl
theorem qw707 : Cond.codeWith yL_endValue cL_endValue 5 (Option.some Jvm.ClassFile.FieldType.int) [(0, 10, 13, 24)] ∈ gw := mq_9 (i := 127) rfl rfl
theorem qw708 : Cond.methodLink RL 188 yL_endValue ∈ gw := mq_9 (i := 125) rfl rfl
theorem qw709 : Cond.static yL_endValue ∈ gw := mq_9 (i := 126) rfl rfl
theorem qw710 : Cond.code yX24_endValue cX24_endValue 3 (Option.some Jvm.ClassFile.FieldType.int) ∈ gw := mq_16 (i := 39) rfl rfl
theorem qw711 : Cond.methodLink RL 190 yX24_endValue ∈ gw := mq_16 (i := 36) rfl rfl
theorem qw712 : Cond.instanceMethod yX24_endValue ∈ gw := mq_16 (i := 37) rfl rfl
theorem qw713 : Cond.selects RX24 yX24_endValue yX24_endValue ∈ gw := mq_16 (i := 38) rfl rfl
theorem qw714 : Cond.codeWith yL_phis cL_phis 5 (Option.some Jvm.ClassFile.FieldType.int) [(0, 10, 13, 24)] ∈ gw := mq_9 (i := 134) rfl rfl
theorem qw715 : Cond.methodLink RL 191 yL_phis ∈ gw := mq_9 (i := 132) rfl rfl
theorem qw716 : Cond.static yL_phis ∈ gw := mq_9 (i := 133) rfl rfl
theorem qw717 : Cond.code yX24_phis cX24_phis 3 (Option.some Jvm.ClassFile.FieldType.int) ∈ gw := mq_16 (i := 43) rfl rfl
theorem qw718 : Cond.methodLink RL 193 yX24_phis ∈ gw := mq_16 (i := 40) rfl rfl
theorem qw719 : Cond.instanceMethod yX24_phis ∈ gw := mq_16 (i := 41) rfl rfl
theorem qw720 : Cond.selects RX24 yX24_phis yX24_phis ∈ gw := mq_16 (i := 42) rfl rfl
theorem qw721 : Cond.codeWith yL_phiGives cL_phiGives 6 (Option.some Jvm.ClassFile.FieldType.int) [(0, 12, 15, 24)] ∈ gw := mq_9 (i := 141) rfl rfl
theorem qw722 : Cond.methodLink RL 194 yL_phiGives ∈ gw := mq_9 (i := 139) rfl rfl
theorem qw723 : Cond.static yL_phiGives ∈ gw := mq_9 (i := 140) rfl rfl
theorem qw724 : Cond.code yX24_phiGives cX24_phiGives 4 (Option.some Jvm.ClassFile.FieldType.int) ∈ gw := mq_16 (i := 47) rfl rfl
theorem qw725 : Cond.methodLink RL 196 yX24_phiGives ∈ gw := mq_16 (i := 44) rfl rfl
theorem qw726 : Cond.instanceMethod yX24_phiGives ∈ gw := mq_16 (i := 45) rfl rfl
theorem qw727 : Cond.selects RX24 yX24_phiGives yX24_phiGives ∈ gw := mq_16 (i := 46) rfl rfl
theorem qw728 : Cond.codeWith yL_phiTakes cL_phiTakes 7 (Option.some Jvm.ClassFile.FieldType.int) [(0, 14, 17, 24)] ∈ gw := mq_9 (i := 157) rfl rfl
theorem qw729 : Cond.methodLink RL 197 yL_phiTakes ∈ gw := mq_9 (i := 155) rfl rfl
theorem qw730 : Cond.static yL_phiTakes ∈ gw := mq_9 (i := 156) rfl rfl
theorem qw731 : Cond.code yX24_phiTakes cX24_phiTakes 6 (Option.some Jvm.ClassFile.FieldType.int) ∈ gw := mq_16 (i := 55) rfl rfl
theorem qw732 : Cond.methodLink RL 200 yX24_phiTakes ∈ gw := mq_16 (i := 52) rfl rfl
theorem qw733 : Cond.instanceMethod yX24_phiTakes ∈ gw := mq_16 (i := 53) rfl rfl
theorem qw734 : Cond.selects RX24 yX24_phiTakes yX24_phiTakes ∈ gw := mq_16 (i := 54) rfl rfl
theorem qw735 : Cond.codeWith yL_steps cL_steps 5 (Option.some Jvm.ClassFile.FieldType.int) [(0, 10, 13, 24)] ∈ gw := mq_9 (i := 164) rfl rfl
theorem qw736 : Cond.methodLink RL 201 yL_steps ∈ gw := mq_9 (i := 162) rfl rfl
theorem qw737 : Cond.static yL_steps ∈ gw := mq_9 (i := 163) rfl rfl
theorem qw738 : Cond.code yX24_steps cX24_steps 3 (Option.some Jvm.ClassFile.FieldType.int) ∈ gw := mq_16 (i := 63) rfl rfl
theorem qw739 : Cond.methodLink RL 203 yX24_steps ∈ gw := mq_16 (i := 60) rfl rfl
theorem qw740 : Cond.instanceMethod yX24_steps ∈ gw := mq_16 (i := 61) rfl rfl
theorem qw741 : Cond.selects RX24 yX24_steps yX24_steps ∈ gw := mq_16 (i := 62) rfl rfl
theorem qw742 : Cond.codeWith yL_kindOf cL_kindOf 6 (Option.some Jvm.ClassFile.FieldType.int) [(0, 12, 15, 24)] ∈ gw := mq_9 (i := 171) rfl rfl
theorem qw743 : Cond.methodLink RL 204 yL_kindOf ∈ gw := mq_9 (i := 169) rfl rfl
theorem qw744 : Cond.static yL_kindOf ∈ gw := mq_9 (i := 170) rfl rfl
theorem qw745 : Cond.code yX24_kindOf cX24_kindOf 4 (Option.some Jvm.ClassFile.FieldType.int) ∈ gw := mq_16 (i := 67) rfl rfl
theorem qw746 : Cond.methodLink RL 206 yX24_kindOf ∈ gw := mq_16 (i := 64) rfl rfl
theorem qw747 : Cond.instanceMethod yX24_kindOf ∈ gw := mq_16 (i := 65) rfl rfl
theorem qw748 : Cond.selects RX24 yX24_kindOf yX24_kindOf ∈ gw := mq_16 (i := 66) rfl rfl
theorem qw749 : Cond.codeWith yL_gives cL_gives 6 (Option.some Jvm.ClassFile.FieldType.int) [(0, 12, 15, 24)] ∈ gw := mq_9 (i := 186) rfl rfl
theorem qw750 : Cond.methodLink RL 207 yL_gives ∈ gw := mq_9 (i := 184) rfl rfl
theorem qw751 : Cond.static yL_gives ∈ gw := mq_9 (i := 185) rfl rfl
theorem qw752 : Cond.code yX24_gives cX24_gives 5 (Option.some Jvm.ClassFile.FieldType.int) ∈ gw := mq_16 (i := 75) rfl rfl
theorem qw753 : Cond.methodLink RL 209 yX24_gives ∈ gw := mq_16 (i := 72) rfl rfl
theorem qw754 : Cond.instanceMethod yX24_gives ∈ gw := mq_16 (i := 73) rfl rfl
theorem qw755 : Cond.selects RX24 yX24_gives yX24_gives ∈ gw := mq_16 (i := 74) rfl rfl
theorem qw756 : Cond.codeWith yL_leftOf cL_leftOf 6 (Option.some Jvm.ClassFile.FieldType.int) [(0, 12, 15, 24)] ∈ gw := mq_9 (i := 193) rfl rfl
theorem qw757 : Cond.methodLink RL 210 yL_leftOf ∈ gw := mq_9 (i := 191) rfl rfl
theorem qw758 : Cond.static yL_leftOf ∈ gw := mq_9 (i := 192) rfl rfl
theorem qw759 : Cond.code yX24_leftOf cX24_leftOf 4 (Option.some Jvm.ClassFile.FieldType.int) ∈ gw := mq_16 (i := 83) rfl rfl
theorem qw760 : Cond.methodLink RL 212 yX24_leftOf ∈ gw := mq_16 (i := 80) rfl rfl
theorem qw761 : Cond.instanceMethod yX24_leftOf ∈ gw := mq_16 (i := 81) rfl rfl
theorem qw762 : Cond.selects RX24 yX24_leftOf yX24_leftOf ∈ gw := mq_16 (i := 82) rfl rfl
theorem qw763 : Cond.codeWith yL_rightOf cL_rightOf 6 (Option.some Jvm.ClassFile.FieldType.int) [(0, 12, 15, 24)] ∈ gw := mq_9 (i := 200) rfl rfl
theorem qw764 : Cond.methodLink RL 213 yL_rightOf ∈ gw := mq_9 (i := 198) rfl rfl
theorem qw765 : Cond.static yL_rightOf ∈ gw := mq_9 (i := 199) rfl rfl
theorem qw766 : Cond.code yX24_rightOf cX24_rightOf 4 (Option.some Jvm.ClassFile.FieldType.int) ∈ gw := mq_16 (i := 87) rfl rfl
theorem qw767 : Cond.methodLink RL 215 yX24_rightOf ∈ gw := mq_16 (i := 84) rfl rfl
theorem qw768 : Cond.instanceMethod yX24_rightOf ∈ gw := mq_16 (i := 85) rfl rfl
theorem qw769 : Cond.selects RX24 yX24_rightOf yX24_rightOf ∈ gw := mq_16 (i := 86) rfl rfl
theorem qw770 : Cond.methodLink RL 216 yX11_fold ∈ gw := mq_7 (i := 180) rfl rfl
theorem qw771 : Cond.code yX24_fold cX24_fold 1 (Option.some Jvm.ClassFile.FieldType.int) ∈ gw := mq_16 (i := 91) rfl rfl
theorem qw772 : Cond.methodLink RL 219 yX24_fold ∈ gw := mq_16 (i := 88) rfl rfl
theorem qw773 : Cond.instanceMethod yX24_fold ∈ gw := mq_16 (i := 89) rfl rfl
theorem qw774 : Cond.selects RX24 yX24_fold yX24_fold ∈ gw := mq_16 (i := 90) rfl rfl
theorem qw775 : Cond.methodLink RL 220 yX11_same ∈ gw := mq_8 (i := 7) rfl rfl
theorem qw776 : Cond.code yX24_same cX24_same 1 (Option.some Jvm.ClassFile.FieldType.int) ∈ gw := mq_17 (i := 91) rfl rfl
theorem qw777 : Cond.methodLink RL 223 yX24_same ∈ gw := mq_17 (i := 88) rfl rfl
theorem qw778 : Cond.instanceMethod yX24_same ∈ gw := mq_17 (i := 89) rfl rfl
theorem qw779 : Cond.selects RX24 yX24_same yX24_same ∈ gw := mq_17 (i := 90) rfl rfl
theorem qw780 : Cond.methodLink RL 224 yX11_drop ∈ gw := mq_8 (i := 89) rfl rfl
theorem qw781 : Cond.code yX24_drop cX24_drop 1 (Option.some Jvm.ClassFile.FieldType.int) ∈ gw := mq_17 (i := 95) rfl rfl
theorem qw782 : Cond.methodLink RL 227 yX24_drop ∈ gw := mq_17 (i := 92) rfl rfl
theorem qw783 : Cond.instanceMethod yX24_drop ∈ gw := mq_17 (i := 93) rfl rfl
theorem qw784 : Cond.selects RX24 yX24_drop yX24_drop ∈ gw := mq_17 (i := 94) rfl rfl
theorem qw785 : Cond.methodLink RL 228 yX11_lift ∈ gw := mq_8 (i := 125) rfl rfl
theorem qw786 : Cond.code yX24_lift cX24_lift 1 (Option.some Jvm.ClassFile.FieldType.int) ∈ gw := mq_17 (i := 99) rfl rfl
theorem qw787 : Cond.methodLink RL 231 yX24_lift ∈ gw := mq_17 (i := 96) rfl rfl
theorem qw788 : Cond.instanceMethod yX24_lift ∈ gw := mq_17 (i := 97) rfl rfl
theorem qw789 : Cond.selects RX24 yX24_lift yX24_lift ∈ gw := mq_17 (i := 98) rfl rfl
theorem qw790 : Cond.methodLink RL 232 yX11_merge ∈ gw := mq_8 (i := 144) rfl rfl
theorem qw791 : Cond.code yX24_merge cX24_merge 1 (Option.some Jvm.ClassFile.FieldType.int) ∈ gw := mq_17 (i := 103) rfl rfl
theorem qw792 : Cond.methodLink RL 235 yX24_merge ∈ gw := mq_17 (i := 100) rfl rfl
theorem qw793 : Cond.instanceMethod yX24_merge ∈ gw := mq_17 (i := 101) rfl rfl
theorem qw794 : Cond.selects RX24 yX24_merge yX24_merge ∈ gw := mq_17 (i := 102) rfl rfl
theorem qw795 : Cond.code yX11_settle cX11_settle 5 (Option.some Jvm.ClassFile.FieldType.int) ∈ gw := mq_8 (i := 167) rfl rfl
theorem qw796 : Cond.methodLink RL 236 yX11_settle ∈ gw := mq_8 (i := 164) rfl rfl
theorem qw797 : Cond.instanceMethod yX11_settle ∈ gw := mq_8 (i := 165) rfl rfl
theorem qw798 : Cond.selects RX11 yX11_settle yX11_settle ∈ gw := mq_8 (i := 166) rfl rfl
theorem qw799 : Cond.code yX24_settle cX24_settle 4 (Option.some Jvm.ClassFile.FieldType.int) ∈ gw := mq_17 (i := 107) rfl rfl
theorem qw800 : Cond.methodLink RL 239 yX24_settle ∈ gw := mq_17 (i := 104) rfl rfl
theorem qw801 : Cond.instanceMethod yX24_settle ∈ gw := mq_17 (i := 105) rfl rfl
theorem qw802 : Cond.selects RX24 yX24_settle yX24_settle ∈ gw := mq_17 (i := 106) rfl rfl
theorem qw803 : Cond.codeWith yL_allocate cL_allocate 4 (Option.some Jvm.ClassFile.FieldType.int) [(0, 9, 12, 19), (0, 9, 15, 13)] ∈ gw := mq_9 (i := 207) rfl rfl
theorem qw804 : Cond.methodLink RL 240 yL_allocate ∈ gw := mq_9 (i := 205) rfl rfl
theorem qw805 : Cond.static yL_allocate ∈ gw := mq_9 (i := 206) rfl rfl
theorem qw806 : Cond.code yX24_allocate cX24_allocate 6 (Option.some Jvm.ClassFile.FieldType.int) ∈ gw := mq_17 (i := 111) rfl rfl
theorem qw807 : Cond.methodLink RL 242 yX24_allocate ∈ gw := mq_17 (i := 108) rfl rfl
theorem qw808 : Cond.instanceMethod yX24_allocate ∈ gw := mq_17 (i := 109) rfl rfl
theorem qw809 : Cond.selects RX24 yX24_allocate yX24_allocate ∈ gw := mq_17 (i := 110) rfl rfl
theorem qw810 : Cond.codeWith yL_lines cL_lines 4 (Option.some Jvm.ClassFile.FieldType.int) [(0, 9, 12, 24)] ∈ gw := mq_10 (i := 198) rfl rfl
theorem qw811 : Cond.methodLink RL 243 yL_lines ∈ gw := mq_10 (i := 196) rfl rfl
theorem qw812 : Cond.static yL_lines ∈ gw := mq_10 (i := 197) rfl rfl
theorem qw813 : Cond.code yX24_lines cX24_lines 2 (Option.some Jvm.ClassFile.FieldType.int) ∈ gw := mq_18 (i := 125) rfl rfl
theorem qw814 : Cond.methodLink RL 245 yX24_lines ∈ gw := mq_18 (i := 122) rfl rfl
theorem qw815 : Cond.instanceMethod yX24_lines ∈ gw := mq_18 (i := 123) rfl rfl
theorem qw816 : Cond.selects RX24 yX24_lines yX24_lines ∈ gw := mq_18 (i := 124) rfl rfl
theorem qw817 : Cond.codeWith yL_codeKind cL_codeKind 5 (Option.some Jvm.ClassFile.FieldType.int) [(0, 10, 13, 24)] ∈ gw := mq_10 (i := 205) rfl rfl
theorem qw818 : Cond.methodLink RL 246 yL_codeKind ∈ gw := mq_10 (i := 203) rfl rfl
theorem qw819 : Cond.static yL_codeKind ∈ gw := mq_10 (i := 204) rfl rfl
theorem qw820 : Cond.code yX24_codeKind cX24_codeKind 3 (Option.some Jvm.ClassFile.FieldType.int) ∈ gw := mq_18 (i := 133) rfl rfl
theorem qw821 : Cond.methodLink RL 248 yX24_codeKind ∈ gw := mq_18 (i := 130) rfl rfl
theorem qw822 : Cond.instanceMethod yX24_codeKind ∈ gw := mq_18 (i := 131) rfl rfl
theorem qw823 : Cond.selects RX24 yX24_codeKind yX24_codeKind ∈ gw := mq_18 (i := 132) rfl rfl
theorem qw824 : Cond.codeWith yL_codeGives cL_codeGives 5 (Option.some Jvm.ClassFile.FieldType.int) [(0, 10, 13, 24)] ∈ gw := mq_10 (i := 216) rfl rfl
theorem qw825 : Cond.methodLink RL 249 yL_codeGives ∈ gw := mq_10 (i := 214) rfl rfl
theorem qw826 : Cond.static yL_codeGives ∈ gw := mq_10 (i := 215) rfl rfl
theorem qw827 : Cond.code yX24_codeGives cX24_codeGives 3 (Option.some Jvm.ClassFile.FieldType.int) ∈ gw := mq_18 (i := 142) rfl rfl
theorem qw828 : Cond.methodLink RL 251 yX24_codeGives ∈ gw := mq_18 (i := 139) rfl rfl
theorem qw829 : Cond.instanceMethod yX24_codeGives ∈ gw := mq_18 (i := 140) rfl rfl
theorem qw830 : Cond.selects RX24 yX24_codeGives yX24_codeGives ∈ gw := mq_18 (i := 141) rfl rfl
theorem qw831 : Cond.codeWith yL_codeLeft cL_codeLeft 5 (Option.some Jvm.ClassFile.FieldType.int) [(0, 10, 13, 24)] ∈ gw := mq_10 (i := 223) rfl rfl
theorem qw832 : Cond.methodLink RL 252 yL_codeLeft ∈ gw := mq_10 (i := 221) rfl rfl
theorem qw833 : Cond.static yL_codeLeft ∈ gw := mq_10 (i := 222) rfl rfl
theorem qw834 : Cond.code yX24_codeLeft cX24_codeLeft 3 (Option.some Jvm.ClassFile.FieldType.int) ∈ gw := mq_18 (i := 146) rfl rfl
theorem qw835 : Cond.methodLink RL 254 yX24_codeLeft ∈ gw := mq_18 (i := 143) rfl rfl
theorem qw836 : Cond.instanceMethod yX24_codeLeft ∈ gw := mq_18 (i := 144) rfl rfl
theorem qw837 : Cond.selects RX24 yX24_codeLeft yX24_codeLeft ∈ gw := mq_18 (i := 145) rfl rfl
theorem qw838 : Cond.codeWith yL_codeRight cL_codeRight 5 (Option.some Jvm.ClassFile.FieldType.int) [(0, 10, 13, 24)] ∈ gw := mq_10 (i := 230) rfl rfl
theorem qw839 : Cond.methodLink RL 255 yL_codeRight ∈ gw := mq_10 (i := 228) rfl rfl
theorem qw840 : Cond.static yL_codeRight ∈ gw := mq_10 (i := 229) rfl rfl
theorem qw841 : Cond.code yX24_codeRight cX24_codeRight 3 (Option.some Jvm.ClassFile.FieldType.int) ∈ gw := mq_18 (i := 150) rfl rfl
theorem qw842 : Cond.methodLink RL 257 yX24_codeRight ∈ gw := mq_18 (i := 147) rfl rfl
theorem qw843 : Cond.instanceMethod yX24_codeRight ∈ gw := mq_18 (i := 148) rfl rfl
theorem qw844 : Cond.selects RX24 yX24_codeRight yX24_codeRight ∈ gw := mq_18 (i := 149) rfl rfl
theorem qw845 : Cond.codeWith yL_slots cL_slots 4 (Option.some Jvm.ClassFile.FieldType.int) [(0, 9, 12, 24)] ∈ gw := mq_10 (i := 237) rfl rfl
theorem qw846 : Cond.methodLink RL 258 yL_slots ∈ gw := mq_10 (i := 235) rfl rfl
theorem qw847 : Cond.static yL_slots ∈ gw := mq_10 (i := 236) rfl rfl
theorem qw848 : Cond.code yX24_slots cX24_slots 2 (Option.some Jvm.ClassFile.FieldType.int) ∈ gw := mq_18 (i := 154) rfl rfl
theorem qw849 : Cond.methodLink RL 260 yX24_slots ∈ gw := mq_18 (i := 151) rfl rfl
theorem qw850 : Cond.instanceMethod yX24_slots ∈ gw := mq_18 (i := 152) rfl rfl
theorem qw851 : Cond.selects RX24 yX24_slots yX24_slots ∈ gw := mq_18 (i := 153) rfl rfl
theorem qw852 : Cond.codeWith yL_united cL_united 4 (Option.some Jvm.ClassFile.FieldType.int) [(0, 9, 12, 24)] ∈ gw := mq_11 (i := 4) rfl rfl
theorem qw853 : Cond.methodLink RL 261 yL_united ∈ gw := mq_11 (i := 2) rfl rfl
theorem qw854 : Cond.static yL_united ∈ gw := mq_11 (i := 3) rfl rfl
theorem qw855 : Cond.code yX24_united cX24_united 2 (Option.some Jvm.ClassFile.FieldType.int) ∈ gw := mq_18 (i := 158) rfl rfl
theorem qw856 : Cond.methodLink RL 263 yX24_united ∈ gw := mq_18 (i := 155) rfl rfl
theorem qw857 : Cond.instanceMethod yX24_united ∈ gw := mq_18 (i := 156) rfl rfl
theorem qw858 : Cond.selects RX24 yX24_united yX24_united ∈ gw := mq_18 (i := 157) rfl rfl
theorem qw859 : Cond.codeWith yL_rounds cL_rounds 4 (Option.some Jvm.ClassFile.FieldType.int) [(0, 9, 12, 24)] ∈ gw := mq_11 (i := 11) rfl rfl
theorem qw860 : Cond.methodLink RL 264 yL_rounds ∈ gw := mq_11 (i := 9) rfl rfl
theorem qw861 : Cond.static yL_rounds ∈ gw := mq_11 (i := 10) rfl rfl
theorem qw862 : Cond.code yX24_rounds cX24_rounds 2 (Option.some Jvm.ClassFile.FieldType.int) ∈ gw := mq_18 (i := 162) rfl rfl
theorem qw863 : Cond.methodLink RL 266 yX24_rounds ∈ gw := mq_18 (i := 159) rfl rfl
theorem qw864 : Cond.instanceMethod yX24_rounds ∈ gw := mq_18 (i := 160) rfl rfl
theorem qw865 : Cond.selects RX24 yX24_rounds yX24_rounds ∈ gw := mq_18 (i := 161) rfl rfl
theorem qw866 : Cond.codeWith yL_run cL_run 9 (Option.some Jvm.ClassFile.FieldType.int) [(0, 18, 21, 24), (0, 18, 25, 19), (0, 18, 29, 13)] ∈ gw := mq_11 (i := 18) rfl rfl
theorem qw867 : Cond.methodLink RL 267 yL_run ∈ gw := mq_11 (i := 16) rfl rfl
theorem qw868 : Cond.static yL_run ∈ gw := mq_11 (i := 17) rfl rfl
theorem qw869 : Cond.code yX24_run_ cX24_run_ 8 (Option.some Jvm.ClassFile.FieldType.int) ∈ gw := mq_18 (i := 166) rfl rfl
theorem qw870 : Cond.methodLink RL 270 yX24_run_ ∈ gw := mq_18 (i := 163) rfl rfl
theorem qw871 : Cond.instanceMethod yX24_run_ ∈ gw := mq_18 (i := 164) rfl rfl
theorem qw872 : Cond.selects RX24 yX24_run_ yX24_run_ ∈ gw := mq_18 (i := 165) rfl rfl
theorem qw873 : Cond.code yX11_outcome cX11_outcome 1 (Option.some Jvm.ClassFile.FieldType.int) ∈ gw := mq_8 (i := 177) rfl rfl
theorem qw874 : Cond.methodLink RL 271 yX11_outcome ∈ gw := mq_8 (i := 174) rfl rfl
theorem qw875 : Cond.instanceMethod yX11_outcome ∈ gw := mq_8 (i := 175) rfl rfl
theorem qw876 : Cond.selects RX11 yX11_outcome yX11_outcome ∈ gw := mq_8 (i := 176) rfl rfl
theorem qw877 : Cond.code yX24_outcome cX24_outcome 1 (Option.some Jvm.ClassFile.FieldType.int) ∈ gw := mq_19 (i := 41) rfl rfl
theorem qw878 : Cond.methodLink RL 274 yX24_outcome ∈ gw := mq_19 (i := 38) rfl rfl
theorem qw879 : Cond.instanceMethod yX24_outcome ∈ gw := mq_19 (i := 39) rfl rfl
theorem qw880 : Cond.selects RX24 yX24_outcome yX24_outcome ∈ gw := mq_19 (i := 40) rfl rfl
theorem qw881 : Cond.code yX11_result cX11_result 1 (Option.some Jvm.ClassFile.FieldType.int) ∈ gw := mq_8 (i := 181) rfl rfl
theorem qw882 : Cond.methodLink RL 275 yX11_result ∈ gw := mq_8 (i := 178) rfl rfl
theorem qw883 : Cond.instanceMethod yX11_result ∈ gw := mq_8 (i := 179) rfl rfl
theorem qw884 : Cond.selects RX11 yX11_result yX11_result ∈ gw := mq_8 (i := 180) rfl rfl
theorem qw885 : Cond.code yX24_result cX24_result 1 (Option.some Jvm.ClassFile.FieldType.int) ∈ gw := mq_19 (i := 45) rfl rfl
theorem qw886 : Cond.methodLink RL 278 yX24_result ∈ gw := mq_19 (i := 42) rfl rfl
theorem qw887 : Cond.instanceMethod yX24_result ∈ gw := mq_19 (i := 43) rfl rfl
theorem qw888 : Cond.selects RX24 yX24_result yX24_result ∈ gw := mq_19 (i := 44) rfl rfl
theorem qw889 : Cond.code yX11_stepsRun cX11_stepsRun 1 (Option.some Jvm.ClassFile.FieldType.int) ∈ gw := mq_8 (i := 185) rfl rfl
theorem qw890 : Cond.methodLink RL 279 yX11_stepsRun ∈ gw := mq_8 (i := 182) rfl rfl
theorem qw891 : Cond.instanceMethod yX11_stepsRun ∈ gw := mq_8 (i := 183) rfl rfl
theorem qw892 : Cond.selects RX11 yX11_stepsRun yX11_stepsRun ∈ gw := mq_8 (i := 184) rfl rfl
theorem qw893 : Cond.code yX24_stepsRun cX24_stepsRun 1 (Option.some Jvm.ClassFile.FieldType.int) ∈ gw := mq_19 (i := 49) rfl rfl
theorem qw894 : Cond.methodLink RL 282 yX24_stepsRun ∈ gw := mq_19 (i := 46) rfl rfl
theorem qw895 : Cond.instanceMethod yX24_stepsRun ∈ gw := mq_19 (i := 47) rfl rfl
theorem qw896 : Cond.selects RX24 yX24_stepsRun yX24_stepsRun ∈ gw := mq_19 (i := 48) rfl rfl
theorem qw897 : Cond.codeWith yL_word cL_word 4 (Option.some Jvm.ClassFile.FieldType.int) [(0, 9, 12, 24)] ∈ gw := mq_11 (i := 128) rfl rfl
theorem qw898 : Cond.methodLink RL 283 yL_word ∈ gw := mq_11 (i := 126) rfl rfl
theorem qw899 : Cond.static yL_word ∈ gw := mq_11 (i := 127) rfl rfl
theorem qw900 : Cond.code yX24_word cX24_word 2 (Option.some Jvm.ClassFile.FieldType.int) ∈ gw := mq_19 (i := 53) rfl rfl
theorem qw901 : Cond.methodLink RL 285 yX24_word ∈ gw := mq_19 (i := 50) rfl rfl
theorem qw902 : Cond.instanceMethod yX24_word ∈ gw := mq_19 (i := 51) rfl rfl
theorem qw903 : Cond.selects RX24 yX24_word yX24_word ∈ gw := mq_19 (i := 52) rfl rfl
theorem qw904 : Cond.codeWith yL_differences cL_differences 6 (Option.some Jvm.ClassFile.FieldType.int) [(0, 12, 15, 24), (0, 12, 19, 19)] ∈ gw := mq_11 (i := 135) rfl rfl
theorem qw905 : Cond.methodLink RL 286 yL_differences ∈ gw := mq_11 (i := 133) rfl rfl
theorem qw906 : Cond.static yL_differences ∈ gw := mq_11 (i := 134) rfl rfl
theorem qw907 : Cond.code yX24_differences cX24_differences 8 (Option.some Jvm.ClassFile.FieldType.int) ∈ gw := mq_19 (i := 57) rfl rfl
theorem qw908 : Cond.methodLink RL 288 yX24_differences ∈ gw := mq_19 (i := 54) rfl rfl
theorem qw909 : Cond.instanceMethod yX24_differences ∈ gw := mq_19 (i := 55) rfl rfl
theorem qw910 : Cond.selects RX24 yX24_differences yX24_differences ∈ gw := mq_19 (i := 56) rfl rfl
theorem qw911 : Cond.code yX11_meanCode cX11_meanCode 3 (Option.some Jvm.ClassFile.FieldType.double) ∈ gw := mq_8 (i := 189) rfl rfl
theorem qw912 : Cond.methodLink RL 289 yX11_meanCode ∈ gw := mq_8 (i := 186) rfl rfl
theorem qw913 : Cond.instanceMethod yX11_meanCode ∈ gw := mq_8 (i := 187) rfl rfl
theorem qw914 : Cond.selects RX11 yX11_meanCode yX11_meanCode ∈ gw := mq_8 (i := 188) rfl rfl
theorem qw915 : Cond.code yX24_meanCode cX24_meanCode 6 (Option.some Jvm.ClassFile.FieldType.double) ∈ gw := mq_19 (i := 74) rfl rfl
theorem qw916 : Cond.methodLink RL 293 yX24_meanCode ∈ gw := mq_19 (i := 71) rfl rfl
theorem qw917 : Cond.instanceMethod yX24_meanCode ∈ gw := mq_19 (i := 72) rfl rfl
theorem qw918 : Cond.selects RX24 yX24_meanCode yX24_meanCode ∈ gw := mq_19 (i := 73) rfl rfl
theorem qw919 : Cond.code yX11_digest cX11_digest 4 (Option.some Jvm.ClassFile.FieldType.long) ∈ gw := mq_8 (i := 197) rfl rfl
theorem qw920 : Cond.methodLink RL 294 yX11_digest ∈ gw := mq_8 (i := 194) rfl rfl
theorem qw921 : Cond.instanceMethod yX11_digest ∈ gw := mq_8 (i := 195) rfl rfl
theorem qw922 : Cond.selects RX11 yX11_digest yX11_digest ∈ gw := mq_8 (i := 196) rfl rfl
theorem qw923 : Cond.code yX24_digest cX24_digest 11 (Option.some Jvm.ClassFile.FieldType.long) ∈ gw := mq_19 (i := 78) rfl rfl
theorem qw924 : Cond.methodLink RL 298 yX24_digest ∈ gw := mq_19 (i := 75) rfl rfl
theorem qw925 : Cond.instanceMethod yX24_digest ∈ gw := mq_19 (i := 76) rfl rfl
theorem qw926 : Cond.selects RX24 yX24_digest yX24_digest ∈ gw := mq_19 (i := 77) rfl rfl
set_option maxRecDepth 20000 in
theorem at_X11_104_a : ∀ w ∈ Bundle.ownAtoms RX11 104 "java/lang/IllegalArgumentException" ["java/lang/RuntimeException", "java/lang/Exception"], vx_no w = true → w ∈ tables_1 ∧ (goodWord w || mvb w) = true := (List.forall_mem_append.mpr ⟨(List.forall_mem_append.mpr ⟨(List.forall_mem_append.mpr ⟨(List.forall_mem_cons.mpr ⟨fun _ => ⟨tbl_1 (i := 17) rfl, rfl⟩, (List.forall_mem_cons.mpr ⟨fun _ => ⟨tbl_5 (i := 21) rfl, rfl⟩, (List.forall_mem_cons.mpr ⟨fun _ => ⟨tbl_5 (i := 30) rfl, rfl⟩, (List.forall_mem_cons.mpr ⟨fun _ => ⟨tbl_5 (i := 36) rfl, rfl⟩, (List.forall_mem_cons.mpr ⟨fun _ => ⟨tbl_5 (i := 39) rfl, rfl⟩, (List.forall_mem_cons.mpr ⟨fun _ => ⟨tbl_5 (i := 41) rfl, rfl⟩, (List.forall_mem_cons.mpr ⟨fun _ => ⟨tbl_5 (i := 22) rfl, rfl⟩, (List.forall_mem_cons.mpr ⟨fun _ => ⟨tbl_5 (i := 23) rfl, rfl⟩, (List.forall_mem_cons.mpr ⟨fun _ => ⟨tbl_1 (i := 53) rfl, rfl⟩, (List.forall_mem_cons.mpr ⟨fun _ => ⟨tbl_1 (i := 54) rfl, rfl⟩, (List.forall_mem_cons.mpr ⟨fun _ => ⟨tbl_5 (i := 24) rfl, rfl⟩, (List.forall_mem_cons.mpr ⟨fun _ => ⟨tbl_5 (i := 29) rfl, rfl⟩, (List.forall_mem_cons.mpr ⟨fun _ => ⟨tbl_5 (i := 37) rfl, rfl⟩, (List.forall_mem_cons.mpr ⟨fun _ => ⟨tbl_5 (i := 57) rfl, rfl⟩, (List.forall_mem_cons.mpr ⟨fun _ => ⟨tbl_5 (i := 11) rfl, rfl⟩, (List.forall_mem_cons.mpr ⟨fun _ => ⟨tbl_5 (i := 58) rfl, rfl⟩, (List.forall_mem_cons.mpr ⟨fun _ => ⟨tbl_5 (i := 13) rfl, rfl⟩, (List.forall_mem_cons.mpr ⟨fun _ => ⟨tbl_5 (i := 59) rfl, rfl⟩, (List.forall_mem_cons.mpr ⟨fun _ => ⟨tbl_5 (i := 15) rfl, rfl⟩, (List.forall_mem_cons.mpr ⟨fun _ => ⟨tbl_5 (i := 25) rfl, rfl⟩, (List.forall_mem_cons.mpr ⟨fun h => absurd h (by decide +kernel), (List.forall_mem_cons.mpr ⟨fun _ => ⟨tbl_5 (i := 27) rfl, rfl⟩, (List.forall_mem_cons.mpr ⟨fun h => absurd h (by decide +kernel), (List.forall_mem_cons.mpr ⟨fun _ => ⟨tbl_5 (i := 17) rfl, rfl⟩, (fun _ h => absurd h List.not_mem_nil)⟩)⟩)⟩)⟩)⟩)⟩)⟩)⟩)⟩)⟩)⟩)⟩)⟩)⟩)⟩)⟩)⟩)⟩)⟩)⟩)⟩)⟩)⟩)⟩), (List.forall_mem_cons.mpr ⟨fun _ => ⟨tbl_5 (i := 53) rfl, rfl⟩, (List.forall_mem_cons.mpr ⟨fun _ => ⟨tbl_5 (i := 54) rfl, rfl⟩, (List.forall_mem_cons.mpr ⟨fun _ => ⟨tbl_5 (i := 56) rfl, rfl⟩, (List.forall_mem_cons.mpr ⟨fun _ => ⟨tbl_5 (i := 17) rfl, rfl⟩, (fun _ h => absurd h List.not_mem_nil)⟩)⟩)⟩)⟩)⟩), (List.forall_mem_append.mpr ⟨(List.forall_mem_cons.mpr ⟨fun _ => ⟨tbl_5 (i := 44) rfl, rfl⟩, (List.forall_mem_cons.mpr ⟨fun _ => ⟨tbl_5 (i := 45) rfl, rfl⟩, (List.forall_mem_cons.mpr ⟨fun _ => ⟨tbl_5 (i := 46) rfl, rfl⟩, (List.forall_mem_cons.mpr ⟨fun _ => ⟨tbl_5 (i := 47) rfl, rfl⟩, (List.forall_mem_cons.mpr ⟨fun _ => ⟨tbl_5 (i := 3) rfl, rfl⟩, (fun _ h => absurd h List.not_mem_nil)⟩)⟩)⟩)⟩)⟩), (List.forall_mem_append.mpr ⟨(List.forall_mem_cons.mpr ⟨fun _ => ⟨tbl_5 (i := 47) rfl, rfl⟩, (List.forall_mem_cons.mpr ⟨fun _ => ⟨tbl_5 (i := 48) rfl, rfl⟩, (List.forall_mem_cons.mpr ⟨fun _ => ⟨tbl_5 (i := 49) rfl, rfl⟩, (List.forall_mem_cons.mpr ⟨fun _ => ⟨tbl_5 (i := 50) rfl, rfl⟩, (List.forall_mem_cons.mpr ⟨fun _ => ⟨tbl_5 (i := 5) rfl, rfl⟩, (fun _ h => absurd h List.not_mem_nil)⟩)⟩)⟩)⟩)⟩), (List.forall_mem_cons.mpr ⟨fun _ => ⟨tbl_5 (i := 50) rfl, rfl⟩, (List.forall_mem_cons.mpr ⟨fun _ => ⟨tbl_5 (i := 51) rfl, rfl⟩, (List.forall_mem_cons.mpr ⟨fun _ => ⟨tbl_5 (i := 52) rfl, rfl⟩, (List.forall_mem_cons.mpr ⟨fun _ => ⟨tbl_5 (i := 53) rfl, rfl⟩, (List.forall_mem_cons.mpr ⟨fun _ => ⟨tbl_5 (i := 7) rfl, rfl⟩, (fun _ h => absurd h List.not_mem_nil)⟩)⟩)⟩)⟩)⟩)⟩)⟩)⟩), (List.forall_mem_cons.mpr ⟨fun _ => ⟨tbl_9 (i := 23) rfl, rfl⟩, (List.forall_mem_cons.mpr ⟨fun _ => ⟨tbl_5 (i := 0) rfl, rfl⟩, (List.forall_mem_cons.mpr ⟨fun _ => ⟨tbl_5 (i := 1) rfl, rfl⟩, (List.forall_mem_cons.mpr ⟨fun _ => ⟨tbl_5 (i := 8) rfl, rfl⟩, (List.forall_mem_cons.mpr ⟨fun _ => ⟨tbl_5 (i := 9) rfl, rfl⟩, (List.forall_mem_cons.mpr ⟨fun _ => ⟨tbl_5 (i := 10) rfl, rfl⟩, (List.forall_mem_cons.mpr ⟨fun _ => ⟨tbl_5 (i := 12) rfl, rfl⟩, (List.forall_mem_cons.mpr ⟨fun _ => ⟨tbl_5 (i := 14) rfl, rfl⟩, (List.forall_mem_cons.mpr ⟨fun _ => ⟨tbl_5 (i := 16) rfl, rfl⟩, (List.forall_mem_cons.mpr ⟨fun h => absurd h (by decide +kernel), (List.forall_mem_cons.mpr ⟨fun h => absurd h (by decide +kernel), (List.forall_mem_cons.mpr ⟨fun _ => ⟨tbl_5 (i := 20) rfl, rfl⟩, (List.forall_mem_cons.mpr ⟨fun _ => ⟨tbl_5 (i := 19) rfl, rfl⟩, (List.forall_mem_cons.mpr ⟨fun _ => ⟨tbl_5 (i := 18) rfl, rfl⟩, (fun _ h => absurd h List.not_mem_nil)⟩)⟩)⟩)⟩)⟩)⟩)⟩)⟩)⟩)⟩)⟩)⟩)⟩)⟩)⟩)
theorem at_X11_104 {zs : Nat × Nat} {args : Array Value} {s : State} {A : Nat → Prop} {H : Heap} (hts : ∀ w ∈ gw, w.before args s = true) (hE : ENV zs A s H) : ∀ w ∈ vx_atS RX11 104 "java/lang/IllegalArgumentException" ["java/lang/RuntimeException", "java/lang/Exception"], w.before args s = true := at_of at_X11_104_a hts hE
theorem at_X11_104_g {ik : Nat} : ∀ w ∈ Cond.classLink RX11 ik "java/lang/IllegalArgumentException" :: Cond.initialized "java/lang/IllegalArgumentException" :: vx_atS RX11 104 "java/lang/IllegalArgumentException" ["java/lang/RuntimeException", "java/lang/Exception"], vx_ot w = true := List.forall_mem_cons.mpr ⟨rfl, List.forall_mem_cons.mpr ⟨rfl, at_ot at_X11_104_a⟩⟩
set_option maxRecDepth 20000 in
theorem at_X11_333_a : ∀ w ∈ Bundle.ownAtoms RX11 333 "java/lang/IndexOutOfBoundsException" ["java/lang/RuntimeException", "java/lang/Exception"], vx_no w = true → w ∈ tables_1 ∧ (goodWord w || mvb w) = true := (List.forall_mem_append.mpr ⟨(List.forall_mem_append.mpr ⟨(List.forall_mem_append.mpr ⟨(List.forall_mem_cons.mpr ⟨fun _ => ⟨tbl_1 (i := 17) rfl, rfl⟩, (List.forall_mem_cons.mpr ⟨fun _ => ⟨tbl_5 (i := 21) rfl, rfl⟩, (List.forall_mem_cons.mpr ⟨fun _ => ⟨tbl_5 (i := 30) rfl, rfl⟩, (List.forall_mem_cons.mpr ⟨fun _ => ⟨tbl_5 (i := 36) rfl, rfl⟩, (List.forall_mem_cons.mpr ⟨fun _ => ⟨tbl_5 (i := 39) rfl, rfl⟩, (List.forall_mem_cons.mpr ⟨fun _ => ⟨tbl_5 (i := 41) rfl, rfl⟩, (List.forall_mem_cons.mpr ⟨fun _ => ⟨tbl_5 (i := 22) rfl, rfl⟩, (List.forall_mem_cons.mpr ⟨fun _ => ⟨tbl_5 (i := 23) rfl, rfl⟩, (List.forall_mem_cons.mpr ⟨fun _ => ⟨tbl_1 (i := 53) rfl, rfl⟩, (List.forall_mem_cons.mpr ⟨fun _ => ⟨tbl_1 (i := 54) rfl, rfl⟩, (List.forall_mem_cons.mpr ⟨fun _ => ⟨tbl_5 (i := 24) rfl, rfl⟩, (List.forall_mem_cons.mpr ⟨fun _ => ⟨tbl_5 (i := 29) rfl, rfl⟩, (List.forall_mem_cons.mpr ⟨fun _ => ⟨tbl_5 (i := 37) rfl, rfl⟩, (List.forall_mem_cons.mpr ⟨fun _ => ⟨tbl_5 (i := 57) rfl, rfl⟩, (List.forall_mem_cons.mpr ⟨fun _ => ⟨tbl_5 (i := 11) rfl, rfl⟩, (List.forall_mem_cons.mpr ⟨fun _ => ⟨tbl_5 (i := 58) rfl, rfl⟩, (List.forall_mem_cons.mpr ⟨fun _ => ⟨tbl_5 (i := 13) rfl, rfl⟩, (List.forall_mem_cons.mpr ⟨fun _ => ⟨tbl_5 (i := 59) rfl, rfl⟩, (List.forall_mem_cons.mpr ⟨fun _ => ⟨tbl_5 (i := 15) rfl, rfl⟩, (List.forall_mem_cons.mpr ⟨fun _ => ⟨tbl_5 (i := 25) rfl, rfl⟩, (List.forall_mem_cons.mpr ⟨fun h => absurd h (by decide +kernel), (List.forall_mem_cons.mpr ⟨fun _ => ⟨tbl_5 (i := 27) rfl, rfl⟩, (List.forall_mem_cons.mpr ⟨fun h => absurd h (by decide +kernel), (List.forall_mem_cons.mpr ⟨fun _ => ⟨tbl_5 (i := 17) rfl, rfl⟩, (fun _ h => absurd h List.not_mem_nil)⟩)⟩)⟩)⟩)⟩)⟩)⟩)⟩)⟩)⟩)⟩)⟩)⟩)⟩)⟩)⟩)⟩)⟩)⟩)⟩)⟩)⟩)⟩)⟩), (List.forall_mem_cons.mpr ⟨fun _ => ⟨tbl_5 (i := 53) rfl, rfl⟩, (List.forall_mem_cons.mpr ⟨fun _ => ⟨tbl_5 (i := 54) rfl, rfl⟩, (List.forall_mem_cons.mpr ⟨fun _ => ⟨tbl_5 (i := 56) rfl, rfl⟩, (List.forall_mem_cons.mpr ⟨fun _ => ⟨tbl_5 (i := 17) rfl, rfl⟩, (fun _ h => absurd h List.not_mem_nil)⟩)⟩)⟩)⟩)⟩), (List.forall_mem_append.mpr ⟨(List.forall_mem_cons.mpr ⟨fun _ => ⟨tbl_7 (i := 127) rfl, rfl⟩, (List.forall_mem_cons.mpr ⟨fun _ => ⟨tbl_7 (i := 128) rfl, rfl⟩, (List.forall_mem_cons.mpr ⟨fun _ => ⟨tbl_7 (i := 129) rfl, rfl⟩, (List.forall_mem_cons.mpr ⟨fun _ => ⟨tbl_5 (i := 47) rfl, rfl⟩, (List.forall_mem_cons.mpr ⟨fun _ => ⟨tbl_5 (i := 3) rfl, rfl⟩, (fun _ h => absurd h List.not_mem_nil)⟩)⟩)⟩)⟩)⟩), (List.forall_mem_append.mpr ⟨(List.forall_mem_cons.mpr ⟨fun _ => ⟨tbl_5 (i := 47) rfl, rfl⟩, (List.forall_mem_cons.mpr ⟨fun _ => ⟨tbl_5 (i := 48) rfl, rfl⟩, (List.forall_mem_cons.mpr ⟨fun _ => ⟨tbl_5 (i := 49) rfl, rfl⟩, (List.forall_mem_cons.mpr ⟨fun _ => ⟨tbl_5 (i := 50) rfl, rfl⟩, (List.forall_mem_cons.mpr ⟨fun _ => ⟨tbl_5 (i := 5) rfl, rfl⟩, (fun _ h => absurd h List.not_mem_nil)⟩)⟩)⟩)⟩)⟩), (List.forall_mem_cons.mpr ⟨fun _ => ⟨tbl_5 (i := 50) rfl, rfl⟩, (List.forall_mem_cons.mpr ⟨fun _ => ⟨tbl_5 (i := 51) rfl, rfl⟩, (List.forall_mem_cons.mpr ⟨fun _ => ⟨tbl_5 (i := 52) rfl, rfl⟩, (List.forall_mem_cons.mpr ⟨fun _ => ⟨tbl_5 (i := 53) rfl, rfl⟩, (List.forall_mem_cons.mpr ⟨fun _ => ⟨tbl_5 (i := 7) rfl, rfl⟩, (fun _ h => absurd h List.not_mem_nil)⟩)⟩)⟩)⟩)⟩)⟩)⟩)⟩), (List.forall_mem_cons.mpr ⟨fun _ => ⟨tbl_9 (i := 46) rfl, rfl⟩, (List.forall_mem_cons.mpr ⟨fun _ => ⟨tbl_9 (i := 37) rfl, rfl⟩, (List.forall_mem_cons.mpr ⟨fun _ => ⟨tbl_9 (i := 38) rfl, rfl⟩, (List.forall_mem_cons.mpr ⟨fun _ => ⟨tbl_9 (i := 39) rfl, rfl⟩, (List.forall_mem_cons.mpr ⟨fun _ => ⟨tbl_5 (i := 35) rfl, rfl⟩, (List.forall_mem_cons.mpr ⟨fun _ => ⟨tbl_9 (i := 40) rfl, rfl⟩, (List.forall_mem_cons.mpr ⟨fun _ => ⟨tbl_9 (i := 41) rfl, rfl⟩, (List.forall_mem_cons.mpr ⟨fun _ => ⟨tbl_9 (i := 42) rfl, rfl⟩, (List.forall_mem_cons.mpr ⟨fun _ => ⟨tbl_9 (i := 43) rfl, rfl⟩, (List.forall_mem_cons.mpr ⟨fun h => absurd h (by decide +kernel), (List.forall_mem_cons.mpr ⟨fun h => absurd h (by decide +kernel), (List.forall_mem_cons.mpr ⟨fun _ => ⟨tbl_5 (i := 20) rfl, rfl⟩, (List.forall_mem_cons.mpr ⟨fun _ => ⟨tbl_5 (i := 19) rfl, rfl⟩, (List.forall_mem_cons.mpr ⟨fun _ => ⟨tbl_9 (i := 44) rfl, rfl⟩, (fun _ h => absurd h List.not_mem_nil)⟩)⟩)⟩)⟩)⟩)⟩)⟩)⟩)⟩)⟩)⟩)⟩)⟩)⟩)⟩)
theorem at_X11_333 {zs : Nat × Nat} {args : Array Value} {s : State} {A : Nat → Prop} {H : Heap} (hts : ∀ w ∈ gw, w.before args s = true) (hE : ENV zs A s H) : ∀ w ∈ vx_atS RX11 333 "java/lang/IndexOutOfBoundsException" ["java/lang/RuntimeException", "java/lang/Exception"], w.before args s = true := at_of at_X11_333_a hts hE
theorem at_X11_333_g {ik : Nat} : ∀ w ∈ Cond.classLink RX11 ik "java/lang/IndexOutOfBoundsException" :: Cond.initialized "java/lang/IndexOutOfBoundsException" :: vx_atS RX11 333 "java/lang/IndexOutOfBoundsException" ["java/lang/RuntimeException", "java/lang/Exception"], vx_ot w = true := List.forall_mem_cons.mpr ⟨rfl, List.forall_mem_cons.mpr ⟨rfl, at_ot at_X11_333_a⟩⟩
set_option maxRecDepth 20000 in
theorem at_X11_93_a : ∀ w ∈ Bundle.ownAtoms RX11 93 "java/lang/IllegalStateException" ["java/lang/RuntimeException", "java/lang/Exception"], vx_no w = true → w ∈ tables_1 ∧ (goodWord w || mvb w) = true := (List.forall_mem_append.mpr ⟨(List.forall_mem_append.mpr ⟨(List.forall_mem_append.mpr ⟨(List.forall_mem_cons.mpr ⟨fun _ => ⟨tbl_1 (i := 17) rfl, rfl⟩, (List.forall_mem_cons.mpr ⟨fun _ => ⟨tbl_5 (i := 21) rfl, rfl⟩, (List.forall_mem_cons.mpr ⟨fun _ => ⟨tbl_5 (i := 30) rfl, rfl⟩, (List.forall_mem_cons.mpr ⟨fun _ => ⟨tbl_5 (i := 36) rfl, rfl⟩, (List.forall_mem_cons.mpr ⟨fun _ => ⟨tbl_5 (i := 39) rfl, rfl⟩, (List.forall_mem_cons.mpr ⟨fun _ => ⟨tbl_5 (i := 41) rfl, rfl⟩, (List.forall_mem_cons.mpr ⟨fun _ => ⟨tbl_5 (i := 22) rfl, rfl⟩, (List.forall_mem_cons.mpr ⟨fun _ => ⟨tbl_5 (i := 23) rfl, rfl⟩, (List.forall_mem_cons.mpr ⟨fun _ => ⟨tbl_1 (i := 53) rfl, rfl⟩, (List.forall_mem_cons.mpr ⟨fun _ => ⟨tbl_1 (i := 54) rfl, rfl⟩, (List.forall_mem_cons.mpr ⟨fun _ => ⟨tbl_5 (i := 24) rfl, rfl⟩, (List.forall_mem_cons.mpr ⟨fun _ => ⟨tbl_5 (i := 29) rfl, rfl⟩, (List.forall_mem_cons.mpr ⟨fun _ => ⟨tbl_5 (i := 37) rfl, rfl⟩, (List.forall_mem_cons.mpr ⟨fun _ => ⟨tbl_5 (i := 57) rfl, rfl⟩, (List.forall_mem_cons.mpr ⟨fun _ => ⟨tbl_5 (i := 11) rfl, rfl⟩, (List.forall_mem_cons.mpr ⟨fun _ => ⟨tbl_5 (i := 58) rfl, rfl⟩, (List.forall_mem_cons.mpr ⟨fun _ => ⟨tbl_5 (i := 13) rfl, rfl⟩, (List.forall_mem_cons.mpr ⟨fun _ => ⟨tbl_5 (i := 59) rfl, rfl⟩, (List.forall_mem_cons.mpr ⟨fun _ => ⟨tbl_5 (i := 15) rfl, rfl⟩, (List.forall_mem_cons.mpr ⟨fun _ => ⟨tbl_5 (i := 25) rfl, rfl⟩, (List.forall_mem_cons.mpr ⟨fun h => absurd h (by decide +kernel), (List.forall_mem_cons.mpr ⟨fun _ => ⟨tbl_5 (i := 27) rfl, rfl⟩, (List.forall_mem_cons.mpr ⟨fun h => absurd h (by decide +kernel), (List.forall_mem_cons.mpr ⟨fun _ => ⟨tbl_5 (i := 17) rfl, rfl⟩, (fun _ h => absurd h List.not_mem_nil)⟩)⟩)⟩)⟩)⟩)⟩)⟩)⟩)⟩)⟩)⟩)⟩)⟩)⟩)⟩)⟩)⟩)⟩)⟩)⟩)⟩)⟩)⟩)⟩), (List.forall_mem_cons.mpr ⟨fun _ => ⟨tbl_5 (i := 53) rfl, rfl⟩, (List.forall_mem_cons.mpr ⟨fun _ => ⟨tbl_5 (i := 54) rfl, rfl⟩, (List.forall_mem_cons.mpr ⟨fun _ => ⟨tbl_5 (i := 56) rfl, rfl⟩, (List.forall_mem_cons.mpr ⟨fun _ => ⟨tbl_5 (i := 17) rfl, rfl⟩, (fun _ h => absurd h List.not_mem_nil)⟩)⟩)⟩)⟩)⟩), (List.forall_mem_append.mpr ⟨(List.forall_mem_cons.mpr ⟨fun _ => ⟨tbl_9 (i := 4) rfl, rfl⟩, (List.forall_mem_cons.mpr ⟨fun _ => ⟨tbl_9 (i := 5) rfl, rfl⟩, (List.forall_mem_cons.mpr ⟨fun _ => ⟨tbl_9 (i := 6) rfl, rfl⟩, (List.forall_mem_cons.mpr ⟨fun _ => ⟨tbl_5 (i := 47) rfl, rfl⟩, (List.forall_mem_cons.mpr ⟨fun _ => ⟨tbl_5 (i := 3) rfl, rfl⟩, (fun _ h => absurd h List.not_mem_nil)⟩)⟩)⟩)⟩)⟩), (List.forall_mem_append.mpr ⟨(List.forall_mem_cons.mpr ⟨fun _ => ⟨tbl_5 (i := 47) rfl, rfl⟩, (List.forall_mem_cons.mpr ⟨fun _ => ⟨tbl_5 (i := 48) rfl, rfl⟩, (List.forall_mem_cons.mpr ⟨fun _ => ⟨tbl_5 (i := 49) rfl, rfl⟩, (List.forall_mem_cons.mpr ⟨fun _ => ⟨tbl_5 (i := 50) rfl, rfl⟩, (List.forall_mem_cons.mpr ⟨fun _ => ⟨tbl_5 (i := 5) rfl, rfl⟩, (fun _ h => absurd h List.not_mem_nil)⟩)⟩)⟩)⟩)⟩), (List.forall_mem_cons.mpr ⟨fun _ => ⟨tbl_5 (i := 50) rfl, rfl⟩, (List.forall_mem_cons.mpr ⟨fun _ => ⟨tbl_5 (i := 51) rfl, rfl⟩, (List.forall_mem_cons.mpr ⟨fun _ => ⟨tbl_5 (i := 52) rfl, rfl⟩, (List.forall_mem_cons.mpr ⟨fun _ => ⟨tbl_5 (i := 53) rfl, rfl⟩, (List.forall_mem_cons.mpr ⟨fun _ => ⟨tbl_5 (i := 7) rfl, rfl⟩, (fun _ h => absurd h List.not_mem_nil)⟩)⟩)⟩)⟩)⟩)⟩)⟩)⟩), (List.forall_mem_cons.mpr ⟨fun _ => ⟨tbl_9 (i := 3) rfl, rfl⟩, (List.forall_mem_cons.mpr ⟨fun _ => ⟨tbl_8 (i := 234) rfl, rfl⟩, (List.forall_mem_cons.mpr ⟨fun _ => ⟨tbl_8 (i := 235) rfl, rfl⟩, (List.forall_mem_cons.mpr ⟨fun _ => ⟨tbl_8 (i := 236) rfl, rfl⟩, (List.forall_mem_cons.mpr ⟨fun _ => ⟨tbl_5 (i := 34) rfl, rfl⟩, (List.forall_mem_cons.mpr ⟨fun _ => ⟨tbl_8 (i := 237) rfl, rfl⟩, (List.forall_mem_cons.mpr ⟨fun _ => ⟨tbl_8 (i := 238) rfl, rfl⟩, (List.forall_mem_cons.mpr ⟨fun _ => ⟨tbl_8 (i := 239) rfl, rfl⟩, (List.forall_mem_cons.mpr ⟨fun _ => ⟨tbl_9 (i := 0) rfl, rfl⟩, (List.forall_mem_cons.mpr ⟨fun h => absurd h (by decide +kernel), (List.forall_mem_cons.mpr ⟨fun h => absurd h (by decide +kernel), (List.forall_mem_cons.mpr ⟨fun _ => ⟨tbl_5 (i := 20) rfl, rfl⟩, (List.forall_mem_cons.mpr ⟨fun _ => ⟨tbl_5 (i := 19) rfl, rfl⟩, (List.forall_mem_cons.mpr ⟨fun _ => ⟨tbl_9 (i := 1) rfl, rfl⟩, (fun _ h => absurd h List.not_mem_nil)⟩)⟩)⟩)⟩)⟩)⟩)⟩)⟩)⟩)⟩)⟩)⟩)⟩)⟩)⟩)
theorem at_X11_93 {zs : Nat × Nat} {args : Array Value} {s : State} {A : Nat → Prop} {H : Heap} (hts : ∀ w ∈ gw, w.before args s = true) (hE : ENV zs A s H) : ∀ w ∈ vx_atS RX11 93 "java/lang/IllegalStateException" ["java/lang/RuntimeException", "java/lang/Exception"], w.before args s = true := at_of at_X11_93_a hts hE
theorem at_X11_93_g {ik : Nat} : ∀ w ∈ Cond.classLink RX11 ik "java/lang/IllegalStateException" :: Cond.initialized "java/lang/IllegalStateException" :: vx_atS RX11 93 "java/lang/IllegalStateException" ["java/lang/RuntimeException", "java/lang/Exception"], vx_ot w = true := List.forall_mem_cons.mpr ⟨rfl, List.forall_mem_cons.mpr ⟨rfl, at_ot at_X11_93_a⟩⟩
set_option maxRecDepth 20000 in
theorem at_X7_238_a : ∀ w ∈ Bundle.ownAtoms RX7 238 "java/lang/IllegalArgumentException" ["java/lang/RuntimeException", "java/lang/Exception"], vx_no w = true → w ∈ tables_1 ∧ (goodWord w || mvb w) = true := (List.forall_mem_append.mpr ⟨(List.forall_mem_append.mpr ⟨(List.forall_mem_append.mpr ⟨(List.forall_mem_cons.mpr ⟨fun _ => ⟨tbl_1 (i := 17) rfl, rfl⟩, (List.forall_mem_cons.mpr ⟨fun _ => ⟨tbl_5 (i := 21) rfl, rfl⟩, (List.forall_mem_cons.mpr ⟨fun _ => ⟨tbl_5 (i := 30) rfl, rfl⟩, (List.forall_mem_cons.mpr ⟨fun _ => ⟨tbl_5 (i := 36) rfl, rfl⟩, (List.forall_mem_cons.mpr ⟨fun _ => ⟨tbl_5 (i := 39) rfl, rfl⟩, (List.forall_mem_cons.mpr ⟨fun _ => ⟨tbl_5 (i := 41) rfl, rfl⟩, (List.forall_mem_cons.mpr ⟨fun _ => ⟨tbl_5 (i := 22) rfl, rfl⟩, (List.forall_mem_cons.mpr ⟨fun _ => ⟨tbl_5 (i := 23) rfl, rfl⟩, (List.forall_mem_cons.mpr ⟨fun _ => ⟨tbl_1 (i := 53) rfl, rfl⟩, (List.forall_mem_cons.mpr ⟨fun _ => ⟨tbl_1 (i := 54) rfl, rfl⟩, (List.forall_mem_cons.mpr ⟨fun _ => ⟨tbl_5 (i := 24) rfl, rfl⟩, (List.forall_mem_cons.mpr ⟨fun _ => ⟨tbl_5 (i := 29) rfl, rfl⟩, (List.forall_mem_cons.mpr ⟨fun _ => ⟨tbl_5 (i := 37) rfl, rfl⟩, (List.forall_mem_cons.mpr ⟨fun _ => ⟨tbl_5 (i := 57) rfl, rfl⟩, (List.forall_mem_cons.mpr ⟨fun _ => ⟨tbl_5 (i := 11) rfl, rfl⟩, (List.forall_mem_cons.mpr ⟨fun _ => ⟨tbl_5 (i := 58) rfl, rfl⟩, (List.forall_mem_cons.mpr ⟨fun _ => ⟨tbl_5 (i := 13) rfl, rfl⟩, (List.forall_mem_cons.mpr ⟨fun _ => ⟨tbl_5 (i := 59) rfl, rfl⟩, (List.forall_mem_cons.mpr ⟨fun _ => ⟨tbl_5 (i := 15) rfl, rfl⟩, (List.forall_mem_cons.mpr ⟨fun _ => ⟨tbl_5 (i := 25) rfl, rfl⟩, (List.forall_mem_cons.mpr ⟨fun h => absurd h (by decide +kernel), (List.forall_mem_cons.mpr ⟨fun _ => ⟨tbl_5 (i := 27) rfl, rfl⟩, (List.forall_mem_cons.mpr ⟨fun h => absurd h (by decide +kernel), (List.forall_mem_cons.mpr ⟨fun _ => ⟨tbl_5 (i := 17) rfl, rfl⟩, (fun _ h => absurd h List.not_mem_nil)⟩)⟩)⟩)⟩)⟩)⟩)⟩)⟩)⟩)⟩)⟩)⟩)⟩)⟩)⟩)⟩)⟩)⟩)⟩)⟩)⟩)⟩)⟩)⟩), (List.forall_mem_cons.mpr ⟨fun _ => ⟨tbl_5 (i := 53) rfl, rfl⟩, (List.forall_mem_cons.mpr ⟨fun _ => ⟨tbl_5 (i := 54) rfl, rfl⟩, (List.forall_mem_cons.mpr ⟨fun _ => ⟨tbl_5 (i := 56) rfl, rfl⟩, (List.forall_mem_cons.mpr ⟨fun _ => ⟨tbl_5 (i := 17) rfl, rfl⟩, (fun _ h => absurd h List.not_mem_nil)⟩)⟩)⟩)⟩)⟩), (List.forall_mem_append.mpr ⟨(List.forall_mem_cons.mpr ⟨fun _ => ⟨tbl_5 (i := 44) rfl, rfl⟩, (List.forall_mem_cons.mpr ⟨fun _ => ⟨tbl_5 (i := 45) rfl, rfl⟩, (List.forall_mem_cons.mpr ⟨fun _ => ⟨tbl_5 (i := 46) rfl, rfl⟩, (List.forall_mem_cons.mpr ⟨fun _ => ⟨tbl_5 (i := 47) rfl, rfl⟩, (List.forall_mem_cons.mpr ⟨fun _ => ⟨tbl_5 (i := 3) rfl, rfl⟩, (fun _ h => absurd h List.not_mem_nil)⟩)⟩)⟩)⟩)⟩), (List.forall_mem_append.mpr ⟨(List.forall_mem_cons.mpr ⟨fun _ => ⟨tbl_5 (i := 47) rfl, rfl⟩, (List.forall_mem_cons.mpr ⟨fun _ => ⟨tbl_5 (i := 48) rfl, rfl⟩, (List.forall_mem_cons.mpr ⟨fun _ => ⟨tbl_5 (i := 49) rfl, rfl⟩, (List.forall_mem_cons.mpr ⟨fun _ => ⟨tbl_5 (i := 50) rfl, rfl⟩, (List.forall_mem_cons.mpr ⟨fun _ => ⟨tbl_5 (i := 5) rfl, rfl⟩, (fun _ h => absurd h List.not_mem_nil)⟩)⟩)⟩)⟩)⟩), (List.forall_mem_cons.mpr ⟨fun _ => ⟨tbl_5 (i := 50) rfl, rfl⟩, (List.forall_mem_cons.mpr ⟨fun _ => ⟨tbl_5 (i := 51) rfl, rfl⟩, (List.forall_mem_cons.mpr ⟨fun _ => ⟨tbl_5 (i := 52) rfl, rfl⟩, (List.forall_mem_cons.mpr ⟨fun _ => ⟨tbl_5 (i := 53) rfl, rfl⟩, (List.forall_mem_cons.mpr ⟨fun _ => ⟨tbl_5 (i := 7) rfl, rfl⟩, (fun _ h => absurd h List.not_mem_nil)⟩)⟩)⟩)⟩)⟩)⟩)⟩)⟩), (List.forall_mem_cons.mpr ⟨fun _ => ⟨tbl_5 (i := 43) rfl, rfl⟩, (List.forall_mem_cons.mpr ⟨fun _ => ⟨tbl_5 (i := 0) rfl, rfl⟩, (List.forall_mem_cons.mpr ⟨fun _ => ⟨tbl_5 (i := 1) rfl, rfl⟩, (List.forall_mem_cons.mpr ⟨fun _ => ⟨tbl_5 (i := 8) rfl, rfl⟩, (List.forall_mem_cons.mpr ⟨fun _ => ⟨tbl_5 (i := 9) rfl, rfl⟩, (List.forall_mem_cons.mpr ⟨fun _ => ⟨tbl_5 (i := 10) rfl, rfl⟩, (List.forall_mem_cons.mpr ⟨fun _ => ⟨tbl_5 (i := 12) rfl, rfl⟩, (List.forall_mem_cons.mpr ⟨fun _ => ⟨tbl_5 (i := 14) rfl, rfl⟩, (List.forall_mem_cons.mpr ⟨fun _ => ⟨tbl_5 (i := 16) rfl, rfl⟩, (List.forall_mem_cons.mpr ⟨fun h => absurd h (by decide +kernel), (List.forall_mem_cons.mpr ⟨fun h => absurd h (by decide +kernel), (List.forall_mem_cons.mpr ⟨fun _ => ⟨tbl_5 (i := 20) rfl, rfl⟩, (List.forall_mem_cons.mpr ⟨fun _ => ⟨tbl_5 (i := 19) rfl, rfl⟩, (List.forall_mem_cons.mpr ⟨fun _ => ⟨tbl_5 (i := 18) rfl, rfl⟩, (fun _ h => absurd h List.not_mem_nil)⟩)⟩)⟩)⟩)⟩)⟩)⟩)⟩)⟩)⟩)⟩)⟩)⟩)⟩)⟩)
theorem at_X7_238 {zs : Nat × Nat} {args : Array Value} {s : State} {A : Nat → Prop} {H : Heap} (hts : ∀ w ∈ gw, w.before args s = true) (hE : ENV zs A s H) : ∀ w ∈ vx_atS RX7 238 "java/lang/IllegalArgumentException" ["java/lang/RuntimeException", "java/lang/Exception"], w.before args s = true := at_of at_X7_238_a hts hE
theorem at_X7_238_g {ik : Nat} : ∀ w ∈ Cond.classLink RX7 ik "java/lang/IllegalArgumentException" :: Cond.initialized "java/lang/IllegalArgumentException" :: vx_atS RX7 238 "java/lang/IllegalArgumentException" ["java/lang/RuntimeException", "java/lang/Exception"], vx_ot w = true := List.forall_mem_cons.mpr ⟨rfl, List.forall_mem_cons.mpr ⟨rfl, at_ot at_X7_238_a⟩⟩
