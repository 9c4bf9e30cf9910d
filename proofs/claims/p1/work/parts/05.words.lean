/-! words by their places -/
theorem qw_oi : Cond.code objectInit ⟨#[0xb1]⟩ 1 none ∈ gw := mq_1 (i := 54) rfl rfl
set_option maxRecDepth 20000 in
theorem i_X10 : ∀ w ∈ u_ws RX10 TX10 8, w ∈ gw := uw_of (lt_s (lt_s (lt_s (lt_s (lt_s (lt_s (lt_s (lt_s lt_0 (mq_1 (i := 74) rfl rfl)) (mq_1 (i := 76) rfl rfl)) (mq_1 (i := 78) rfl rfl)) (mq_1 (i := 80) rfl rfl)) (mq_1 (i := 82) rfl rfl)) (mq_1 (i := 84) rfl rfl)) (mq_1 (i := 86) rfl rfl)) (mq_1 (i := 88) rfl rfl))
set_option maxRecDepth 20000 in
theorem i_X7 : ∀ w ∈ u_ws RX7 TX7 18, w ∈ gw := uw_of (lt_s (lt_s (lt_s (lt_s (lt_s (lt_s (lt_s (lt_s (lt_s (lt_s (lt_s (lt_s (lt_s (lt_s (lt_s (lt_s (lt_s (lt_s lt_0 (mq_1 (i := 117) rfl rfl)) (mq_1 (i := 119) rfl rfl)) (mq_1 (i := 121) rfl rfl)) (mq_1 (i := 123) rfl rfl)) (mq_1 (i := 125) rfl rfl)) (mq_1 (i := 127) rfl rfl)) (mq_1 (i := 129) rfl rfl)) (mq_1 (i := 131) rfl rfl)) (mq_1 (i := 133) rfl rfl)) (mq_1 (i := 135) rfl rfl)) (mq_1 (i := 137) rfl rfl)) (mq_1 (i := 139) rfl rfl)) (mq_1 (i := 141) rfl rfl)) (mq_1 (i := 143) rfl rfl)) (mq_1 (i := 145) rfl rfl)) (mq_1 (i := 147) rfl rfl)) (mq_1 (i := 149) rfl rfl)) (mq_1 (i := 151) rfl rfl))
set_option maxRecDepth 20000 in
theorem i_X6 : ∀ w ∈ u_ws RX6 TX6 13, w ∈ gw := uw_of (lt_s (lt_s (lt_s (lt_s (lt_s (lt_s (lt_s (lt_s (lt_s (lt_s (lt_s (lt_s (lt_s lt_0 (mq_3 (i := 200) rfl rfl)) (mq_3 (i := 202) rfl rfl)) (mq_3 (i := 204) rfl rfl)) (mq_3 (i := 206) rfl rfl)) (mq_3 (i := 208) rfl rfl)) (mq_3 (i := 210) rfl rfl)) (mq_3 (i := 212) rfl rfl)) (mq_3 (i := 214) rfl rfl)) (mq_3 (i := 216) rfl rfl)) (mq_3 (i := 218) rfl rfl)) (mq_3 (i := 220) rfl rfl)) (mq_3 (i := 222) rfl rfl)) (mq_3 (i := 224) rfl rfl))
set_option maxRecDepth 20000 in
theorem i_X9 : ∀ w ∈ u_ws RX9 TX9 6, w ∈ gw := uw_of (lt_s (lt_s (lt_s (lt_s (lt_s (lt_s lt_0 (mq_1 (i := 207) rfl rfl)) (mq_1 (i := 209) rfl rfl)) (mq_1 (i := 211) rfl rfl)) (mq_1 (i := 213) rfl rfl)) (mq_1 (i := 215) rfl rfl)) (mq_1 (i := 217) rfl rfl))
set_option maxRecDepth 20000 in
theorem i_X1 : ∀ w ∈ u_ws RX1 TX1 21, w ∈ gw := uw_of (lt_s (lt_s (lt_s (lt_s (lt_s (lt_s (lt_s (lt_s (lt_s (lt_s (lt_s (lt_s (lt_s (lt_s (lt_s (lt_s (lt_s (lt_s (lt_s (lt_s (lt_s lt_0 (mq_2 (i := 83) rfl rfl)) (mq_2 (i := 85) rfl rfl)) (mq_2 (i := 87) rfl rfl)) (mq_2 (i := 89) rfl rfl)) (mq_2 (i := 91) rfl rfl)) (mq_2 (i := 93) rfl rfl)) (mq_2 (i := 95) rfl rfl)) (mq_2 (i := 97) rfl rfl)) (mq_2 (i := 99) rfl rfl)) (mq_2 (i := 101) rfl rfl)) (mq_2 (i := 103) rfl rfl)) (mq_2 (i := 105) rfl rfl)) (mq_2 (i := 107) rfl rfl)) (mq_2 (i := 109) rfl rfl)) (mq_2 (i := 111) rfl rfl)) (mq_2 (i := 113) rfl rfl)) (mq_2 (i := 115) rfl rfl)) (mq_2 (i := 117) rfl rfl)) (mq_2 (i := 119) rfl rfl)) (mq_2 (i := 121) rfl rfl)) (mq_2 (i := 123) rfl rfl))
set_option maxRecDepth 20000 in
theorem i_X8 : ∀ w ∈ u_ws RX8 TX8 5, w ∈ gw := uw_of (lt_s (lt_s (lt_s (lt_s (lt_s lt_0 (mq_2 (i := 137) rfl rfl)) (mq_2 (i := 139) rfl rfl)) (mq_2 (i := 141) rfl rfl)) (mq_2 (i := 143) rfl rfl)) (mq_2 (i := 145) rfl rfl))
set_option maxRecDepth 20000 in
theorem i_X4 : ∀ w ∈ u_ws RX4 TX4 20, w ∈ gw := uw_of (lt_s (lt_s (lt_s (lt_s (lt_s (lt_s (lt_s (lt_s (lt_s (lt_s (lt_s (lt_s (lt_s (lt_s (lt_s (lt_s (lt_s (lt_s (lt_s (lt_s lt_0 (mq_2 (i := 174) rfl rfl)) (mq_2 (i := 176) rfl rfl)) (mq_2 (i := 178) rfl rfl)) (mq_2 (i := 180) rfl rfl)) (mq_2 (i := 182) rfl rfl)) (mq_2 (i := 184) rfl rfl)) (mq_2 (i := 186) rfl rfl)) (mq_2 (i := 188) rfl rfl)) (mq_2 (i := 190) rfl rfl)) (mq_2 (i := 192) rfl rfl)) (mq_2 (i := 194) rfl rfl)) (mq_2 (i := 196) rfl rfl)) (mq_2 (i := 198) rfl rfl)) (mq_2 (i := 200) rfl rfl)) (mq_2 (i := 202) rfl rfl)) (mq_2 (i := 204) rfl rfl)) (mq_2 (i := 206) rfl rfl)) (mq_2 (i := 208) rfl rfl)) (mq_2 (i := 210) rfl rfl)) (mq_2 (i := 212) rfl rfl))
set_option maxRecDepth 20000 in
theorem i_X5 : ∀ w ∈ u_ws RX5 TX5 12, w ∈ gw := uw_of (lt_s (lt_s (lt_s (lt_s (lt_s (lt_s (lt_s (lt_s (lt_s (lt_s (lt_s (lt_s lt_0 (mq_2 (i := 233) rfl rfl)) (mq_2 (i := 235) rfl rfl)) (mq_2 (i := 237) rfl rfl)) (mq_2 (i := 239) rfl rfl)) (mq_3 (i := 1) rfl rfl)) (mq_3 (i := 3) rfl rfl)) (mq_3 (i := 5) rfl rfl)) (mq_3 (i := 7) rfl rfl)) (mq_3 (i := 9) rfl rfl)) (mq_3 (i := 11) rfl rfl)) (mq_3 (i := 13) rfl rfl)) (mq_3 (i := 15) rfl rfl))
set_option maxRecDepth 20000 in
theorem i_X0 : ∀ w ∈ u_ws RX0 TX0 17, w ∈ gw := uw_of (lt_s (lt_s (lt_s (lt_s (lt_s (lt_s (lt_s (lt_s (lt_s (lt_s (lt_s (lt_s (lt_s (lt_s (lt_s (lt_s (lt_s lt_0 (mq_3 (i := 121) rfl rfl)) (mq_3 (i := 123) rfl rfl)) (mq_3 (i := 125) rfl rfl)) (mq_3 (i := 127) rfl rfl)) (mq_3 (i := 129) rfl rfl)) (mq_3 (i := 131) rfl rfl)) (mq_3 (i := 133) rfl rfl)) (mq_3 (i := 135) rfl rfl)) (mq_3 (i := 137) rfl rfl)) (mq_3 (i := 139) rfl rfl)) (mq_3 (i := 141) rfl rfl)) (mq_3 (i := 143) rfl rfl)) (mq_3 (i := 145) rfl rfl)) (mq_3 (i := 147) rfl rfl)) (mq_3 (i := 149) rfl rfl)) (mq_3 (i := 151) rfl rfl)) (mq_3 (i := 153) rfl rfl))
set_option maxRecDepth 20000 in
theorem i_X2 : ∀ w ∈ u_ws RX2 TX2 19, w ∈ gw := uw_of (lt_s (lt_s (lt_s (lt_s (lt_s (lt_s (lt_s (lt_s (lt_s (lt_s (lt_s (lt_s (lt_s (lt_s (lt_s (lt_s (lt_s (lt_s (lt_s lt_0 (mq_3 (i := 56) rfl rfl)) (mq_3 (i := 58) rfl rfl)) (mq_3 (i := 60) rfl rfl)) (mq_3 (i := 62) rfl rfl)) (mq_3 (i := 64) rfl rfl)) (mq_3 (i := 66) rfl rfl)) (mq_3 (i := 68) rfl rfl)) (mq_3 (i := 70) rfl rfl)) (mq_3 (i := 72) rfl rfl)) (mq_3 (i := 74) rfl rfl)) (mq_3 (i := 76) rfl rfl)) (mq_3 (i := 78) rfl rfl)) (mq_3 (i := 80) rfl rfl)) (mq_3 (i := 82) rfl rfl)) (mq_3 (i := 84) rfl rfl)) (mq_3 (i := 86) rfl rfl)) (mq_3 (i := 88) rfl rfl)) (mq_3 (i := 90) rfl rfl)) (mq_3 (i := 92) rfl rfl))
set_option maxRecDepth 20000 in
theorem i_X3 : ∀ w ∈ u_ws RX3 TX3 20, w ∈ gw := uw_of (lt_s (lt_s (lt_s (lt_s (lt_s (lt_s (lt_s (lt_s (lt_s (lt_s (lt_s (lt_s (lt_s (lt_s (lt_s (lt_s (lt_s (lt_s (lt_s (lt_s lt_0 (mq_4 (i := 17) rfl rfl)) (mq_4 (i := 19) rfl rfl)) (mq_4 (i := 21) rfl rfl)) (mq_4 (i := 23) rfl rfl)) (mq_4 (i := 25) rfl rfl)) (mq_4 (i := 27) rfl rfl)) (mq_4 (i := 29) rfl rfl)) (mq_4 (i := 31) rfl rfl)) (mq_4 (i := 33) rfl rfl)) (mq_4 (i := 35) rfl rfl)) (mq_4 (i := 37) rfl rfl)) (mq_4 (i := 39) rfl rfl)) (mq_4 (i := 41) rfl rfl)) (mq_4 (i := 43) rfl rfl)) (mq_4 (i := 45) rfl rfl)) (mq_4 (i := 47) rfl rfl)) (mq_4 (i := 49) rfl rfl)) (mq_4 (i := 51) rfl rfl)) (mq_4 (i := 53) rfl rfl)) (mq_4 (i := 55) rfl rfl))
set_option maxRecDepth 20000 in
theorem i_X11 : ∀ w ∈ u_ws RX11 TX11 11, w ∈ gw := uw_of (lt_s (lt_s (lt_s (lt_s (lt_s (lt_s (lt_s (lt_s (lt_s (lt_s (lt_s lt_0 (mq_4 (i := 71) rfl rfl)) (mq_4 (i := 73) rfl rfl)) (mq_4 (i := 75) rfl rfl)) (mq_4 (i := 77) rfl rfl)) (mq_4 (i := 79) rfl rfl)) (mq_4 (i := 81) rfl rfl)) (mq_4 (i := 83) rfl rfl)) (mq_4 (i := 85) rfl rfl)) (mq_4 (i := 87) rfl rfl)) (mq_4 (i := 89) rfl rfl)) (mq_4 (i := 91) rfl rfl))
theorem qw0 : Cond.methodLink RX10 3 objectInit ∈ gw := mq_1 (i := 60) rfl rfl
theorem qw1 : Cond.instanceMethod objectInit ∈ gw := mq_1 (i := 53) rfl rfl
theorem qw2 : Cond.arrayClass Jvm.ClassFile.FieldType.int ∈ gw := mq_1 (i := 91) rfl rfl
theorem qw3 : Cond.fieldLink RX10 9 "Gearbox$Tokens" "tape" "[I" ∈ gw := mq_1 (i := 61) rfl rfl
theorem qw4 : Cond.methodLink RX6 3 objectInit ∈ gw := mq_3 (i := 161) rfl rfl
theorem qw5 : Cond.arrayClass Jvm.ClassFile.FieldType.long ∈ gw := mq_1 (i := 154) rfl rfl
theorem qw6 : Cond.fieldLink RX6 9 "Gearbox$Program" "name" "[J" ∈ gw := mq_3 (i := 166) rfl rfl
theorem qw7 : Cond.fieldLink RX6 15 "Gearbox$Program" "namePlace" "[I" ∈ gw := mq_3 (i := 168) rfl rfl
theorem qw8 : Cond.fieldLink RX6 19 "Gearbox$Program" "parameters" "[I" ∈ gw := mq_3 (i := 171) rfl rfl
theorem qw9 : Cond.fieldLink RX6 22 "Gearbox$Program" "variables" "[I" ∈ gw := mq_3 (i := 176) rfl rfl
theorem qw10 : Cond.fieldLink RX6 25 "Gearbox$Program" "from" "[I" ∈ gw := mq_3 (i := 179) rfl rfl
theorem qw11 : Cond.fieldLink RX6 28 "Gearbox$Program" "to" "[I" ∈ gw := mq_3 (i := 183) rfl rfl
theorem qw12 : Cond.fieldLink RX6 31 "Gearbox$Program" "op" "[I" ∈ gw := mq_3 (i := 188) rfl rfl
theorem qw13 : Cond.fieldLink RX6 34 "Gearbox$Program" "argument" "[I" ∈ gw := mq_3 (i := 191) rfl rfl
theorem qw14 : Cond.fieldLink RX6 37 "Gearbox$Program" "ticks" "[I" ∈ gw := mq_3 (i := 195) rfl rfl
theorem qw15 : Cond.fieldLink RX6 40 "Gearbox$Program" "labelAt" "[I" ∈ gw := mq_3 (i := 198) rfl rfl
theorem qw16 : Cond.methodLink RX7 3 objectInit ∈ gw := mq_1 (i := 97) rfl rfl
theorem qw17 : Cond.fieldLink RX7 9 "Gearbox$Reader" "seenName" "[J" ∈ gw := mq_1 (i := 106) rfl rfl
theorem qw18 : Cond.fieldLink RX7 15 "Gearbox$Reader" "seenVariable" "[I" ∈ gw := mq_1 (i := 107) rfl rfl
theorem qw19 : Cond.fieldLink RX7 19 "Gearbox$Reader" "loopHead" "[I" ∈ gw := mq_1 (i := 109) rfl rfl
theorem qw20 : Cond.fieldLink RX7 22 "Gearbox$Reader" "loopEnd" "[I" ∈ gw := mq_1 (i := 110) rfl rfl
theorem qw21 : Cond.fieldLink RX7 25 "Gearbox$Reader" "callName" "[J" ∈ gw := mq_1 (i := 112) rfl rfl
theorem qw22 : Cond.fieldLink RX7 28 "Gearbox$Reader" "callOp" "[I" ∈ gw := mq_1 (i := 113) rfl rfl
theorem qw23 : Cond.fieldLink RX7 31 "Gearbox$Reader" "callPlace" "[I" ∈ gw := mq_1 (i := 114) rfl rfl
theorem qw24 : Cond.fieldLink RX7 34 "Gearbox$Reader" "callArguments" "[I" ∈ gw := mq_1 (i := 115) rfl rfl
theorem qw25 : Cond.fieldLink RX7 37 "Gearbox$Reader" "tokens" "LGearbox$Tokens;" ∈ gw := mq_1 (i := 100) rfl rfl
theorem qw26 : Cond.methodLink RX9 3 objectInit ∈ gw := mq_1 (i := 167) rfl rfl
theorem qw27 : Cond.fieldLink RX9 9 "Gearbox$Steps" "kind" "[I" ∈ gw := mq_1 (i := 172) rfl rfl
theorem qw28 : Cond.fieldLink RX9 15 "Gearbox$Steps" "gives" "[I" ∈ gw := mq_1 (i := 179) rfl rfl
theorem qw29 : Cond.fieldLink RX9 18 "Gearbox$Steps" "left" "[I" ∈ gw := mq_1 (i := 186) rfl rfl
theorem qw30 : Cond.fieldLink RX9 21 "Gearbox$Steps" "right" "[I" ∈ gw := mq_1 (i := 193) rfl rfl
theorem qw31 : Cond.fieldLink RX9 24 "Gearbox$Steps" "next" "[I" ∈ gw := mq_1 (i := 200) rfl rfl
theorem qw32 : Cond.methodLink RX1 3 objectInit ∈ gw := mq_1 (i := 161) rfl rfl
theorem qw33 : Cond.classLink RX1 9 RX9 ∈ gw := mq_1 (i := 162) rfl rfl
theorem qw34 : Cond.instantiable RX9 6 ∈ gw := mq_1 (i := 163) rfl rfl
theorem qw35 : Cond.initialized RX9 ∈ gw := mq_1 (i := 5) rfl rfl
theorem qw36 : Cond.code yX9_init cX9_init 2 (Option.none : Option Jvm.ClassFile.FieldType) ∈ gw := mq_1 (i := 166) rfl rfl
theorem qw37 : Cond.methodLink RX1 13 yX9_init ∈ gw := mq_1 (i := 164) rfl rfl
theorem qw38 : Cond.instanceMethod yX9_init ∈ gw := mq_1 (i := 165) rfl rfl
theorem qw39 : Cond.fieldLink RX1 16 "Gearbox$Flow" "steps" "LGearbox$Steps;" ∈ gw := mq_1 (i := 231) rfl rfl
theorem qw40 : Cond.fieldLink RX1 20 "Gearbox$Flow" "firstStep" "[I" ∈ gw := mq_1 (i := 237) rfl rfl
theorem qw41 : Cond.fieldLink RX1 24 "Gearbox$Flow" "lastStep" "[I" ∈ gw := mq_2 (i := 4) rfl rfl
theorem qw42 : Cond.fieldLink RX1 27 "Gearbox$Flow" "firstPhi" "[I" ∈ gw := mq_2 (i := 6) rfl rfl
theorem qw43 : Cond.fieldLink RX1 30 "Gearbox$Flow" "lastPhi" "[I" ∈ gw := mq_2 (i := 13) rfl rfl
theorem qw44 : Cond.fieldLink RX1 33 "Gearbox$Flow" "end" "[I" ∈ gw := mq_2 (i := 15) rfl rfl
theorem qw45 : Cond.fieldLink RX1 36 "Gearbox$Flow" "endValue" "[I" ∈ gw := mq_2 (i := 22) rfl rfl
theorem qw46 : Cond.fieldLink RX1 39 "Gearbox$Flow" "first" "[I" ∈ gw := mq_2 (i := 30) rfl rfl
theorem qw47 : Cond.fieldLink RX1 42 "Gearbox$Flow" "second" "[I" ∈ gw := mq_2 (i := 38) rfl rfl
theorem qw48 : Cond.fieldLink RX1 45 "Gearbox$Flow" "dominator" "[I" ∈ gw := mq_2 (i := 46) rfl rfl
theorem qw49 : Cond.fieldLink RX1 48 "Gearbox$Flow" "depth" "[I" ∈ gw := mq_2 (i := 51) rfl rfl
theorem qw50 : Cond.fieldLink RX1 51 "Gearbox$Flow" "waysBegin" "[I" ∈ gw := mq_2 (i := 55) rfl rfl
theorem qw51 : Cond.fieldLink RX1 54 "Gearbox$Flow" "ways" "[I" ∈ gw := mq_2 (i := 57) rfl rfl
theorem qw52 : Cond.fieldLink RX1 57 "Gearbox$Flow" "dominators" "[J" ∈ gw := mq_2 (i := 59) rfl rfl
theorem qw53 : Cond.fieldLink RX1 61 "Gearbox$Flow" "loop" "[J" ∈ gw := mq_2 (i := 63) rfl rfl
theorem qw54 : Cond.fieldLink RX1 64 "Gearbox$Flow" "phiGives" "[I" ∈ gw := mq_2 (i := 68) rfl rfl
theorem qw55 : Cond.fieldLink RX1 67 "Gearbox$Flow" "phiNext" "[I" ∈ gw := mq_2 (i := 74) rfl rfl
theorem qw56 : Cond.fieldLink RX1 70 "Gearbox$Flow" "takes" "[I" ∈ gw := mq_2 (i := 81) rfl rfl
theorem qw57 : Cond.methodLink RX8 3 objectInit ∈ gw := mq_2 (i := 131) rfl rfl
theorem qw58 : Cond.fieldLink RX8 9 "Gearbox$Shape" "renamed" "[I" ∈ gw := mq_2 (i := 132) rfl rfl
theorem qw59 : Cond.fieldLink RX8 15 "Gearbox$Shape" "stage" "[I" ∈ gw := mq_2 (i := 133) rfl rfl
theorem qw60 : Cond.fieldLink RX8 18 "Gearbox$Shape" "path" "[I" ∈ gw := mq_2 (i := 134) rfl rfl
theorem qw61 : Cond.fieldLink RX8 21 "Gearbox$Shape" "finished" "[I" ∈ gw := mq_2 (i := 135) rfl rfl
theorem qw62 : Cond.fieldLink RX8 24 "Gearbox$Shape" "row" "[I" ∈ gw := mq_2 (i := 136) rfl rfl
theorem qw63 : Cond.methodLink RX4 3 objectInit ∈ gw := mq_2 (i := 153) rfl rfl
theorem qw64 : Cond.fieldLink RX4 9 "Gearbox$Maker" "leftOp" "[I" ∈ gw := mq_2 (i := 155) rfl rfl
theorem qw65 : Cond.fieldLink RX4 15 "Gearbox$Maker" "rightOp" "[I" ∈ gw := mq_2 (i := 156) rfl rfl
theorem qw66 : Cond.fieldLink RX4 18 "Gearbox$Maker" "valueOf" "[I" ∈ gw := mq_2 (i := 157) rfl rfl
theorem qw67 : Cond.fieldLink RX4 21 "Gearbox$Maker" "waiting" "[I" ∈ gw := mq_2 (i := 158) rfl rfl
theorem qw68 : Cond.fieldLink RX4 24 "Gearbox$Maker" "pieceFrom" "[I" ∈ gw := mq_2 (i := 160) rfl rfl
theorem qw69 : Cond.fieldLink RX4 27 "Gearbox$Maker" "pieceTo" "[I" ∈ gw := mq_2 (i := 161) rfl rfl
theorem qw70 : Cond.fieldLink RX4 30 "Gearbox$Maker" "pieceFirst" "[I" ∈ gw := mq_2 (i := 162) rfl rfl
theorem qw71 : Cond.fieldLink RX4 33 "Gearbox$Maker" "pieceSecond" "[I" ∈ gw := mq_2 (i := 163) rfl rfl
theorem qw72 : Cond.fieldLink RX4 36 "Gearbox$Maker" "pieceWays" "[I" ∈ gw := mq_2 (i := 164) rfl rfl
theorem qw73 : Cond.fieldLink RX4 39 "Gearbox$Maker" "pieceBlock" "[I" ∈ gw := mq_2 (i := 165) rfl rfl
theorem qw74 : Cond.fieldLink RX4 42 "Gearbox$Maker" "labelPiece" "[I" ∈ gw := mq_2 (i := 166) rfl rfl
theorem qw75 : Cond.fieldLink RX4 45 "Gearbox$Maker" "found" "[I" ∈ gw := mq_2 (i := 167) rfl rfl
theorem qw76 : Cond.fieldLink RX4 48 "Gearbox$Maker" "pieceOf" "[I" ∈ gw := mq_2 (i := 168) rfl rfl
theorem qw77 : Cond.fieldLink RX4 51 "Gearbox$Maker" "uses" "[J" ∈ gw := mq_2 (i := 169) rfl rfl
theorem qw78 : Cond.fieldLink RX4 55 "Gearbox$Maker" "assigns" "[J" ∈ gw := mq_2 (i := 170) rfl rfl
theorem qw79 : Cond.fieldLink RX4 58 "Gearbox$Maker" "border" "[J" ∈ gw := mq_2 (i := 171) rfl rfl
theorem qw80 : Cond.fieldLink RX4 61 "Gearbox$Maker" "phiVariable" "[I" ∈ gw := mq_2 (i := 172) rfl rfl
theorem qw81 : Cond.fieldLink RX4 64 "Gearbox$Maker" "now" "[I" ∈ gw := mq_2 (i := 173) rfl rfl
theorem qw82 : Cond.fieldLink RX4 67 "Gearbox$Maker" "shape" "LGearbox$Shape;" ∈ gw := mq_2 (i := 154) rfl rfl
theorem qw83 : Cond.methodLink RX5 3 objectInit ∈ gw := mq_2 (i := 220) rfl rfl
theorem qw84 : Cond.fieldLink RX5 9 "Gearbox$Passes" "giver" "[I" ∈ gw := mq_2 (i := 222) rfl rfl
theorem qw85 : Cond.fieldLink RX5 15 "Gearbox$Passes" "home" "[I" ∈ gw := mq_2 (i := 223) rfl rfl
theorem qw86 : Cond.fieldLink RX5 18 "Gearbox$Passes" "state" "[I" ∈ gw := mq_2 (i := 224) rfl rfl
theorem qw87 : Cond.fieldLink RX5 21 "Gearbox$Passes" "number" "[I" ∈ gw := mq_2 (i := 225) rfl rfl
theorem qw88 : Cond.fieldLink RX5 24 "Gearbox$Passes" "standIn" "[I" ∈ gw := mq_2 (i := 226) rfl rfl
theorem qw89 : Cond.fieldLink RX5 27 "Gearbox$Passes" "marks" "[I" ∈ gw := mq_2 (i := 227) rfl rfl
theorem qw90 : Cond.fieldLink RX5 30 "Gearbox$Passes" "seenStep" "[I" ∈ gw := mq_2 (i := 229) rfl rfl
theorem qw91 : Cond.fieldLink RX5 33 "Gearbox$Passes" "seenBlock" "[I" ∈ gw := mq_2 (i := 230) rfl rfl
theorem qw92 : Cond.fieldLink RX5 36 "Gearbox$Passes" "path" "[I" ∈ gw := mq_2 (i := 232) rfl rfl
theorem qw93 : Cond.fieldLink RX5 39 "Gearbox$Passes" "shape" "LGearbox$Shape;" ∈ gw := mq_2 (i := 221) rfl rfl
theorem qw94 : Cond.methodLink RX2 3 objectInit ∈ gw := mq_3 (i := 33) rfl rfl
theorem qw95 : Cond.fieldLink RX2 11 "Gearbox$Graph" "uses" "[J" ∈ gw := mq_3 (i := 37) rfl rfl
theorem qw96 : Cond.fieldLink RX2 15 "Gearbox$Graph" "givenIn" "[J" ∈ gw := mq_3 (i := 38) rfl rfl
theorem qw97 : Cond.fieldLink RX2 18 "Gearbox$Graph" "liveIn" "[J" ∈ gw := mq_3 (i := 39) rfl rfl
theorem qw98 : Cond.fieldLink RX2 21 "Gearbox$Graph" "live" "[J" ∈ gw := mq_3 (i := 40) rfl rfl
theorem qw99 : Cond.fieldLink RX2 24 "Gearbox$Graph" "liveGuests" "[I" ∈ gw := mq_3 (i := 41) rfl rfl
theorem qw100 : Cond.fieldLink RX2 28 "Gearbox$Graph" "chain" "[I" ∈ gw := mq_3 (i := 43) rfl rfl
theorem qw101 : Cond.fieldLink RX2 31 "Gearbox$Graph" "near" "[J" ∈ gw := mq_3 (i := 44) rfl rfl
theorem qw102 : Cond.fieldLink RX2 34 "Gearbox$Graph" "mate" "[I" ∈ gw := mq_3 (i := 45) rfl rfl
theorem qw103 : Cond.fieldLink RX2 37 "Gearbox$Graph" "degree" "[I" ∈ gw := mq_3 (i := 46) rfl rfl
theorem qw104 : Cond.fieldLink RX2 40 "Gearbox$Graph" "cost" "[J" ∈ gw := mq_3 (i := 47) rfl rfl
theorem qw105 : Cond.fieldLink RX2 43 "Gearbox$Graph" "givers" "[I" ∈ gw := mq_3 (i := 48) rfl rfl
theorem qw106 : Cond.fieldLink RX2 46 "Gearbox$Graph" "giver" "[I" ∈ gw := mq_3 (i := 50) rfl rfl
theorem qw107 : Cond.fieldLink RX2 49 "Gearbox$Graph" "register" "[I" ∈ gw := mq_3 (i := 52) rfl rfl
theorem qw108 : Cond.fieldLink RX2 52 "Gearbox$Graph" "left" "[I" ∈ gw := mq_3 (i := 54) rfl rfl
theorem qw109 : Cond.fieldLink RX2 55 "Gearbox$Graph" "order" "[I" ∈ gw := mq_3 (i := 55) rfl rfl
theorem qw110 : Cond.methodLink RX0 3 objectInit ∈ gw := mq_3 (i := 23) rfl rfl
theorem qw111 : Cond.classLink RX0 9 RX1 ∈ gw := mq_3 (i := 24) rfl rfl
theorem qw112 : Cond.instantiable RX1 21 ∈ gw := mq_1 (i := 157) rfl rfl
theorem qw113 : Cond.initialized RX1 ∈ gw := mq_1 (i := 4) rfl rfl
theorem qw114 : Cond.code yX1_init cX1_init 1 (Option.none : Option Jvm.ClassFile.FieldType) ∈ gw := mq_1 (i := 160) rfl rfl
theorem qw115 : Cond.instanceMethod yX1_init ∈ gw := mq_1 (i := 159) rfl rfl
theorem qw116 : Cond.fieldLink RX0 12 "Gearbox$Allocator" "work" "LGearbox$Flow;" ∈ gw := mq_3 (i := 96) rfl rfl
theorem qw117 : Cond.classLink RX0 18 RX9 ∈ gw := mq_3 (i := 26) rfl rfl
theorem qw118 : Cond.fieldLink RX0 20 "Gearbox$Allocator" "code" "[LGearbox$Steps;" ∈ gw := mq_3 (i := 98) rfl rfl
theorem qw119 : Cond.fieldLink RX0 24 "Gearbox$Allocator" "slotCounts" "[I" ∈ gw := mq_3 (i := 101) rfl rfl
theorem qw120 : Cond.fieldLink RX0 28 "Gearbox$Allocator" "unitedCounts" "[I" ∈ gw := mq_3 (i := 104) rfl rfl
theorem qw121 : Cond.fieldLink RX0 31 "Gearbox$Allocator" "roundCounts" "[I" ∈ gw := mq_3 (i := 106) rfl rfl
theorem qw122 : Cond.classLink RX0 34 RX2 ∈ gw := mq_3 (i := 28) rfl rfl
theorem qw123 : Cond.instantiable RX2 19 ∈ gw := mq_3 (i := 29) rfl rfl
theorem qw124 : Cond.initialized RX2 ∈ gw := mq_1 (i := 10) rfl rfl
theorem qw125 : Cond.code yX2_init cX2_init 1 (Option.none : Option Jvm.ClassFile.FieldType) ∈ gw := mq_3 (i := 32) rfl rfl
theorem qw126 : Cond.instanceMethod yX2_init ∈ gw := mq_3 (i := 31) rfl rfl
theorem qw127 : Cond.fieldLink RX0 37 "Gearbox$Allocator" "graph" "LGearbox$Graph;" ∈ gw := mq_3 (i := 110) rfl rfl
theorem qw128 : Cond.fieldLink RX0 41 "Gearbox$Allocator" "slot" "[I" ∈ gw := mq_3 (i := 116) rfl rfl
theorem qw129 : Cond.fieldLink RX0 44 "Gearbox$Allocator" "number" "[I" ∈ gw := mq_3 (i := 117) rfl rfl
theorem qw130 : Cond.fieldLink RX0 47 "Gearbox$Allocator" "copyTo" "[I" ∈ gw := mq_3 (i := 118) rfl rfl
theorem qw131 : Cond.fieldLink RX0 50 "Gearbox$Allocator" "copyFrom" "[I" ∈ gw := mq_3 (i := 119) rfl rfl
theorem qw132 : Cond.fieldLink RX0 53 "Gearbox$Allocator" "lineOf" "[I" ∈ gw := mq_3 (i := 120) rfl rfl
theorem qw133 : Cond.methodLink RX0 56 yX9_init ∈ gw := mq_3 (i := 95) rfl rfl
theorem qw134 : Cond.methodLink RX3 3 objectInit ∈ gw := mq_3 (i := 232) rfl rfl
theorem qw135 : Cond.fieldLink RX3 9 "Gearbox$Machine" "memory" "[I" ∈ gw := mq_3 (i := 239) rfl rfl
theorem qw136 : Cond.fieldLink RX3 15 "Gearbox$Machine" "told" "[I" ∈ gw := mq_4 (i := 4) rfl rfl
theorem qw137 : Cond.fieldLink RX3 18 "Gearbox$Machine" "function" "[I" ∈ gw := mq_4 (i := 7) rfl rfl
theorem qw138 : Cond.fieldLink RX3 21 "Gearbox$Machine" "at" "[I" ∈ gw := mq_4 (i := 8) rfl rfl
theorem qw139 : Cond.fieldLink RX3 24 "Gearbox$Machine" "block" "[I" ∈ gw := mq_4 (i := 9) rfl rfl
theorem qw140 : Cond.fieldLink RX3 27 "Gearbox$Machine" "blockAhead" "[I" ∈ gw := mq_4 (i := 10) rfl rfl
theorem qw141 : Cond.fieldLink RX3 30 "Gearbox$Machine" "arguments" "[I" ∈ gw := mq_4 (i := 11) rfl rfl
theorem qw142 : Cond.fieldLink RX3 33 "Gearbox$Machine" "cells" "[I" ∈ gw := mq_4 (i := 12) rfl rfl
theorem qw143 : Cond.fieldLink RX3 36 "Gearbox$Machine" "slots" "[I" ∈ gw := mq_4 (i := 13) rfl rfl
theorem qw144 : Cond.fieldLink RX3 39 "Gearbox$Machine" "waiting" "[I" ∈ gw := mq_4 (i := 15) rfl rfl
theorem qw145 : Cond.fieldLink RX3 42 "Gearbox$Machine" "program" "LGearbox$Program;" ∈ gw := mq_4 (i := 1) rfl rfl
theorem qw146 : Cond.fieldLink RX3 46 "Gearbox$Machine" "flows" "[LGearbox$Flow;" ∈ gw := mq_4 (i := 2) rfl rfl
theorem qw147 : Cond.fieldLink RX3 50 "Gearbox$Machine" "allocator" "LGearbox$Allocator;" ∈ gw := mq_4 (i := 3) rfl rfl
theorem qw148 : Cond.methodLink RX11 1 objectInit ∈ gw := mq_1 (i := 52) rfl rfl
theorem qw149 : Cond.classLink RX11 7 RX10 ∈ gw := mq_1 (i := 55) rfl rfl
theorem qw150 : Cond.instantiable RX10 8 ∈ gw := mq_1 (i := 56) rfl rfl
theorem qw151 : Cond.initialized RX10 ∈ gw := mq_1 (i := 2) rfl rfl
theorem qw152 : Cond.code yX10_init cX10_init 1 (Option.none : Option Jvm.ClassFile.FieldType) ∈ gw := mq_1 (i := 59) rfl rfl
theorem qw153 : Cond.instanceMethod yX10_init ∈ gw := mq_1 (i := 58) rfl rfl
theorem qw154 : Cond.fieldLink RX11 10 "Gearbox" "tokens" "LGearbox$Tokens;" ∈ gw := mq_4 (i := 60) rfl rfl
theorem qw155 : Cond.classLink RX11 16 RX7 ∈ gw := mq_1 (i := 92) rfl rfl
theorem qw156 : Cond.instantiable RX7 18 ∈ gw := mq_1 (i := 93) rfl rfl
theorem qw157 : Cond.initialized RX7 ∈ gw := mq_1 (i := 3) rfl rfl
theorem qw158 : Cond.code yX7_init cX7_init 2 (Option.none : Option Jvm.ClassFile.FieldType) ∈ gw := mq_1 (i := 96) rfl rfl
theorem qw159 : Cond.methodLink RX11 18 yX7_init ∈ gw := mq_1 (i := 94) rfl rfl
theorem qw160 : Cond.instanceMethod yX7_init ∈ gw := mq_1 (i := 95) rfl rfl
theorem qw161 : Cond.fieldLink RX11 21 "Gearbox" "reader" "LGearbox$Reader;" ∈ gw := mq_4 (i := 61) rfl rfl
theorem qw162 : Cond.classLink RX11 25 RX1 ∈ gw := mq_1 (i := 155) rfl rfl
theorem qw163 : Cond.fieldLink RX11 27 "Gearbox" "flows" "[LGearbox$Flow;" ∈ gw := mq_4 (i := 62) rfl rfl
theorem qw164 : Cond.classLink RX11 32 RX8 ∈ gw := mq_2 (i := 126) rfl rfl
theorem qw165 : Cond.instantiable RX8 5 ∈ gw := mq_2 (i := 127) rfl rfl
theorem qw166 : Cond.initialized RX8 ∈ gw := mq_1 (i := 6) rfl rfl
theorem qw167 : Cond.code yX8_init cX8_init 1 (Option.none : Option Jvm.ClassFile.FieldType) ∈ gw := mq_2 (i := 130) rfl rfl
theorem qw168 : Cond.instanceMethod yX8_init ∈ gw := mq_2 (i := 129) rfl rfl
theorem qw169 : Cond.classLink RX11 35 RX4 ∈ gw := mq_2 (i := 148) rfl rfl
theorem qw170 : Cond.instantiable RX4 20 ∈ gw := mq_2 (i := 149) rfl rfl
theorem qw171 : Cond.initialized RX4 ∈ gw := mq_1 (i := 7) rfl rfl
theorem qw172 : Cond.code yX4_init cX4_init 2 (Option.none : Option Jvm.ClassFile.FieldType) ∈ gw := mq_2 (i := 152) rfl rfl
theorem qw173 : Cond.methodLink RX11 37 yX4_init ∈ gw := mq_2 (i := 150) rfl rfl
theorem qw174 : Cond.instanceMethod yX4_init ∈ gw := mq_2 (i := 151) rfl rfl
theorem qw175 : Cond.fieldLink RX11 40 "Gearbox" "maker" "LGearbox$Maker;" ∈ gw := mq_4 (i := 63) rfl rfl
theorem qw176 : Cond.classLink RX11 44 RX5 ∈ gw := mq_2 (i := 215) rfl rfl
theorem qw177 : Cond.instantiable RX5 12 ∈ gw := mq_2 (i := 216) rfl rfl
theorem qw178 : Cond.initialized RX5 ∈ gw := mq_1 (i := 8) rfl rfl
theorem qw179 : Cond.code yX5_init cX5_init 2 (Option.none : Option Jvm.ClassFile.FieldType) ∈ gw := mq_2 (i := 219) rfl rfl
theorem qw180 : Cond.methodLink RX11 46 yX5_init ∈ gw := mq_2 (i := 217) rfl rfl
theorem qw181 : Cond.instanceMethod yX5_init ∈ gw := mq_2 (i := 218) rfl rfl
theorem qw182 : Cond.fieldLink RX11 47 "Gearbox" "passes" "LGearbox$Passes;" ∈ gw := mq_4 (i := 64) rfl rfl
theorem qw183 : Cond.classLink RX11 51 RX0 ∈ gw := mq_3 (i := 18) rfl rfl
theorem qw184 : Cond.instantiable RX0 17 ∈ gw := mq_3 (i := 19) rfl rfl
theorem qw185 : Cond.initialized RX0 ∈ gw := mq_1 (i := 9) rfl rfl
theorem qw186 : Cond.code yX0_init cX0_init 2 (Option.none : Option Jvm.ClassFile.FieldType) ∈ gw := mq_3 (i := 22) rfl rfl
theorem qw187 : Cond.methodLink RX11 53 yX0_init ∈ gw := mq_3 (i := 20) rfl rfl
theorem qw188 : Cond.instanceMethod yX0_init ∈ gw := mq_3 (i := 21) rfl rfl
theorem qw189 : Cond.fieldLink RX11 54 "Gearbox" "allocator" "LGearbox$Allocator;" ∈ gw := mq_4 (i := 65) rfl rfl
theorem qw190 : Cond.classLink RX11 58 RX6 ∈ gw := mq_3 (i := 156) rfl rfl
theorem qw191 : Cond.instantiable RX6 13 ∈ gw := mq_3 (i := 157) rfl rfl
theorem qw192 : Cond.initialized RX6 ∈ gw := mq_1 (i := 11) rfl rfl
theorem qw193 : Cond.code yX6_init cX6_init 1 (Option.none : Option Jvm.ClassFile.FieldType) ∈ gw := mq_3 (i := 160) rfl rfl
theorem qw194 : Cond.instanceMethod yX6_init ∈ gw := mq_3 (i := 159) rfl rfl
theorem qw195 : Cond.fieldLink RX11 61 "Gearbox" "program" "LGearbox$Program;" ∈ gw := mq_4 (i := 68) rfl rfl
theorem qw196 : Cond.fieldLink RX11 65 "Gearbox" "spare" "LGearbox$Program;" ∈ gw := mq_4 (i := 69) rfl rfl
theorem qw197 : Cond.classLink RX11 68 RX3 ∈ gw := mq_3 (i := 227) rfl rfl
theorem qw198 : Cond.instantiable RX3 20 ∈ gw := mq_3 (i := 228) rfl rfl
theorem qw199 : Cond.initialized RX3 ∈ gw := mq_1 (i := 12) rfl rfl
theorem qw200 : Cond.code yX3_init cX3_init 4 (Option.none : Option Jvm.ClassFile.FieldType) ∈ gw := mq_3 (i := 231) rfl rfl
theorem qw201 : Cond.methodLink RX11 70 yX3_init ∈ gw := mq_3 (i := 229) rfl rfl
theorem qw202 : Cond.instanceMethod yX3_init ∈ gw := mq_3 (i := 230) rfl rfl
theorem qw203 : Cond.fieldLink RX11 73 "Gearbox" "machine" "LGearbox$Machine;" ∈ gw := mq_4 (i := 66) rfl rfl
theorem qw204 : Cond.classLink RX11 77 "[[I" ∈ gw := mq_4 (i := 58) rfl rfl
theorem qw205 : Cond.fieldLink RX11 79 "Gearbox" "ends" "[[I" ∈ gw := mq_4 (i := 67) rfl rfl
theorem qw206 : Cond.fieldLink RX11 82 "Gearbox" "errorPlace" "I" ∈ gw := mq_4 (i := 70) rfl rfl
