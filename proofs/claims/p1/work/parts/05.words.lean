/-! words by their places -/
theorem qw_oi : Cond.code objectInit ⟨#[0xb1]⟩ 1 none ∈ gw := mq_1 (i := 54) rfl rfl
set_option maxRecDepth 20000 in
theorem i_X10 : ∀ w ∈ u_ws RX10 TX10 8, w ∈ gw := uw_of (lt_s (lt_s (lt_s (lt_s (lt_s (lt_s (lt_s (lt_s lt_0 (mq_1 (i := 74) rfl rfl)) (mq_1 (i := 76) rfl rfl)) (mq_1 (i := 78) rfl rfl)) (mq_1 (i := 80) rfl rfl)) (mq_1 (i := 82) rfl rfl)) (mq_1 (i := 84) rfl rfl)) (mq_1 (i := 86) rfl rfl)) (mq_1 (i := 88) rfl rfl))
set_option maxRecDepth 20000 in
theorem i_X7 : ∀ w ∈ u_ws RX7 TX7 18, w ∈ gw := uw_of (lt_s (lt_s (lt_s (lt_s (lt_s (lt_s (lt_s (lt_s (lt_s (lt_s (lt_s (lt_s (lt_s (lt_s (lt_s (lt_s (lt_s (lt_s lt_0 (mq_1 (i := 117) rfl rfl)) (mq_1 (i := 119) rfl rfl)) (mq_1 (i := 121) rfl rfl)) (mq_1 (i := 123) rfl rfl)) (mq_1 (i := 125) rfl rfl)) (mq_1 (i := 127) rfl rfl)) (mq_1 (i := 129) rfl rfl)) (mq_1 (i := 131) rfl rfl)) (mq_1 (i := 133) rfl rfl)) (mq_1 (i := 135) rfl rfl)) (mq_1 (i := 137) rfl rfl)) (mq_1 (i := 139) rfl rfl)) (mq_1 (i := 141) rfl rfl)) (mq_1 (i := 143) rfl rfl)) (mq_1 (i := 145) rfl rfl)) (mq_1 (i := 147) rfl rfl)) (mq_1 (i := 149) rfl rfl)) (mq_1 (i := 151) rfl rfl))
set_option maxRecDepth 20000 in
theorem i_X6 : ∀ w ∈ u_ws RX6 TX6 13, w ∈ gw := uw_of (lt_s (lt_s (lt_s (lt_s (lt_s (lt_s (lt_s (lt_s (lt_s (lt_s (lt_s (lt_s (lt_s lt_0 (mq_3 (i := 200) rfl rfl)) (mq_3 (i := 202) rfl rfl)) (mq_3 (i := 204) rfl rfl)) (mq_3 (i := 206) rfl rfl)) (mq_3 (i := 208) rfl rfl)) (mq_3 (i := 210) rfl rfl)) (mq_3 (i := 212) rfl rfl)) (mq_3 (i := 214) rfl rfl)) (mq_3 (i := 216) rfl rfl)) (mq_3 (i := 218) rfl rfl)) (mq_3 (i := 220) rfl rfl)) (mq_3 (i := 222) rfl rfl)) (mq_3 (i := 224) rfl rfl))
set_option maxRecDepth 20000 in
theorem i_X9 : ∀ w ∈ u_ws RX9 TX9 6, w ∈ gw := uw_of (lt_s (lt_s (lt_s (lt_s (lt_s (lt_s lt_0 (mq_1 (i := 207) rfl rfl)) (mq_1 (i := 209) rfl rfl)) (mq_1 (i := 211) rfl rfl)) (mq_1 (i := 213) rfl rfl)) (mq_1 (i := 215) rfl rfl)) (mq_1 (i := 217) rfl rfl))
set_option maxRecDepth 20000 in
theorem i_X1 : ∀ w ∈ u_ws RX1 TX1 21, w ∈ gw := uw_of (lt_s (lt_s (lt_s (lt_s (lt_s (lt_s (lt_s (lt_s (lt_s (lt_s (lt_s (lt_s (lt_s (lt_s (lt_s (lt_s (lt_s (lt_s (lt_s (lt_s (lt_s lt_0 (mq_2 (i := 83) rfl rfl)) (mq_2 (i := 85) rfl rfl)) (mq_2 (i := 87) rfl rfl)) (mq_2 (i := 89) rfl rfl)) (mq_2 (i := 91) rfl rfl)) (mq_2 (i := 93) rfl rfl)) (mq_2 (i := 95) rfl rfl)) (mq_2 (i := 97) rfl rfl)) (mq_2 (i := 99) rfl rfl)) (mq_2 (i := 101) rfl rfl)) (mq_2 (i := 103) rfl rfl)) (mq_2 (i := 105) rfl rfl)) (mq_2 (i := 107) rfl rfl)) (mq_2 (i := 109) rfl rfl)) (mq_2 (i := 111) rfl rfl)) (mq_2 (i := 113) rfl rfl)) (mq_2 (i := 115) rfl rfl)) (mq_2 (i := 117) rfl rfl)) (mq_2 (i := 119) rfl rfl)) (mq_2 (i := 121) rfl rfl)) (mq_2 (i := 123) rfl rfl))
set_option maxRecDepth 20000 in
theorem i_X8 : ∀ w ∈ u_ws RX8 TX8 5, w ∈ gw := uw_of (lt_s (lt_s (lt_s (lt_s (lt_s lt_0 (mq_2 (i := 137) rfl rfl)) (mq_2 (i := 139) rfl rfl)) (mq_2 (i := 141) rfl rfl)) (mq_2 (i := 143) rfl rfl)) (mq_2 (i := 145) rfl rfl))
set_option maxRecDepth 20000 in
theorem i_X4 : ∀ w ∈ u_ws RX4 TX4 20, w ∈ gw := uw_of (lt_s (lt_s (lt_s (lt_s (lt_s (lt_s (lt_s (lt_s (lt_s (lt_s (lt_s (lt_s (lt_s (lt_s (lt_s (lt_s (lt_s (lt_s (lt_s (lt_s lt_0 (mq_2 (i := 174) rfl rfl)) (mq_2 (i := 176) rfl rfl)) (mq_2 (i := 178) rfl rfl)) (mq_2 (i := 180) rfl rfl)) (mq_2 (i := 182) rfl rfl)) (mq_2 (i := 184) rfl rfl)) (mq_2 (i := 186) rfl rfl)) (mq_2 (i := 188) rfl rfl)) (mq_2 (i := 190) rfl rfl)) (mq_2 (i := 192) rfl rfl)) (mq_2 (i := 194) rfl rfl)) (mq_2 (i := 196) rfl rfl)) (mq_2 (i := 198) rfl rfl)) (mq_2 (i := 200) rfl rfl)) (mq_2 (i := 202) rfl rfl)) (mq_2 (i := 204) rfl rfl)) (mq_2 (i := 206) rfl rfl)) (mq_2 (i := 208) rfl rfl)) (mq_2 (i := 210) rfl rfl)) (mq_2 (i := 212) rfl rfl))
set_option maxRecDepth 20000 in
theorem i_X5 : ∀ w ∈ u_ws RX5 TX5 12, w ∈ gw := uw_of (lt_s (lt_s (lt_s (lt_s (lt_s (lt_s (lt_s (lt_s (lt_s (lt_s (lt_s (lt_s lt_0 (mq_2 (i := 233) rfl rfl)) (mq_2 (i := 235) rfl rfl)) (mq_2 (i := 237) rfl rfl)) (mq_2 (i := 239) rfl rfl)) (mq_3 (i := 1) rfl rfl)) (mq_3 (i := 3) rfl rfl)) (mq_3 (i := 5) rfl rfl)) (mq_3 (i := 7) rfl rfl)) (mq_3 (i := 9) rfl rfl)) (mq_3 (i := 11) rfl rfl)) (mq_3 (i := 13) rfl rfl)) (mq_3 (i := 15) rfl rfl))
set_option maxRecDepth 20000 in
theorem i_X0 : ∀ w ∈ u_ws RX0 TX0 17, w ∈ gw := uw_of (lt_s (lt_s (lt_s (lt_s (lt_s (lt_s (lt_s (lt_s (lt_s (lt_s (lt_s (lt_s (lt_s (lt_s (lt_s (lt_s (lt_s lt_0 (mq_3 (i := 121) rfl rfl)) (mq_3 (i := 123) rfl rfl)) (mq_3 (i := 125) rfl rfl)) (mq_3 (i := 127) rfl rfl)) (mq_3 (i := 129) rfl rfl)) (mq_3 (i := 131) rfl rfl)) (mq_3 (i := 133) rfl rfl)) (mq_3 (i := 135) rfl rfl)) (mq_3 (i := 137) rfl rfl)) (mq_3 (i := 139) rfl rfl)) (mq_3 (i := 141) rfl rfl)) (mq_3 (i := 143) rfl rfl)) (mq_3 (i := 145) rfl rfl)) (mq_3 (i := 147) rfl rfl)) (mq_3 (i := 149) rfl rfl)) (mq_3 (i := 151) rfl rfl)) (mq_3 (i := 153) rfl rfl))
set_option maxRecDepth 20000 in
theorem i_X2 : ∀ w ∈ u_ws RX2 TX2 19, w ∈ gw := uw_of (lt_s (lt_s (lt_s (lt_s (lt_s (lt_s (lt_s (lt_s (lt_s (lt_s (lt_s (lt_s (lt_s (lt_s (lt_s (lt_s (lt_s (lt_s (lt_s lt_0 (mq_3 (i := 56) rfl rfl)) (mq_3 (i := 58) rfl rfl)) (mq_3 (i := 60) rfl rfl)) (mq_3 (i := 62) rfl rfl)) (mq_3 (i := 64) rfl rfl)) (mq_3 (i := 66) rfl rfl)) (mq_3 (i := 68) rfl rfl)) (mq_3 (i := 70) rfl rfl)) (mq_3 (i := 72) rfl rfl)) (mq_3 (i := 74) rfl rfl)) (mq_3 (i := 76) rfl rfl)) (mq_3 (i := 78) rfl rfl)) (mq_3 (i := 80) rfl rfl)) (mq_3 (i := 82) rfl rfl)) (mq_3 (i := 84) rfl rfl)) (mq_3 (i := 86) rfl rfl)) (mq_3 (i := 88) rfl rfl)) (mq_3 (i := 90) rfl rfl)) (mq_3 (i := 92) rfl rfl))
set_option maxRecDepth 20000 in
theorem i_X3 : ∀ w ∈ u_ws RX3 TX3 20, w ∈ gw := uw_of (lt_s (lt_s (lt_s (lt_s (lt_s (lt_s (lt_s (lt_s (lt_s (lt_s (lt_s (lt_s (lt_s (lt_s (lt_s (lt_s (lt_s (lt_s (lt_s (lt_s lt_0 (mq_4 (i := 17) rfl rfl)) (mq_4 (i := 19) rfl rfl)) (mq_4 (i := 21) rfl rfl)) (mq_4 (i := 23) rfl rfl)) (mq_4 (i := 25) rfl rfl)) (mq_4 (i := 27) rfl rfl)) (mq_4 (i := 29) rfl rfl)) (mq_4 (i := 31) rfl rfl)) (mq_4 (i := 33) rfl rfl)) (mq_4 (i := 35) rfl rfl)) (mq_4 (i := 37) rfl rfl)) (mq_4 (i := 39) rfl rfl)) (mq_4 (i := 41) rfl rfl)) (mq_4 (i := 43) rfl rfl)) (mq_4 (i := 45) rfl rfl)) (mq_4 (i := 47) rfl rfl)) (mq_4 (i := 49) rfl rfl)) (mq_4 (i := 51) rfl rfl)) (mq_4 (i := 53) rfl rfl)) (mq_4 (i := 55) rfl rfl))
set_option maxRecDepth 20000 in
theorem i_X11 : ∀ w ∈ u_ws RX11 TX11 11, w ∈ gw := uw_of (lt_s (lt_s (lt_s (lt_s (lt_s (lt_s (lt_s (lt_s (lt_s (lt_s (lt_s lt_0 (mq_4 (i := 71) rfl rfl)) (mq_4 (i := 73) rfl rfl)) (mq_4 (i := 75) rfl rfl)) (mq_4 (i := 77) rfl rfl)) (mq_4 (i := 79) rfl rfl)) (mq_4 (i := 81) rfl rfl)) (mq_4 (i := 83) rfl rfl)) (mq_4 (i := 85) rfl rfl)) (mq_4 (i := 87) rfl rfl)) (mq_4 (i := 89) rfl rfl)) (mq_4 (i := 91) rfl rfl))
theorem qw0 : Cond.methodLink RX10 3 objectInit ∈ gw := mq_1 (i := 60) rfl rfl
theorem qw1 : Cond.instanceMethod objectInit ∈ gw := mq_1 (i := 53) rfl rfl
theorem qw2 : Cond.arrayClass Jvm.ClassFile.FieldType.int ∈ gw := mq_1 (i := 91) rfl rfl
theorem qw3 : Cond.fieldLink RX10 9 "Gearbox$Tokens" "tape" "[I" ∈ gw := mq_1 (i := 61) rfl rfl
theorem qw4 : Cond.methodLink RX6 3 objectInit ∈ gw := mq_3 (i := 161) rfl rfl
theorem qw5 : Cond.arrayClass Jvm.ClassFile.FieldType.long ∈ gw := mq_1 (i := 154) rfl rfl
theorem qw6 : Cond.fieldLink RX6 9 "Gearbox$Program" "name" "[J" ∈ gw := mq_3 (i := 166) rfl rfl
theorem qw7 : Cond.fieldLink RX6 15 "Gearbox$Program" "namePlace" "[I" ∈ gw := mq_3 (i := 168) rfl rfl
theorem qw8 : Cond.fieldLink RX6 19 "Gearbox$Program" "parameters" "[I" ∈ gw := mq_3 (i := 171) rfl rfl
theorem qw9 : Cond.fieldLink RX6 22 "Gearbox$Program" "variables" "[I" ∈ gw := mq_3 (i := 176) rfl rfl
theorem qw10 : Cond.fieldLink RX6 25 "Gearbox$Program" "from" "[I" ∈ gw := mq_3 (i := 179) rfl rfl
theorem qw11 : Cond.fieldLink RX6 28 "Gearbox$Program" "to" "[I" ∈ gw := mq_3 (i := 183) rfl rfl
theorem qw12 : Cond.fieldLink RX6 31 "Gearbox$Program" "op" "[I" ∈ gw := mq_3 (i := 188) rfl rfl
theorem qw13 : Cond.fieldLink RX6 34 "Gearbox$Program" "argument" "[I" ∈ gw := mq_3 (i := 191) rfl rfl
theorem qw14 : Cond.fieldLink RX6 37 "Gearbox$Program" "ticks" "[I" ∈ gw := mq_3 (i := 195) rfl rfl
theorem qw15 : Cond.fieldLink RX6 40 "Gearbox$Program" "labelAt" "[I" ∈ gw := mq_3 (i := 198) rfl rfl
theorem qw16 : Cond.methodLink RX7 3 objectInit ∈ gw := mq_1 (i := 97) rfl rfl
theorem qw17 : Cond.fieldLink RX7 9 "Gearbox$Reader" "seenName" "[J" ∈ gw := mq_1 (i := 106) rfl rfl
theorem qw18 : Cond.fieldLink RX7 15 "Gearbox$Reader" "seenVariable" "[I" ∈ gw := mq_1 (i := 107) rfl rfl
theorem qw19 : Cond.fieldLink RX7 19 "Gearbox$Reader" "loopHead" "[I" ∈ gw := mq_1 (i := 109) rfl rfl
theorem qw20 : Cond.fieldLink RX7 22 "Gearbox$Reader" "loopEnd" "[I" ∈ gw := mq_1 (i := 110) rfl rfl
theorem qw21 : Cond.fieldLink RX7 25 "Gearbox$Reader" "callName" "[J" ∈ gw := mq_1 (i := 112) rfl rfl
theorem qw22 : Cond.fieldLink RX7 28 "Gearbox$Reader" "callOp" "[I" ∈ gw := mq_1 (i := 113) rfl rfl
theorem qw23 : Cond.fieldLink RX7 31 "Gearbox$Reader" "callPlace" "[I" ∈ gw := mq_1 (i := 114) rfl rfl
theorem qw24 : Cond.fieldLink RX7 34 "Gearbox$Reader" "callArguments" "[I" ∈ gw := mq_1 (i := 115) rfl rfl
theorem qw25 : Cond.fieldLink RX7 37 "Gearbox$Reader" "tokens" "LGearbox$Tokens;" ∈ gw := mq_1 (i := 100) rfl rfl
