/-! words by their places -/
theorem qw_oi : Cond.code objectInit ⟨#[0xb1]⟩ 1 none ∈ gw := mk_q (i := 54) (by decide +kernel) rfl
set_option maxRecDepth 20000 in
theorem i_X10 : ∀ w ∈ u_ws RX10 TX10 8, w ∈ gw := mk_l [74, 76, 78, 80, 82, 84, 86, 88] (by decide +kernel) (by decide +kernel)
set_option maxRecDepth 20000 in
theorem i_X7 : ∀ w ∈ u_ws RX7 TX7 18, w ∈ gw := mk_l [117, 119, 121, 123, 125, 127, 129, 131, 133, 135, 137, 139, 141, 143, 145, 147, 149, 151] (by decide +kernel) (by decide +kernel)
set_option maxRecDepth 20000 in
theorem i_X6 : ∀ w ∈ u_ws RX6 TX6 13, w ∈ gw := mk_l [680, 682, 684, 686, 688, 690, 692, 694, 696, 698, 700, 702, 704] (by decide +kernel) (by decide +kernel)
set_option maxRecDepth 20000 in
theorem i_X9 : ∀ w ∈ u_ws RX9 TX9 6, w ∈ gw := mk_l [207, 209, 211, 213, 215, 217] (by decide +kernel) (by decide +kernel)
set_option maxRecDepth 20000 in
theorem i_X1 : ∀ w ∈ u_ws RX1 TX1 21, w ∈ gw := mk_l [323, 325, 327, 329, 331, 333, 335, 337, 339, 341, 343, 345, 347, 349, 351, 353, 355, 357, 359, 361, 363] (by decide +kernel) (by decide +kernel)
set_option maxRecDepth 20000 in
theorem i_X8 : ∀ w ∈ u_ws RX8 TX8 5, w ∈ gw := mk_l [377, 379, 381, 383, 385] (by decide +kernel) (by decide +kernel)
set_option maxRecDepth 20000 in
theorem i_X4 : ∀ w ∈ u_ws RX4 TX4 20, w ∈ gw := mk_l [414, 416, 418, 420, 422, 424, 426, 428, 430, 432, 434, 436, 438, 440, 442, 444, 446, 448, 450, 452] (by decide +kernel) (by decide +kernel)
set_option maxRecDepth 20000 in
theorem i_X5 : ∀ w ∈ u_ws RX5 TX5 12, w ∈ gw := mk_l [473, 475, 477, 479, 481, 483, 485, 487, 489, 491, 493, 495] (by decide +kernel) (by decide +kernel)
set_option maxRecDepth 20000 in
theorem i_X0 : ∀ w ∈ u_ws RX0 TX0 17, w ∈ gw := mk_l [601, 603, 605, 607, 609, 611, 613, 615, 617, 619, 621, 623, 625, 627, 629, 631, 633] (by decide +kernel) (by decide +kernel)
set_option maxRecDepth 20000 in
theorem i_X2 : ∀ w ∈ u_ws RX2 TX2 19, w ∈ gw := mk_l [536, 538, 540, 542, 544, 546, 548, 550, 552, 554, 556, 558, 560, 562, 564, 566, 568, 570, 572] (by decide +kernel) (by decide +kernel)
set_option maxRecDepth 20000 in
theorem i_X3 : ∀ w ∈ u_ws RX3 TX3 20, w ∈ gw := mk_l [737, 739, 741, 743, 745, 747, 749, 751, 753, 755, 757, 759, 761, 763, 765, 767, 769, 771, 773, 775] (by decide +kernel) (by decide +kernel)
set_option maxRecDepth 20000 in
theorem i_X11 : ∀ w ∈ u_ws RX11 TX11 11, w ∈ gw := mk_l [791, 793, 795, 797, 799, 801, 803, 805, 807, 809, 811] (by decide +kernel) (by decide +kernel)
theorem qw0 : Cond.methodLink RX10 3 objectInit ∈ gw := mk_q (i := 60) (by decide +kernel) rfl
theorem qw1 : Cond.instanceMethod objectInit ∈ gw := mk_q (i := 53) (by decide +kernel) rfl
theorem qw2 : Cond.arrayClass Jvm.ClassFile.FieldType.int ∈ gw := mk_q (i := 91) (by decide +kernel) rfl
theorem qw3 : Cond.fieldLink RX10 9 "Gearbox$Tokens" "tape" "[I" ∈ gw := mk_q (i := 61) (by decide +kernel) rfl
theorem qw4 : Cond.methodLink RX6 3 objectInit ∈ gw := mk_q (i := 641) (by decide +kernel) rfl
theorem qw5 : Cond.arrayClass Jvm.ClassFile.FieldType.long ∈ gw := mk_q (i := 154) (by decide +kernel) rfl
theorem qw6 : Cond.fieldLink RX6 9 "Gearbox$Program" "name" "[J" ∈ gw := mk_q (i := 646) (by decide +kernel) rfl
theorem qw7 : Cond.fieldLink RX6 15 "Gearbox$Program" "namePlace" "[I" ∈ gw := mk_q (i := 648) (by decide +kernel) rfl
theorem qw8 : Cond.fieldLink RX6 19 "Gearbox$Program" "parameters" "[I" ∈ gw := mk_q (i := 651) (by decide +kernel) rfl
theorem qw9 : Cond.fieldLink RX6 22 "Gearbox$Program" "variables" "[I" ∈ gw := mk_q (i := 656) (by decide +kernel) rfl
theorem qw10 : Cond.fieldLink RX6 25 "Gearbox$Program" "from" "[I" ∈ gw := mk_q (i := 659) (by decide +kernel) rfl
theorem qw11 : Cond.fieldLink RX6 28 "Gearbox$Program" "to" "[I" ∈ gw := mk_q (i := 663) (by decide +kernel) rfl
theorem qw12 : Cond.fieldLink RX6 31 "Gearbox$Program" "op" "[I" ∈ gw := mk_q (i := 668) (by decide +kernel) rfl
theorem qw13 : Cond.fieldLink RX6 34 "Gearbox$Program" "argument" "[I" ∈ gw := mk_q (i := 671) (by decide +kernel) rfl
theorem qw14 : Cond.fieldLink RX6 37 "Gearbox$Program" "ticks" "[I" ∈ gw := mk_q (i := 675) (by decide +kernel) rfl
theorem qw15 : Cond.fieldLink RX6 40 "Gearbox$Program" "labelAt" "[I" ∈ gw := mk_q (i := 678) (by decide +kernel) rfl
theorem qw16 : Cond.methodLink RX7 3 objectInit ∈ gw := mk_q (i := 97) (by decide +kernel) rfl
theorem qw17 : Cond.fieldLink RX7 9 "Gearbox$Reader" "seenName" "[J" ∈ gw := mk_q (i := 106) (by decide +kernel) rfl
theorem qw18 : Cond.fieldLink RX7 15 "Gearbox$Reader" "seenVariable" "[I" ∈ gw := mk_q (i := 107) (by decide +kernel) rfl
theorem qw19 : Cond.fieldLink RX7 19 "Gearbox$Reader" "loopHead" "[I" ∈ gw := mk_q (i := 109) (by decide +kernel) rfl
theorem qw20 : Cond.fieldLink RX7 22 "Gearbox$Reader" "loopEnd" "[I" ∈ gw := mk_q (i := 110) (by decide +kernel) rfl
theorem qw21 : Cond.fieldLink RX7 25 "Gearbox$Reader" "callName" "[J" ∈ gw := mk_q (i := 112) (by decide +kernel) rfl
theorem qw22 : Cond.fieldLink RX7 28 "Gearbox$Reader" "callOp" "[I" ∈ gw := mk_q (i := 113) (by decide +kernel) rfl
theorem qw23 : Cond.fieldLink RX7 31 "Gearbox$Reader" "callPlace" "[I" ∈ gw := mk_q (i := 114) (by decide +kernel) rfl
theorem qw24 : Cond.fieldLink RX7 34 "Gearbox$Reader" "callArguments" "[I" ∈ gw := mk_q (i := 115) (by decide +kernel) rfl
theorem qw25 : Cond.fieldLink RX7 37 "Gearbox$Reader" "tokens" "LGearbox$Tokens;" ∈ gw := mk_q (i := 100) (by decide +kernel) rfl
