set_option maxRecDepth 20000 in
theorem fl_X1_9 : Cond.fieldLink RX1 9 "HundredBoxes$Order" "row" "[I" ∈ gt := gt_tb 25 (by decide +kernel) rfl
set_option maxRecDepth 20000 in
theorem fl_X1_15 : Cond.fieldLink RX1 15 "HundredBoxes$Order" "made" "[I" ∈ gt := gt_tb 26 (by decide +kernel) rfl
set_option maxRecDepth 20000 in
theorem fl_X1_24 : Cond.fieldLink RX1 24 "HundredBoxes$Order" "size" "I" ∈ gt := gt_tb 27 (by decide +kernel) rfl
set_option maxRecDepth 20000 in
theorem fl_X0_11 : Cond.fieldLink RX0 11 "HundredBoxes$Lists" "boxes" "[[I" ∈ gt := gt_tb 45 (by decide +kernel) rfl
set_option maxRecDepth 20000 in
theorem fl_X0_16 : Cond.fieldLink RX0 16 "HundredBoxes$Lists" "lengths" "[I" ∈ gt := gt_tb 46 (by decide +kernel) rfl
set_option maxRecDepth 20000 in
theorem fl_X0_20 : Cond.fieldLink RX0 20 "HundredBoxes$Lists" "ways" "[J" ∈ gt := gt_tb 47 (by decide +kernel) rfl
set_option maxRecDepth 20000 in
theorem fl_X3_9 : Cond.fieldLink RX3 9 "HundredBoxes$Tables" "factorials" "[J" ∈ gt := gt_tb 102 (by decide +kernel) rfl
set_option maxRecDepth 20000 in
theorem fl_X3_15 : Cond.fieldLink RX3 15 "HundredBoxes$Tables" "deranged" "[J" ∈ gt := gt_tb 103 (by decide +kernel) rfl
set_option maxRecDepth 20000 in
theorem fl_X3_20 : Cond.fieldLink RX3 20 "HundredBoxes$Tables" "records" "[[J" ∈ gt := gt_tb 104 (by decide +kernel) rfl
set_option maxRecDepth 20000 in
theorem fl_X3_23 : Cond.fieldLink RX3 23 "HundredBoxes$Tables" "roundsUpTo" "[[J" ∈ gt := gt_tb 105 (by decide +kernel) rfl
set_option maxRecDepth 20000 in
theorem fl_X3_30 : Cond.fieldLink RX3 30 "HundredBoxes$Tables" "rises" "[J" ∈ gt := gt_tb 106 (by decide +kernel) rfl
set_option maxRecDepth 20000 in
theorem fl_X5_15 : Cond.fieldLink RX5 15 "HundredBoxes$Walk" "tables" "LHundredBoxes$Tables;" ∈ gt := gt_tb 124 (by decide +kernel) rfl
set_option maxRecDepth 20000 in
theorem fl_X5_9 : Cond.fieldLink RX5 9 "HundredBoxes$Walk" "used" "[Z" ∈ gt := gt_tb 125 (by decide +kernel) rfl
set_option maxRecDepth 20000 in
theorem fl_X5_19 : Cond.fieldLink RX5 19 "HundredBoxes$Walk" "kind" "I" ∈ gt := gt_tb 126 (by decide +kernel) rfl
set_option maxRecDepth 20000 in
theorem fl_X5_29 : Cond.fieldLink RX5 29 "HundredBoxes$Walk" "size" "I" ∈ gt := gt_tb 127 (by decide +kernel) rfl
set_option maxRecDepth 20000 in
theorem fl_X5_35 : Cond.fieldLink RX5 35 "HundredBoxes$Walk" "left" "I" ∈ gt := gt_tb 128 (by decide +kernel) rfl
set_option maxRecDepth 20000 in
theorem fl_X5_38 : Cond.fieldLink RX5 38 "HundredBoxes$Walk" "last" "I" ∈ gt := gt_tb 129 (by decide +kernel) rfl
set_option maxRecDepth 20000 in
theorem fl_X5_41 : Cond.fieldLink RX5 41 "HundredBoxes$Walk" "top" "I" ∈ gt := gt_tb 130 (by decide +kernel) rfl
set_option maxRecDepth 20000 in
theorem fl_X5_32 : Cond.fieldLink RX5 32 "HundredBoxes$Walk" "wanted" "I" ∈ gt := gt_tb 131 (by decide +kernel) rfl
set_option maxRecDepth 20000 in
theorem fl_X6_10 : Cond.fieldLink RX6 10 "HundredBoxes" "current" "LHundredBoxes$Order;" ∈ gt := gt_tb 168 (by decide +kernel) rfl
set_option maxRecDepth 20000 in
theorem fl_X6_16 : Cond.fieldLink RX6 16 "HundredBoxes" "shelf" "[LHundredBoxes$Order;" ∈ gt := gt_tb 169 (by decide +kernel) rfl
set_option maxRecDepth 20000 in
theorem fl_X6_23 : Cond.fieldLink RX6 23 "HundredBoxes" "lists" "LHundredBoxes$Lists;" ∈ gt := gt_tb 170 (by decide +kernel) rfl
set_option maxRecDepth 20000 in
theorem fl_X6_30 : Cond.fieldLink RX6 30 "HundredBoxes" "tables" "LHundredBoxes$Tables;" ∈ gt := gt_tb 171 (by decide +kernel) rfl
set_option maxRecDepth 20000 in
theorem fl_X6_39 : Cond.fieldLink RX6 39 "HundredBoxes" "walk" "LHundredBoxes$Walk;" ∈ gt := gt_tb 172 (by decide +kernel) rfl
set_option maxRecDepth 20000 in
theorem fl_X6_45 : Cond.fieldLink RX6 45 "HundredBoxes" "tallies" "[LHundredBoxes$Tally;" ∈ gt := gt_tb 173 (by decide +kernel) rfl
set_option maxRecDepth 20000 in
theorem fl_X6_102 : Cond.fieldLink RX6 102 "HundredBoxes" "size" "I" ∈ gt := gt_tb 174 (by decide +kernel) rfl
set_option maxRecDepth 20000 in
theorem fl_X6_140 : Cond.fieldLink RX6 140 "HundredBoxes" "opened" "I" ∈ gt := gt_tb 175 (by decide +kernel) rfl
set_option maxRecDepth 20000 in
theorem fl_X2_9 : Cond.fieldLink RX2 9 "HundredBoxes$Partition" "parts" "[I" ∈ gt := gt_tb 364 (by decide +kernel) rfl
set_option maxRecDepth 20000 in
theorem fl_X2_15 : Cond.fieldLink RX2 15 "HundredBoxes$Partition" "length" "I" ∈ gt := gt_tb 365 (by decide +kernel) rfl
set_option maxRecDepth 20000 in
theorem fl_X4_9 : Cond.fieldLink RX4 9 "HundredBoxes$Tally" "size" "I" ∈ gt := gt_tb 423 (by decide +kernel) rfl
set_option maxRecDepth 20000 in
theorem fl_X4_15 : Cond.fieldLink RX4 15 "HundredBoxes$Tally" "tables" "LHundredBoxes$Tables;" ∈ gt := gt_tb 424 (by decide +kernel) rfl
set_option maxRecDepth 20000 in
theorem fl_X4_23 : Cond.fieldLink RX4 23 "HundredBoxes$Tally" "orders" "[J" ∈ gt := gt_tb 425 (by decide +kernel) rfl
set_option maxRecDepth 20000 in
theorem fl_X7_7 : Cond.fieldLink RX7 7 "HundredBoxesModel" "n" "I" ∈ gt := gt_tb 600 (by decide +kernel) rfl
set_option maxRecDepth 20000 in
theorem fl_X7_13 : Cond.fieldLink RX7 13 "HundredBoxesModel" "order" "[I" ∈ gt := gt_tb 601 (by decide +kernel) rfl
set_option maxRecDepth 20000 in
theorem fl_X7_17 : Cond.fieldLink RX7 17 "HundredBoxesModel" "shelf" "[I" ∈ gt := gt_tb 602 (by decide +kernel) rfl
set_option maxRecDepth 20000 in
theorem fl_X7_20 : Cond.fieldLink RX7 20 "HundredBoxesModel" "opens" "I" ∈ gt := gt_tb 603 (by decide +kernel) rfl
set_option maxRecDepth 20000 in
theorem fl_X7_23 : Cond.fieldLink RX7 23 "HundredBoxesModel" "lists" "[I" ∈ gt := gt_tb 604 (by decide +kernel) rfl
set_option maxRecDepth 20000 in
theorem fl_X7_26 : Cond.fieldLink RX7 26 "HundredBoxesModel" "listed" "[I" ∈ gt := gt_tb 605 (by decide +kernel) rfl
set_option maxRecDepth 20000 in
theorem fl_X7_29 : Cond.fieldLink RX7 29 "HundredBoxesModel" "work" "[I" ∈ gt := gt_tb 606 (by decide +kernel) rfl
set_option maxRecDepth 20000 in
theorem fl_X7_32 : Cond.fieldLink RX7 32 "HundredBoxesModel" "counts" "[J" ∈ gt := gt_tb 607 (by decide +kernel) rfl
set_option maxRecDepth 20000 in
theorem fl_X7_36 : Cond.fieldLink RX7 36 "HundredBoxesModel" "older" "[J" ∈ gt := gt_tb 608 (by decide +kernel) rfl
set_option maxRecDepth 20000 in
theorem fl_X7_39 : Cond.fieldLink RX7 39 "HundredBoxesModel" "products" "[J" ∈ gt := gt_tb 609 (by decide +kernel) rfl
set_option maxRecDepth 20000 in
theorem fl_X7_42 : Cond.fieldLink RX7 42 "HundredBoxesModel" "part" "[I" ∈ gt := gt_tb 610 (by decide +kernel) rfl
set_option maxRecDepth 20000 in
theorem fl_X7_95 : Cond.fieldLink RX7 95 "HundredBoxesModel" "parts" "I" ∈ gt := gt_tb 611 (by decide +kernel) rfl
set_option maxRecDepth 20000 in
theorem fl_X7_45 : Cond.fieldLink RX7 45 "HundredBoxesModel" "ways" "[J" ∈ gt := gt_tb 612 (by decide +kernel) rfl
set_option maxRecDepth 20000 in
theorem fl_X7_143 : Cond.fieldLink RX7 143 "HundredBoxesModel" "used" "I" ∈ gt := gt_tb 613 (by decide +kernel) rfl
set_option maxRecDepth 20000 in
theorem fl_X7_140 : Cond.fieldLink RX7 140 "HundredBoxesModel" "greaterNow" "I" ∈ gt := gt_tb 614 (by decide +kernel) rfl
set_option maxRecDepth 20000 in
theorem fl_X7_137 : Cond.fieldLink RX7 137 "HundredBoxesModel" "countNow" "I" ∈ gt := gt_tb 615 (by decide +kernel) rfl
set_option maxRecDepth 20000 in
theorem ml_L_9 : Cond.methodLink RL 9 yX6_init ∈ gt := gt_tb 13 (by decide +kernel) rfl
set_option maxRecDepth 20000 in
theorem ml_X6_1 : Cond.methodLink RX6 1 objectInit ∈ gt := gt_tb 16 (by decide +kernel) rfl
set_option maxRecDepth 20000 in
theorem ml_X1_3 : Cond.methodLink RX1 3 objectInit ∈ gt := gt_tb 24 (by decide +kernel) rfl
set_option maxRecDepth 20000 in
theorem ml_X0_3 : Cond.methodLink RX0 3 objectInit ∈ gt := gt_tb 42 (by decide +kernel) rfl
set_option maxRecDepth 20000 in
theorem ml_X6_29 : Cond.methodLink RX6 29 yX3_init ∈ gt := gt_tb 58 (by decide +kernel) rfl
set_option maxRecDepth 20000 in
theorem ml_X3_3 : Cond.methodLink RX3 3 objectInit ∈ gt := gt_tb 61 (by decide +kernel) rfl
set_option maxRecDepth 20000 in
theorem ml_X3_26 : Cond.methodLink RX3 26 yX3_riseSlot ∈ gt := gt_tb 64 (by decide +kernel) rfl
set_option maxRecDepth 20000 in
theorem ml_X3_33 : Cond.methodLink RX3 33 yX3_fillFactorials ∈ gt := gt_tb 67 (by decide +kernel) rfl
set_option maxRecDepth 20000 in
theorem ml_X3_36 : Cond.methodLink RX3 36 yX3_fillDeranged ∈ gt := gt_tb 71 (by decide +kernel) rfl
set_option maxRecDepth 20000 in
theorem ml_X3_39 : Cond.methodLink RX3 39 yX3_fillRecords ∈ gt := gt_tb 75 (by decide +kernel) rfl
set_option maxRecDepth 20000 in
theorem ml_X3_42 : Cond.methodLink RX3 42 yX3_fillRoundsUpTo ∈ gt := gt_tb 79 (by decide +kernel) rfl
set_option maxRecDepth 20000 in
theorem ml_X3_48 : Cond.methodLink RX3 48 yX3_sumByRoundOfLast ∈ gt := gt_tb 83 (by decide +kernel) rfl
set_option maxRecDepth 20000 in
theorem ml_X3_45 : Cond.methodLink RX3 45 yX3_fillRises ∈ gt := gt_tb 87 (by decide +kernel) rfl
set_option maxRecDepth 20000 in
theorem ml_X3_52 : Cond.methodLink RX3 52 yX3_fillRisesByBelow ∈ gt := gt_tb 91 (by decide +kernel) rfl
set_option maxRecDepth 20000 in
theorem ml_X3_56 : Cond.methodLink RX3 56 yX3_withRises ∈ gt := gt_tb 95 (by decide +kernel) rfl
set_option maxRecDepth 20000 in
theorem ml_X6_36 : Cond.methodLink RX6 36 yX5_init ∈ gt := gt_tb 120 (by decide +kernel) rfl
set_option maxRecDepth 20000 in
theorem ml_X5_3 : Cond.methodLink RX5 3 objectInit ∈ gt := gt_tb 123 (by decide +kernel) rfl
set_option maxRecDepth 20000 in
theorem ml_X6_49 : Cond.methodLink RX6 49 yX6_startWith ∈ gt := gt_tb 152 (by decide +kernel) rfl
set_option maxRecDepth 20000 in
theorem ml_X6_177 : Cond.methodLink RX6 177 Lib.Math.min.name ∈ gt := gt_tb 156 (by decide +kernel) rfl
set_option maxRecDepth 20000 in
theorem ml_X6_182 : Cond.methodLink RX6 182 yX1_startWith ∈ gt := gt_tb 159 (by decide +kernel) rfl
set_option maxRecDepth 20000 in
theorem ml_X1_18 : Cond.methodLink RX1 18 Lib.Math.min.name ∈ gt := gt_tb 163 (by decide +kernel) rfl
set_option maxRecDepth 20000 in
theorem ml_X6_183 : Cond.methodLink RX6 183 yX0_emptyAll ∈ gt := gt_tb 164 (by decide +kernel) rfl
set_option maxRecDepth 20000 in
theorem ml_L_13 : Cond.methodLink RL 13 yX6_things ∈ gt := gt_tb 193 (by decide +kernel) rfl
set_option maxRecDepth 20000 in
theorem ml_L_20 : Cond.methodLink RL 20 yX6_order ∈ gt := gt_tb 197 (by decide +kernel) rfl
set_option maxRecDepth 20000 in
theorem ml_X6_53 : Cond.methodLink RX6 53 yX1_readFigures ∈ gt := gt_tb 201 (by decide +kernel) rfl
set_option maxRecDepth 20000 in
theorem ml_X1_28 : Cond.methodLink RX1 28 yX1_holds ∈ gt := gt_tb 206 (by decide +kernel) rfl
set_option maxRecDepth 20000 in
theorem ml_X1_34 : Cond.methodLink RX1 34 yX1_keepMade ∈ gt := gt_tb 210 (by decide +kernel) rfl
set_option maxRecDepth 20000 in
theorem ml_L_25 : Cond.methodLink RL 25 yX6_at ∈ gt := gt_tb 214 (by decide +kernel) rfl
set_option maxRecDepth 20000 in
theorem ml_X6_57 : Cond.methodLink RX6 57 yX6_isThing ∈ gt := gt_tb 218 (by decide +kernel) rfl
set_option maxRecDepth 20000 in
theorem ml_X6_61 : Cond.methodLink RX6 61 yX1_follow ∈ gt := gt_tb 222 (by decide +kernel) rfl
set_option maxRecDepth 20000 in
theorem ml_L_29 : Cond.methodLink RL 29 yX6_swap ∈ gt := gt_tb 226 (by decide +kernel) rfl
set_option maxRecDepth 20000 in
theorem ml_X6_65 : Cond.methodLink RX6 65 yX1_exchange ∈ gt := gt_tb 230 (by decide +kernel) rfl
set_option maxRecDepth 20000 in
theorem ml_L_34 : Cond.methodLink RL 34 yX6_lay ∈ gt := gt_tb 234 (by decide +kernel) rfl
set_option maxRecDepth 20000 in
theorem ml_X6_69 : Cond.methodLink RX6 69 yX6_isPlace ∈ gt := gt_tb 238 (by decide +kernel) rfl
set_option maxRecDepth 20000 in
theorem ml_X6_72 : Cond.methodLink RX6 72 yX1_copyFrom ∈ gt := gt_tb 241 (by decide +kernel) rfl
set_option maxRecDepth 20000 in
theorem ml_L_38 : Cond.methodLink RL 38 yX6_take ∈ gt := gt_tb 245 (by decide +kernel) rfl
set_option maxRecDepth 20000 in
theorem ml_L_42 : Cond.methodLink RL 42 yX6_then ∈ gt := gt_tb 249 (by decide +kernel) rfl
set_option maxRecDepth 20000 in
theorem ml_X6_76 : Cond.methodLink RX6 76 yX1_goOnBy ∈ gt := gt_tb 253 (by decide +kernel) rfl
set_option maxRecDepth 20000 in
theorem ml_X1_37 : Cond.methodLink RX1 37 yX1_follow ∈ gt := gt_tb 257 (by decide +kernel) rfl
set_option maxRecDepth 20000 in
theorem ml_L_46 : Cond.methodLink RL 46 yX6_back ∈ gt := gt_tb 258 (by decide +kernel) rfl
set_option maxRecDepth 20000 in
theorem ml_X6_79 : Cond.methodLink RX6 79 yX1_turnBack ∈ gt := gt_tb 262 (by decide +kernel) rfl
set_option maxRecDepth 20000 in
theorem ml_X1_41 : Cond.methodLink RX1 41 yX1_makeAt ∈ gt := gt_tb 266 (by decide +kernel) rfl
set_option maxRecDepth 20000 in
theorem ml_L_51 : Cond.methodLink RL 51 yX6_number ∈ gt := gt_tb 270 (by decide +kernel) rfl
set_option maxRecDepth 20000 in
theorem ml_X6_82 : Cond.methodLink RX6 82 yX6_isKind ∈ gt := gt_tb 274 (by decide +kernel) rfl
set_option maxRecDepth 20000 in
theorem ml_X6_85 : Cond.methodLink RX6 85 yX1_numberOf ∈ gt := gt_tb 277 (by decide +kernel) rfl
set_option maxRecDepth 20000 in
theorem ml_X1_54 : Cond.methodLink RX1 54 yX1_rounds ∈ gt := gt_tb 281 (by decide +kernel) rfl
set_option maxRecDepth 20000 in
theorem ml_X1_48 : Cond.methodLink RX1 48 yX1_leadsRound ∈ gt := gt_tb 285 (by decide +kernel) rfl
set_option maxRecDepth 20000 in
theorem ml_X1_58 : Cond.methodLink RX1 58 yX1_records ∈ gt := gt_tb 289 (by decide +kernel) rfl
set_option maxRecDepth 20000 in
theorem ml_X1_61 : Cond.methodLink RX1 61 yX1_rises ∈ gt := gt_tb 293 (by decide +kernel) rfl
set_option maxRecDepth 20000 in
theorem ml_X1_64 : Cond.methodLink RX1 64 yX1_still ∈ gt := gt_tb 297 (by decide +kernel) rfl
set_option maxRecDepth 20000 in
theorem ml_X1_67 : Cond.methodLink RX1 67 yX1_longestRound ∈ gt := gt_tb 301 (by decide +kernel) rfl
set_option maxRecDepth 20000 in
theorem ml_X1_51 : Cond.methodLink RX1 51 yX1_roundLength ∈ gt := gt_tb 305 (by decide +kernel) rfl
set_option maxRecDepth 20000 in
theorem ml_X1_45 : Cond.methodLink RX1 45 Lib.Math.max.name ∈ gt := gt_tb 309 (by decide +kernel) rfl
set_option maxRecDepth 20000 in
theorem ml_X1_70 : Cond.methodLink RX1 70 yX1_pairsOut ∈ gt := gt_tb 312 (by decide +kernel) rfl
set_option maxRecDepth 20000 in
theorem ml_X1_73 : Cond.methodLink RX1 73 yX1_longestRise ∈ gt := gt_tb 316 (by decide +kernel) rfl
set_option maxRecDepth 20000 in
theorem ml_X1_76 : Cond.methodLink RX1 76 yX1_turns ∈ gt := gt_tb 320 (by decide +kernel) rfl
set_option maxRecDepth 20000 in
theorem ml_X6_109 : Cond.methodLink RX6 109 yX6_commonDivisor ∈ gt := gt_tb 327 (by decide +kernel) rfl
set_option maxRecDepth 20000 in
theorem ml_X6_113 : Cond.methodLink RX6 113 yX6_quotient ∈ gt := gt_tb 330 (by decide +kernel) rfl
set_option maxRecDepth 20000 in
theorem ml_L_55 : Cond.methodLink RL 55 yX6_many ∈ gt := gt_tb 333 (by decide +kernel) rfl
set_option maxRecDepth 20000 in
theorem ml_X6_88 : Cond.methodLink RX6 88 yX6_tallyOf ∈ gt := gt_tb 337 (by decide +kernel) rfl
set_option maxRecDepth 20000 in
theorem ml_X6_186 : Cond.methodLink RX6 186 yX4_init ∈ gt := gt_tb 342 (by decide +kernel) rfl
set_option maxRecDepth 20000 in
theorem ml_X4_3 : Cond.methodLink RX4 3 objectInit ∈ gt := gt_tb 345 (by decide +kernel) rfl
set_option maxRecDepth 20000 in
theorem ml_X4_19 : Cond.methodLink RX4 19 yX4_greatest ∈ gt := gt_tb 346 (by decide +kernel) rfl
set_option maxRecDepth 20000 in
theorem ml_X4_37 : Cond.methodLink RX4 37 Lib.Math.max.name ∈ gt := gt_tb 349 (by decide +kernel) rfl
set_option maxRecDepth 20000 in
theorem ml_X4_27 : Cond.methodLink RX4 27 yX4_fillPairsOut ∈ gt := gt_tb 350 (by decide +kernel) rfl
set_option maxRecDepth 20000 in
theorem ml_X4_30 : Cond.methodLink RX4 30 yX4_fillByPartitions ∈ gt := gt_tb 354 (by decide +kernel) rfl
set_option maxRecDepth 20000 in
theorem ml_X4_63 : Cond.methodLink RX4 63 yX2_init ∈ gt := gt_tb 360 (by decide +kernel) rfl
set_option maxRecDepth 20000 in
theorem ml_X2_3 : Cond.methodLink RX2 3 objectInit ∈ gt := gt_tb 363 (by decide +kernel) rfl
set_option maxRecDepth 20000 in
theorem ml_X4_65 : Cond.methodLink RX4 65 yX3_ordersOf ∈ gt := gt_tb 371 (by decide +kernel) rfl
set_option maxRecDepth 20000 in
theorem ml_X4_69 : Cond.methodLink RX4 69 yX2_hookProduct ∈ gt := gt_tb 375 (by decide +kernel) rfl
set_option maxRecDepth 20000 in
theorem ml_X4_77 : Cond.methodLink RX4 77 yX2_firstPart ∈ gt := gt_tb 380 (by decide +kernel) rfl
set_option maxRecDepth 20000 in
theorem ml_X4_81 : Cond.methodLink RX4 81 yX4_addOrders ∈ gt := gt_tb 384 (by decide +kernel) rfl
set_option maxRecDepth 20000 in
theorem ml_X4_85 : Cond.methodLink RX4 85 yX2_turns ∈ gt := gt_tb 388 (by decide +kernel) rfl
set_option maxRecDepth 20000 in
theorem ml_X4_88 : Cond.methodLink RX4 88 yX2_sameRounds ∈ gt := gt_tb 393 (by decide +kernel) rfl
set_option maxRecDepth 20000 in
theorem ml_X4_91 : Cond.methodLink RX4 91 yX2_goOn ∈ gt := gt_tb 397 (by decide +kernel) rfl
set_option maxRecDepth 20000 in
theorem ml_X2_19 : Cond.methodLink RX2 19 Lib.Math.min.name ∈ gt := gt_tb 401 (by decide +kernel) rfl
set_option maxRecDepth 20000 in
theorem ml_X4_34 : Cond.methodLink RX4 34 yX4_fillByTables ∈ gt := gt_tb 402 (by decide +kernel) rfl
set_option maxRecDepth 20000 in
theorem ml_X4_42 : Cond.methodLink RX4 42 yX4_fromTables ∈ gt := gt_tb 406 (by decide +kernel) rfl
set_option maxRecDepth 20000 in
theorem ml_X4_46 : Cond.methodLink RX4 46 yX3_withRecords ∈ gt := gt_tb 410 (by decide +kernel) rfl
set_option maxRecDepth 20000 in
theorem ml_X4_52 : Cond.methodLink RX4 52 yX3_withRises ∈ gt := gt_tb 414 (by decide +kernel) rfl
set_option maxRecDepth 20000 in
theorem ml_X4_55 : Cond.methodLink RX4 55 yX3_withStill ∈ gt := gt_tb 415 (by decide +kernel) rfl
set_option maxRecDepth 20000 in
theorem ml_X4_58 : Cond.methodLink RX4 58 yX3_withRoundsUpTo ∈ gt := gt_tb 419 (by decide +kernel) rfl
set_option maxRecDepth 20000 in
theorem ml_X6_92 : Cond.methodLink RX6 92 yX4_ordersWith ∈ gt := gt_tb 433 (by decide +kernel) rfl
set_option maxRecDepth 20000 in
theorem ml_L_60 : Cond.methodLink RL 60 yX6_mean ∈ gt := gt_tb 439 (by decide +kernel) rfl
set_option maxRecDepth 20000 in
theorem ml_X6_98 : Cond.methodLink RX6 98 yX4_sumOfNumbers ∈ gt := gt_tb 443 (by decide +kernel) rfl
set_option maxRecDepth 20000 in
theorem ml_X6_106 : Cond.methodLink RX6 106 yX3_ordersOf ∈ gt := gt_tb 447 (by decide +kernel) rfl
set_option maxRecDepth 20000 in
theorem ml_L_64 : Cond.methodLink RL 64 yX6_row ∈ gt := gt_tb 448 (by decide +kernel) rfl
set_option maxRecDepth 20000 in
theorem ml_X6_116 : Cond.methodLink RX6 116 yX6_isRowKind ∈ gt := gt_tb 452 (by decide +kernel) rfl
set_option maxRecDepth 20000 in
theorem ml_X6_119 : Cond.methodLink RX6 119 yX5_start ∈ gt := gt_tb 455 (by decide +kernel) rfl
set_option maxRecDepth 20000 in
theorem ml_X5_23 : Cond.methodLink RX5 23 Lib.Math.min.name ∈ gt := gt_tb 459 (by decide +kernel) rfl
set_option maxRecDepth 20000 in
theorem ml_X6_123 : Cond.methodLink RX6 123 yX5_waysAtStart ∈ gt := gt_tb 460 (by decide +kernel) rfl
set_option maxRecDepth 20000 in
theorem ml_X5_44 : Cond.methodLink RX5 44 yX5_ways ∈ gt := gt_tb 464 (by decide +kernel) rfl
set_option maxRecDepth 20000 in
theorem ml_X5_75 : Cond.methodLink RX5 75 yX3_withRecords ∈ gt := gt_tb 468 (by decide +kernel) rfl
set_option maxRecDepth 20000 in
theorem ml_X5_81 : Cond.methodLink RX5 81 yX3_withRises ∈ gt := gt_tb 469 (by decide +kernel) rfl
set_option maxRecDepth 20000 in
theorem ml_X5_84 : Cond.methodLink RX5 84 yX3_ordersOf ∈ gt := gt_tb 470 (by decide +kernel) rfl
set_option maxRecDepth 20000 in
theorem ml_X6_126 : Cond.methodLink RX6 126 yX5_writeRow ∈ gt := gt_tb 471 (by decide +kernel) rfl
set_option maxRecDepth 20000 in
theorem ml_X5_48 : Cond.methodLink RX5 48 yX5_waysWith ∈ gt := gt_tb 475 (by decide +kernel) rfl
set_option maxRecDepth 20000 in
theorem ml_X5_69 : Cond.methodLink RX5 69 Lib.Math.max.name ∈ gt := gt_tb 479 (by decide +kernel) rfl
set_option maxRecDepth 20000 in
theorem ml_X5_72 : Cond.methodLink RX5 72 yX5_wantedAfter ∈ gt := gt_tb 480 (by decide +kernel) rfl
set_option maxRecDepth 20000 in
theorem ml_X5_52 : Cond.methodLink RX5 52 yX1_makeAt ∈ gt := gt_tb 484 (by decide +kernel) rfl
set_option maxRecDepth 20000 in
theorem ml_X5_58 : Cond.methodLink RX5 58 yX5_step ∈ gt := gt_tb 485 (by decide +kernel) rfl
set_option maxRecDepth 20000 in
theorem ml_X5_62 : Cond.methodLink RX5 62 yX1_keepMade ∈ gt := gt_tb 489 (by decide +kernel) rfl
set_option maxRecDepth 20000 in
theorem ml_L_69 : Cond.methodLink RL 69 yX6_place ∈ gt := gt_tb 490 (by decide +kernel) rfl
set_option maxRecDepth 20000 in
theorem ml_X6_130 : Cond.methodLink RX6 130 yX5_rowsAheadOf ∈ gt := gt_tb 494 (by decide +kernel) rfl
set_option maxRecDepth 20000 in
theorem ml_X5_65 : Cond.methodLink RX5 65 yX1_follow ∈ gt := gt_tb 498 (by decide +kernel) rfl
set_option maxRecDepth 20000 in
theorem ml_L_74 : Cond.methodLink RL 74 yX6_toRounds ∈ gt := gt_tb 499 (by decide +kernel) rfl
set_option maxRecDepth 20000 in
theorem ml_X6_134 : Cond.methodLink RX6 134 yX1_makeRounds ∈ gt := gt_tb 503 (by decide +kernel) rfl
set_option maxRecDepth 20000 in
theorem ml_L_78 : Cond.methodLink RL 78 yX6_toRecords ∈ gt := gt_tb 507 (by decide +kernel) rfl
set_option maxRecDepth 20000 in
theorem ml_X6_137 : Cond.methodLink RX6 137 yX1_makeRecords ∈ gt := gt_tb 511 (by decide +kernel) rfl
set_option maxRecDepth 20000 in
theorem ml_L_82 : Cond.methodLink RL 82 yX6_opens ∈ gt := gt_tb 515 (by decide +kernel) rfl
set_option maxRecDepth 20000 in
theorem ml_L_86 : Cond.methodLink RL 86 yX6_list ∈ gt := gt_tb 519 (by decide +kernel) rfl
set_option maxRecDepth 20000 in
theorem ml_X6_143 : Cond.methodLink RX6 143 yX0_hasBox ∈ gt := gt_tb 523 (by decide +kernel) rfl
set_option maxRecDepth 20000 in
theorem ml_X0_28 : Cond.methodLink RX0 28 yX0_firstOf ∈ gt := gt_tb 527 (by decide +kernel) rfl
set_option maxRecDepth 20000 in
theorem ml_X0_24 : Cond.methodLink RX0 24 yX0_holds ∈ gt := gt_tb 531 (by decide +kernel) rfl
set_option maxRecDepth 20000 in
theorem ml_X0_32 : Cond.methodLink RX0 32 Lib.Math.min.name ∈ gt := gt_tb 535 (by decide +kernel) rfl
set_option maxRecDepth 20000 in
theorem ml_X6_147 : Cond.methodLink RX6 147 yX0_addBox ∈ gt := gt_tb 536 (by decide +kernel) rfl
set_option maxRecDepth 20000 in
theorem ml_L_90 : Cond.methodLink RL 90 yX6_forget ∈ gt := gt_tb 540 (by decide +kernel) rfl
set_option maxRecDepth 20000 in
theorem ml_X6_151 : Cond.methodLink RX6 151 yX0_emptyOne ∈ gt := gt_tb 544 (by decide +kernel) rfl
set_option maxRecDepth 20000 in
theorem ml_L_94 : Cond.methodLink RL 94 yX6_wins ∈ gt := gt_tb 548 (by decide +kernel) rfl
set_option maxRecDepth 20000 in
theorem ml_X6_154 : Cond.methodLink RX6 154 yX6_isWay ∈ gt := gt_tb 552 (by decide +kernel) rfl
set_option maxRecDepth 20000 in
theorem ml_X6_157 : Cond.methodLink RX6 157 yX1_roundLength ∈ gt := gt_tb 555 (by decide +kernel) rfl
set_option maxRecDepth 20000 in
theorem ml_X6_160 : Cond.methodLink RX6 160 yX0_findsOwnThing ∈ gt := gt_tb 556 (by decide +kernel) rfl
set_option maxRecDepth 20000 in
theorem ml_X0_37 : Cond.methodLink RX0 37 yX1_follow ∈ gt := gt_tb 560 (by decide +kernel) rfl
set_option maxRecDepth 20000 in
theorem ml_L_98 : Cond.methodLink RL 98 yX6_allWin ∈ gt := gt_tb 561 (by decide +kernel) rfl
set_option maxRecDepth 20000 in
theorem ml_X6_164 : Cond.methodLink RX6 164 yX3_withRoundsUpTo ∈ gt := gt_tb 565 (by decide +kernel) rfl
set_option maxRecDepth 20000 in
theorem ml_X6_170 : Cond.methodLink RX6 170 yX0_ordersWonByAll ∈ gt := gt_tb 567 (by decide +kernel) rfl
set_option maxRecDepth 20000 in
theorem ml_X0_45 : Cond.methodLink RX0 45 yX0_placeNextThing ∈ gt := gt_tb 572 (by decide +kernel) rfl
set_option maxRecDepth 20000 in
theorem ml_X0_49 : Cond.methodLink RX0 49 yJ6_bitCount_0f7a4 ∈ gt := gt_tb 576 (by decide +kernel) rfl
set_option maxRecDepth 20000 in
theorem ml_L_102 : Cond.methodLink RL 102 yX6_count ∈ gt := gt_tb 582 (by decide +kernel) rfl
set_option maxRecDepth 20000 in
theorem ml_X6_173 : Cond.methodLink RX6 173 yX0_boxesInAll ∈ gt := gt_tb 586 (by decide +kernel) rfl
set_option maxRecDepth 20000 in
theorem ml_L_12 : Cond.methodLink RL 12 yX7_init ∈ gt := gt_tb 592 (by decide +kernel) rfl
set_option maxRecDepth 20000 in
theorem ml_X7_1 : Cond.methodLink RX7 1 objectInit ∈ gt := gt_tb 595 (by decide +kernel) rfl
set_option maxRecDepth 20000 in
theorem ml_X7_48 : Cond.methodLink RX7 48 yX7_begin ∈ gt := gt_tb 596 (by decide +kernel) rfl
set_option maxRecDepth 20000 in
theorem ml_L_17 : Cond.methodLink RL 17 yX7_things ∈ gt := gt_tb 649 (by decide +kernel) rfl
set_option maxRecDepth 20000 in
theorem ml_X7_51 : Cond.methodLink RX7 51 yX7_in ∈ gt := gt_tb 654 (by decide +kernel) rfl
set_option maxRecDepth 20000 in
theorem ml_L_24 : Cond.methodLink RL 24 yX7_order ∈ gt := gt_tb 657 (by decide +kernel) rfl
set_option maxRecDepth 20000 in
theorem ml_X7_57 : Cond.methodLink RX7 57 yX7_become ∈ gt := gt_tb 661 (by decide +kernel) rfl
set_option maxRecDepth 20000 in
theorem ml_L_28 : Cond.methodLink RL 28 yX7_at ∈ gt := gt_tb 665 (by decide +kernel) rfl
set_option maxRecDepth 20000 in
theorem ml_X7_60 : Cond.methodLink RX7 60 yX7_isThing ∈ gt := gt_tb 669 (by decide +kernel) rfl
set_option maxRecDepth 20000 in
theorem ml_L_33 : Cond.methodLink RL 33 yX7_swap ∈ gt := gt_tb 673 (by decide +kernel) rfl
set_option maxRecDepth 20000 in
theorem ml_L_37 : Cond.methodLink RL 37 yX7_lay ∈ gt := gt_tb 677 (by decide +kernel) rfl
set_option maxRecDepth 20000 in
theorem ml_L_41 : Cond.methodLink RL 41 yX7_take ∈ gt := gt_tb 682 (by decide +kernel) rfl
set_option maxRecDepth 20000 in
theorem ml_L_45 : Cond.methodLink RL 45 yX7_then ∈ gt := gt_tb 686 (by decide +kernel) rfl
set_option maxRecDepth 20000 in
theorem ml_L_50 : Cond.methodLink RL 50 yX7_back ∈ gt := gt_tb 690 (by decide +kernel) rfl
set_option maxRecDepth 20000 in
theorem ml_L_54 : Cond.methodLink RL 54 yX7_number ∈ gt := gt_tb 694 (by decide +kernel) rfl
set_option maxRecDepth 20000 in
theorem ml_X7_89 : Cond.methodLink RX7 89 yX7_numberOf ∈ gt := gt_tb 699 (by decide +kernel) rfl
set_option maxRecDepth 20000 in
theorem ml_X7_66 : Cond.methodLink RX7 66 yX7_roundOf ∈ gt := gt_tb 703 (by decide +kernel) rfl
set_option maxRecDepth 20000 in
theorem ml_X7_70 : Cond.methodLink RX7 70 yX7_common ∈ gt := gt_tb 707 (by decide +kernel) rfl
set_option maxRecDepth 20000 in
theorem ml_X7_74 : Cond.methodLink RX7 74 yX7_isFirst ∈ gt := gt_tb 710 (by decide +kernel) rfl
set_option maxRecDepth 20000 in
theorem ml_X7_77 : Cond.methodLink RX7 77 yX7_isRecord ∈ gt := gt_tb 714 (by decide +kernel) rfl
set_option maxRecDepth 20000 in
theorem ml_X7_80 : Cond.methodLink RX7 80 yX7_out ∈ gt := gt_tb 718 (by decide +kernel) rfl
set_option maxRecDepth 20000 in
theorem ml_X7_84 : Cond.methodLink RX7 84 yX7_longestRise ∈ gt := gt_tb 722 (by decide +kernel) rfl
set_option maxRecDepth 20000 in
theorem ml_L_59 : Cond.methodLink RL 59 yX7_many ∈ gt := gt_tb 726 (by decide +kernel) rfl
set_option maxRecDepth 20000 in
theorem ml_X7_124 : Cond.methodLink RX7 124 yX7_findCounts ∈ gt := gt_tb 731 (by decide +kernel) rfl
set_option maxRecDepth 20000 in
theorem ml_X7_112 : Cond.methodLink RX7 112 yX7_layProducts ∈ gt := gt_tb 735 (by decide +kernel) rfl
set_option maxRecDepth 20000 in
theorem ml_X7_115 : Cond.methodLink RX7 115 yX7_countByThings ∈ gt := gt_tb 739 (by decide +kernel) rfl
set_option maxRecDepth 20000 in
theorem ml_X7_92 : Cond.methodLink RX7 92 yX7_step ∈ gt := gt_tb 743 (by decide +kernel) rfl
set_option maxRecDepth 20000 in
theorem ml_X7_119 : Cond.methodLink RX7 119 yX7_countByShapes ∈ gt := gt_tb 747 (by decide +kernel) rfl
set_option maxRecDepth 20000 in
theorem ml_X7_98 : Cond.methodLink RX7 98 yX7_shapeNumber ∈ gt := gt_tb 751 (by decide +kernel) rfl
set_option maxRecDepth 20000 in
theorem ml_X7_101 : Cond.methodLink RX7 101 yX7_byFillings ∈ gt := gt_tb 755 (by decide +kernel) rfl
set_option maxRecDepth 20000 in
theorem ml_X7_105 : Cond.methodLink RX7 105 yX7_byRounds ∈ gt := gt_tb 759 (by decide +kernel) rfl
set_option maxRecDepth 20000 in
theorem ml_X7_108 : Cond.methodLink RX7 108 yX7_nextShape ∈ gt := gt_tb 763 (by decide +kernel) rfl
set_option maxRecDepth 20000 in
theorem ml_L_63 : Cond.methodLink RL 63 yX7_mean ∈ gt := gt_tb 768 (by decide +kernel) rfl
set_option maxRecDepth 20000 in
theorem ml_L_68 : Cond.methodLink RL 68 yX7_row ∈ gt := gt_tb 772 (by decide +kernel) rfl
set_option maxRecDepth 20000 in
theorem ml_X7_149 : Cond.methodLink RX7 149 yX7_isKind ∈ gt := gt_tb 776 (by decide +kernel) rfl
set_option maxRecDepth 20000 in
theorem ml_X7_152 : Cond.methodLink RX7 152 yX7_beginRow ∈ gt := gt_tb 779 (by decide +kernel) rfl
set_option maxRecDepth 20000 in
theorem ml_X7_146 : Cond.methodLink RX7 146 yX7_layWays ∈ gt := gt_tb 783 (by decide +kernel) rfl
set_option maxRecDepth 20000 in
theorem ml_X7_129 : Cond.methodLink RX7 129 yX7_waysBy ∈ gt := gt_tb 787 (by decide +kernel) rfl
set_option maxRecDepth 20000 in
theorem ml_X7_133 : Cond.methodLink RX7 133 yX7_wayAt ∈ gt := gt_tb 791 (by decide +kernel) rfl
set_option maxRecDepth 20000 in
theorem ml_X7_156 : Cond.methodLink RX7 156 yX7_waysAt ∈ gt := gt_tb 794 (by decide +kernel) rfl
set_option maxRecDepth 20000 in
theorem ml_X7_160 : Cond.methodLink RX7 160 yX7_put ∈ gt := gt_tb 798 (by decide +kernel) rfl
set_option maxRecDepth 20000 in
theorem ml_L_73 : Cond.methodLink RL 73 yX7_place ∈ gt := gt_tb 802 (by decide +kernel) rfl
set_option maxRecDepth 20000 in
theorem ml_L_77 : Cond.methodLink RL 77 yX7_toRounds ∈ gt := gt_tb 806 (by decide +kernel) rfl
set_option maxRecDepth 20000 in
theorem ml_L_81 : Cond.methodLink RL 81 yX7_toRecords ∈ gt := gt_tb 810 (by decide +kernel) rfl
set_option maxRecDepth 20000 in
theorem ml_X7_164 : Cond.methodLink RX7 164 yX7_isGreatest ∈ gt := gt_tb 814 (by decide +kernel) rfl
set_option maxRecDepth 20000 in
theorem ml_L_85 : Cond.methodLink RL 85 yX7_opens ∈ gt := gt_tb 818 (by decide +kernel) rfl
set_option maxRecDepth 20000 in
theorem ml_L_89 : Cond.methodLink RL 89 yX7_list ∈ gt := gt_tb 822 (by decide +kernel) rfl
set_option maxRecDepth 20000 in
theorem ml_L_93 : Cond.methodLink RL 93 yX7_forget ∈ gt := gt_tb 826 (by decide +kernel) rfl
set_option maxRecDepth 20000 in
theorem ml_L_97 : Cond.methodLink RL 97 yX7_wins ∈ gt := gt_tb 830 (by decide +kernel) rfl
set_option maxRecDepth 20000 in
theorem ml_X7_167 : Cond.methodLink RX7 167 yX7_winsBy ∈ gt := gt_tb 834 (by decide +kernel) rfl
set_option maxRecDepth 20000 in
theorem ml_L_101 : Cond.methodLink RL 101 yX7_allWin ∈ gt := gt_tb 838 (by decide +kernel) rfl
set_option maxRecDepth 20000 in
theorem ml_X7_173 : Cond.methodLink RX7 173 yX7_layRow ∈ gt := gt_tb 843 (by decide +kernel) rfl
set_option maxRecDepth 20000 in
theorem ml_L_105 : Cond.methodLink RL 105 yX7_count ∈ gt := gt_tb 847 (by decide +kernel) rfl
set_option maxRecDepth 20000 in
theorem kl_X1_32 : Cond.constantLong RX1 32 (18) ∈ gt := gt_tb 205 (by decide +kernel) rfl
set_option maxRecDepth 20000 in
theorem kl_X6_96 : Cond.constantLong RX6 96 (-2) ∈ gt := gt_tb 438 (by decide +kernel) rfl
set_option maxRecDepth 20000 in
theorem kl_X6_168 : Cond.constantLong RX6 168 (-3) ∈ gt := gt_tb 566 (by decide +kernel) rfl
set_option maxRecDepth 20000 in
theorem kl_X0_43 : Cond.constantLong RX0 43 (-3) ∈ gt := gt_tb 571 (by decide +kernel) rfl
set_option maxRecDepth 20000 in
theorem kl_X7_55 : Cond.constantLong RX7 55 (18) ∈ gt := gt_tb 653 (by decide +kernel) rfl
set_option maxRecDepth 20000 in
theorem kl_X7_64 : Cond.constantLong RX7 64 (3) ∈ gt := gt_tb 681 (by decide +kernel) rfl
set_option maxRecDepth 20000 in
theorem kl_X7_87 : Cond.constantLong RX7 87 (7) ∈ gt := gt_tb 698 (by decide +kernel) rfl
set_option maxRecDepth 20000 in
theorem kl_X7_122 : Cond.constantLong RX7 122 (-2) ∈ gt := gt_tb 730 (by decide +kernel) rfl
set_option maxRecDepth 20000 in
theorem kl_X7_127 : Cond.constantLong RX7 127 (210) ∈ gt := gt_tb 767 (by decide +kernel) rfl
set_option maxRecDepth 20000 in
theorem kl_X7_171 : Cond.constantLong RX7 171 (-3) ∈ gt := gt_tb 842 (by decide +kernel) rfl
set_option maxRecDepth 20000 in
theorem kl_L_18 : Cond.constantLong RL 18 (4294967295) ∈ gt := gt_tb 851 (by decide +kernel) rfl
set_option maxRecDepth 20000 in
theorem ki_J6_265 : Cond.constant RJ6 265 (1431655765) ∈ gt := gt_tb 579 (by decide +kernel) rfl
set_option maxRecDepth 20000 in
theorem ki_J6_266 : Cond.constant RJ6 266 (858993459) ∈ gt := gt_tb 580 (by decide +kernel) rfl
set_option maxRecDepth 20000 in
theorem ki_J6_267 : Cond.constant RJ6 267 (252645135) ∈ gt := gt_tb 581 (by decide +kernel) rfl
set_option maxRecDepth 20000 in
theorem in_L : Cond.initialized RL ∈ gt := gt_tb 0 (by decide +kernel) rfl
set_option maxRecDepth 20000 in
theorem in_X6 : Cond.initialized RX6 ∈ gt := gt_tb 1 (by decide +kernel) rfl
set_option maxRecDepth 20000 in
theorem in_X1 : Cond.initialized RX1 ∈ gt := gt_tb 2 (by decide +kernel) rfl
set_option maxRecDepth 20000 in
theorem in_X0 : Cond.initialized RX0 ∈ gt := gt_tb 3 (by decide +kernel) rfl
set_option maxRecDepth 20000 in
theorem in_X3 : Cond.initialized RX3 ∈ gt := gt_tb 4 (by decide +kernel) rfl
set_option maxRecDepth 20000 in
theorem in_X5 : Cond.initialized RX5 ∈ gt := gt_tb 5 (by decide +kernel) rfl
set_option maxRecDepth 20000 in
theorem in_J9 : Cond.initialized RJ9 ∈ gt := gt_tb 6 (by decide +kernel) rfl
set_option maxRecDepth 20000 in
theorem in_X7 : Cond.initialized RX7 ∈ gt := gt_tb 7 (by decide +kernel) rfl
set_option maxRecDepth 20000 in
theorem in_X4 : Cond.initialized RX4 ∈ gt := gt_tb 8 (by decide +kernel) rfl
set_option maxRecDepth 20000 in
theorem in_X2 : Cond.initialized RX2 ∈ gt := gt_tb 9 (by decide +kernel) rfl
set_option maxRecDepth 20000 in
theorem in_J6 : Cond.initialized RJ6 ∈ gt := gt_tb 10 (by decide +kernel) rfl
set_option maxRecDepth 20000 in
theorem cl_L_7 : Cond.classLink RL 7 RX6 ∈ gt := gt_tb 11 (by decide +kernel) rfl
set_option maxRecDepth 20000 in
theorem cl_X6_7 : Cond.classLink RX6 7 RX1 ∈ gt := gt_tb 19 (by decide +kernel) rfl
set_option maxRecDepth 20000 in
theorem cl_X6_20 : Cond.classLink RX6 20 RX0 ∈ gt := gt_tb 37 (by decide +kernel) rfl
set_option maxRecDepth 20000 in
theorem cl_X0_9 : Cond.classLink RX0 9 "[[I" ∈ gt := gt_tb 43 (by decide +kernel) rfl
set_option maxRecDepth 20000 in
theorem cl_X6_27 : Cond.classLink RX6 27 RX3 ∈ gt := gt_tb 56 (by decide +kernel) rfl
set_option maxRecDepth 20000 in
theorem cl_X3_18 : Cond.classLink RX3 18 "[[J" ∈ gt := gt_tb 62 (by decide +kernel) rfl
set_option maxRecDepth 20000 in
theorem cl_X6_34 : Cond.classLink RX6 34 RX5 ∈ gt := gt_tb 118 (by decide +kernel) rfl
set_option maxRecDepth 20000 in
theorem cl_X6_43 : Cond.classLink RX6 43 RX4 ∈ gt := gt_tb 150 (by decide +kernel) rfl
set_option maxRecDepth 20000 in
theorem cl_X4_61 : Cond.classLink RX4 61 RX2 ∈ gt := gt_tb 358 (by decide +kernel) rfl
set_option maxRecDepth 20000 in
theorem cl_L_10 : Cond.classLink RL 10 RX7 ∈ gt := gt_tb 590 (by decide +kernel) rfl
set_option maxRecDepth 20000 in
theorem ib_X6 : Cond.instantiable RX6 8 ∈ gt := gt_tb 12 (by decide +kernel) rfl
set_option maxRecDepth 20000 in
theorem ib_X1 : Cond.instantiable RX1 3 ∈ gt := gt_tb 20 (by decide +kernel) rfl
set_option maxRecDepth 20000 in
theorem ib_X0 : Cond.instantiable RX0 3 ∈ gt := gt_tb 38 (by decide +kernel) rfl
set_option maxRecDepth 20000 in
theorem ib_X3 : Cond.instantiable RX3 5 ∈ gt := gt_tb 57 (by decide +kernel) rfl
set_option maxRecDepth 20000 in
theorem ib_X5 : Cond.instantiable RX5 8 ∈ gt := gt_tb 119 (by decide +kernel) rfl
set_option maxRecDepth 20000 in
theorem ib_X4 : Cond.instantiable RX4 3 ∈ gt := gt_tb 341 (by decide +kernel) rfl
set_option maxRecDepth 20000 in
theorem ib_X2 : Cond.instantiable RX2 2 ∈ gt := gt_tb 359 (by decide +kernel) rfl
set_option maxRecDepth 20000 in
theorem ib_X7 : Cond.instantiable RX7 16 ∈ gt := gt_tb 591 (by decide +kernel) rfl
set_option maxRecDepth 20000 in
theorem ac_int : Cond.arrayClass .int ∈ gt := gt_tb 35 (by decide +kernel) rfl
set_option maxRecDepth 20000 in
theorem ac_long : Cond.arrayClass .long ∈ gt := gt_tb 55 (by decide +kernel) rfl
set_option maxRecDepth 20000 in
theorem ac_boolean : Cond.arrayClass .boolean ∈ gt := gt_tb 149 (by decide +kernel) rfl
set_option maxRecDepth 20000 in
theorem im_X6_init : Cond.instanceMethod yX6_init ∈ gt := gt_tb 14 (by decide +kernel) rfl
set_option maxRecDepth 20000 in
theorem im_obj : Cond.instanceMethod objectInit ∈ gt := gt_tb 17 (by decide +kernel) rfl
set_option maxRecDepth 20000 in
theorem im_X1_init : Cond.instanceMethod yX1_init ∈ gt := gt_tb 22 (by decide +kernel) rfl
set_option maxRecDepth 20000 in
theorem im_X0_init : Cond.instanceMethod yX0_init ∈ gt := gt_tb 40 (by decide +kernel) rfl
set_option maxRecDepth 20000 in
theorem im_X3_init : Cond.instanceMethod yX3_init ∈ gt := gt_tb 59 (by decide +kernel) rfl
set_option maxRecDepth 20000 in
theorem im_X3_fillFactorials : Cond.instanceMethod yX3_fillFactorials ∈ gt := gt_tb 69 (by decide +kernel) rfl
set_option maxRecDepth 20000 in
theorem im_X3_fillDeranged : Cond.instanceMethod yX3_fillDeranged ∈ gt := gt_tb 73 (by decide +kernel) rfl
set_option maxRecDepth 20000 in
theorem im_X3_fillRecords : Cond.instanceMethod yX3_fillRecords ∈ gt := gt_tb 77 (by decide +kernel) rfl
set_option maxRecDepth 20000 in
theorem im_X3_fillRoundsUpTo : Cond.instanceMethod yX3_fillRoundsUpTo ∈ gt := gt_tb 81 (by decide +kernel) rfl
set_option maxRecDepth 20000 in
theorem im_X3_sumByRoundOfLast : Cond.instanceMethod yX3_sumByRoundOfLast ∈ gt := gt_tb 85 (by decide +kernel) rfl
set_option maxRecDepth 20000 in
theorem im_X3_fillRises : Cond.instanceMethod yX3_fillRises ∈ gt := gt_tb 89 (by decide +kernel) rfl
set_option maxRecDepth 20000 in
theorem im_X3_fillRisesByBelow : Cond.instanceMethod yX3_fillRisesByBelow ∈ gt := gt_tb 93 (by decide +kernel) rfl
set_option maxRecDepth 20000 in
theorem im_X3_withRises : Cond.instanceMethod yX3_withRises ∈ gt := gt_tb 96 (by decide +kernel) rfl
set_option maxRecDepth 20000 in
theorem im_X5_init : Cond.instanceMethod yX5_init ∈ gt := gt_tb 121 (by decide +kernel) rfl
set_option maxRecDepth 20000 in
theorem im_X6_startWith : Cond.instanceMethod yX6_startWith ∈ gt := gt_tb 154 (by decide +kernel) rfl
set_option maxRecDepth 20000 in
theorem im_X1_startWith : Cond.instanceMethod yX1_startWith ∈ gt := gt_tb 160 (by decide +kernel) rfl
set_option maxRecDepth 20000 in
theorem im_X0_emptyAll : Cond.instanceMethod yX0_emptyAll ∈ gt := gt_tb 165 (by decide +kernel) rfl
set_option maxRecDepth 20000 in
theorem im_X6_things : Cond.instanceMethod yX6_things ∈ gt := gt_tb 194 (by decide +kernel) rfl
set_option maxRecDepth 20000 in
theorem im_X6_order : Cond.instanceMethod yX6_order ∈ gt := gt_tb 198 (by decide +kernel) rfl
set_option maxRecDepth 20000 in
theorem im_X1_readFigures : Cond.instanceMethod yX1_readFigures ∈ gt := gt_tb 202 (by decide +kernel) rfl
set_option maxRecDepth 20000 in
theorem im_X1_holds : Cond.instanceMethod yX1_holds ∈ gt := gt_tb 207 (by decide +kernel) rfl
set_option maxRecDepth 20000 in
theorem im_X1_keepMade : Cond.instanceMethod yX1_keepMade ∈ gt := gt_tb 211 (by decide +kernel) rfl
set_option maxRecDepth 20000 in
theorem im_X6_at : Cond.instanceMethod yX6_at ∈ gt := gt_tb 215 (by decide +kernel) rfl
set_option maxRecDepth 20000 in
theorem im_X6_isThing : Cond.instanceMethod yX6_isThing ∈ gt := gt_tb 220 (by decide +kernel) rfl
set_option maxRecDepth 20000 in
theorem im_X1_follow : Cond.instanceMethod yX1_follow ∈ gt := gt_tb 223 (by decide +kernel) rfl
set_option maxRecDepth 20000 in
theorem im_X6_swap : Cond.instanceMethod yX6_swap ∈ gt := gt_tb 227 (by decide +kernel) rfl
set_option maxRecDepth 20000 in
theorem im_X1_exchange : Cond.instanceMethod yX1_exchange ∈ gt := gt_tb 231 (by decide +kernel) rfl
set_option maxRecDepth 20000 in
theorem im_X6_lay : Cond.instanceMethod yX6_lay ∈ gt := gt_tb 235 (by decide +kernel) rfl
set_option maxRecDepth 20000 in
theorem im_X1_copyFrom : Cond.instanceMethod yX1_copyFrom ∈ gt := gt_tb 242 (by decide +kernel) rfl
set_option maxRecDepth 20000 in
theorem im_X6_take : Cond.instanceMethod yX6_take ∈ gt := gt_tb 246 (by decide +kernel) rfl
set_option maxRecDepth 20000 in
theorem im_X6_then : Cond.instanceMethod yX6_then ∈ gt := gt_tb 250 (by decide +kernel) rfl
set_option maxRecDepth 20000 in
theorem im_X1_goOnBy : Cond.instanceMethod yX1_goOnBy ∈ gt := gt_tb 254 (by decide +kernel) rfl
set_option maxRecDepth 20000 in
theorem im_X6_back : Cond.instanceMethod yX6_back ∈ gt := gt_tb 259 (by decide +kernel) rfl
set_option maxRecDepth 20000 in
theorem im_X1_turnBack : Cond.instanceMethod yX1_turnBack ∈ gt := gt_tb 263 (by decide +kernel) rfl
set_option maxRecDepth 20000 in
theorem im_X1_makeAt : Cond.instanceMethod yX1_makeAt ∈ gt := gt_tb 267 (by decide +kernel) rfl
set_option maxRecDepth 20000 in
theorem im_X6_number : Cond.instanceMethod yX6_number ∈ gt := gt_tb 271 (by decide +kernel) rfl
set_option maxRecDepth 20000 in
theorem im_X1_numberOf : Cond.instanceMethod yX1_numberOf ∈ gt := gt_tb 278 (by decide +kernel) rfl
set_option maxRecDepth 20000 in
theorem im_X1_rounds : Cond.instanceMethod yX1_rounds ∈ gt := gt_tb 282 (by decide +kernel) rfl
set_option maxRecDepth 20000 in
theorem im_X1_leadsRound : Cond.instanceMethod yX1_leadsRound ∈ gt := gt_tb 286 (by decide +kernel) rfl
set_option maxRecDepth 20000 in
theorem im_X1_records : Cond.instanceMethod yX1_records ∈ gt := gt_tb 290 (by decide +kernel) rfl
set_option maxRecDepth 20000 in
theorem im_X1_rises : Cond.instanceMethod yX1_rises ∈ gt := gt_tb 294 (by decide +kernel) rfl
set_option maxRecDepth 20000 in
theorem im_X1_still : Cond.instanceMethod yX1_still ∈ gt := gt_tb 298 (by decide +kernel) rfl
set_option maxRecDepth 20000 in
theorem im_X1_longestRound : Cond.instanceMethod yX1_longestRound ∈ gt := gt_tb 302 (by decide +kernel) rfl
set_option maxRecDepth 20000 in
theorem im_X1_roundLength : Cond.instanceMethod yX1_roundLength ∈ gt := gt_tb 306 (by decide +kernel) rfl
set_option maxRecDepth 20000 in
theorem im_X1_pairsOut : Cond.instanceMethod yX1_pairsOut ∈ gt := gt_tb 313 (by decide +kernel) rfl
set_option maxRecDepth 20000 in
theorem im_X1_longestRise : Cond.instanceMethod yX1_longestRise ∈ gt := gt_tb 317 (by decide +kernel) rfl
set_option maxRecDepth 20000 in
theorem im_X1_turns : Cond.instanceMethod yX1_turns ∈ gt := gt_tb 321 (by decide +kernel) rfl
set_option maxRecDepth 20000 in
theorem im_X6_many : Cond.instanceMethod yX6_many ∈ gt := gt_tb 334 (by decide +kernel) rfl
set_option maxRecDepth 20000 in
theorem im_X6_tallyOf : Cond.instanceMethod yX6_tallyOf ∈ gt := gt_tb 339 (by decide +kernel) rfl
set_option maxRecDepth 20000 in
theorem im_X4_init : Cond.instanceMethod yX4_init ∈ gt := gt_tb 343 (by decide +kernel) rfl
set_option maxRecDepth 20000 in
theorem im_X4_fillPairsOut : Cond.instanceMethod yX4_fillPairsOut ∈ gt := gt_tb 352 (by decide +kernel) rfl
set_option maxRecDepth 20000 in
theorem im_X4_fillByPartitions : Cond.instanceMethod yX4_fillByPartitions ∈ gt := gt_tb 356 (by decide +kernel) rfl
set_option maxRecDepth 20000 in
theorem im_X2_init : Cond.instanceMethod yX2_init ∈ gt := gt_tb 361 (by decide +kernel) rfl
set_option maxRecDepth 20000 in
theorem im_X3_ordersOf : Cond.instanceMethod yX3_ordersOf ∈ gt := gt_tb 372 (by decide +kernel) rfl
set_option maxRecDepth 20000 in
theorem im_X2_hookProduct : Cond.instanceMethod yX2_hookProduct ∈ gt := gt_tb 376 (by decide +kernel) rfl
set_option maxRecDepth 20000 in
theorem im_X2_firstPart : Cond.instanceMethod yX2_firstPart ∈ gt := gt_tb 381 (by decide +kernel) rfl
set_option maxRecDepth 20000 in
theorem im_X4_addOrders : Cond.instanceMethod yX4_addOrders ∈ gt := gt_tb 386 (by decide +kernel) rfl
set_option maxRecDepth 20000 in
theorem im_X2_turns : Cond.instanceMethod yX2_turns ∈ gt := gt_tb 389 (by decide +kernel) rfl
set_option maxRecDepth 20000 in
theorem im_X2_sameRounds : Cond.instanceMethod yX2_sameRounds ∈ gt := gt_tb 394 (by decide +kernel) rfl
set_option maxRecDepth 20000 in
theorem im_X2_goOn : Cond.instanceMethod yX2_goOn ∈ gt := gt_tb 398 (by decide +kernel) rfl
set_option maxRecDepth 20000 in
theorem im_X4_fillByTables : Cond.instanceMethod yX4_fillByTables ∈ gt := gt_tb 404 (by decide +kernel) rfl
set_option maxRecDepth 20000 in
theorem im_X4_fromTables : Cond.instanceMethod yX4_fromTables ∈ gt := gt_tb 408 (by decide +kernel) rfl
set_option maxRecDepth 20000 in
theorem im_X3_withRecords : Cond.instanceMethod yX3_withRecords ∈ gt := gt_tb 411 (by decide +kernel) rfl
set_option maxRecDepth 20000 in
theorem im_X3_withStill : Cond.instanceMethod yX3_withStill ∈ gt := gt_tb 416 (by decide +kernel) rfl
set_option maxRecDepth 20000 in
theorem im_X3_withRoundsUpTo : Cond.instanceMethod yX3_withRoundsUpTo ∈ gt := gt_tb 420 (by decide +kernel) rfl
set_option maxRecDepth 20000 in
theorem im_X4_ordersWith : Cond.instanceMethod yX4_ordersWith ∈ gt := gt_tb 434 (by decide +kernel) rfl
set_option maxRecDepth 20000 in
theorem im_X6_mean : Cond.instanceMethod yX6_mean ∈ gt := gt_tb 440 (by decide +kernel) rfl
set_option maxRecDepth 20000 in
theorem im_X4_sumOfNumbers : Cond.instanceMethod yX4_sumOfNumbers ∈ gt := gt_tb 444 (by decide +kernel) rfl
set_option maxRecDepth 20000 in
theorem im_X6_row : Cond.instanceMethod yX6_row ∈ gt := gt_tb 449 (by decide +kernel) rfl
set_option maxRecDepth 20000 in
theorem im_X5_start : Cond.instanceMethod yX5_start ∈ gt := gt_tb 456 (by decide +kernel) rfl
set_option maxRecDepth 20000 in
theorem im_X5_waysAtStart : Cond.instanceMethod yX5_waysAtStart ∈ gt := gt_tb 461 (by decide +kernel) rfl
set_option maxRecDepth 20000 in
theorem im_X5_ways : Cond.instanceMethod yX5_ways ∈ gt := gt_tb 466 (by decide +kernel) rfl
set_option maxRecDepth 20000 in
theorem im_X5_writeRow : Cond.instanceMethod yX5_writeRow ∈ gt := gt_tb 472 (by decide +kernel) rfl
set_option maxRecDepth 20000 in
theorem im_X5_waysWith : Cond.instanceMethod yX5_waysWith ∈ gt := gt_tb 477 (by decide +kernel) rfl
set_option maxRecDepth 20000 in
theorem im_X5_wantedAfter : Cond.instanceMethod yX5_wantedAfter ∈ gt := gt_tb 482 (by decide +kernel) rfl
set_option maxRecDepth 20000 in
theorem im_X5_step : Cond.instanceMethod yX5_step ∈ gt := gt_tb 487 (by decide +kernel) rfl
set_option maxRecDepth 20000 in
theorem im_X6_place : Cond.instanceMethod yX6_place ∈ gt := gt_tb 491 (by decide +kernel) rfl
set_option maxRecDepth 20000 in
theorem im_X5_rowsAheadOf : Cond.instanceMethod yX5_rowsAheadOf ∈ gt := gt_tb 495 (by decide +kernel) rfl
set_option maxRecDepth 20000 in
theorem im_X6_toRounds : Cond.instanceMethod yX6_toRounds ∈ gt := gt_tb 500 (by decide +kernel) rfl
set_option maxRecDepth 20000 in
theorem im_X1_makeRounds : Cond.instanceMethod yX1_makeRounds ∈ gt := gt_tb 504 (by decide +kernel) rfl
set_option maxRecDepth 20000 in
theorem im_X6_toRecords : Cond.instanceMethod yX6_toRecords ∈ gt := gt_tb 508 (by decide +kernel) rfl
set_option maxRecDepth 20000 in
theorem im_X1_makeRecords : Cond.instanceMethod yX1_makeRecords ∈ gt := gt_tb 512 (by decide +kernel) rfl
set_option maxRecDepth 20000 in
theorem im_X6_opens : Cond.instanceMethod yX6_opens ∈ gt := gt_tb 516 (by decide +kernel) rfl
set_option maxRecDepth 20000 in
theorem im_X6_list : Cond.instanceMethod yX6_list ∈ gt := gt_tb 520 (by decide +kernel) rfl
set_option maxRecDepth 20000 in
theorem im_X0_hasBox : Cond.instanceMethod yX0_hasBox ∈ gt := gt_tb 524 (by decide +kernel) rfl
set_option maxRecDepth 20000 in
theorem im_X0_firstOf : Cond.instanceMethod yX0_firstOf ∈ gt := gt_tb 528 (by decide +kernel) rfl
set_option maxRecDepth 20000 in
theorem im_X0_holds : Cond.instanceMethod yX0_holds ∈ gt := gt_tb 532 (by decide +kernel) rfl
set_option maxRecDepth 20000 in
theorem im_X0_addBox : Cond.instanceMethod yX0_addBox ∈ gt := gt_tb 537 (by decide +kernel) rfl
set_option maxRecDepth 20000 in
theorem im_X6_forget : Cond.instanceMethod yX6_forget ∈ gt := gt_tb 541 (by decide +kernel) rfl
set_option maxRecDepth 20000 in
theorem im_X0_emptyOne : Cond.instanceMethod yX0_emptyOne ∈ gt := gt_tb 545 (by decide +kernel) rfl
set_option maxRecDepth 20000 in
theorem im_X6_wins : Cond.instanceMethod yX6_wins ∈ gt := gt_tb 549 (by decide +kernel) rfl
set_option maxRecDepth 20000 in
theorem im_X0_findsOwnThing : Cond.instanceMethod yX0_findsOwnThing ∈ gt := gt_tb 557 (by decide +kernel) rfl
set_option maxRecDepth 20000 in
theorem im_X6_allWin : Cond.instanceMethod yX6_allWin ∈ gt := gt_tb 562 (by decide +kernel) rfl
set_option maxRecDepth 20000 in
theorem im_X0_ordersWonByAll : Cond.instanceMethod yX0_ordersWonByAll ∈ gt := gt_tb 568 (by decide +kernel) rfl
set_option maxRecDepth 20000 in
theorem im_X0_placeNextThing : Cond.instanceMethod yX0_placeNextThing ∈ gt := gt_tb 573 (by decide +kernel) rfl
set_option maxRecDepth 20000 in
theorem im_X6_count : Cond.instanceMethod yX6_count ∈ gt := gt_tb 583 (by decide +kernel) rfl
set_option maxRecDepth 20000 in
theorem im_X0_boxesInAll : Cond.instanceMethod yX0_boxesInAll ∈ gt := gt_tb 587 (by decide +kernel) rfl
set_option maxRecDepth 20000 in
theorem im_X7_init : Cond.instanceMethod yX7_init ∈ gt := gt_tb 593 (by decide +kernel) rfl
set_option maxRecDepth 20000 in
theorem im_X7_begin : Cond.instanceMethod yX7_begin ∈ gt := gt_tb 598 (by decide +kernel) rfl
set_option maxRecDepth 20000 in
theorem im_X7_things : Cond.instanceMethod yX7_things ∈ gt := gt_tb 650 (by decide +kernel) rfl
set_option maxRecDepth 20000 in
theorem im_X7_order : Cond.instanceMethod yX7_order ∈ gt := gt_tb 658 (by decide +kernel) rfl
set_option maxRecDepth 20000 in
theorem im_X7_become : Cond.instanceMethod yX7_become ∈ gt := gt_tb 663 (by decide +kernel) rfl
set_option maxRecDepth 20000 in
theorem im_X7_at : Cond.instanceMethod yX7_at ∈ gt := gt_tb 666 (by decide +kernel) rfl
set_option maxRecDepth 20000 in
theorem im_X7_isThing : Cond.instanceMethod yX7_isThing ∈ gt := gt_tb 671 (by decide +kernel) rfl
set_option maxRecDepth 20000 in
theorem im_X7_swap : Cond.instanceMethod yX7_swap ∈ gt := gt_tb 674 (by decide +kernel) rfl
set_option maxRecDepth 20000 in
theorem im_X7_lay : Cond.instanceMethod yX7_lay ∈ gt := gt_tb 678 (by decide +kernel) rfl
set_option maxRecDepth 20000 in
theorem im_X7_take : Cond.instanceMethod yX7_take ∈ gt := gt_tb 683 (by decide +kernel) rfl
set_option maxRecDepth 20000 in
theorem im_X7_then : Cond.instanceMethod yX7_then ∈ gt := gt_tb 687 (by decide +kernel) rfl
set_option maxRecDepth 20000 in
theorem im_X7_back : Cond.instanceMethod yX7_back ∈ gt := gt_tb 691 (by decide +kernel) rfl
set_option maxRecDepth 20000 in
theorem im_X7_number : Cond.instanceMethod yX7_number ∈ gt := gt_tb 695 (by decide +kernel) rfl
set_option maxRecDepth 20000 in
theorem im_X7_numberOf : Cond.instanceMethod yX7_numberOf ∈ gt := gt_tb 701 (by decide +kernel) rfl
set_option maxRecDepth 20000 in
theorem im_X7_roundOf : Cond.instanceMethod yX7_roundOf ∈ gt := gt_tb 705 (by decide +kernel) rfl
set_option maxRecDepth 20000 in
theorem im_X7_isFirst : Cond.instanceMethod yX7_isFirst ∈ gt := gt_tb 712 (by decide +kernel) rfl
set_option maxRecDepth 20000 in
theorem im_X7_isRecord : Cond.instanceMethod yX7_isRecord ∈ gt := gt_tb 716 (by decide +kernel) rfl
set_option maxRecDepth 20000 in
theorem im_X7_out : Cond.instanceMethod yX7_out ∈ gt := gt_tb 720 (by decide +kernel) rfl
set_option maxRecDepth 20000 in
theorem im_X7_longestRise : Cond.instanceMethod yX7_longestRise ∈ gt := gt_tb 724 (by decide +kernel) rfl
set_option maxRecDepth 20000 in
theorem im_X7_many : Cond.instanceMethod yX7_many ∈ gt := gt_tb 727 (by decide +kernel) rfl
set_option maxRecDepth 20000 in
theorem im_X7_findCounts : Cond.instanceMethod yX7_findCounts ∈ gt := gt_tb 733 (by decide +kernel) rfl
set_option maxRecDepth 20000 in
theorem im_X7_layProducts : Cond.instanceMethod yX7_layProducts ∈ gt := gt_tb 737 (by decide +kernel) rfl
set_option maxRecDepth 20000 in
theorem im_X7_countByThings : Cond.instanceMethod yX7_countByThings ∈ gt := gt_tb 741 (by decide +kernel) rfl
set_option maxRecDepth 20000 in
theorem im_X7_step : Cond.instanceMethod yX7_step ∈ gt := gt_tb 745 (by decide +kernel) rfl
set_option maxRecDepth 20000 in
theorem im_X7_countByShapes : Cond.instanceMethod yX7_countByShapes ∈ gt := gt_tb 749 (by decide +kernel) rfl
set_option maxRecDepth 20000 in
theorem im_X7_shapeNumber : Cond.instanceMethod yX7_shapeNumber ∈ gt := gt_tb 753 (by decide +kernel) rfl
set_option maxRecDepth 20000 in
theorem im_X7_byFillings : Cond.instanceMethod yX7_byFillings ∈ gt := gt_tb 757 (by decide +kernel) rfl
set_option maxRecDepth 20000 in
theorem im_X7_byRounds : Cond.instanceMethod yX7_byRounds ∈ gt := gt_tb 761 (by decide +kernel) rfl
set_option maxRecDepth 20000 in
theorem im_X7_nextShape : Cond.instanceMethod yX7_nextShape ∈ gt := gt_tb 765 (by decide +kernel) rfl
set_option maxRecDepth 20000 in
theorem im_X7_mean : Cond.instanceMethod yX7_mean ∈ gt := gt_tb 769 (by decide +kernel) rfl
set_option maxRecDepth 20000 in
theorem im_X7_row : Cond.instanceMethod yX7_row ∈ gt := gt_tb 773 (by decide +kernel) rfl
set_option maxRecDepth 20000 in
theorem im_X7_beginRow : Cond.instanceMethod yX7_beginRow ∈ gt := gt_tb 781 (by decide +kernel) rfl
set_option maxRecDepth 20000 in
theorem im_X7_layWays : Cond.instanceMethod yX7_layWays ∈ gt := gt_tb 785 (by decide +kernel) rfl
set_option maxRecDepth 20000 in
theorem im_X7_waysBy : Cond.instanceMethod yX7_waysBy ∈ gt := gt_tb 789 (by decide +kernel) rfl
set_option maxRecDepth 20000 in
theorem im_X7_waysAt : Cond.instanceMethod yX7_waysAt ∈ gt := gt_tb 796 (by decide +kernel) rfl
set_option maxRecDepth 20000 in
theorem im_X7_put : Cond.instanceMethod yX7_put ∈ gt := gt_tb 800 (by decide +kernel) rfl
set_option maxRecDepth 20000 in
theorem im_X7_place : Cond.instanceMethod yX7_place ∈ gt := gt_tb 803 (by decide +kernel) rfl
set_option maxRecDepth 20000 in
theorem im_X7_toRounds : Cond.instanceMethod yX7_toRounds ∈ gt := gt_tb 807 (by decide +kernel) rfl
set_option maxRecDepth 20000 in
theorem im_X7_toRecords : Cond.instanceMethod yX7_toRecords ∈ gt := gt_tb 811 (by decide +kernel) rfl
set_option maxRecDepth 20000 in
theorem im_X7_isGreatest : Cond.instanceMethod yX7_isGreatest ∈ gt := gt_tb 816 (by decide +kernel) rfl
set_option maxRecDepth 20000 in
theorem im_X7_opens : Cond.instanceMethod yX7_opens ∈ gt := gt_tb 819 (by decide +kernel) rfl
set_option maxRecDepth 20000 in
theorem im_X7_list : Cond.instanceMethod yX7_list ∈ gt := gt_tb 823 (by decide +kernel) rfl
set_option maxRecDepth 20000 in
theorem im_X7_forget : Cond.instanceMethod yX7_forget ∈ gt := gt_tb 827 (by decide +kernel) rfl
set_option maxRecDepth 20000 in
theorem im_X7_wins : Cond.instanceMethod yX7_wins ∈ gt := gt_tb 831 (by decide +kernel) rfl
set_option maxRecDepth 20000 in
theorem im_X7_winsBy : Cond.instanceMethod yX7_winsBy ∈ gt := gt_tb 836 (by decide +kernel) rfl
set_option maxRecDepth 20000 in
theorem im_X7_allWin : Cond.instanceMethod yX7_allWin ∈ gt := gt_tb 839 (by decide +kernel) rfl
set_option maxRecDepth 20000 in
theorem im_X7_layRow : Cond.instanceMethod yX7_layRow ∈ gt := gt_tb 845 (by decide +kernel) rfl
set_option maxRecDepth 20000 in
theorem im_X7_count : Cond.instanceMethod yX7_count ∈ gt := gt_tb 848 (by decide +kernel) rfl
set_option maxRecDepth 20000 in
theorem sm_X3_riseSlot : Cond.static yX3_riseSlot ∈ gt := gt_tb 65 (by decide +kernel) rfl
set_option maxRecDepth 20000 in
theorem sm_X6_entry : Cond.static yX6_entry ∈ gt := gt_tb 100 (by decide +kernel) rfl
set_option maxRecDepth 20000 in
theorem sm_J9_min : Cond.static Lib.Math.min.name ∈ gt := gt_tb 157 (by decide +kernel) rfl
set_option maxRecDepth 20000 in
theorem sm_X6_isPlace : Cond.static yX6_isPlace ∈ gt := gt_tb 239 (by decide +kernel) rfl
set_option maxRecDepth 20000 in
theorem sm_X6_isKind : Cond.static yX6_isKind ∈ gt := gt_tb 275 (by decide +kernel) rfl
set_option maxRecDepth 20000 in
theorem sm_J9_max : Cond.static Lib.Math.max.name ∈ gt := gt_tb 310 (by decide +kernel) rfl
set_option maxRecDepth 20000 in
theorem sm_X6_commonMultiple : Cond.static yX6_commonMultiple ∈ gt := gt_tb 325 (by decide +kernel) rfl
set_option maxRecDepth 20000 in
theorem sm_X6_commonDivisor : Cond.static yX6_commonDivisor ∈ gt := gt_tb 328 (by decide +kernel) rfl
set_option maxRecDepth 20000 in
theorem sm_X6_quotient : Cond.static yX6_quotient ∈ gt := gt_tb 331 (by decide +kernel) rfl
set_option maxRecDepth 20000 in
theorem sm_X4_greatest : Cond.static yX4_greatest ∈ gt := gt_tb 347 (by decide +kernel) rfl
set_option maxRecDepth 20000 in
theorem sm_X6_isRowKind : Cond.static yX6_isRowKind ∈ gt := gt_tb 453 (by decide +kernel) rfl
set_option maxRecDepth 20000 in
theorem sm_X6_isWay : Cond.static yX6_isWay ∈ gt := gt_tb 553 (by decide +kernel) rfl
set_option maxRecDepth 20000 in
theorem sm_J6_bitCount_0f7a4 : Cond.static yJ6_bitCount_0f7a4 ∈ gt := gt_tb 577 (by decide +kernel) rfl
set_option maxRecDepth 20000 in
theorem sm_X7_in : Cond.static yX7_in ∈ gt := gt_tb 655 (by decide +kernel) rfl
set_option maxRecDepth 20000 in
theorem sm_X7_common : Cond.static yX7_common ∈ gt := gt_tb 708 (by decide +kernel) rfl
set_option maxRecDepth 20000 in
theorem sm_X7_isKind : Cond.static yX7_isKind ∈ gt := gt_tb 777 (by decide +kernel) rfl
set_option maxRecDepth 20000 in
theorem sm_X7_wayAt : Cond.static yX7_wayAt ∈ gt := gt_tb 792 (by decide +kernel) rfl
set_option maxRecDepth 20000 in
theorem cw_X6_init : Cond.code yX6_init cX6_init 2 none ∈ gt := gt_tb 15 (by decide +kernel) rfl
set_option maxRecDepth 20000 in
theorem cw_obj : Cond.code objectInit ⟨#[0xb1]⟩ 1 none ∈ gt := gt_tb 18 (by decide +kernel) rfl
set_option maxRecDepth 20000 in
theorem cw_X1_init : Cond.code yX1_init cX1_init 1 none ∈ gt := gt_tb 23 (by decide +kernel) rfl
set_option maxRecDepth 20000 in
theorem cw_X0_init : Cond.code yX0_init cX0_init 1 none ∈ gt := gt_tb 41 (by decide +kernel) rfl
set_option maxRecDepth 20000 in
theorem cw_X3_init : Cond.code yX3_init cX3_init 1 none ∈ gt := gt_tb 60 (by decide +kernel) rfl
set_option maxRecDepth 20000 in
theorem cw_X3_riseSlot : Cond.code yX3_riseSlot cX3_riseSlot 3 (some .int) ∈ gt := gt_tb 66 (by decide +kernel) rfl
set_option maxRecDepth 20000 in
theorem cw_X3_fillFactorials : Cond.code yX3_fillFactorials cX3_fillFactorials 2 none ∈ gt := gt_tb 70 (by decide +kernel) rfl
set_option maxRecDepth 20000 in
theorem cw_X3_fillDeranged : Cond.code yX3_fillDeranged cX3_fillDeranged 2 none ∈ gt := gt_tb 74 (by decide +kernel) rfl
set_option maxRecDepth 20000 in
theorem cw_X3_fillRecords : Cond.code yX3_fillRecords cX3_fillRecords 3 none ∈ gt := gt_tb 78 (by decide +kernel) rfl
set_option maxRecDepth 20000 in
theorem cw_X3_fillRoundsUpTo : Cond.code yX3_fillRoundsUpTo cX3_fillRoundsUpTo 3 none ∈ gt := gt_tb 82 (by decide +kernel) rfl
set_option maxRecDepth 20000 in
theorem cw_X3_sumByRoundOfLast : Cond.code yX3_sumByRoundOfLast cX3_sumByRoundOfLast 8 (some .long) ∈ gt := gt_tb 86 (by decide +kernel) rfl
set_option maxRecDepth 20000 in
theorem cw_X3_fillRises : Cond.code yX3_fillRises cX3_fillRises 3 none ∈ gt := gt_tb 90 (by decide +kernel) rfl
set_option maxRecDepth 20000 in
theorem cw_X3_fillRisesByBelow : Cond.code yX3_fillRisesByBelow cX3_fillRisesByBelow 6 none ∈ gt := gt_tb 94 (by decide +kernel) rfl
set_option maxRecDepth 20000 in
theorem cw_X3_withRises : Cond.code yX3_withRises cX3_withRises 4 (some .long) ∈ gt := gt_tb 98 (by decide +kernel) rfl
set_option maxRecDepth 20000 in
theorem cw_X6_entry : Cond.code yX6_entry cX6_entry 2 (some .long) ∈ gt := gt_tb 101 (by decide +kernel) rfl
set_option maxRecDepth 20000 in
theorem cw_X5_init : Cond.code yX5_init cX5_init 2 none ∈ gt := gt_tb 122 (by decide +kernel) rfl
set_option maxRecDepth 20000 in
theorem cw_X6_startWith : Cond.code yX6_startWith cX6_startWith 3 none ∈ gt := gt_tb 155 (by decide +kernel) rfl
set_option maxRecDepth 20000 in
theorem cw_J9_min : Cond.code Lib.Math.min.name Lib.Math.min.code 2 (some .int) ∈ gt := gt_tb 158 (by decide +kernel) rfl
set_option maxRecDepth 20000 in
theorem cw_X1_startWith : Cond.code yX1_startWith cX1_startWith 3 none ∈ gt := gt_tb 162 (by decide +kernel) rfl
set_option maxRecDepth 20000 in
theorem cw_X0_emptyAll : Cond.code yX0_emptyAll cX0_emptyAll 2 none ∈ gt := gt_tb 167 (by decide +kernel) rfl
set_option maxRecDepth 20000 in
theorem cw_X6_things : Cond.code yX6_things cX6_things 2 (some .int) ∈ gt := gt_tb 196 (by decide +kernel) rfl
set_option maxRecDepth 20000 in
theorem cw_X6_order : Cond.code yX6_order cX6_order 5 (some .int) ∈ gt := gt_tb 200 (by decide +kernel) rfl
set_option maxRecDepth 20000 in
theorem cw_X1_readFigures : Cond.code yX1_readFigures cX1_readFigures 13 (some .boolean) ∈ gt := gt_tb 204 (by decide +kernel) rfl
set_option maxRecDepth 20000 in
theorem cw_X1_holds : Cond.code yX1_holds cX1_holds 2 (some .boolean) ∈ gt := gt_tb 209 (by decide +kernel) rfl
set_option maxRecDepth 20000 in
theorem cw_X1_keepMade : Cond.code yX1_keepMade cX1_keepMade 2 none ∈ gt := gt_tb 213 (by decide +kernel) rfl
set_option maxRecDepth 20000 in
theorem cw_X6_at : Cond.code yX6_at cX6_at 2 (some .int) ∈ gt := gt_tb 217 (by decide +kernel) rfl
set_option maxRecDepth 20000 in
theorem cw_X6_isThing : Cond.code yX6_isThing cX6_isThing 2 (some .boolean) ∈ gt := gt_tb 221 (by decide +kernel) rfl
set_option maxRecDepth 20000 in
theorem cw_X1_follow : Cond.code yX1_follow cX1_follow 2 (some .int) ∈ gt := gt_tb 225 (by decide +kernel) rfl
set_option maxRecDepth 20000 in
theorem cw_X6_swap : Cond.code yX6_swap cX6_swap 3 (some .int) ∈ gt := gt_tb 229 (by decide +kernel) rfl
set_option maxRecDepth 20000 in
theorem cw_X1_exchange : Cond.code yX1_exchange cX1_exchange 4 none ∈ gt := gt_tb 233 (by decide +kernel) rfl
set_option maxRecDepth 20000 in
theorem cw_X6_lay : Cond.code yX6_lay cX6_lay 2 (some .int) ∈ gt := gt_tb 237 (by decide +kernel) rfl
set_option maxRecDepth 20000 in
theorem cw_X6_isPlace : Cond.code yX6_isPlace cX6_isPlace 1 (some .boolean) ∈ gt := gt_tb 240 (by decide +kernel) rfl
set_option maxRecDepth 20000 in
theorem cw_X1_copyFrom : Cond.code yX1_copyFrom cX1_copyFrom 3 none ∈ gt := gt_tb 244 (by decide +kernel) rfl
set_option maxRecDepth 20000 in
theorem cw_X6_take : Cond.code yX6_take cX6_take 2 (some .int) ∈ gt := gt_tb 248 (by decide +kernel) rfl
set_option maxRecDepth 20000 in
theorem cw_X6_then : Cond.code yX6_then cX6_then 2 (some .int) ∈ gt := gt_tb 252 (by decide +kernel) rfl
set_option maxRecDepth 20000 in
theorem cw_X1_goOnBy : Cond.code yX1_goOnBy cX1_goOnBy 3 none ∈ gt := gt_tb 256 (by decide +kernel) rfl
set_option maxRecDepth 20000 in
theorem cw_X6_back : Cond.code yX6_back cX6_back 1 (some .int) ∈ gt := gt_tb 261 (by decide +kernel) rfl
set_option maxRecDepth 20000 in
theorem cw_X1_turnBack : Cond.code yX1_turnBack cX1_turnBack 2 none ∈ gt := gt_tb 265 (by decide +kernel) rfl
set_option maxRecDepth 20000 in
theorem cw_X1_makeAt : Cond.code yX1_makeAt cX1_makeAt 3 none ∈ gt := gt_tb 269 (by decide +kernel) rfl
set_option maxRecDepth 20000 in
theorem cw_X6_number : Cond.code yX6_number cX6_number 2 (some .int) ∈ gt := gt_tb 273 (by decide +kernel) rfl
set_option maxRecDepth 20000 in
theorem cw_X6_isKind : Cond.code yX6_isKind cX6_isKind 1 (some .boolean) ∈ gt := gt_tb 276 (by decide +kernel) rfl
set_option maxRecDepth 20000 in
theorem cw_X1_numberOf : Cond.code yX1_numberOf cX1_numberOf 2 (some .int) ∈ gt := gt_tb 280 (by decide +kernel) rfl
set_option maxRecDepth 20000 in
theorem cw_X1_rounds : Cond.code yX1_rounds cX1_rounds 3 (some .int) ∈ gt := gt_tb 284 (by decide +kernel) rfl
set_option maxRecDepth 20000 in
theorem cw_X1_leadsRound : Cond.code yX1_leadsRound cX1_leadsRound 4 (some .boolean) ∈ gt := gt_tb 288 (by decide +kernel) rfl
set_option maxRecDepth 20000 in
theorem cw_X1_records : Cond.code yX1_records cX1_records 4 (some .int) ∈ gt := gt_tb 292 (by decide +kernel) rfl
set_option maxRecDepth 20000 in
theorem cw_X1_rises : Cond.code yX1_rises cX1_rises 3 (some .int) ∈ gt := gt_tb 296 (by decide +kernel) rfl
set_option maxRecDepth 20000 in
theorem cw_X1_still : Cond.code yX1_still cX1_still 3 (some .int) ∈ gt := gt_tb 300 (by decide +kernel) rfl
set_option maxRecDepth 20000 in
theorem cw_X1_longestRound : Cond.code yX1_longestRound cX1_longestRound 3 (some .int) ∈ gt := gt_tb 304 (by decide +kernel) rfl
set_option maxRecDepth 20000 in
theorem cw_X1_roundLength : Cond.code yX1_roundLength cX1_roundLength 4 (some .int) ∈ gt := gt_tb 308 (by decide +kernel) rfl
set_option maxRecDepth 20000 in
theorem cw_J9_max : Cond.code Lib.Math.max.name Lib.Math.max.code 2 (some .int) ∈ gt := gt_tb 311 (by decide +kernel) rfl
set_option maxRecDepth 20000 in
theorem cw_X1_pairsOut : Cond.code yX1_pairsOut cX1_pairsOut 4 (some .int) ∈ gt := gt_tb 315 (by decide +kernel) rfl
set_option maxRecDepth 20000 in
theorem cw_X1_longestRise : Cond.code yX1_longestRise cX1_longestRise 5 (some .int) ∈ gt := gt_tb 319 (by decide +kernel) rfl
set_option maxRecDepth 20000 in
theorem cw_X1_turns : Cond.code yX1_turns cX1_turns 3 (some .int) ∈ gt := gt_tb 323 (by decide +kernel) rfl
set_option maxRecDepth 20000 in
theorem cw_X6_commonMultiple : Cond.code yX6_commonMultiple cX6_commonMultiple 2 (some .int) ∈ gt := gt_tb 326 (by decide +kernel) rfl
set_option maxRecDepth 20000 in
theorem cw_X6_commonDivisor : Cond.code yX6_commonDivisor cX6_commonDivisor 11 (some .long) ∈ gt := gt_tb 329 (by decide +kernel) rfl
set_option maxRecDepth 20000 in
theorem cw_X6_quotient : Cond.code yX6_quotient cX6_quotient 4 (some .long) ∈ gt := gt_tb 332 (by decide +kernel) rfl
set_option maxRecDepth 20000 in
theorem cw_X6_many : Cond.code yX6_many cX6_many 3 (some .long) ∈ gt := gt_tb 336 (by decide +kernel) rfl
set_option maxRecDepth 20000 in
theorem cw_X6_tallyOf : Cond.code yX6_tallyOf cX6_tallyOf 3 (some (.object "HundredBoxes$Tally")) ∈ gt := gt_tb 340 (by decide +kernel) rfl
set_option maxRecDepth 20000 in
theorem cw_X4_init : Cond.code yX4_init cX4_init 4 none ∈ gt := gt_tb 344 (by decide +kernel) rfl
set_option maxRecDepth 20000 in
theorem cw_X4_greatest : Cond.code yX4_greatest cX4_greatest 2 (some .int) ∈ gt := gt_tb 348 (by decide +kernel) rfl
set_option maxRecDepth 20000 in
theorem cw_X4_fillPairsOut : Cond.code yX4_fillPairsOut cX4_fillPairsOut 4 none ∈ gt := gt_tb 353 (by decide +kernel) rfl
set_option maxRecDepth 20000 in
theorem cw_X4_fillByPartitions : Cond.code yX4_fillByPartitions cX4_fillByPartitions 7 none ∈ gt := gt_tb 357 (by decide +kernel) rfl
set_option maxRecDepth 20000 in
theorem cw_X2_init : Cond.code yX2_init cX2_init 2 none ∈ gt := gt_tb 362 (by decide +kernel) rfl
set_option maxRecDepth 20000 in
theorem cw_X3_ordersOf : Cond.code yX3_ordersOf cX3_ordersOf 2 (some .long) ∈ gt := gt_tb 374 (by decide +kernel) rfl
set_option maxRecDepth 20000 in
theorem cw_X2_hookProduct : Cond.code yX2_hookProduct cX2_hookProduct 6 (some .long) ∈ gt := gt_tb 378 (by decide +kernel) rfl
set_option maxRecDepth 20000 in
theorem cw_X2_firstPart : Cond.code yX2_firstPart cX2_firstPart 1 (some .int) ∈ gt := gt_tb 383 (by decide +kernel) rfl
set_option maxRecDepth 20000 in
theorem cw_X4_addOrders : Cond.code yX4_addOrders cX4_addOrders 4 none ∈ gt := gt_tb 387 (by decide +kernel) rfl
set_option maxRecDepth 20000 in
theorem cw_X2_turns : Cond.code yX2_turns cX2_turns 3 (some .int) ∈ gt := gt_tb 391 (by decide +kernel) rfl
set_option maxRecDepth 20000 in
theorem cw_X2_sameRounds : Cond.code yX2_sameRounds cX2_sameRounds 5 (some .long) ∈ gt := gt_tb 396 (by decide +kernel) rfl
set_option maxRecDepth 20000 in
theorem cw_X2_goOn : Cond.code yX2_goOn cX2_goOn 4 (some .boolean) ∈ gt := gt_tb 400 (by decide +kernel) rfl
set_option maxRecDepth 20000 in
theorem cw_X4_fillByTables : Cond.code yX4_fillByTables cX4_fillByTables 3 none ∈ gt := gt_tb 405 (by decide +kernel) rfl
set_option maxRecDepth 20000 in
theorem cw_X4_fromTables : Cond.code yX4_fromTables cX4_fromTables 3 (some .long) ∈ gt := gt_tb 409 (by decide +kernel) rfl
set_option maxRecDepth 20000 in
theorem cw_X3_withRecords : Cond.code yX3_withRecords cX3_withRecords 7 (some .long) ∈ gt := gt_tb 413 (by decide +kernel) rfl
set_option maxRecDepth 20000 in
theorem cw_X3_withStill : Cond.code yX3_withStill cX3_withStill 6 (some .long) ∈ gt := gt_tb 418 (by decide +kernel) rfl
set_option maxRecDepth 20000 in
theorem cw_X3_withRoundsUpTo : Cond.code yX3_withRoundsUpTo cX3_withRoundsUpTo 3 (some .long) ∈ gt := gt_tb 422 (by decide +kernel) rfl
set_option maxRecDepth 20000 in
theorem cw_X4_ordersWith : Cond.code yX4_ordersWith cX4_ordersWith 2 (some .long) ∈ gt := gt_tb 436 (by decide +kernel) rfl
set_option maxRecDepth 20000 in
theorem cw_X6_mean : Cond.code yX6_mean cX6_mean 7 (some .long) ∈ gt := gt_tb 442 (by decide +kernel) rfl
set_option maxRecDepth 20000 in
theorem cw_X4_sumOfNumbers : Cond.code yX4_sumOfNumbers cX4_sumOfNumbers 4 (some .long) ∈ gt := gt_tb 446 (by decide +kernel) rfl
set_option maxRecDepth 20000 in
theorem cw_X6_row : Cond.code yX6_row cX6_row 5 (some .int) ∈ gt := gt_tb 451 (by decide +kernel) rfl
set_option maxRecDepth 20000 in
theorem cw_X6_isRowKind : Cond.code yX6_isRowKind cX6_isRowKind 1 (some .boolean) ∈ gt := gt_tb 454 (by decide +kernel) rfl
set_option maxRecDepth 20000 in
theorem cw_X5_start : Cond.code yX5_start cX5_start 5 none ∈ gt := gt_tb 458 (by decide +kernel) rfl
set_option maxRecDepth 20000 in
theorem cw_X5_waysAtStart : Cond.code yX5_waysAtStart cX5_waysAtStart 1 (some .long) ∈ gt := gt_tb 463 (by decide +kernel) rfl
set_option maxRecDepth 20000 in
theorem cw_X5_ways : Cond.code yX5_ways cX5_ways 5 (some .long) ∈ gt := gt_tb 467 (by decide +kernel) rfl
set_option maxRecDepth 20000 in
theorem cw_X5_writeRow : Cond.code yX5_writeRow cX5_writeRow 11 none ∈ gt := gt_tb 474 (by decide +kernel) rfl
set_option maxRecDepth 20000 in
theorem cw_X5_waysWith : Cond.code yX5_waysWith cX5_waysWith 3 (some .long) ∈ gt := gt_tb 478 (by decide +kernel) rfl
set_option maxRecDepth 20000 in
theorem cw_X5_wantedAfter : Cond.code yX5_wantedAfter cX5_wantedAfter 3 (some .int) ∈ gt := gt_tb 483 (by decide +kernel) rfl
set_option maxRecDepth 20000 in
theorem cw_X5_step : Cond.code yX5_step cX5_step 2 none ∈ gt := gt_tb 488 (by decide +kernel) rfl
set_option maxRecDepth 20000 in
theorem cw_X6_place : Cond.code yX6_place cX6_place 2 (some .long) ∈ gt := gt_tb 493 (by decide +kernel) rfl
set_option maxRecDepth 20000 in
theorem cw_X5_rowsAheadOf : Cond.code yX5_rowsAheadOf cX5_rowsAheadOf 8 (some .long) ∈ gt := gt_tb 497 (by decide +kernel) rfl
set_option maxRecDepth 20000 in
theorem cw_X6_toRounds : Cond.code yX6_toRounds cX6_toRounds 1 (some .int) ∈ gt := gt_tb 502 (by decide +kernel) rfl
set_option maxRecDepth 20000 in
theorem cw_X1_makeRounds : Cond.code yX1_makeRounds cX1_makeRounds 4 none ∈ gt := gt_tb 506 (by decide +kernel) rfl
set_option maxRecDepth 20000 in
theorem cw_X6_toRecords : Cond.code yX6_toRecords cX6_toRecords 1 (some .int) ∈ gt := gt_tb 510 (by decide +kernel) rfl
set_option maxRecDepth 20000 in
theorem cw_X1_makeRecords : Cond.code yX1_makeRecords cX1_makeRecords 5 none ∈ gt := gt_tb 514 (by decide +kernel) rfl
set_option maxRecDepth 20000 in
theorem cw_X6_opens : Cond.code yX6_opens cX6_opens 3 (some .int) ∈ gt := gt_tb 518 (by decide +kernel) rfl
set_option maxRecDepth 20000 in
theorem cw_X6_list : Cond.code yX6_list cX6_list 3 (some .int) ∈ gt := gt_tb 522 (by decide +kernel) rfl
set_option maxRecDepth 20000 in
theorem cw_X0_hasBox : Cond.code yX0_hasBox cX0_hasBox 5 (some .boolean) ∈ gt := gt_tb 526 (by decide +kernel) rfl
set_option maxRecDepth 20000 in
theorem cw_X0_firstOf : Cond.code yX0_firstOf cX0_firstOf 3 (some .int) ∈ gt := gt_tb 530 (by decide +kernel) rfl
set_option maxRecDepth 20000 in
theorem cw_X0_holds : Cond.code yX0_holds cX0_holds 2 (some .boolean) ∈ gt := gt_tb 534 (by decide +kernel) rfl
set_option maxRecDepth 20000 in
theorem cw_X0_addBox : Cond.code yX0_addBox cX0_addBox 3 (some .int) ∈ gt := gt_tb 539 (by decide +kernel) rfl
set_option maxRecDepth 20000 in
theorem cw_X6_forget : Cond.code yX6_forget cX6_forget 2 (some .int) ∈ gt := gt_tb 543 (by decide +kernel) rfl
set_option maxRecDepth 20000 in
theorem cw_X0_emptyOne : Cond.code yX0_emptyOne cX0_emptyOne 3 (some .int) ∈ gt := gt_tb 547 (by decide +kernel) rfl
set_option maxRecDepth 20000 in
theorem cw_X6_wins : Cond.code yX6_wins cX6_wins 4 (some .int) ∈ gt := gt_tb 551 (by decide +kernel) rfl
set_option maxRecDepth 20000 in
theorem cw_X6_isWay : Cond.code yX6_isWay cX6_isWay 1 (some .boolean) ∈ gt := gt_tb 554 (by decide +kernel) rfl
set_option maxRecDepth 20000 in
theorem cw_X0_findsOwnThing : Cond.code yX0_findsOwnThing cX0_findsOwnThing 6 (some .boolean) ∈ gt := gt_tb 559 (by decide +kernel) rfl
set_option maxRecDepth 20000 in
theorem cw_X6_allWin : Cond.code yX6_allWin cX6_allWin 2 (some .long) ∈ gt := gt_tb 564 (by decide +kernel) rfl
set_option maxRecDepth 20000 in
theorem cw_X0_ordersWonByAll : Cond.code yX0_ordersWonByAll cX0_ordersWonByAll 5 (some .long) ∈ gt := gt_tb 570 (by decide +kernel) rfl
set_option maxRecDepth 20000 in
theorem cw_X0_placeNextThing : Cond.code yX0_placeNextThing cX0_placeNextThing 8 none ∈ gt := gt_tb 575 (by decide +kernel) rfl
set_option maxRecDepth 20000 in
theorem cw_J6_bitCount_0f7a4 : Cond.code yJ6_bitCount_0f7a4 cJ6_bitCount_0f7a4 1 (some .int) ∈ gt := gt_tb 578 (by decide +kernel) rfl
set_option maxRecDepth 20000 in
theorem cw_X6_count : Cond.code yX6_count cX6_count 2 (some .int) ∈ gt := gt_tb 585 (by decide +kernel) rfl
set_option maxRecDepth 20000 in
theorem cw_X0_boxesInAll : Cond.code yX0_boxesInAll cX0_boxesInAll 3 (some .int) ∈ gt := gt_tb 589 (by decide +kernel) rfl
set_option maxRecDepth 20000 in
theorem cw_X7_init : Cond.code yX7_init cX7_init 1 none ∈ gt := gt_tb 594 (by decide +kernel) rfl
set_option maxRecDepth 20000 in
theorem cw_X7_begin : Cond.code yX7_begin cX7_begin 3 none ∈ gt := gt_tb 599 (by decide +kernel) rfl
set_option maxRecDepth 20000 in
theorem cw_X7_things : Cond.code yX7_things cX7_things 2 (some .int) ∈ gt := gt_tb 652 (by decide +kernel) rfl
set_option maxRecDepth 20000 in
theorem cw_X7_in : Cond.code yX7_in cX7_in 6 (some .boolean) ∈ gt := gt_tb 656 (by decide +kernel) rfl
set_option maxRecDepth 20000 in
theorem cw_X7_order : Cond.code yX7_order cX7_order 11 (some .int) ∈ gt := gt_tb 660 (by decide +kernel) rfl
set_option maxRecDepth 20000 in
theorem cw_X7_become : Cond.code yX7_become cX7_become 2 none ∈ gt := gt_tb 664 (by decide +kernel) rfl
set_option maxRecDepth 20000 in
theorem cw_X7_at : Cond.code yX7_at cX7_at 2 (some .int) ∈ gt := gt_tb 668 (by decide +kernel) rfl
set_option maxRecDepth 20000 in
theorem cw_X7_isThing : Cond.code yX7_isThing cX7_isThing 2 (some .boolean) ∈ gt := gt_tb 672 (by decide +kernel) rfl
set_option maxRecDepth 20000 in
theorem cw_X7_swap : Cond.code yX7_swap cX7_swap 4 (some .int) ∈ gt := gt_tb 676 (by decide +kernel) rfl
set_option maxRecDepth 20000 in
theorem cw_X7_lay : Cond.code yX7_lay cX7_lay 3 (some .int) ∈ gt := gt_tb 680 (by decide +kernel) rfl
set_option maxRecDepth 20000 in
theorem cw_X7_take : Cond.code yX7_take cX7_take 3 (some .int) ∈ gt := gt_tb 685 (by decide +kernel) rfl
set_option maxRecDepth 20000 in
theorem cw_X7_then : Cond.code yX7_then cX7_then 3 (some .int) ∈ gt := gt_tb 689 (by decide +kernel) rfl
set_option maxRecDepth 20000 in
theorem cw_X7_back : Cond.code yX7_back cX7_back 2 (some .int) ∈ gt := gt_tb 693 (by decide +kernel) rfl
set_option maxRecDepth 20000 in
theorem cw_X7_number : Cond.code yX7_number cX7_number 2 (some .int) ∈ gt := gt_tb 697 (by decide +kernel) rfl
set_option maxRecDepth 20000 in
theorem cw_X7_numberOf : Cond.code yX7_numberOf cX7_numberOf 9 (some .int) ∈ gt := gt_tb 702 (by decide +kernel) rfl
set_option maxRecDepth 20000 in
theorem cw_X7_roundOf : Cond.code yX7_roundOf cX7_roundOf 4 (some .int) ∈ gt := gt_tb 706 (by decide +kernel) rfl
set_option maxRecDepth 20000 in
theorem cw_X7_common : Cond.code yX7_common cX7_common 10 (some .long) ∈ gt := gt_tb 709 (by decide +kernel) rfl
set_option maxRecDepth 20000 in
theorem cw_X7_isFirst : Cond.code yX7_isFirst cX7_isFirst 4 (some .boolean) ∈ gt := gt_tb 713 (by decide +kernel) rfl
set_option maxRecDepth 20000 in
theorem cw_X7_isRecord : Cond.code yX7_isRecord cX7_isRecord 4 (some .boolean) ∈ gt := gt_tb 717 (by decide +kernel) rfl
set_option maxRecDepth 20000 in
theorem cw_X7_out : Cond.code yX7_out cX7_out 4 (some .int) ∈ gt := gt_tb 721 (by decide +kernel) rfl
set_option maxRecDepth 20000 in
theorem cw_X7_longestRise : Cond.code yX7_longestRise cX7_longestRise 4 (some .int) ∈ gt := gt_tb 725 (by decide +kernel) rfl
set_option maxRecDepth 20000 in
theorem cw_X7_many : Cond.code yX7_many cX7_many 3 (some .long) ∈ gt := gt_tb 729 (by decide +kernel) rfl
set_option maxRecDepth 20000 in
theorem cw_X7_findCounts : Cond.code yX7_findCounts cX7_findCounts 2 none ∈ gt := gt_tb 734 (by decide +kernel) rfl
set_option maxRecDepth 20000 in
theorem cw_X7_layProducts : Cond.code yX7_layProducts cX7_layProducts 2 none ∈ gt := gt_tb 738 (by decide +kernel) rfl
set_option maxRecDepth 20000 in
theorem cw_X7_countByThings : Cond.code yX7_countByThings cX7_countByThings 7 none ∈ gt := gt_tb 742 (by decide +kernel) rfl
set_option maxRecDepth 20000 in
theorem cw_X7_step : Cond.code yX7_step cX7_step 2 none ∈ gt := gt_tb 746 (by decide +kernel) rfl
set_option maxRecDepth 20000 in
theorem cw_X7_countByShapes : Cond.code yX7_countByShapes cX7_countByShapes 3 none ∈ gt := gt_tb 750 (by decide +kernel) rfl
set_option maxRecDepth 20000 in
theorem cw_X7_shapeNumber : Cond.code yX7_shapeNumber cX7_shapeNumber 6 (some .int) ∈ gt := gt_tb 754 (by decide +kernel) rfl
set_option maxRecDepth 20000 in
theorem cw_X7_byFillings : Cond.code yX7_byFillings cX7_byFillings 7 (some .long) ∈ gt := gt_tb 758 (by decide +kernel) rfl
set_option maxRecDepth 20000 in
theorem cw_X7_byRounds : Cond.code yX7_byRounds cX7_byRounds 5 (some .long) ∈ gt := gt_tb 762 (by decide +kernel) rfl
set_option maxRecDepth 20000 in
theorem cw_X7_nextShape : Cond.code yX7_nextShape cX7_nextShape 4 (some .boolean) ∈ gt := gt_tb 766 (by decide +kernel) rfl
set_option maxRecDepth 20000 in
theorem cw_X7_mean : Cond.code yX7_mean cX7_mean 7 (some .long) ∈ gt := gt_tb 771 (by decide +kernel) rfl
set_option maxRecDepth 20000 in
theorem cw_X7_row : Cond.code yX7_row cX7_row 9 (some .int) ∈ gt := gt_tb 775 (by decide +kernel) rfl
set_option maxRecDepth 20000 in
theorem cw_X7_isKind : Cond.code yX7_isKind cX7_isKind 1 (some .boolean) ∈ gt := gt_tb 778 (by decide +kernel) rfl
set_option maxRecDepth 20000 in
theorem cw_X7_beginRow : Cond.code yX7_beginRow cX7_beginRow 3 none ∈ gt := gt_tb 782 (by decide +kernel) rfl
set_option maxRecDepth 20000 in
theorem cw_X7_layWays : Cond.code yX7_layWays cX7_layWays 8 none ∈ gt := gt_tb 786 (by decide +kernel) rfl
set_option maxRecDepth 20000 in
theorem cw_X7_waysBy : Cond.code yX7_waysBy cX7_waysBy 9 (some .long) ∈ gt := gt_tb 790 (by decide +kernel) rfl
set_option maxRecDepth 20000 in
theorem cw_X7_wayAt : Cond.code yX7_wayAt cX7_wayAt 3 (some .int) ∈ gt := gt_tb 793 (by decide +kernel) rfl
set_option maxRecDepth 20000 in
theorem cw_X7_waysAt : Cond.code yX7_waysAt cX7_waysAt 6 (some .long) ∈ gt := gt_tb 797 (by decide +kernel) rfl
set_option maxRecDepth 20000 in
theorem cw_X7_put : Cond.code yX7_put cX7_put 8 none ∈ gt := gt_tb 801 (by decide +kernel) rfl
set_option maxRecDepth 20000 in
theorem cw_X7_place : Cond.code yX7_place cX7_place 7 (some .long) ∈ gt := gt_tb 805 (by decide +kernel) rfl
set_option maxRecDepth 20000 in
theorem cw_X7_toRounds : Cond.code yX7_toRounds cX7_toRounds 4 (some .int) ∈ gt := gt_tb 809 (by decide +kernel) rfl
set_option maxRecDepth 20000 in
theorem cw_X7_toRecords : Cond.code yX7_toRecords cX7_toRecords 6 (some .int) ∈ gt := gt_tb 813 (by decide +kernel) rfl
set_option maxRecDepth 20000 in
theorem cw_X7_isGreatest : Cond.code yX7_isGreatest cX7_isGreatest 4 (some .boolean) ∈ gt := gt_tb 817 (by decide +kernel) rfl
set_option maxRecDepth 20000 in
theorem cw_X7_opens : Cond.code yX7_opens cX7_opens 3 (some .int) ∈ gt := gt_tb 821 (by decide +kernel) rfl
set_option maxRecDepth 20000 in
theorem cw_X7_list : Cond.code yX7_list cX7_list 4 (some .int) ∈ gt := gt_tb 825 (by decide +kernel) rfl
set_option maxRecDepth 20000 in
theorem cw_X7_forget : Cond.code yX7_forget cX7_forget 3 (some .int) ∈ gt := gt_tb 829 (by decide +kernel) rfl
set_option maxRecDepth 20000 in
theorem cw_X7_wins : Cond.code yX7_wins cX7_wins 3 (some .int) ∈ gt := gt_tb 833 (by decide +kernel) rfl
set_option maxRecDepth 20000 in
theorem cw_X7_winsBy : Cond.code yX7_winsBy cX7_winsBy 5 (some .boolean) ∈ gt := gt_tb 837 (by decide +kernel) rfl
set_option maxRecDepth 20000 in
theorem cw_X7_allWin : Cond.code yX7_allWin cX7_allWin 7 (some .long) ∈ gt := gt_tb 841 (by decide +kernel) rfl
set_option maxRecDepth 20000 in
theorem cw_X7_layRow : Cond.code yX7_layRow cX7_layRow 8 none ∈ gt := gt_tb 846 (by decide +kernel) rfl
set_option maxRecDepth 20000 in
theorem cw_X7_count : Cond.code yX7_count cX7_count 4 (some .int) ∈ gt := gt_tb 850 (by decide +kernel) rfl
set_option maxRecDepth 20000 in
theorem se_X3_withRises : Cond.selects RX3 yX3_withRises yX3_withRises ∈ gt := gt_tb 97 (by decide +kernel) rfl
set_option maxRecDepth 20000 in
theorem se_X1_startWith : Cond.selects RX1 yX1_startWith yX1_startWith ∈ gt := gt_tb 161 (by decide +kernel) rfl
set_option maxRecDepth 20000 in
theorem se_X0_emptyAll : Cond.selects RX0 yX0_emptyAll yX0_emptyAll ∈ gt := gt_tb 166 (by decide +kernel) rfl
set_option maxRecDepth 20000 in
theorem se_X6_things : Cond.selects RX6 yX6_things yX6_things ∈ gt := gt_tb 195 (by decide +kernel) rfl
set_option maxRecDepth 20000 in
theorem se_X6_order : Cond.selects RX6 yX6_order yX6_order ∈ gt := gt_tb 199 (by decide +kernel) rfl
set_option maxRecDepth 20000 in
theorem se_X1_readFigures : Cond.selects RX1 yX1_readFigures yX1_readFigures ∈ gt := gt_tb 203 (by decide +kernel) rfl
set_option maxRecDepth 20000 in
theorem se_X1_holds : Cond.selects RX1 yX1_holds yX1_holds ∈ gt := gt_tb 208 (by decide +kernel) rfl
set_option maxRecDepth 20000 in
theorem se_X1_keepMade : Cond.selects RX1 yX1_keepMade yX1_keepMade ∈ gt := gt_tb 212 (by decide +kernel) rfl
set_option maxRecDepth 20000 in
theorem se_X6_at : Cond.selects RX6 yX6_at yX6_at ∈ gt := gt_tb 216 (by decide +kernel) rfl
set_option maxRecDepth 20000 in
theorem se_X1_follow : Cond.selects RX1 yX1_follow yX1_follow ∈ gt := gt_tb 224 (by decide +kernel) rfl
set_option maxRecDepth 20000 in
theorem se_X6_swap : Cond.selects RX6 yX6_swap yX6_swap ∈ gt := gt_tb 228 (by decide +kernel) rfl
set_option maxRecDepth 20000 in
theorem se_X1_exchange : Cond.selects RX1 yX1_exchange yX1_exchange ∈ gt := gt_tb 232 (by decide +kernel) rfl
set_option maxRecDepth 20000 in
theorem se_X6_lay : Cond.selects RX6 yX6_lay yX6_lay ∈ gt := gt_tb 236 (by decide +kernel) rfl
set_option maxRecDepth 20000 in
theorem se_X1_copyFrom : Cond.selects RX1 yX1_copyFrom yX1_copyFrom ∈ gt := gt_tb 243 (by decide +kernel) rfl
set_option maxRecDepth 20000 in
theorem se_X6_take : Cond.selects RX6 yX6_take yX6_take ∈ gt := gt_tb 247 (by decide +kernel) rfl
set_option maxRecDepth 20000 in
theorem se_X6_then : Cond.selects RX6 yX6_then yX6_then ∈ gt := gt_tb 251 (by decide +kernel) rfl
set_option maxRecDepth 20000 in
theorem se_X1_goOnBy : Cond.selects RX1 yX1_goOnBy yX1_goOnBy ∈ gt := gt_tb 255 (by decide +kernel) rfl
set_option maxRecDepth 20000 in
theorem se_X6_back : Cond.selects RX6 yX6_back yX6_back ∈ gt := gt_tb 260 (by decide +kernel) rfl
set_option maxRecDepth 20000 in
theorem se_X1_turnBack : Cond.selects RX1 yX1_turnBack yX1_turnBack ∈ gt := gt_tb 264 (by decide +kernel) rfl
set_option maxRecDepth 20000 in
theorem se_X1_makeAt : Cond.selects RX1 yX1_makeAt yX1_makeAt ∈ gt := gt_tb 268 (by decide +kernel) rfl
set_option maxRecDepth 20000 in
theorem se_X6_number : Cond.selects RX6 yX6_number yX6_number ∈ gt := gt_tb 272 (by decide +kernel) rfl
set_option maxRecDepth 20000 in
theorem se_X1_numberOf : Cond.selects RX1 yX1_numberOf yX1_numberOf ∈ gt := gt_tb 279 (by decide +kernel) rfl
set_option maxRecDepth 20000 in
theorem se_X1_rounds : Cond.selects RX1 yX1_rounds yX1_rounds ∈ gt := gt_tb 283 (by decide +kernel) rfl
set_option maxRecDepth 20000 in
theorem se_X1_leadsRound : Cond.selects RX1 yX1_leadsRound yX1_leadsRound ∈ gt := gt_tb 287 (by decide +kernel) rfl
set_option maxRecDepth 20000 in
theorem se_X1_records : Cond.selects RX1 yX1_records yX1_records ∈ gt := gt_tb 291 (by decide +kernel) rfl
set_option maxRecDepth 20000 in
theorem se_X1_rises : Cond.selects RX1 yX1_rises yX1_rises ∈ gt := gt_tb 295 (by decide +kernel) rfl
set_option maxRecDepth 20000 in
theorem se_X1_still : Cond.selects RX1 yX1_still yX1_still ∈ gt := gt_tb 299 (by decide +kernel) rfl
set_option maxRecDepth 20000 in
theorem se_X1_longestRound : Cond.selects RX1 yX1_longestRound yX1_longestRound ∈ gt := gt_tb 303 (by decide +kernel) rfl
set_option maxRecDepth 20000 in
theorem se_X1_roundLength : Cond.selects RX1 yX1_roundLength yX1_roundLength ∈ gt := gt_tb 307 (by decide +kernel) rfl
set_option maxRecDepth 20000 in
theorem se_X1_pairsOut : Cond.selects RX1 yX1_pairsOut yX1_pairsOut ∈ gt := gt_tb 314 (by decide +kernel) rfl
set_option maxRecDepth 20000 in
theorem se_X1_longestRise : Cond.selects RX1 yX1_longestRise yX1_longestRise ∈ gt := gt_tb 318 (by decide +kernel) rfl
set_option maxRecDepth 20000 in
theorem se_X1_turns : Cond.selects RX1 yX1_turns yX1_turns ∈ gt := gt_tb 322 (by decide +kernel) rfl
set_option maxRecDepth 20000 in
theorem se_X6_many : Cond.selects RX6 yX6_many yX6_many ∈ gt := gt_tb 335 (by decide +kernel) rfl
set_option maxRecDepth 20000 in
theorem se_X3_ordersOf : Cond.selects RX3 yX3_ordersOf yX3_ordersOf ∈ gt := gt_tb 373 (by decide +kernel) rfl
set_option maxRecDepth 20000 in
theorem se_X2_hookProduct : Cond.selects RX2 yX2_hookProduct yX2_hookProduct ∈ gt := gt_tb 377 (by decide +kernel) rfl
set_option maxRecDepth 20000 in
theorem se_X2_firstPart : Cond.selects RX2 yX2_firstPart yX2_firstPart ∈ gt := gt_tb 382 (by decide +kernel) rfl
set_option maxRecDepth 20000 in
theorem se_X2_turns : Cond.selects RX2 yX2_turns yX2_turns ∈ gt := gt_tb 390 (by decide +kernel) rfl
set_option maxRecDepth 20000 in
theorem se_X2_sameRounds : Cond.selects RX2 yX2_sameRounds yX2_sameRounds ∈ gt := gt_tb 395 (by decide +kernel) rfl
set_option maxRecDepth 20000 in
theorem se_X2_goOn : Cond.selects RX2 yX2_goOn yX2_goOn ∈ gt := gt_tb 399 (by decide +kernel) rfl
set_option maxRecDepth 20000 in
theorem se_X3_withRecords : Cond.selects RX3 yX3_withRecords yX3_withRecords ∈ gt := gt_tb 412 (by decide +kernel) rfl
set_option maxRecDepth 20000 in
theorem se_X3_withStill : Cond.selects RX3 yX3_withStill yX3_withStill ∈ gt := gt_tb 417 (by decide +kernel) rfl
set_option maxRecDepth 20000 in
theorem se_X3_withRoundsUpTo : Cond.selects RX3 yX3_withRoundsUpTo yX3_withRoundsUpTo ∈ gt := gt_tb 421 (by decide +kernel) rfl
set_option maxRecDepth 20000 in
theorem se_X4_ordersWith : Cond.selects RX4 yX4_ordersWith yX4_ordersWith ∈ gt := gt_tb 435 (by decide +kernel) rfl
set_option maxRecDepth 20000 in
theorem se_X6_mean : Cond.selects RX6 yX6_mean yX6_mean ∈ gt := gt_tb 441 (by decide +kernel) rfl
set_option maxRecDepth 20000 in
theorem se_X4_sumOfNumbers : Cond.selects RX4 yX4_sumOfNumbers yX4_sumOfNumbers ∈ gt := gt_tb 445 (by decide +kernel) rfl
set_option maxRecDepth 20000 in
theorem se_X6_row : Cond.selects RX6 yX6_row yX6_row ∈ gt := gt_tb 450 (by decide +kernel) rfl
set_option maxRecDepth 20000 in
theorem se_X5_start : Cond.selects RX5 yX5_start yX5_start ∈ gt := gt_tb 457 (by decide +kernel) rfl
set_option maxRecDepth 20000 in
theorem se_X5_waysAtStart : Cond.selects RX5 yX5_waysAtStart yX5_waysAtStart ∈ gt := gt_tb 462 (by decide +kernel) rfl
set_option maxRecDepth 20000 in
theorem se_X5_writeRow : Cond.selects RX5 yX5_writeRow yX5_writeRow ∈ gt := gt_tb 473 (by decide +kernel) rfl
set_option maxRecDepth 20000 in
theorem se_X6_place : Cond.selects RX6 yX6_place yX6_place ∈ gt := gt_tb 492 (by decide +kernel) rfl
set_option maxRecDepth 20000 in
theorem se_X5_rowsAheadOf : Cond.selects RX5 yX5_rowsAheadOf yX5_rowsAheadOf ∈ gt := gt_tb 496 (by decide +kernel) rfl
set_option maxRecDepth 20000 in
theorem se_X6_toRounds : Cond.selects RX6 yX6_toRounds yX6_toRounds ∈ gt := gt_tb 501 (by decide +kernel) rfl
set_option maxRecDepth 20000 in
theorem se_X1_makeRounds : Cond.selects RX1 yX1_makeRounds yX1_makeRounds ∈ gt := gt_tb 505 (by decide +kernel) rfl
set_option maxRecDepth 20000 in
theorem se_X6_toRecords : Cond.selects RX6 yX6_toRecords yX6_toRecords ∈ gt := gt_tb 509 (by decide +kernel) rfl
set_option maxRecDepth 20000 in
theorem se_X1_makeRecords : Cond.selects RX1 yX1_makeRecords yX1_makeRecords ∈ gt := gt_tb 513 (by decide +kernel) rfl
set_option maxRecDepth 20000 in
theorem se_X6_opens : Cond.selects RX6 yX6_opens yX6_opens ∈ gt := gt_tb 517 (by decide +kernel) rfl
set_option maxRecDepth 20000 in
theorem se_X6_list : Cond.selects RX6 yX6_list yX6_list ∈ gt := gt_tb 521 (by decide +kernel) rfl
set_option maxRecDepth 20000 in
theorem se_X0_hasBox : Cond.selects RX0 yX0_hasBox yX0_hasBox ∈ gt := gt_tb 525 (by decide +kernel) rfl
set_option maxRecDepth 20000 in
theorem se_X0_firstOf : Cond.selects RX0 yX0_firstOf yX0_firstOf ∈ gt := gt_tb 529 (by decide +kernel) rfl
set_option maxRecDepth 20000 in
theorem se_X0_holds : Cond.selects RX0 yX0_holds yX0_holds ∈ gt := gt_tb 533 (by decide +kernel) rfl
set_option maxRecDepth 20000 in
theorem se_X0_addBox : Cond.selects RX0 yX0_addBox yX0_addBox ∈ gt := gt_tb 538 (by decide +kernel) rfl
set_option maxRecDepth 20000 in
theorem se_X6_forget : Cond.selects RX6 yX6_forget yX6_forget ∈ gt := gt_tb 542 (by decide +kernel) rfl
set_option maxRecDepth 20000 in
theorem se_X0_emptyOne : Cond.selects RX0 yX0_emptyOne yX0_emptyOne ∈ gt := gt_tb 546 (by decide +kernel) rfl
set_option maxRecDepth 20000 in
theorem se_X6_wins : Cond.selects RX6 yX6_wins yX6_wins ∈ gt := gt_tb 550 (by decide +kernel) rfl
set_option maxRecDepth 20000 in
theorem se_X0_findsOwnThing : Cond.selects RX0 yX0_findsOwnThing yX0_findsOwnThing ∈ gt := gt_tb 558 (by decide +kernel) rfl
set_option maxRecDepth 20000 in
theorem se_X6_allWin : Cond.selects RX6 yX6_allWin yX6_allWin ∈ gt := gt_tb 563 (by decide +kernel) rfl
set_option maxRecDepth 20000 in
theorem se_X0_ordersWonByAll : Cond.selects RX0 yX0_ordersWonByAll yX0_ordersWonByAll ∈ gt := gt_tb 569 (by decide +kernel) rfl
set_option maxRecDepth 20000 in
theorem se_X0_placeNextThing : Cond.selects RX0 yX0_placeNextThing yX0_placeNextThing ∈ gt := gt_tb 574 (by decide +kernel) rfl
set_option maxRecDepth 20000 in
theorem se_X6_count : Cond.selects RX6 yX6_count yX6_count ∈ gt := gt_tb 584 (by decide +kernel) rfl
set_option maxRecDepth 20000 in
theorem se_X0_boxesInAll : Cond.selects RX0 yX0_boxesInAll yX0_boxesInAll ∈ gt := gt_tb 588 (by decide +kernel) rfl
set_option maxRecDepth 20000 in
theorem se_X7_things : Cond.selects RX7 yX7_things yX7_things ∈ gt := gt_tb 651 (by decide +kernel) rfl
set_option maxRecDepth 20000 in
theorem se_X7_order : Cond.selects RX7 yX7_order yX7_order ∈ gt := gt_tb 659 (by decide +kernel) rfl
set_option maxRecDepth 20000 in
theorem se_X7_at : Cond.selects RX7 yX7_at yX7_at ∈ gt := gt_tb 667 (by decide +kernel) rfl
set_option maxRecDepth 20000 in
theorem se_X7_swap : Cond.selects RX7 yX7_swap yX7_swap ∈ gt := gt_tb 675 (by decide +kernel) rfl
set_option maxRecDepth 20000 in
theorem se_X7_lay : Cond.selects RX7 yX7_lay yX7_lay ∈ gt := gt_tb 679 (by decide +kernel) rfl
set_option maxRecDepth 20000 in
theorem se_X7_take : Cond.selects RX7 yX7_take yX7_take ∈ gt := gt_tb 684 (by decide +kernel) rfl
set_option maxRecDepth 20000 in
theorem se_X7_then : Cond.selects RX7 yX7_then yX7_then ∈ gt := gt_tb 688 (by decide +kernel) rfl
set_option maxRecDepth 20000 in
theorem se_X7_back : Cond.selects RX7 yX7_back yX7_back ∈ gt := gt_tb 692 (by decide +kernel) rfl
set_option maxRecDepth 20000 in
theorem se_X7_number : Cond.selects RX7 yX7_number yX7_number ∈ gt := gt_tb 696 (by decide +kernel) rfl
set_option maxRecDepth 20000 in
theorem se_X7_many : Cond.selects RX7 yX7_many yX7_many ∈ gt := gt_tb 728 (by decide +kernel) rfl
set_option maxRecDepth 20000 in
theorem se_X7_mean : Cond.selects RX7 yX7_mean yX7_mean ∈ gt := gt_tb 770 (by decide +kernel) rfl
set_option maxRecDepth 20000 in
theorem se_X7_row : Cond.selects RX7 yX7_row yX7_row ∈ gt := gt_tb 774 (by decide +kernel) rfl
set_option maxRecDepth 20000 in
theorem se_X7_place : Cond.selects RX7 yX7_place yX7_place ∈ gt := gt_tb 804 (by decide +kernel) rfl
set_option maxRecDepth 20000 in
theorem se_X7_toRounds : Cond.selects RX7 yX7_toRounds yX7_toRounds ∈ gt := gt_tb 808 (by decide +kernel) rfl
set_option maxRecDepth 20000 in
theorem se_X7_toRecords : Cond.selects RX7 yX7_toRecords yX7_toRecords ∈ gt := gt_tb 812 (by decide +kernel) rfl
set_option maxRecDepth 20000 in
theorem se_X7_opens : Cond.selects RX7 yX7_opens yX7_opens ∈ gt := gt_tb 820 (by decide +kernel) rfl
set_option maxRecDepth 20000 in
theorem se_X7_list : Cond.selects RX7 yX7_list yX7_list ∈ gt := gt_tb 824 (by decide +kernel) rfl
set_option maxRecDepth 20000 in
theorem se_X7_forget : Cond.selects RX7 yX7_forget yX7_forget ∈ gt := gt_tb 828 (by decide +kernel) rfl
set_option maxRecDepth 20000 in
theorem se_X7_wins : Cond.selects RX7 yX7_wins yX7_wins ∈ gt := gt_tb 832 (by decide +kernel) rfl
set_option maxRecDepth 20000 in
theorem se_X7_allWin : Cond.selects RX7 yX7_allWin yX7_allWin ∈ gt := gt_tb 840 (by decide +kernel) rfl
set_option maxRecDepth 20000 in
theorem se_X7_count : Cond.selects RX7 yX7_count yX7_count ∈ gt := gt_tb 849 (by decide +kernel) rfl
set_option maxRecDepth 20000 in
theorem se_X3_fillFactorials : Cond.selects RX3 yX3_fillFactorials yX3_fillFactorials ∈ gt := gt_pv 0 (by decide +kernel) rfl
set_option maxRecDepth 20000 in
theorem se_X3_fillDeranged : Cond.selects RX3 yX3_fillDeranged yX3_fillDeranged ∈ gt := gt_pv 1 (by decide +kernel) rfl
set_option maxRecDepth 20000 in
theorem se_X3_fillRecords : Cond.selects RX3 yX3_fillRecords yX3_fillRecords ∈ gt := gt_pv 2 (by decide +kernel) rfl
set_option maxRecDepth 20000 in
theorem se_X3_fillRoundsUpTo : Cond.selects RX3 yX3_fillRoundsUpTo yX3_fillRoundsUpTo ∈ gt := gt_pv 3 (by decide +kernel) rfl
set_option maxRecDepth 20000 in
theorem se_X3_sumByRoundOfLast : Cond.selects RX3 yX3_sumByRoundOfLast yX3_sumByRoundOfLast ∈ gt := gt_pv 4 (by decide +kernel) rfl
set_option maxRecDepth 20000 in
theorem se_X3_fillRises : Cond.selects RX3 yX3_fillRises yX3_fillRises ∈ gt := gt_pv 5 (by decide +kernel) rfl
set_option maxRecDepth 20000 in
theorem se_X3_fillRisesByBelow : Cond.selects RX3 yX3_fillRisesByBelow yX3_fillRisesByBelow ∈ gt := gt_pv 6 (by decide +kernel) rfl
set_option maxRecDepth 20000 in
theorem se_X6_startWith : Cond.selects RX6 yX6_startWith yX6_startWith ∈ gt := gt_pv 7 (by decide +kernel) rfl
set_option maxRecDepth 20000 in
theorem se_X6_isThing : Cond.selects RX6 yX6_isThing yX6_isThing ∈ gt := gt_pv 8 (by decide +kernel) rfl
set_option maxRecDepth 20000 in
theorem se_X6_tallyOf : Cond.selects RX6 yX6_tallyOf yX6_tallyOf ∈ gt := gt_pv 9 (by decide +kernel) rfl
set_option maxRecDepth 20000 in
theorem se_X4_fillPairsOut : Cond.selects RX4 yX4_fillPairsOut yX4_fillPairsOut ∈ gt := gt_pv 10 (by decide +kernel) rfl
set_option maxRecDepth 20000 in
theorem se_X4_fillByPartitions : Cond.selects RX4 yX4_fillByPartitions yX4_fillByPartitions ∈ gt := gt_pv 11 (by decide +kernel) rfl
set_option maxRecDepth 20000 in
theorem se_X4_addOrders : Cond.selects RX4 yX4_addOrders yX4_addOrders ∈ gt := gt_pv 12 (by decide +kernel) rfl
set_option maxRecDepth 20000 in
theorem se_X4_fillByTables : Cond.selects RX4 yX4_fillByTables yX4_fillByTables ∈ gt := gt_pv 13 (by decide +kernel) rfl
set_option maxRecDepth 20000 in
theorem se_X4_fromTables : Cond.selects RX4 yX4_fromTables yX4_fromTables ∈ gt := gt_pv 14 (by decide +kernel) rfl
set_option maxRecDepth 20000 in
theorem se_X5_ways : Cond.selects RX5 yX5_ways yX5_ways ∈ gt := gt_pv 15 (by decide +kernel) rfl
set_option maxRecDepth 20000 in
theorem se_X5_waysWith : Cond.selects RX5 yX5_waysWith yX5_waysWith ∈ gt := gt_pv 16 (by decide +kernel) rfl
set_option maxRecDepth 20000 in
theorem se_X5_wantedAfter : Cond.selects RX5 yX5_wantedAfter yX5_wantedAfter ∈ gt := gt_pv 17 (by decide +kernel) rfl
set_option maxRecDepth 20000 in
theorem se_X5_step : Cond.selects RX5 yX5_step yX5_step ∈ gt := gt_pv 18 (by decide +kernel) rfl
set_option maxRecDepth 20000 in
theorem se_X7_begin : Cond.selects RX7 yX7_begin yX7_begin ∈ gt := gt_pv 19 (by decide +kernel) rfl
set_option maxRecDepth 20000 in
theorem se_X7_become : Cond.selects RX7 yX7_become yX7_become ∈ gt := gt_pv 20 (by decide +kernel) rfl
set_option maxRecDepth 20000 in
theorem se_X7_isThing : Cond.selects RX7 yX7_isThing yX7_isThing ∈ gt := gt_pv 21 (by decide +kernel) rfl
set_option maxRecDepth 20000 in
theorem se_X7_numberOf : Cond.selects RX7 yX7_numberOf yX7_numberOf ∈ gt := gt_pv 22 (by decide +kernel) rfl
set_option maxRecDepth 20000 in
theorem se_X7_roundOf : Cond.selects RX7 yX7_roundOf yX7_roundOf ∈ gt := gt_pv 23 (by decide +kernel) rfl
set_option maxRecDepth 20000 in
theorem se_X7_isFirst : Cond.selects RX7 yX7_isFirst yX7_isFirst ∈ gt := gt_pv 24 (by decide +kernel) rfl
set_option maxRecDepth 20000 in
theorem se_X7_isRecord : Cond.selects RX7 yX7_isRecord yX7_isRecord ∈ gt := gt_pv 25 (by decide +kernel) rfl
set_option maxRecDepth 20000 in
theorem se_X7_out : Cond.selects RX7 yX7_out yX7_out ∈ gt := gt_pv 26 (by decide +kernel) rfl
set_option maxRecDepth 20000 in
theorem se_X7_longestRise : Cond.selects RX7 yX7_longestRise yX7_longestRise ∈ gt := gt_pv 27 (by decide +kernel) rfl
set_option maxRecDepth 20000 in
theorem se_X7_findCounts : Cond.selects RX7 yX7_findCounts yX7_findCounts ∈ gt := gt_pv 28 (by decide +kernel) rfl
set_option maxRecDepth 20000 in
theorem se_X7_layProducts : Cond.selects RX7 yX7_layProducts yX7_layProducts ∈ gt := gt_pv 29 (by decide +kernel) rfl
set_option maxRecDepth 20000 in
theorem se_X7_countByThings : Cond.selects RX7 yX7_countByThings yX7_countByThings ∈ gt := gt_pv 30 (by decide +kernel) rfl
set_option maxRecDepth 20000 in
theorem se_X7_step : Cond.selects RX7 yX7_step yX7_step ∈ gt := gt_pv 31 (by decide +kernel) rfl
set_option maxRecDepth 20000 in
theorem se_X7_countByShapes : Cond.selects RX7 yX7_countByShapes yX7_countByShapes ∈ gt := gt_pv 32 (by decide +kernel) rfl
set_option maxRecDepth 20000 in
theorem se_X7_shapeNumber : Cond.selects RX7 yX7_shapeNumber yX7_shapeNumber ∈ gt := gt_pv 33 (by decide +kernel) rfl
set_option maxRecDepth 20000 in
theorem se_X7_byFillings : Cond.selects RX7 yX7_byFillings yX7_byFillings ∈ gt := gt_pv 34 (by decide +kernel) rfl
set_option maxRecDepth 20000 in
theorem se_X7_byRounds : Cond.selects RX7 yX7_byRounds yX7_byRounds ∈ gt := gt_pv 35 (by decide +kernel) rfl
set_option maxRecDepth 20000 in
theorem se_X7_nextShape : Cond.selects RX7 yX7_nextShape yX7_nextShape ∈ gt := gt_pv 36 (by decide +kernel) rfl
set_option maxRecDepth 20000 in
theorem se_X7_beginRow : Cond.selects RX7 yX7_beginRow yX7_beginRow ∈ gt := gt_pv 37 (by decide +kernel) rfl
set_option maxRecDepth 20000 in
theorem se_X7_layWays : Cond.selects RX7 yX7_layWays yX7_layWays ∈ gt := gt_pv 38 (by decide +kernel) rfl
set_option maxRecDepth 20000 in
theorem se_X7_waysBy : Cond.selects RX7 yX7_waysBy yX7_waysBy ∈ gt := gt_pv 39 (by decide +kernel) rfl
set_option maxRecDepth 20000 in
theorem se_X7_waysAt : Cond.selects RX7 yX7_waysAt yX7_waysAt ∈ gt := gt_pv 40 (by decide +kernel) rfl
set_option maxRecDepth 20000 in
theorem se_X7_put : Cond.selects RX7 yX7_put yX7_put ∈ gt := gt_pv 41 (by decide +kernel) rfl
set_option maxRecDepth 20000 in
theorem se_X7_isGreatest : Cond.selects RX7 yX7_isGreatest yX7_isGreatest ∈ gt := gt_pv 42 (by decide +kernel) rfl
set_option maxRecDepth 20000 in
theorem se_X7_winsBy : Cond.selects RX7 yX7_winsBy yX7_winsBy ∈ gt := gt_pv 43 (by decide +kernel) rfl
set_option maxRecDepth 20000 in
theorem se_X7_layRow : Cond.selects RX7 yX7_layRow yX7_layRow ∈ gt := gt_pv 44 (by decide +kernel) rfl
set_option maxRecDepth 20000 in
theorem wi_X6_init : WI RX6 yX6_init cX6_init 2 0 := ⟨im_X6_init, in_X6, cw_X6_init, rfl, by decide +kernel, by decide +kernel, by decide +kernel, rfl⟩
set_option maxRecDepth 20000 in
theorem wi_X1_init : WI RX1 yX1_init cX1_init 1 0 := ⟨im_X1_init, in_X1, cw_X1_init, rfl, by decide +kernel, by decide +kernel, by decide +kernel, rfl⟩
set_option maxRecDepth 20000 in
theorem wi_X0_init : WI RX0 yX0_init cX0_init 1 0 := ⟨im_X0_init, in_X0, cw_X0_init, rfl, by decide +kernel, by decide +kernel, by decide +kernel, rfl⟩
set_option maxRecDepth 20000 in
theorem wi_X3_init : WI RX3 yX3_init cX3_init 1 0 := ⟨im_X3_init, in_X3, cw_X3_init, rfl, by decide +kernel, by decide +kernel, by decide +kernel, rfl⟩
set_option maxRecDepth 20000 in
theorem ws_X3_riseSlot : WS RX3 yX3_riseSlot cX3_riseSlot 3 (some .int) 3 := ⟨sm_X3_riseSlot, in_X3, cw_X3_riseSlot, rfl, by decide +kernel, by decide +kernel, by decide +kernel⟩
set_option maxRecDepth 20000 in
theorem wf_X3_fillFactorials : WF RX3 yX3_fillFactorials cX3_fillFactorials 2 none 0 := ⟨⟨im_X3_fillFactorials, se_X3_fillFactorials⟩, in_X3, cw_X3_fillFactorials, rfl, by decide +kernel, by decide +kernel, by decide +kernel⟩
set_option maxRecDepth 20000 in
theorem wf_X3_fillDeranged : WF RX3 yX3_fillDeranged cX3_fillDeranged 2 none 0 := ⟨⟨im_X3_fillDeranged, se_X3_fillDeranged⟩, in_X3, cw_X3_fillDeranged, rfl, by decide +kernel, by decide +kernel, by decide +kernel⟩
set_option maxRecDepth 20000 in
theorem wf_X3_fillRecords : WF RX3 yX3_fillRecords cX3_fillRecords 3 none 0 := ⟨⟨im_X3_fillRecords, se_X3_fillRecords⟩, in_X3, cw_X3_fillRecords, rfl, by decide +kernel, by decide +kernel, by decide +kernel⟩
set_option maxRecDepth 20000 in
theorem wf_X3_fillRoundsUpTo : WF RX3 yX3_fillRoundsUpTo cX3_fillRoundsUpTo 3 none 0 := ⟨⟨im_X3_fillRoundsUpTo, se_X3_fillRoundsUpTo⟩, in_X3, cw_X3_fillRoundsUpTo, rfl, by decide +kernel, by decide +kernel, by decide +kernel⟩
set_option maxRecDepth 20000 in
theorem wf_X3_sumByRoundOfLast : WF RX3 yX3_sumByRoundOfLast cX3_sumByRoundOfLast 8 (some .long) 2 := ⟨⟨im_X3_sumByRoundOfLast, se_X3_sumByRoundOfLast⟩, in_X3, cw_X3_sumByRoundOfLast, rfl, by decide +kernel, by decide +kernel, by decide +kernel⟩
set_option maxRecDepth 20000 in
theorem wf_X3_fillRises : WF RX3 yX3_fillRises cX3_fillRises 3 none 0 := ⟨⟨im_X3_fillRises, se_X3_fillRises⟩, in_X3, cw_X3_fillRises, rfl, by decide +kernel, by decide +kernel, by decide +kernel⟩
set_option maxRecDepth 20000 in
theorem wf_X3_fillRisesByBelow : WF RX3 yX3_fillRisesByBelow cX3_fillRisesByBelow 6 none 2 := ⟨⟨im_X3_fillRisesByBelow, se_X3_fillRisesByBelow⟩, in_X3, cw_X3_fillRisesByBelow, rfl, by decide +kernel, by decide +kernel, by decide +kernel⟩
set_option maxRecDepth 20000 in
theorem wf_X3_withRises : WF RX3 yX3_withRises cX3_withRises 4 (some .long) 3 := ⟨⟨im_X3_withRises, se_X3_withRises⟩, in_X3, cw_X3_withRises, rfl, by decide +kernel, by decide +kernel, by decide +kernel⟩
set_option maxRecDepth 20000 in
theorem ws_X6_entry : WS RX6 yX6_entry cX6_entry 2 (some .long) 2 := ⟨sm_X6_entry, in_X6, cw_X6_entry, rfl, by decide +kernel, by decide +kernel, by decide +kernel⟩
set_option maxRecDepth 20000 in
theorem wi_X5_init : WI RX5 yX5_init cX5_init 2 1 := ⟨im_X5_init, in_X5, cw_X5_init, rfl, by decide +kernel, by decide +kernel, by decide +kernel, rfl⟩
set_option maxRecDepth 20000 in
theorem wf_X6_startWith : WF RX6 yX6_startWith cX6_startWith 3 none 1 := ⟨⟨im_X6_startWith, se_X6_startWith⟩, in_X6, cw_X6_startWith, rfl, by decide +kernel, by decide +kernel, by decide +kernel⟩
set_option maxRecDepth 20000 in
theorem wf_X1_startWith : WF RX1 yX1_startWith cX1_startWith 3 none 1 := ⟨⟨im_X1_startWith, se_X1_startWith⟩, in_X1, cw_X1_startWith, rfl, by decide +kernel, by decide +kernel, by decide +kernel⟩
set_option maxRecDepth 20000 in
theorem wf_X0_emptyAll : WF RX0 yX0_emptyAll cX0_emptyAll 2 none 0 := ⟨⟨im_X0_emptyAll, se_X0_emptyAll⟩, in_X0, cw_X0_emptyAll, rfl, by decide +kernel, by decide +kernel, by decide +kernel⟩
set_option maxRecDepth 20000 in
theorem wf_X6_things : WF RX6 yX6_things cX6_things 2 (some .int) 1 := ⟨⟨im_X6_things, se_X6_things⟩, in_X6, cw_X6_things, rfl, by decide +kernel, by decide +kernel, by decide +kernel⟩
set_option maxRecDepth 20000 in
theorem wf_X6_order : WF RX6 yX6_order cX6_order 5 (some .int) 2 := ⟨⟨im_X6_order, se_X6_order⟩, in_X6, cw_X6_order, rfl, by decide +kernel, by decide +kernel, by decide +kernel⟩
set_option maxRecDepth 20000 in
theorem wf_X1_readFigures : WF RX1 yX1_readFigures cX1_readFigures 13 (some .boolean) 2 := ⟨⟨im_X1_readFigures, se_X1_readFigures⟩, in_X1, cw_X1_readFigures, rfl, by decide +kernel, by decide +kernel, by decide +kernel⟩
set_option maxRecDepth 20000 in
theorem wf_X1_holds : WF RX1 yX1_holds cX1_holds 2 (some .boolean) 1 := ⟨⟨im_X1_holds, se_X1_holds⟩, in_X1, cw_X1_holds, rfl, by decide +kernel, by decide +kernel, by decide +kernel⟩
set_option maxRecDepth 20000 in
theorem wf_X1_keepMade : WF RX1 yX1_keepMade cX1_keepMade 2 none 0 := ⟨⟨im_X1_keepMade, se_X1_keepMade⟩, in_X1, cw_X1_keepMade, rfl, by decide +kernel, by decide +kernel, by decide +kernel⟩
set_option maxRecDepth 20000 in
theorem wf_X6_at : WF RX6 yX6_at cX6_at 2 (some .int) 1 := ⟨⟨im_X6_at, se_X6_at⟩, in_X6, cw_X6_at, rfl, by decide +kernel, by decide +kernel, by decide +kernel⟩
set_option maxRecDepth 20000 in
theorem wf_X6_isThing : WF RX6 yX6_isThing cX6_isThing 2 (some .boolean) 1 := ⟨⟨im_X6_isThing, se_X6_isThing⟩, in_X6, cw_X6_isThing, rfl, by decide +kernel, by decide +kernel, by decide +kernel⟩
set_option maxRecDepth 20000 in
theorem wf_X1_follow : WF RX1 yX1_follow cX1_follow 2 (some .int) 1 := ⟨⟨im_X1_follow, se_X1_follow⟩, in_X1, cw_X1_follow, rfl, by decide +kernel, by decide +kernel, by decide +kernel⟩
set_option maxRecDepth 20000 in
theorem wf_X6_swap : WF RX6 yX6_swap cX6_swap 3 (some .int) 2 := ⟨⟨im_X6_swap, se_X6_swap⟩, in_X6, cw_X6_swap, rfl, by decide +kernel, by decide +kernel, by decide +kernel⟩
set_option maxRecDepth 20000 in
theorem wf_X1_exchange : WF RX1 yX1_exchange cX1_exchange 4 none 2 := ⟨⟨im_X1_exchange, se_X1_exchange⟩, in_X1, cw_X1_exchange, rfl, by decide +kernel, by decide +kernel, by decide +kernel⟩
set_option maxRecDepth 20000 in
theorem wf_X6_lay : WF RX6 yX6_lay cX6_lay 2 (some .int) 1 := ⟨⟨im_X6_lay, se_X6_lay⟩, in_X6, cw_X6_lay, rfl, by decide +kernel, by decide +kernel, by decide +kernel⟩
set_option maxRecDepth 20000 in
theorem ws_X6_isPlace : WS RX6 yX6_isPlace cX6_isPlace 1 (some .boolean) 1 := ⟨sm_X6_isPlace, in_X6, cw_X6_isPlace, rfl, by decide +kernel, by decide +kernel, by decide +kernel⟩
set_option maxRecDepth 20000 in
theorem wf_X1_copyFrom : WF RX1 yX1_copyFrom cX1_copyFrom 3 none 1 := ⟨⟨im_X1_copyFrom, se_X1_copyFrom⟩, in_X1, cw_X1_copyFrom, rfl, by decide +kernel, by decide +kernel, by decide +kernel⟩
set_option maxRecDepth 20000 in
theorem wf_X6_take : WF RX6 yX6_take cX6_take 2 (some .int) 1 := ⟨⟨im_X6_take, se_X6_take⟩, in_X6, cw_X6_take, rfl, by decide +kernel, by decide +kernel, by decide +kernel⟩
set_option maxRecDepth 20000 in
theorem wf_X6_then : WF RX6 yX6_then cX6_then 2 (some .int) 1 := ⟨⟨im_X6_then, se_X6_then⟩, in_X6, cw_X6_then, rfl, by decide +kernel, by decide +kernel, by decide +kernel⟩
set_option maxRecDepth 20000 in
theorem wf_X1_goOnBy : WF RX1 yX1_goOnBy cX1_goOnBy 3 none 1 := ⟨⟨im_X1_goOnBy, se_X1_goOnBy⟩, in_X1, cw_X1_goOnBy, rfl, by decide +kernel, by decide +kernel, by decide +kernel⟩
set_option maxRecDepth 20000 in
theorem wf_X6_back : WF RX6 yX6_back cX6_back 1 (some .int) 0 := ⟨⟨im_X6_back, se_X6_back⟩, in_X6, cw_X6_back, rfl, by decide +kernel, by decide +kernel, by decide +kernel⟩
set_option maxRecDepth 20000 in
theorem wf_X1_turnBack : WF RX1 yX1_turnBack cX1_turnBack 2 none 0 := ⟨⟨im_X1_turnBack, se_X1_turnBack⟩, in_X1, cw_X1_turnBack, rfl, by decide +kernel, by decide +kernel, by decide +kernel⟩
set_option maxRecDepth 20000 in
theorem wf_X1_makeAt : WF RX1 yX1_makeAt cX1_makeAt 3 none 2 := ⟨⟨im_X1_makeAt, se_X1_makeAt⟩, in_X1, cw_X1_makeAt, rfl, by decide +kernel, by decide +kernel, by decide +kernel⟩
set_option maxRecDepth 20000 in
theorem wf_X6_number : WF RX6 yX6_number cX6_number 2 (some .int) 1 := ⟨⟨im_X6_number, se_X6_number⟩, in_X6, cw_X6_number, rfl, by decide +kernel, by decide +kernel, by decide +kernel⟩
set_option maxRecDepth 20000 in
theorem ws_X6_isKind : WS RX6 yX6_isKind cX6_isKind 1 (some .boolean) 1 := ⟨sm_X6_isKind, in_X6, cw_X6_isKind, rfl, by decide +kernel, by decide +kernel, by decide +kernel⟩
set_option maxRecDepth 20000 in
theorem wf_X1_numberOf : WF RX1 yX1_numberOf cX1_numberOf 2 (some .int) 1 := ⟨⟨im_X1_numberOf, se_X1_numberOf⟩, in_X1, cw_X1_numberOf, rfl, by decide +kernel, by decide +kernel, by decide +kernel⟩
set_option maxRecDepth 20000 in
theorem wf_X1_rounds : WF RX1 yX1_rounds cX1_rounds 3 (some .int) 0 := ⟨⟨im_X1_rounds, se_X1_rounds⟩, in_X1, cw_X1_rounds, rfl, by decide +kernel, by decide +kernel, by decide +kernel⟩
set_option maxRecDepth 20000 in
theorem wf_X1_leadsRound : WF RX1 yX1_leadsRound cX1_leadsRound 4 (some .boolean) 1 := ⟨⟨im_X1_leadsRound, se_X1_leadsRound⟩, in_X1, cw_X1_leadsRound, rfl, by decide +kernel, by decide +kernel, by decide +kernel⟩
set_option maxRecDepth 20000 in
theorem wf_X1_records : WF RX1 yX1_records cX1_records 4 (some .int) 0 := ⟨⟨im_X1_records, se_X1_records⟩, in_X1, cw_X1_records, rfl, by decide +kernel, by decide +kernel, by decide +kernel⟩
set_option maxRecDepth 20000 in
theorem wf_X1_rises : WF RX1 yX1_rises cX1_rises 3 (some .int) 0 := ⟨⟨im_X1_rises, se_X1_rises⟩, in_X1, cw_X1_rises, rfl, by decide +kernel, by decide +kernel, by decide +kernel⟩
set_option maxRecDepth 20000 in
theorem wf_X1_still : WF RX1 yX1_still cX1_still 3 (some .int) 0 := ⟨⟨im_X1_still, se_X1_still⟩, in_X1, cw_X1_still, rfl, by decide +kernel, by decide +kernel, by decide +kernel⟩
set_option maxRecDepth 20000 in
theorem wf_X1_longestRound : WF RX1 yX1_longestRound cX1_longestRound 3 (some .int) 0 := ⟨⟨im_X1_longestRound, se_X1_longestRound⟩, in_X1, cw_X1_longestRound, rfl, by decide +kernel, by decide +kernel, by decide +kernel⟩
set_option maxRecDepth 20000 in
theorem wf_X1_roundLength : WF RX1 yX1_roundLength cX1_roundLength 4 (some .int) 1 := ⟨⟨im_X1_roundLength, se_X1_roundLength⟩, in_X1, cw_X1_roundLength, rfl, by decide +kernel, by decide +kernel, by decide +kernel⟩
set_option maxRecDepth 20000 in
theorem wf_X1_pairsOut : WF RX1 yX1_pairsOut cX1_pairsOut 4 (some .int) 0 := ⟨⟨im_X1_pairsOut, se_X1_pairsOut⟩, in_X1, cw_X1_pairsOut, rfl, by decide +kernel, by decide +kernel, by decide +kernel⟩
set_option maxRecDepth 20000 in
theorem wf_X1_longestRise : WF RX1 yX1_longestRise cX1_longestRise 5 (some .int) 0 := ⟨⟨im_X1_longestRise, se_X1_longestRise⟩, in_X1, cw_X1_longestRise, rfl, by decide +kernel, by decide +kernel, by decide +kernel⟩
set_option maxRecDepth 20000 in
theorem wf_X1_turns : WF RX1 yX1_turns cX1_turns 3 (some .int) 0 := ⟨⟨im_X1_turns, se_X1_turns⟩, in_X1, cw_X1_turns, rfl, by decide +kernel, by decide +kernel, by decide +kernel⟩
set_option maxRecDepth 20000 in
theorem ws_X6_commonMultiple : WS RX6 yX6_commonMultiple cX6_commonMultiple 2 (some .int) 2 := ⟨sm_X6_commonMultiple, in_X6, cw_X6_commonMultiple, rfl, by decide +kernel, by decide +kernel, by decide +kernel⟩
set_option maxRecDepth 20000 in
theorem ws_X6_commonDivisor : WS RX6 yX6_commonDivisor cX6_commonDivisor 11 (some .long) 2 := ⟨sm_X6_commonDivisor, in_X6, cw_X6_commonDivisor, rfl, by decide +kernel, by decide +kernel, by decide +kernel⟩
set_option maxRecDepth 20000 in
theorem ws_X6_quotient : WS RX6 yX6_quotient cX6_quotient 4 (some .long) 2 := ⟨sm_X6_quotient, in_X6, cw_X6_quotient, rfl, by decide +kernel, by decide +kernel, by decide +kernel⟩
set_option maxRecDepth 20000 in
theorem wf_X6_many : WF RX6 yX6_many cX6_many 3 (some .long) 2 := ⟨⟨im_X6_many, se_X6_many⟩, in_X6, cw_X6_many, rfl, by decide +kernel, by decide +kernel, by decide +kernel⟩
set_option maxRecDepth 20000 in
theorem wf_X6_tallyOf : WF RX6 yX6_tallyOf cX6_tallyOf 3 (some (.object "HundredBoxes$Tally")) 1 := ⟨⟨im_X6_tallyOf, se_X6_tallyOf⟩, in_X6, cw_X6_tallyOf, rfl, by decide +kernel, by decide +kernel, by decide +kernel⟩
set_option maxRecDepth 20000 in
theorem wi_X4_init : WI RX4 yX4_init cX4_init 4 3 := ⟨im_X4_init, in_X4, cw_X4_init, rfl, by decide +kernel, by decide +kernel, by decide +kernel, rfl⟩
set_option maxRecDepth 20000 in
theorem ws_X4_greatest : WS RX4 yX4_greatest cX4_greatest 2 (some .int) 2 := ⟨sm_X4_greatest, in_X4, cw_X4_greatest, rfl, by decide +kernel, by decide +kernel, by decide +kernel⟩
set_option maxRecDepth 20000 in
theorem wf_X4_fillPairsOut : WF RX4 yX4_fillPairsOut cX4_fillPairsOut 4 none 0 := ⟨⟨im_X4_fillPairsOut, se_X4_fillPairsOut⟩, in_X4, cw_X4_fillPairsOut, rfl, by decide +kernel, by decide +kernel, by decide +kernel⟩
set_option maxRecDepth 20000 in
theorem wf_X4_fillByPartitions : WF RX4 yX4_fillByPartitions cX4_fillByPartitions 7 none 1 := ⟨⟨im_X4_fillByPartitions, se_X4_fillByPartitions⟩, in_X4, cw_X4_fillByPartitions, rfl, by decide +kernel, by decide +kernel, by decide +kernel⟩
set_option maxRecDepth 20000 in
theorem wi_X2_init : WI RX2 yX2_init cX2_init 2 1 := ⟨im_X2_init, in_X2, cw_X2_init, rfl, by decide +kernel, by decide +kernel, by decide +kernel, rfl⟩
set_option maxRecDepth 20000 in
theorem wf_X3_ordersOf : WF RX3 yX3_ordersOf cX3_ordersOf 2 (some .long) 1 := ⟨⟨im_X3_ordersOf, se_X3_ordersOf⟩, in_X3, cw_X3_ordersOf, rfl, by decide +kernel, by decide +kernel, by decide +kernel⟩
set_option maxRecDepth 20000 in
theorem wf_X2_hookProduct : WF RX2 yX2_hookProduct cX2_hookProduct 6 (some .long) 0 := ⟨⟨im_X2_hookProduct, se_X2_hookProduct⟩, in_X2, cw_X2_hookProduct, rfl, by decide +kernel, by decide +kernel, by decide +kernel⟩
set_option maxRecDepth 20000 in
theorem wf_X2_firstPart : WF RX2 yX2_firstPart cX2_firstPart 1 (some .int) 0 := ⟨⟨im_X2_firstPart, se_X2_firstPart⟩, in_X2, cw_X2_firstPart, rfl, by decide +kernel, by decide +kernel, by decide +kernel⟩
set_option maxRecDepth 20000 in
theorem wf_X4_addOrders : WF RX4 yX4_addOrders cX4_addOrders 4 none 2 := ⟨⟨im_X4_addOrders, se_X4_addOrders⟩, in_X4, cw_X4_addOrders, rfl, by decide +kernel, by decide +kernel, by decide +kernel⟩
set_option maxRecDepth 20000 in
theorem wf_X2_turns : WF RX2 yX2_turns cX2_turns 3 (some .int) 0 := ⟨⟨im_X2_turns, se_X2_turns⟩, in_X2, cw_X2_turns, rfl, by decide +kernel, by decide +kernel, by decide +kernel⟩
set_option maxRecDepth 20000 in
theorem wf_X2_sameRounds : WF RX2 yX2_sameRounds cX2_sameRounds 5 (some .long) 0 := ⟨⟨im_X2_sameRounds, se_X2_sameRounds⟩, in_X2, cw_X2_sameRounds, rfl, by decide +kernel, by decide +kernel, by decide +kernel⟩
set_option maxRecDepth 20000 in
theorem wf_X2_goOn : WF RX2 yX2_goOn cX2_goOn 4 (some .boolean) 0 := ⟨⟨im_X2_goOn, se_X2_goOn⟩, in_X2, cw_X2_goOn, rfl, by decide +kernel, by decide +kernel, by decide +kernel⟩
set_option maxRecDepth 20000 in
theorem wf_X4_fillByTables : WF RX4 yX4_fillByTables cX4_fillByTables 3 none 1 := ⟨⟨im_X4_fillByTables, se_X4_fillByTables⟩, in_X4, cw_X4_fillByTables, rfl, by decide +kernel, by decide +kernel, by decide +kernel⟩
set_option maxRecDepth 20000 in
theorem wf_X4_fromTables : WF RX4 yX4_fromTables cX4_fromTables 3 (some .long) 2 := ⟨⟨im_X4_fromTables, se_X4_fromTables⟩, in_X4, cw_X4_fromTables, rfl, by decide +kernel, by decide +kernel, by decide +kernel⟩
set_option maxRecDepth 20000 in
theorem wf_X3_withRecords : WF RX3 yX3_withRecords cX3_withRecords 7 (some .long) 3 := ⟨⟨im_X3_withRecords, se_X3_withRecords⟩, in_X3, cw_X3_withRecords, rfl, by decide +kernel, by decide +kernel, by decide +kernel⟩
set_option maxRecDepth 20000 in
theorem wf_X3_withStill : WF RX3 yX3_withStill cX3_withStill 6 (some .long) 2 := ⟨⟨im_X3_withStill, se_X3_withStill⟩, in_X3, cw_X3_withStill, rfl, by decide +kernel, by decide +kernel, by decide +kernel⟩
set_option maxRecDepth 20000 in
theorem wf_X3_withRoundsUpTo : WF RX3 yX3_withRoundsUpTo cX3_withRoundsUpTo 3 (some .long) 2 := ⟨⟨im_X3_withRoundsUpTo, se_X3_withRoundsUpTo⟩, in_X3, cw_X3_withRoundsUpTo, rfl, by decide +kernel, by decide +kernel, by decide +kernel⟩
set_option maxRecDepth 20000 in
theorem wf_X4_ordersWith : WF RX4 yX4_ordersWith cX4_ordersWith 2 (some .long) 1 := ⟨⟨im_X4_ordersWith, se_X4_ordersWith⟩, in_X4, cw_X4_ordersWith, rfl, by decide +kernel, by decide +kernel, by decide +kernel⟩
set_option maxRecDepth 20000 in
theorem wf_X6_mean : WF RX6 yX6_mean cX6_mean 7 (some .long) 2 := ⟨⟨im_X6_mean, se_X6_mean⟩, in_X6, cw_X6_mean, rfl, by decide +kernel, by decide +kernel, by decide +kernel⟩
set_option maxRecDepth 20000 in
theorem wf_X4_sumOfNumbers : WF RX4 yX4_sumOfNumbers cX4_sumOfNumbers 4 (some .long) 0 := ⟨⟨im_X4_sumOfNumbers, se_X4_sumOfNumbers⟩, in_X4, cw_X4_sumOfNumbers, rfl, by decide +kernel, by decide +kernel, by decide +kernel⟩
set_option maxRecDepth 20000 in
theorem wf_X6_row : WF RX6 yX6_row cX6_row 5 (some .int) 3 := ⟨⟨im_X6_row, se_X6_row⟩, in_X6, cw_X6_row, rfl, by decide +kernel, by decide +kernel, by decide +kernel⟩
set_option maxRecDepth 20000 in
theorem ws_X6_isRowKind : WS RX6 yX6_isRowKind cX6_isRowKind 1 (some .boolean) 1 := ⟨sm_X6_isRowKind, in_X6, cw_X6_isRowKind, rfl, by decide +kernel, by decide +kernel, by decide +kernel⟩
set_option maxRecDepth 20000 in
theorem wf_X5_start : WF RX5 yX5_start cX5_start 5 none 3 := ⟨⟨im_X5_start, se_X5_start⟩, in_X5, cw_X5_start, rfl, by decide +kernel, by decide +kernel, by decide +kernel⟩
set_option maxRecDepth 20000 in
theorem wf_X5_waysAtStart : WF RX5 yX5_waysAtStart cX5_waysAtStart 1 (some .long) 0 := ⟨⟨im_X5_waysAtStart, se_X5_waysAtStart⟩, in_X5, cw_X5_waysAtStart, rfl, by decide +kernel, by decide +kernel, by decide +kernel⟩
set_option maxRecDepth 20000 in
theorem wf_X5_ways : WF RX5 yX5_ways cX5_ways 5 (some .long) 4 := ⟨⟨im_X5_ways, se_X5_ways⟩, in_X5, cw_X5_ways, rfl, by decide +kernel, by decide +kernel, by decide +kernel⟩
set_option maxRecDepth 20000 in
theorem wf_X5_writeRow : WF RX5 yX5_writeRow cX5_writeRow 11 none 2 := ⟨⟨im_X5_writeRow, se_X5_writeRow⟩, in_X5, cw_X5_writeRow, rfl, by decide +kernel, by decide +kernel, by decide +kernel⟩
set_option maxRecDepth 20000 in
theorem wf_X5_waysWith : WF RX5 yX5_waysWith cX5_waysWith 3 (some .long) 2 := ⟨⟨im_X5_waysWith, se_X5_waysWith⟩, in_X5, cw_X5_waysWith, rfl, by decide +kernel, by decide +kernel, by decide +kernel⟩
set_option maxRecDepth 20000 in
theorem wf_X5_wantedAfter : WF RX5 yX5_wantedAfter cX5_wantedAfter 3 (some .int) 1 := ⟨⟨im_X5_wantedAfter, se_X5_wantedAfter⟩, in_X5, cw_X5_wantedAfter, rfl, by decide +kernel, by decide +kernel, by decide +kernel⟩
set_option maxRecDepth 20000 in
theorem wf_X5_step : WF RX5 yX5_step cX5_step 2 none 1 := ⟨⟨im_X5_step, se_X5_step⟩, in_X5, cw_X5_step, rfl, by decide +kernel, by decide +kernel, by decide +kernel⟩
set_option maxRecDepth 20000 in
theorem wf_X6_place : WF RX6 yX6_place cX6_place 2 (some .long) 1 := ⟨⟨im_X6_place, se_X6_place⟩, in_X6, cw_X6_place, rfl, by decide +kernel, by decide +kernel, by decide +kernel⟩
set_option maxRecDepth 20000 in
theorem wf_X5_rowsAheadOf : WF RX5 yX5_rowsAheadOf cX5_rowsAheadOf 8 (some .long) 1 := ⟨⟨im_X5_rowsAheadOf, se_X5_rowsAheadOf⟩, in_X5, cw_X5_rowsAheadOf, rfl, by decide +kernel, by decide +kernel, by decide +kernel⟩
set_option maxRecDepth 20000 in
theorem wf_X6_toRounds : WF RX6 yX6_toRounds cX6_toRounds 1 (some .int) 0 := ⟨⟨im_X6_toRounds, se_X6_toRounds⟩, in_X6, cw_X6_toRounds, rfl, by decide +kernel, by decide +kernel, by decide +kernel⟩
set_option maxRecDepth 20000 in
theorem wf_X1_makeRounds : WF RX1 yX1_makeRounds cX1_makeRounds 4 none 0 := ⟨⟨im_X1_makeRounds, se_X1_makeRounds⟩, in_X1, cw_X1_makeRounds, rfl, by decide +kernel, by decide +kernel, by decide +kernel⟩
set_option maxRecDepth 20000 in
theorem wf_X6_toRecords : WF RX6 yX6_toRecords cX6_toRecords 1 (some .int) 0 := ⟨⟨im_X6_toRecords, se_X6_toRecords⟩, in_X6, cw_X6_toRecords, rfl, by decide +kernel, by decide +kernel, by decide +kernel⟩
set_option maxRecDepth 20000 in
theorem wf_X1_makeRecords : WF RX1 yX1_makeRecords cX1_makeRecords 5 none 0 := ⟨⟨im_X1_makeRecords, se_X1_makeRecords⟩, in_X1, cw_X1_makeRecords, rfl, by decide +kernel, by decide +kernel, by decide +kernel⟩
set_option maxRecDepth 20000 in
theorem wf_X6_opens : WF RX6 yX6_opens cX6_opens 3 (some .int) 1 := ⟨⟨im_X6_opens, se_X6_opens⟩, in_X6, cw_X6_opens, rfl, by decide +kernel, by decide +kernel, by decide +kernel⟩
set_option maxRecDepth 20000 in
theorem wf_X6_list : WF RX6 yX6_list cX6_list 3 (some .int) 2 := ⟨⟨im_X6_list, se_X6_list⟩, in_X6, cw_X6_list, rfl, by decide +kernel, by decide +kernel, by decide +kernel⟩
set_option maxRecDepth 20000 in
theorem wf_X0_hasBox : WF RX0 yX0_hasBox cX0_hasBox 5 (some .boolean) 2 := ⟨⟨im_X0_hasBox, se_X0_hasBox⟩, in_X0, cw_X0_hasBox, rfl, by decide +kernel, by decide +kernel, by decide +kernel⟩
set_option maxRecDepth 20000 in
theorem wf_X0_firstOf : WF RX0 yX0_firstOf cX0_firstOf 3 (some .int) 2 := ⟨⟨im_X0_firstOf, se_X0_firstOf⟩, in_X0, cw_X0_firstOf, rfl, by decide +kernel, by decide +kernel, by decide +kernel⟩
set_option maxRecDepth 20000 in
theorem wf_X0_holds : WF RX0 yX0_holds cX0_holds 2 (some .boolean) 1 := ⟨⟨im_X0_holds, se_X0_holds⟩, in_X0, cw_X0_holds, rfl, by decide +kernel, by decide +kernel, by decide +kernel⟩
set_option maxRecDepth 20000 in
theorem wf_X0_addBox : WF RX0 yX0_addBox cX0_addBox 3 (some .int) 2 := ⟨⟨im_X0_addBox, se_X0_addBox⟩, in_X0, cw_X0_addBox, rfl, by decide +kernel, by decide +kernel, by decide +kernel⟩
set_option maxRecDepth 20000 in
theorem wf_X6_forget : WF RX6 yX6_forget cX6_forget 2 (some .int) 1 := ⟨⟨im_X6_forget, se_X6_forget⟩, in_X6, cw_X6_forget, rfl, by decide +kernel, by decide +kernel, by decide +kernel⟩
set_option maxRecDepth 20000 in
theorem wf_X0_emptyOne : WF RX0 yX0_emptyOne cX0_emptyOne 3 (some .int) 1 := ⟨⟨im_X0_emptyOne, se_X0_emptyOne⟩, in_X0, cw_X0_emptyOne, rfl, by decide +kernel, by decide +kernel, by decide +kernel⟩
set_option maxRecDepth 20000 in
theorem wf_X6_wins : WF RX6 yX6_wins cX6_wins 4 (some .int) 2 := ⟨⟨im_X6_wins, se_X6_wins⟩, in_X6, cw_X6_wins, rfl, by decide +kernel, by decide +kernel, by decide +kernel⟩
set_option maxRecDepth 20000 in
theorem ws_X6_isWay : WS RX6 yX6_isWay cX6_isWay 1 (some .boolean) 1 := ⟨sm_X6_isWay, in_X6, cw_X6_isWay, rfl, by decide +kernel, by decide +kernel, by decide +kernel⟩
set_option maxRecDepth 20000 in
theorem wf_X0_findsOwnThing : WF RX0 yX0_findsOwnThing cX0_findsOwnThing 6 (some .boolean) 3 := ⟨⟨im_X0_findsOwnThing, se_X0_findsOwnThing⟩, in_X0, cw_X0_findsOwnThing, rfl, by decide +kernel, by decide +kernel, by decide +kernel⟩
set_option maxRecDepth 20000 in
theorem wf_X6_allWin : WF RX6 yX6_allWin cX6_allWin 2 (some .long) 1 := ⟨⟨im_X6_allWin, se_X6_allWin⟩, in_X6, cw_X6_allWin, rfl, by decide +kernel, by decide +kernel, by decide +kernel⟩
set_option maxRecDepth 20000 in
theorem wf_X0_ordersWonByAll : WF RX0 yX0_ordersWonByAll cX0_ordersWonByAll 5 (some .long) 2 := ⟨⟨im_X0_ordersWonByAll, se_X0_ordersWonByAll⟩, in_X0, cw_X0_ordersWonByAll, rfl, by decide +kernel, by decide +kernel, by decide +kernel⟩
set_option maxRecDepth 20000 in
theorem wf_X0_placeNextThing : WF RX0 yX0_placeNextThing cX0_placeNextThing 8 none 3 := ⟨⟨im_X0_placeNextThing, se_X0_placeNextThing⟩, in_X0, cw_X0_placeNextThing, rfl, by decide +kernel, by decide +kernel, by decide +kernel⟩
set_option maxRecDepth 20000 in
theorem ws_J6_bitCount_0f7a4 : WS RJ6 yJ6_bitCount_0f7a4 cJ6_bitCount_0f7a4 1 (some .int) 1 := ⟨sm_J6_bitCount_0f7a4, in_J6, cw_J6_bitCount_0f7a4, rfl, by decide +kernel, by decide +kernel, by decide +kernel⟩
set_option maxRecDepth 20000 in
theorem wf_X6_count : WF RX6 yX6_count cX6_count 2 (some .int) 1 := ⟨⟨im_X6_count, se_X6_count⟩, in_X6, cw_X6_count, rfl, by decide +kernel, by decide +kernel, by decide +kernel⟩
set_option maxRecDepth 20000 in
theorem wf_X0_boxesInAll : WF RX0 yX0_boxesInAll cX0_boxesInAll 3 (some .int) 0 := ⟨⟨im_X0_boxesInAll, se_X0_boxesInAll⟩, in_X0, cw_X0_boxesInAll, rfl, by decide +kernel, by decide +kernel, by decide +kernel⟩
set_option maxRecDepth 20000 in
theorem wi_X7_init : WI RX7 yX7_init cX7_init 1 0 := ⟨im_X7_init, in_X7, cw_X7_init, rfl, by decide +kernel, by decide +kernel, by decide +kernel, rfl⟩
set_option maxRecDepth 20000 in
theorem wf_X7_begin : WF RX7 yX7_begin cX7_begin 3 none 0 := ⟨⟨im_X7_begin, se_X7_begin⟩, in_X7, cw_X7_begin, rfl, by decide +kernel, by decide +kernel, by decide +kernel⟩
set_option maxRecDepth 20000 in
theorem wf_X7_things : WF RX7 yX7_things cX7_things 2 (some .int) 1 := ⟨⟨im_X7_things, se_X7_things⟩, in_X7, cw_X7_things, rfl, by decide +kernel, by decide +kernel, by decide +kernel⟩
set_option maxRecDepth 20000 in
theorem ws_X7_in : WS RX7 yX7_in cX7_in 6 (some .boolean) 3 := ⟨sm_X7_in, in_X7, cw_X7_in, rfl, by decide +kernel, by decide +kernel, by decide +kernel⟩
set_option maxRecDepth 20000 in
theorem wf_X7_order : WF RX7 yX7_order cX7_order 11 (some .int) 2 := ⟨⟨im_X7_order, se_X7_order⟩, in_X7, cw_X7_order, rfl, by decide +kernel, by decide +kernel, by decide +kernel⟩
set_option maxRecDepth 20000 in
theorem wf_X7_become : WF RX7 yX7_become cX7_become 2 none 0 := ⟨⟨im_X7_become, se_X7_become⟩, in_X7, cw_X7_become, rfl, by decide +kernel, by decide +kernel, by decide +kernel⟩
set_option maxRecDepth 20000 in
theorem wf_X7_at : WF RX7 yX7_at cX7_at 2 (some .int) 1 := ⟨⟨im_X7_at, se_X7_at⟩, in_X7, cw_X7_at, rfl, by decide +kernel, by decide +kernel, by decide +kernel⟩
set_option maxRecDepth 20000 in
theorem wf_X7_isThing : WF RX7 yX7_isThing cX7_isThing 2 (some .boolean) 1 := ⟨⟨im_X7_isThing, se_X7_isThing⟩, in_X7, cw_X7_isThing, rfl, by decide +kernel, by decide +kernel, by decide +kernel⟩
set_option maxRecDepth 20000 in
theorem wf_X7_swap : WF RX7 yX7_swap cX7_swap 4 (some .int) 2 := ⟨⟨im_X7_swap, se_X7_swap⟩, in_X7, cw_X7_swap, rfl, by decide +kernel, by decide +kernel, by decide +kernel⟩
set_option maxRecDepth 20000 in
theorem wf_X7_lay : WF RX7 yX7_lay cX7_lay 3 (some .int) 1 := ⟨⟨im_X7_lay, se_X7_lay⟩, in_X7, cw_X7_lay, rfl, by decide +kernel, by decide +kernel, by decide +kernel⟩
set_option maxRecDepth 20000 in
theorem wf_X7_take : WF RX7 yX7_take cX7_take 3 (some .int) 1 := ⟨⟨im_X7_take, se_X7_take⟩, in_X7, cw_X7_take, rfl, by decide +kernel, by decide +kernel, by decide +kernel⟩
set_option maxRecDepth 20000 in
theorem wf_X7_then : WF RX7 yX7_then cX7_then 3 (some .int) 1 := ⟨⟨im_X7_then, se_X7_then⟩, in_X7, cw_X7_then, rfl, by decide +kernel, by decide +kernel, by decide +kernel⟩
set_option maxRecDepth 20000 in
theorem wf_X7_back : WF RX7 yX7_back cX7_back 2 (some .int) 0 := ⟨⟨im_X7_back, se_X7_back⟩, in_X7, cw_X7_back, rfl, by decide +kernel, by decide +kernel, by decide +kernel⟩
set_option maxRecDepth 20000 in
theorem wf_X7_number : WF RX7 yX7_number cX7_number 2 (some .int) 1 := ⟨⟨im_X7_number, se_X7_number⟩, in_X7, cw_X7_number, rfl, by decide +kernel, by decide +kernel, by decide +kernel⟩
set_option maxRecDepth 20000 in
theorem wf_X7_numberOf : WF RX7 yX7_numberOf cX7_numberOf 9 (some .int) 1 := ⟨⟨im_X7_numberOf, se_X7_numberOf⟩, in_X7, cw_X7_numberOf, rfl, by decide +kernel, by decide +kernel, by decide +kernel⟩
set_option maxRecDepth 20000 in
theorem wf_X7_roundOf : WF RX7 yX7_roundOf cX7_roundOf 4 (some .int) 1 := ⟨⟨im_X7_roundOf, se_X7_roundOf⟩, in_X7, cw_X7_roundOf, rfl, by decide +kernel, by decide +kernel, by decide +kernel⟩
set_option maxRecDepth 20000 in
theorem ws_X7_common : WS RX7 yX7_common cX7_common 10 (some .long) 2 := ⟨sm_X7_common, in_X7, cw_X7_common, rfl, by decide +kernel, by decide +kernel, by decide +kernel⟩
set_option maxRecDepth 20000 in
theorem wf_X7_isFirst : WF RX7 yX7_isFirst cX7_isFirst 4 (some .boolean) 1 := ⟨⟨im_X7_isFirst, se_X7_isFirst⟩, in_X7, cw_X7_isFirst, rfl, by decide +kernel, by decide +kernel, by decide +kernel⟩
set_option maxRecDepth 20000 in
theorem wf_X7_isRecord : WF RX7 yX7_isRecord cX7_isRecord 4 (some .boolean) 1 := ⟨⟨im_X7_isRecord, se_X7_isRecord⟩, in_X7, cw_X7_isRecord, rfl, by decide +kernel, by decide +kernel, by decide +kernel⟩
set_option maxRecDepth 20000 in
theorem wf_X7_out : WF RX7 yX7_out cX7_out 4 (some .int) 0 := ⟨⟨im_X7_out, se_X7_out⟩, in_X7, cw_X7_out, rfl, by decide +kernel, by decide +kernel, by decide +kernel⟩
set_option maxRecDepth 20000 in
theorem wf_X7_longestRise : WF RX7 yX7_longestRise cX7_longestRise 4 (some .int) 0 := ⟨⟨im_X7_longestRise, se_X7_longestRise⟩, in_X7, cw_X7_longestRise, rfl, by decide +kernel, by decide +kernel, by decide +kernel⟩
set_option maxRecDepth 20000 in
theorem wf_X7_many : WF RX7 yX7_many cX7_many 3 (some .long) 2 := ⟨⟨im_X7_many, se_X7_many⟩, in_X7, cw_X7_many, rfl, by decide +kernel, by decide +kernel, by decide +kernel⟩
set_option maxRecDepth 20000 in
theorem wf_X7_findCounts : WF RX7 yX7_findCounts cX7_findCounts 2 none 1 := ⟨⟨im_X7_findCounts, se_X7_findCounts⟩, in_X7, cw_X7_findCounts, rfl, by decide +kernel, by decide +kernel, by decide +kernel⟩
set_option maxRecDepth 20000 in
theorem wf_X7_layProducts : WF RX7 yX7_layProducts cX7_layProducts 2 none 0 := ⟨⟨im_X7_layProducts, se_X7_layProducts⟩, in_X7, cw_X7_layProducts, rfl, by decide +kernel, by decide +kernel, by decide +kernel⟩
set_option maxRecDepth 20000 in
theorem wf_X7_countByThings : WF RX7 yX7_countByThings cX7_countByThings 7 none 1 := ⟨⟨im_X7_countByThings, se_X7_countByThings⟩, in_X7, cw_X7_countByThings, rfl, by decide +kernel, by decide +kernel, by decide +kernel⟩
set_option maxRecDepth 20000 in
theorem wf_X7_step : WF RX7 yX7_step cX7_step 2 none 0 := ⟨⟨im_X7_step, se_X7_step⟩, in_X7, cw_X7_step, rfl, by decide +kernel, by decide +kernel, by decide +kernel⟩
set_option maxRecDepth 20000 in
theorem wf_X7_countByShapes : WF RX7 yX7_countByShapes cX7_countByShapes 3 none 1 := ⟨⟨im_X7_countByShapes, se_X7_countByShapes⟩, in_X7, cw_X7_countByShapes, rfl, by decide +kernel, by decide +kernel, by decide +kernel⟩
set_option maxRecDepth 20000 in
theorem wf_X7_shapeNumber : WF RX7 yX7_shapeNumber cX7_shapeNumber 6 (some .int) 1 := ⟨⟨im_X7_shapeNumber, se_X7_shapeNumber⟩, in_X7, cw_X7_shapeNumber, rfl, by decide +kernel, by decide +kernel, by decide +kernel⟩
set_option maxRecDepth 20000 in
theorem wf_X7_byFillings : WF RX7 yX7_byFillings cX7_byFillings 7 (some .long) 0 := ⟨⟨im_X7_byFillings, se_X7_byFillings⟩, in_X7, cw_X7_byFillings, rfl, by decide +kernel, by decide +kernel, by decide +kernel⟩
set_option maxRecDepth 20000 in
theorem wf_X7_byRounds : WF RX7 yX7_byRounds cX7_byRounds 5 (some .long) 0 := ⟨⟨im_X7_byRounds, se_X7_byRounds⟩, in_X7, cw_X7_byRounds, rfl, by decide +kernel, by decide +kernel, by decide +kernel⟩
set_option maxRecDepth 20000 in
theorem wf_X7_nextShape : WF RX7 yX7_nextShape cX7_nextShape 4 (some .boolean) 0 := ⟨⟨im_X7_nextShape, se_X7_nextShape⟩, in_X7, cw_X7_nextShape, rfl, by decide +kernel, by decide +kernel, by decide +kernel⟩
set_option maxRecDepth 20000 in
theorem wf_X7_mean : WF RX7 yX7_mean cX7_mean 7 (some .long) 2 := ⟨⟨im_X7_mean, se_X7_mean⟩, in_X7, cw_X7_mean, rfl, by decide +kernel, by decide +kernel, by decide +kernel⟩
set_option maxRecDepth 20000 in
theorem wf_X7_row : WF RX7 yX7_row cX7_row 9 (some .int) 3 := ⟨⟨im_X7_row, se_X7_row⟩, in_X7, cw_X7_row, rfl, by decide +kernel, by decide +kernel, by decide +kernel⟩
set_option maxRecDepth 20000 in
theorem ws_X7_isKind : WS RX7 yX7_isKind cX7_isKind 1 (some .boolean) 1 := ⟨sm_X7_isKind, in_X7, cw_X7_isKind, rfl, by decide +kernel, by decide +kernel, by decide +kernel⟩
set_option maxRecDepth 20000 in
theorem wf_X7_beginRow : WF RX7 yX7_beginRow cX7_beginRow 3 none 2 := ⟨⟨im_X7_beginRow, se_X7_beginRow⟩, in_X7, cw_X7_beginRow, rfl, by decide +kernel, by decide +kernel, by decide +kernel⟩
set_option maxRecDepth 20000 in
theorem wf_X7_layWays : WF RX7 yX7_layWays cX7_layWays 8 none 1 := ⟨⟨im_X7_layWays, se_X7_layWays⟩, in_X7, cw_X7_layWays, rfl, by decide +kernel, by decide +kernel, by decide +kernel⟩
set_option maxRecDepth 20000 in
theorem wf_X7_waysBy : WF RX7 yX7_waysBy cX7_waysBy 9 (some .long) 5 := ⟨⟨im_X7_waysBy, se_X7_waysBy⟩, in_X7, cw_X7_waysBy, rfl, by decide +kernel, by decide +kernel, by decide +kernel⟩
set_option maxRecDepth 20000 in
theorem ws_X7_wayAt : WS RX7 yX7_wayAt cX7_wayAt 3 (some .int) 3 := ⟨sm_X7_wayAt, in_X7, cw_X7_wayAt, rfl, by decide +kernel, by decide +kernel, by decide +kernel⟩
set_option maxRecDepth 20000 in
theorem wf_X7_waysAt : WF RX7 yX7_waysAt cX7_waysAt 6 (some .long) 3 := ⟨⟨im_X7_waysAt, se_X7_waysAt⟩, in_X7, cw_X7_waysAt, rfl, by decide +kernel, by decide +kernel, by decide +kernel⟩
set_option maxRecDepth 20000 in
theorem wf_X7_put : WF RX7 yX7_put cX7_put 8 none 3 := ⟨⟨im_X7_put, se_X7_put⟩, in_X7, cw_X7_put, rfl, by decide +kernel, by decide +kernel, by decide +kernel⟩
set_option maxRecDepth 20000 in
theorem wf_X7_place : WF RX7 yX7_place cX7_place 7 (some .long) 1 := ⟨⟨im_X7_place, se_X7_place⟩, in_X7, cw_X7_place, rfl, by decide +kernel, by decide +kernel, by decide +kernel⟩
set_option maxRecDepth 20000 in
theorem wf_X7_toRounds : WF RX7 yX7_toRounds cX7_toRounds 4 (some .int) 0 := ⟨⟨im_X7_toRounds, se_X7_toRounds⟩, in_X7, cw_X7_toRounds, rfl, by decide +kernel, by decide +kernel, by decide +kernel⟩
set_option maxRecDepth 20000 in
theorem wf_X7_toRecords : WF RX7 yX7_toRecords cX7_toRecords 6 (some .int) 0 := ⟨⟨im_X7_toRecords, se_X7_toRecords⟩, in_X7, cw_X7_toRecords, rfl, by decide +kernel, by decide +kernel, by decide +kernel⟩
set_option maxRecDepth 20000 in
theorem wf_X7_isGreatest : WF RX7 yX7_isGreatest cX7_isGreatest 4 (some .boolean) 1 := ⟨⟨im_X7_isGreatest, se_X7_isGreatest⟩, in_X7, cw_X7_isGreatest, rfl, by decide +kernel, by decide +kernel, by decide +kernel⟩
set_option maxRecDepth 20000 in
theorem wf_X7_opens : WF RX7 yX7_opens cX7_opens 3 (some .int) 1 := ⟨⟨im_X7_opens, se_X7_opens⟩, in_X7, cw_X7_opens, rfl, by decide +kernel, by decide +kernel, by decide +kernel⟩
set_option maxRecDepth 20000 in
theorem wf_X7_list : WF RX7 yX7_list cX7_list 4 (some .int) 2 := ⟨⟨im_X7_list, se_X7_list⟩, in_X7, cw_X7_list, rfl, by decide +kernel, by decide +kernel, by decide +kernel⟩
set_option maxRecDepth 20000 in
theorem wf_X7_forget : WF RX7 yX7_forget cX7_forget 3 (some .int) 1 := ⟨⟨im_X7_forget, se_X7_forget⟩, in_X7, cw_X7_forget, rfl, by decide +kernel, by decide +kernel, by decide +kernel⟩
set_option maxRecDepth 20000 in
theorem wf_X7_wins : WF RX7 yX7_wins cX7_wins 3 (some .int) 2 := ⟨⟨im_X7_wins, se_X7_wins⟩, in_X7, cw_X7_wins, rfl, by decide +kernel, by decide +kernel, by decide +kernel⟩
set_option maxRecDepth 20000 in
theorem wf_X7_winsBy : WF RX7 yX7_winsBy cX7_winsBy 5 (some .boolean) 2 := ⟨⟨im_X7_winsBy, se_X7_winsBy⟩, in_X7, cw_X7_winsBy, rfl, by decide +kernel, by decide +kernel, by decide +kernel⟩
set_option maxRecDepth 20000 in
theorem wf_X7_allWin : WF RX7 yX7_allWin cX7_allWin 7 (some .long) 1 := ⟨⟨im_X7_allWin, se_X7_allWin⟩, in_X7, cw_X7_allWin, rfl, by decide +kernel, by decide +kernel, by decide +kernel⟩
set_option maxRecDepth 20000 in
theorem wf_X7_layRow : WF RX7 yX7_layRow cX7_layRow 8 none 1 := ⟨⟨im_X7_layRow, se_X7_layRow⟩, in_X7, cw_X7_layRow, rfl, by decide +kernel, by decide +kernel, by decide +kernel⟩
set_option maxRecDepth 20000 in
theorem wf_X7_count : WF RX7 yX7_count cX7_count 4 (some .int) 1 := ⟨⟨im_X7_count, se_X7_count⟩, in_X7, cw_X7_count, rfl, by decide +kernel, by decide +kernel, by decide +kernel⟩
set_option maxRecDepth 20000 in
theorem la_X0_0 : u_lay RX0 TX0 0 ∈ gt := gt_tb 48 (by decide +kernel) rfl
set_option maxRecDepth 20000 in
theorem la_X0_1 : u_lay RX0 TX0 1 ∈ gt := gt_tb 50 (by decide +kernel) rfl
set_option maxRecDepth 20000 in
theorem la_X0_2 : u_lay RX0 TX0 2 ∈ gt := gt_tb 52 (by decide +kernel) rfl
set_option maxRecDepth 20000 in
theorem uwX0 : ∀ w ∈ u_ws RX0 TX0 3, w ∈ gt := by
  intro w hw
  obtain ⟨k, hk, rfl⟩ := List.mem_map.mp hw
  have hk := List.mem_range.mp hk
  rcases Nat.lt_or_ge k 1 with h | h
  · exact (show k = 0 by omega) ▸ la_X0_0
  rcases Nat.lt_or_ge k 2 with h | h
  · exact (show k = 1 by omega) ▸ la_X0_1
  rcases Nat.lt_or_ge k 3 with h | h
  · exact (show k = 2 by omega) ▸ la_X0_2
  omega
set_option maxRecDepth 20000 in
theorem la_X1_0 : u_lay RX1 TX1 0 ∈ gt := gt_tb 28 (by decide +kernel) rfl
set_option maxRecDepth 20000 in
theorem la_X1_1 : u_lay RX1 TX1 1 ∈ gt := gt_tb 30 (by decide +kernel) rfl
set_option maxRecDepth 20000 in
theorem la_X1_2 : u_lay RX1 TX1 2 ∈ gt := gt_tb 32 (by decide +kernel) rfl
set_option maxRecDepth 20000 in
theorem uwX1 : ∀ w ∈ u_ws RX1 TX1 3, w ∈ gt := by
  intro w hw
  obtain ⟨k, hk, rfl⟩ := List.mem_map.mp hw
  have hk := List.mem_range.mp hk
  rcases Nat.lt_or_ge k 1 with h | h
  · exact (show k = 0 by omega) ▸ la_X1_0
  rcases Nat.lt_or_ge k 2 with h | h
  · exact (show k = 1 by omega) ▸ la_X1_1
  rcases Nat.lt_or_ge k 3 with h | h
  · exact (show k = 2 by omega) ▸ la_X1_2
  omega
set_option maxRecDepth 20000 in
theorem la_X2_0 : u_lay RX2 TX2 0 ∈ gt := gt_tb 366 (by decide +kernel) rfl
set_option maxRecDepth 20000 in
theorem la_X2_1 : u_lay RX2 TX2 1 ∈ gt := gt_tb 368 (by decide +kernel) rfl
set_option maxRecDepth 20000 in
theorem uwX2 : ∀ w ∈ u_ws RX2 TX2 2, w ∈ gt := by
  intro w hw
  obtain ⟨k, hk, rfl⟩ := List.mem_map.mp hw
  have hk := List.mem_range.mp hk
  rcases Nat.lt_or_ge k 1 with h | h
  · exact (show k = 0 by omega) ▸ la_X2_0
  rcases Nat.lt_or_ge k 2 with h | h
  · exact (show k = 1 by omega) ▸ la_X2_1
  omega
set_option maxRecDepth 20000 in
theorem la_X3_0 : u_lay RX3 TX3 0 ∈ gt := gt_tb 107 (by decide +kernel) rfl
set_option maxRecDepth 20000 in
theorem la_X3_1 : u_lay RX3 TX3 1 ∈ gt := gt_tb 109 (by decide +kernel) rfl
set_option maxRecDepth 20000 in
theorem la_X3_2 : u_lay RX3 TX3 2 ∈ gt := gt_tb 111 (by decide +kernel) rfl
set_option maxRecDepth 20000 in
theorem la_X3_3 : u_lay RX3 TX3 3 ∈ gt := gt_tb 113 (by decide +kernel) rfl
set_option maxRecDepth 20000 in
theorem la_X3_4 : u_lay RX3 TX3 4 ∈ gt := gt_tb 115 (by decide +kernel) rfl
set_option maxRecDepth 20000 in
theorem uwX3 : ∀ w ∈ u_ws RX3 TX3 5, w ∈ gt := by
  intro w hw
  obtain ⟨k, hk, rfl⟩ := List.mem_map.mp hw
  have hk := List.mem_range.mp hk
  rcases Nat.lt_or_ge k 1 with h | h
  · exact (show k = 0 by omega) ▸ la_X3_0
  rcases Nat.lt_or_ge k 2 with h | h
  · exact (show k = 1 by omega) ▸ la_X3_1
  rcases Nat.lt_or_ge k 3 with h | h
  · exact (show k = 2 by omega) ▸ la_X3_2
  rcases Nat.lt_or_ge k 4 with h | h
  · exact (show k = 3 by omega) ▸ la_X3_3
  rcases Nat.lt_or_ge k 5 with h | h
  · exact (show k = 4 by omega) ▸ la_X3_4
  omega
set_option maxRecDepth 20000 in
theorem la_X4_0 : u_lay RX4 TX4 0 ∈ gt := gt_tb 426 (by decide +kernel) rfl
set_option maxRecDepth 20000 in
theorem la_X4_1 : u_lay RX4 TX4 1 ∈ gt := gt_tb 428 (by decide +kernel) rfl
set_option maxRecDepth 20000 in
theorem la_X4_2 : u_lay RX4 TX4 2 ∈ gt := gt_tb 430 (by decide +kernel) rfl
set_option maxRecDepth 20000 in
theorem uwX4 : ∀ w ∈ u_ws RX4 TX4 3, w ∈ gt := by
  intro w hw
  obtain ⟨k, hk, rfl⟩ := List.mem_map.mp hw
  have hk := List.mem_range.mp hk
  rcases Nat.lt_or_ge k 1 with h | h
  · exact (show k = 0 by omega) ▸ la_X4_0
  rcases Nat.lt_or_ge k 2 with h | h
  · exact (show k = 1 by omega) ▸ la_X4_1
  rcases Nat.lt_or_ge k 3 with h | h
  · exact (show k = 2 by omega) ▸ la_X4_2
  omega
set_option maxRecDepth 20000 in
theorem la_X5_0 : u_lay RX5 TX5 0 ∈ gt := gt_tb 132 (by decide +kernel) rfl
set_option maxRecDepth 20000 in
theorem la_X5_1 : u_lay RX5 TX5 1 ∈ gt := gt_tb 134 (by decide +kernel) rfl
set_option maxRecDepth 20000 in
theorem la_X5_2 : u_lay RX5 TX5 2 ∈ gt := gt_tb 136 (by decide +kernel) rfl
set_option maxRecDepth 20000 in
theorem la_X5_3 : u_lay RX5 TX5 3 ∈ gt := gt_tb 138 (by decide +kernel) rfl
set_option maxRecDepth 20000 in
theorem la_X5_4 : u_lay RX5 TX5 4 ∈ gt := gt_tb 140 (by decide +kernel) rfl
set_option maxRecDepth 20000 in
theorem la_X5_5 : u_lay RX5 TX5 5 ∈ gt := gt_tb 142 (by decide +kernel) rfl
set_option maxRecDepth 20000 in
theorem la_X5_6 : u_lay RX5 TX5 6 ∈ gt := gt_tb 144 (by decide +kernel) rfl
set_option maxRecDepth 20000 in
theorem la_X5_7 : u_lay RX5 TX5 7 ∈ gt := gt_tb 146 (by decide +kernel) rfl
set_option maxRecDepth 20000 in
theorem uwX5 : ∀ w ∈ u_ws RX5 TX5 8, w ∈ gt := by
  intro w hw
  obtain ⟨k, hk, rfl⟩ := List.mem_map.mp hw
  have hk := List.mem_range.mp hk
  rcases Nat.lt_or_ge k 1 with h | h
  · exact (show k = 0 by omega) ▸ la_X5_0
  rcases Nat.lt_or_ge k 2 with h | h
  · exact (show k = 1 by omega) ▸ la_X5_1
  rcases Nat.lt_or_ge k 3 with h | h
  · exact (show k = 2 by omega) ▸ la_X5_2
  rcases Nat.lt_or_ge k 4 with h | h
  · exact (show k = 3 by omega) ▸ la_X5_3
  rcases Nat.lt_or_ge k 5 with h | h
  · exact (show k = 4 by omega) ▸ la_X5_4
  rcases Nat.lt_or_ge k 6 with h | h
  · exact (show k = 5 by omega) ▸ la_X5_5
  rcases Nat.lt_or_ge k 7 with h | h
  · exact (show k = 6 by omega) ▸ la_X5_6
  rcases Nat.lt_or_ge k 8 with h | h
  · exact (show k = 7 by omega) ▸ la_X5_7
  omega
set_option maxRecDepth 20000 in
theorem la_X6_0 : u_lay RX6 TX6 0 ∈ gt := gt_tb 176 (by decide +kernel) rfl
set_option maxRecDepth 20000 in
theorem la_X6_1 : u_lay RX6 TX6 1 ∈ gt := gt_tb 178 (by decide +kernel) rfl
set_option maxRecDepth 20000 in
theorem la_X6_2 : u_lay RX6 TX6 2 ∈ gt := gt_tb 180 (by decide +kernel) rfl
set_option maxRecDepth 20000 in
theorem la_X6_3 : u_lay RX6 TX6 3 ∈ gt := gt_tb 182 (by decide +kernel) rfl
set_option maxRecDepth 20000 in
theorem la_X6_4 : u_lay RX6 TX6 4 ∈ gt := gt_tb 184 (by decide +kernel) rfl
set_option maxRecDepth 20000 in
theorem la_X6_5 : u_lay RX6 TX6 5 ∈ gt := gt_tb 186 (by decide +kernel) rfl
set_option maxRecDepth 20000 in
theorem la_X6_6 : u_lay RX6 TX6 6 ∈ gt := gt_tb 188 (by decide +kernel) rfl
set_option maxRecDepth 20000 in
theorem la_X6_7 : u_lay RX6 TX6 7 ∈ gt := gt_tb 190 (by decide +kernel) rfl
set_option maxRecDepth 20000 in
theorem uwX6 : ∀ w ∈ u_ws RX6 TX6 8, w ∈ gt := by
  intro w hw
  obtain ⟨k, hk, rfl⟩ := List.mem_map.mp hw
  have hk := List.mem_range.mp hk
  rcases Nat.lt_or_ge k 1 with h | h
  · exact (show k = 0 by omega) ▸ la_X6_0
  rcases Nat.lt_or_ge k 2 with h | h
  · exact (show k = 1 by omega) ▸ la_X6_1
  rcases Nat.lt_or_ge k 3 with h | h
  · exact (show k = 2 by omega) ▸ la_X6_2
  rcases Nat.lt_or_ge k 4 with h | h
  · exact (show k = 3 by omega) ▸ la_X6_3
  rcases Nat.lt_or_ge k 5 with h | h
  · exact (show k = 4 by omega) ▸ la_X6_4
  rcases Nat.lt_or_ge k 6 with h | h
  · exact (show k = 5 by omega) ▸ la_X6_5
  rcases Nat.lt_or_ge k 7 with h | h
  · exact (show k = 6 by omega) ▸ la_X6_6
  rcases Nat.lt_or_ge k 8 with h | h
  · exact (show k = 7 by omega) ▸ la_X6_7
  omega
set_option maxRecDepth 20000 in
theorem la_X7_0 : u_lay RX7 TX7 0 ∈ gt := gt_tb 616 (by decide +kernel) rfl
set_option maxRecDepth 20000 in
theorem la_X7_1 : u_lay RX7 TX7 1 ∈ gt := gt_tb 618 (by decide +kernel) rfl
set_option maxRecDepth 20000 in
theorem la_X7_2 : u_lay RX7 TX7 2 ∈ gt := gt_tb 620 (by decide +kernel) rfl
set_option maxRecDepth 20000 in
theorem la_X7_3 : u_lay RX7 TX7 3 ∈ gt := gt_tb 622 (by decide +kernel) rfl
set_option maxRecDepth 20000 in
theorem la_X7_4 : u_lay RX7 TX7 4 ∈ gt := gt_tb 624 (by decide +kernel) rfl
set_option maxRecDepth 20000 in
theorem la_X7_5 : u_lay RX7 TX7 5 ∈ gt := gt_tb 626 (by decide +kernel) rfl
set_option maxRecDepth 20000 in
theorem la_X7_6 : u_lay RX7 TX7 6 ∈ gt := gt_tb 628 (by decide +kernel) rfl
set_option maxRecDepth 20000 in
theorem la_X7_7 : u_lay RX7 TX7 7 ∈ gt := gt_tb 630 (by decide +kernel) rfl
set_option maxRecDepth 20000 in
theorem la_X7_8 : u_lay RX7 TX7 8 ∈ gt := gt_tb 632 (by decide +kernel) rfl
set_option maxRecDepth 20000 in
theorem la_X7_9 : u_lay RX7 TX7 9 ∈ gt := gt_tb 634 (by decide +kernel) rfl
set_option maxRecDepth 20000 in
theorem la_X7_10 : u_lay RX7 TX7 10 ∈ gt := gt_tb 636 (by decide +kernel) rfl
set_option maxRecDepth 20000 in
theorem la_X7_11 : u_lay RX7 TX7 11 ∈ gt := gt_tb 638 (by decide +kernel) rfl
set_option maxRecDepth 20000 in
theorem la_X7_12 : u_lay RX7 TX7 12 ∈ gt := gt_tb 640 (by decide +kernel) rfl
set_option maxRecDepth 20000 in
theorem la_X7_13 : u_lay RX7 TX7 13 ∈ gt := gt_tb 642 (by decide +kernel) rfl
set_option maxRecDepth 20000 in
theorem la_X7_14 : u_lay RX7 TX7 14 ∈ gt := gt_tb 644 (by decide +kernel) rfl
set_option maxRecDepth 20000 in
theorem la_X7_15 : u_lay RX7 TX7 15 ∈ gt := gt_tb 646 (by decide +kernel) rfl
set_option maxRecDepth 20000 in
theorem uwX7 : ∀ w ∈ u_ws RX7 TX7 16, w ∈ gt := by
  intro w hw
  obtain ⟨k, hk, rfl⟩ := List.mem_map.mp hw
  have hk := List.mem_range.mp hk
  rcases Nat.lt_or_ge k 1 with h | h
  · exact (show k = 0 by omega) ▸ la_X7_0
  rcases Nat.lt_or_ge k 2 with h | h
  · exact (show k = 1 by omega) ▸ la_X7_1
  rcases Nat.lt_or_ge k 3 with h | h
  · exact (show k = 2 by omega) ▸ la_X7_2
  rcases Nat.lt_or_ge k 4 with h | h
  · exact (show k = 3 by omega) ▸ la_X7_3
  rcases Nat.lt_or_ge k 5 with h | h
  · exact (show k = 4 by omega) ▸ la_X7_4
  rcases Nat.lt_or_ge k 6 with h | h
  · exact (show k = 5 by omega) ▸ la_X7_5
  rcases Nat.lt_or_ge k 7 with h | h
  · exact (show k = 6 by omega) ▸ la_X7_6
  rcases Nat.lt_or_ge k 8 with h | h
  · exact (show k = 7 by omega) ▸ la_X7_7
  rcases Nat.lt_or_ge k 9 with h | h
  · exact (show k = 8 by omega) ▸ la_X7_8
  rcases Nat.lt_or_ge k 10 with h | h
  · exact (show k = 9 by omega) ▸ la_X7_9
  rcases Nat.lt_or_ge k 11 with h | h
  · exact (show k = 10 by omega) ▸ la_X7_10
  rcases Nat.lt_or_ge k 12 with h | h
  · exact (show k = 11 by omega) ▸ la_X7_11
  rcases Nat.lt_or_ge k 13 with h | h
  · exact (show k = 12 by omega) ▸ la_X7_12
  rcases Nat.lt_or_ge k 14 with h | h
  · exact (show k = 13 by omega) ▸ la_X7_13
  rcases Nat.lt_or_ge k 15 with h | h
  · exact (show k = 14 by omega) ▸ la_X7_14
  rcases Nat.lt_or_ge k 16 with h | h
  · exact (show k = 15 by omega) ▸ la_X7_15
  omega
