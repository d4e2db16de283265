/-! ===== the words of the tables, each by its place ===== -/
theorem mT1 {w : Cond} (i : Nat) (h : tables_1_1[i]? = some w) (g : goodWord w = true) : w ∈ WSG := List.mem_filter.mpr ⟨by
  have q : w ∈ tables_1_1 := List.mem_of_getElem? h
  exact List.mem_append_right _ (List.mem_append_left _ q), g⟩
theorem mT2 {w : Cond} (i : Nat) (h : tables_1_2[i]? = some w) (g : goodWord w = true) : w ∈ WSG := List.mem_filter.mpr ⟨by
  have q : w ∈ tables_1_2 := List.mem_of_getElem? h
  exact List.mem_append_right _ (List.mem_append_right _ (List.mem_append_left _ q)), g⟩
theorem mT3 {w : Cond} (i : Nat) (h : tables_1_3[i]? = some w) (g : goodWord w = true) : w ∈ WSG := List.mem_filter.mpr ⟨by
  have q : w ∈ tables_1_3 := List.mem_of_getElem? h
  exact List.mem_append_right _ (List.mem_append_right _ (List.mem_append_right _ (List.mem_append_left _ q))), g⟩
theorem mT4 {w : Cond} (i : Nat) (h : tables_1_4[i]? = some w) (g : goodWord w = true) : w ∈ WSG := List.mem_filter.mpr ⟨by
  have q : w ∈ tables_1_4 := List.mem_of_getElem? h
  exact List.mem_append_right _ (List.mem_append_right _ (List.mem_append_right _ (List.mem_append_right _ (List.mem_append_left _ q)))), g⟩
theorem mT5 {w : Cond} (i : Nat) (h : tables_1_5[i]? = some w) (g : goodWord w = true) : w ∈ WSG := List.mem_filter.mpr ⟨by
  have q : w ∈ tables_1_5 := List.mem_of_getElem? h
  exact List.mem_append_right _ (List.mem_append_right _ (List.mem_append_right _ (List.mem_append_right _ (List.mem_append_right _ q)))), g⟩
theorem mS {y : MethodName} {n : Nat} (i : Nat) (h : lw_privs[i]? = some (y, n)) : Cond.selects y.cls y y ∈ WSG := List.mem_filter.mpr ⟨List.mem_append_left _ (List.mem_map.mpr ⟨(y, n), List.mem_of_getElem? h, rfl⟩), rfl⟩
set_option maxRecDepth 100000 in
theorem kI_obj : Cond.instanceMethod objectInit ∈ WSG := mT1 20 rfl rfl
set_option maxRecDepth 100000 in
theorem kC_obj : Cond.code objectInit ⟨#[0xb1]⟩ 1 none ∈ WSG := mT1 21 rfl rfl
set_option maxRecDepth 100000 in
theorem kC_X0_init : Cond.code yX0_init cX0_init 5 none ∈ WSG := mT1 192 rfl rfl
set_option maxRecDepth 100000 in
theorem kN_X0 : Cond.initialized RX0 ∈ WSG := mT1 8 rfl rfl
set_option maxRecDepth 100000 in
theorem kM_X0_1 : Cond.methodLink RX0 1 objectInit ∈ WSG := mT1 193 rfl rfl
set_option maxRecDepth 100000 in
theorem kF_X0_7 : Cond.fieldLink RX0 7 "AbreastQuay$Berth" "depth" "I" ∈ WSG := mT1 194 rfl rfl
set_option maxRecDepth 100000 in
theorem kF_X0_13 : Cond.fieldLink RX0 13 "AbreastQuay$Berth" "fall" "I" ∈ WSG := mT1 196 rfl rfl
set_option maxRecDepth 100000 in
theorem kF_X0_16 : Cond.fieldLink RX0 16 "AbreastQuay$Berth" "places" "I" ∈ WSG := mT1 198 rfl rfl
set_option maxRecDepth 100000 in
theorem kF_X0_19 : Cond.fieldLink RX0 19 "AbreastQuay$Berth" "reach" "I" ∈ WSG := mT1 200 rfl rfl
set_option maxRecDepth 100000 in
theorem kC_X1_init : Cond.code yX1_init cX1_init 6 none ∈ WSG := mT1 227 rfl rfl
set_option maxRecDepth 100000 in
theorem kN_X1 : Cond.initialized RX1 ∈ WSG := mT1 9 rfl rfl
set_option maxRecDepth 100000 in
theorem kM_X1_3 : Cond.methodLink RX1 3 objectInit ∈ WSG := mT1 228 rfl rfl
set_option maxRecDepth 100000 in
theorem kF_X1_9 : Cond.fieldLink RX1 9 "AbreastQuay$Boat" "number" "I" ∈ WSG := mT1 230 rfl rfl
set_option maxRecDepth 100000 in
theorem kF_X1_15 : Cond.fieldLink RX1 15 "AbreastQuay$Boat" "kind" "I" ∈ WSG := mT1 233 rfl rfl
set_option maxRecDepth 100000 in
theorem kF_X1_18 : Cond.fieldLink RX1 18 "AbreastQuay$Boat" "length" "I" ∈ WSG := mT1 235 rfl rfl
set_option maxRecDepth 100000 in
theorem kF_X1_21 : Cond.fieldLink RX1 21 "AbreastQuay$Boat" "draught" "I" ∈ WSG := mT1 239 rfl rfl
set_option maxRecDepth 100000 in
theorem kF_X1_24 : Cond.fieldLink RX1 24 "AbreastQuay$Boat" "power" "Z" ∈ WSG := mT2 1 rfl rfl
set_option maxRecDepth 100000 in
theorem kF_X1_28 : Cond.fieldLink RX1 28 "AbreastQuay$Boat" "last" "I" ∈ WSG := mT2 6 rfl rfl
set_option maxRecDepth 100000 in
theorem kK_X1_31 : Cond.constant RX1 31 (16777215) ∈ WSG := mT1 229 rfl rfl
set_option maxRecDepth 100000 in
theorem kF_X1_32 : Cond.fieldLink RX1 32 "AbreastQuay$Boat" "hoursAboard" "I" ∈ WSG := mT2 8 rfl rfl
set_option maxRecDepth 100000 in
theorem kF_X1_35 : Cond.fieldLink RX1 35 "AbreastQuay$Boat" "berth" "I" ∈ WSG := mT2 10 rfl rfl
set_option maxRecDepth 100000 in
theorem kF_X1_38 : Cond.fieldLink RX1 38 "AbreastQuay$Boat" "place" "I" ∈ WSG := mT2 13 rfl rfl
set_option maxRecDepth 100000 in
theorem kC_X1_isOfKind : Cond.code yX1_isOfKind cX1_isOfKind 2 (some .boolean) ∈ WSG := mT2 73 rfl rfl
set_option maxRecDepth 100000 in
theorem kC_X1_isLying : Cond.code yX1_isLying cX1_isLying 1 (some .boolean) ∈ WSG := mT2 109 rfl rfl
set_option maxRecDepth 100000 in
theorem kC_X1_isOutsideOf : Cond.code yX1_isOutsideOf cX1_isOutsideOf 2 (some .boolean) ∈ WSG := mT2 196 rfl rfl
set_option maxRecDepth 100000 in
theorem kC_X1_hasCrewAt : Cond.code yX1_hasCrewAt cX1_hasCrewAt 2 (some .boolean) ∈ WSG := mT3 108 rfl rfl
set_option maxRecDepth 100000 in
theorem kC_X1_movesMaybe : Cond.code yX1_movesMaybe cX1_movesMaybe 2 (some .boolean) ∈ WSG := mT2 204 rfl rfl
set_option maxRecDepth 100000 in
theorem kF_X1_41 : Cond.fieldLink RX1 41 "AbreastQuay$Boat" "first" "I" ∈ WSG := mT2 5 rfl rfl
set_option maxRecDepth 100000 in
theorem kC_X1_movesSurely : Cond.code yX1_movesSurely cX1_movesSurely 2 (some .boolean) ∈ WSG := mT2 200 rfl rfl
set_option maxRecDepth 100000 in
theorem kC_X1_layAt : Cond.code yX1_layAt cX1_layAt 3 none ∈ WSG := mT2 142 rfl rfl
set_option maxRecDepth 100000 in
theorem kC_X1_moveBy : Cond.code yX1_moveBy cX1_moveBy 2 none ∈ WSG := mT2 162 rfl rfl
set_option maxRecDepth 100000 in
theorem kF_X1_44 : Cond.fieldLink RX1 44 "AbreastQuay$Boat" "timesMoved" "I" ∈ WSG := mT2 18 rfl rfl
set_option maxRecDepth 100000 in
theorem kC_X1_detail : Cond.code yX1_detail cX1_detail 2 (some .int) ∈ WSG := mT2 82 rfl rfl
set_option maxRecDepth 100000 in
theorem kF_X1_47 : Cond.fieldLink RX1 47 "AbreastQuay$Boat" "hoursLate" "I" ∈ WSG := mT2 17 rfl rfl
set_option maxRecDepth 100000 in
theorem kK_X1_50 : Cond.constant RX1 50 (-1000001) ∈ WSG := mT2 83 rfl rfl
set_option maxRecDepth 100000 in
theorem kC_X2_init : Cond.code yX2_init cX2_init 1 none ∈ WSG := mT1 63 rfl rfl
set_option maxRecDepth 100000 in
theorem kN_X2 : Cond.initialized RX2 ∈ WSG := mT1 3 rfl rfl
set_option maxRecDepth 100000 in
theorem kM_X2_3 : Cond.methodLink RX2 3 objectInit ∈ WSG := mT1 64 rfl rfl
set_option maxRecDepth 100000 in
theorem kK_X2_9 : Cond.constant RX2 9 (16777215) ∈ WSG := mT1 65 rfl rfl
set_option maxRecDepth 100000 in
theorem kF_X2_10 : Cond.fieldLink RX2 10 "AbreastQuay$Day" "tideHours" "I" ∈ WSG := mT1 68 rfl rfl
set_option maxRecDepth 100000 in
theorem kC_X2_passHour : Cond.code yX2_passHour cX2_passHour 7 (some .int) ∈ WSG := mT3 87 rfl rfl
set_option maxRecDepth 100000 in
theorem kF_X2_16 : Cond.fieldLink RX2 16 "AbreastQuay$Day" "hour" "I" ∈ WSG := mT1 66 rfl rfl
set_option maxRecDepth 100000 in
theorem kM_X2_19 : Cond.methodLink RX2 19 yX2_sendOff ∈ WSG := mT3 88 rfl rfl
set_option maxRecDepth 100000 in
theorem kI_X2_sendOff : Cond.instanceMethod yX2_sendOff ∈ WSG := mT3 90 rfl rfl
set_option maxRecDepth 100000 in
theorem kS_X2_sendOff : Cond.selects RX2 yX2_sendOff yX2_sendOff ∈ WSG := mS 16 rfl
set_option maxRecDepth 100000 in
theorem kF_X2_23 : Cond.fieldLink RX2 23 "AbreastQuay$Quay" "boats" "[LAbreastQuay$Boat;" ∈ WSG := mT1 34 rfl rfl
set_option maxRecDepth 100000 in
theorem kM_X2_29 : Cond.methodLink RX2 29 yX2_wantsToLeave ∈ WSG := mT3 96 rfl rfl
set_option maxRecDepth 100000 in
theorem kI_X2_wantsToLeave : Cond.instanceMethod yX2_wantsToLeave ∈ WSG := mT3 98 rfl rfl
set_option maxRecDepth 100000 in
theorem kS_X2_wantsToLeave : Cond.selects RX2 yX2_wantsToLeave yX2_wantsToLeave ∈ WSG := mS 18 rfl
set_option maxRecDepth 100000 in
theorem kF_X2_33 : Cond.fieldLink RX2 33 "AbreastQuay$Boat" "hoursLate" "I" ∈ WSG := mT2 16 rfl rfl
set_option maxRecDepth 100000 in
theorem kC_X2_sendOff : Cond.code yX2_sendOff cX2_sendOff 5 (some .int) ∈ WSG := mT3 91 rfl rfl
set_option maxRecDepth 100000 in
theorem kM_X2_38 : Cond.methodLink RX2 38 yX2_nextToLeave ∈ WSG := mT3 92 rfl rfl
set_option maxRecDepth 100000 in
theorem kI_X2_nextToLeave : Cond.instanceMethod yX2_nextToLeave ∈ WSG := mT3 94 rfl rfl
set_option maxRecDepth 100000 in
theorem kS_X2_nextToLeave : Cond.selects RX2 yX2_nextToLeave yX2_nextToLeave ∈ WSG := mS 17 rfl
set_option maxRecDepth 100000 in
theorem kM_X2_42 : Cond.methodLink RX2 42 yX5_takeAway ∈ WSG := mT3 109 rfl rfl
set_option maxRecDepth 100000 in
theorem kI_X5_takeAway : Cond.instanceMethod yX5_takeAway ∈ WSG := mT2 169 rfl rfl
set_option maxRecDepth 100000 in
theorem kS_X5_takeAway : Cond.selects RX5 yX5_takeAway yX5_takeAway ∈ WSG := mT2 170 rfl rfl
set_option maxRecDepth 100000 in
theorem kC_X2_nextToLeave : Cond.code yX2_nextToLeave cX2_nextToLeave 9 (some (.object "AbreastQuay$Boat")) ∈ WSG := mT3 95 rfl rfl
set_option maxRecDepth 100000 in
theorem kM_X2_46 : Cond.methodLink RX2 46 yX5_movedIfLeaving ∈ WSG := mT3 101 rfl rfl
set_option maxRecDepth 100000 in
theorem kI_X5_movedIfLeaving : Cond.instanceMethod yX5_movedIfLeaving ∈ WSG := mT3 102 rfl rfl
set_option maxRecDepth 100000 in
theorem kS_X5_movedIfLeaving : Cond.selects RX5 yX5_movedIfLeaving yX5_movedIfLeaving ∈ WSG := mT3 103 rfl rfl
set_option maxRecDepth 100000 in
theorem kC_X2_wantsToLeave : Cond.code yX2_wantsToLeave cX2_wantsToLeave 2 (some .boolean) ∈ WSG := mT3 99 rfl rfl
set_option maxRecDepth 100000 in
theorem kM_X2_50 : Cond.methodLink RX2 50 yX1_isLying ∈ WSG := mT3 100 rfl rfl
set_option maxRecDepth 100000 in
theorem kI_X1_isLying : Cond.instanceMethod yX1_isLying ∈ WSG := mT2 107 rfl rfl
set_option maxRecDepth 100000 in
theorem kS_X1_isLying : Cond.selects RX1 yX1_isLying yX1_isLying ∈ WSG := mT2 108 rfl rfl
set_option maxRecDepth 100000 in
theorem kF_X2_54 : Cond.fieldLink RX2 54 "AbreastQuay$Boat" "first" "I" ∈ WSG := mT2 4 rfl rfl
set_option maxRecDepth 100000 in
theorem kC_X3_init : Cond.code yX3_init cX3_init 1 none ∈ WSG := mT1 113 rfl rfl
set_option maxRecDepth 100000 in
theorem kN_X3 : Cond.initialized RX3 ∈ WSG := mT1 5 rfl rfl
set_option maxRecDepth 100000 in
theorem kM_X3_3 : Cond.methodLink RX3 3 objectInit ∈ WSG := mT1 114 rfl rfl
set_option maxRecDepth 100000 in
theorem kA_byte : Cond.arrayClass .byte ∈ WSG := mT1 136 rfl rfl
set_option maxRecDepth 100000 in
theorem kF_X3_11 : Cond.fieldLink RX3 11 "AbreastQuay$Dues" "tape" "[B" ∈ WSG := mT1 115 rfl rfl
set_option maxRecDepth 100000 in
theorem kA_int : Cond.arrayClass .int ∈ WSG := mT1 107 rfl rfl
set_option maxRecDepth 100000 in
theorem kF_X3_15 : Cond.fieldLink RX3 15 "AbreastQuay$Dues" "kinds" "[I" ∈ WSG := mT1 116 rfl rfl
set_option maxRecDepth 100000 in
theorem kF_X3_19 : Cond.fieldLink RX3 19 "AbreastQuay$Dues" "lengths" "[I" ∈ WSG := mT1 117 rfl rfl
set_option maxRecDepth 100000 in
theorem kF_X3_22 : Cond.fieldLink RX3 22 "AbreastQuay$Dues" "prices" "[I" ∈ WSG := mT1 118 rfl rfl
set_option maxRecDepth 100000 in
theorem kC_X3_takeBytes : Cond.code yX3_takeBytes cX3_takeBytes 5 (some .int) ∈ WSG := mT3 122 rfl rfl
set_option maxRecDepth 100000 in
theorem kT_X7_isWithin : Cond.static yX7_isWithin ∈ WSG := mT1 185 rfl rfl
set_option maxRecDepth 100000 in
theorem kK_X3_29 : Cond.constant RX3 29 (-1000001) ∈ WSG := mT3 124 rfl rfl
set_option maxRecDepth 100000 in
theorem kF_X3_30 : Cond.fieldLink RX3 30 "AbreastQuay$Dues" "tapeLength" "I" ∈ WSG := mT1 119 rfl rfl
set_option maxRecDepth 100000 in
theorem kK_X3_34 : Cond.constant RX3 34 (-1000002) ∈ WSG := mT3 125 rfl rfl
set_option maxRecDepth 100000 in
theorem kC_X3_takeText : Cond.code yX3_takeText cX3_takeText 5 (some .int) ∈ WSG := mT3 133 rfl rfl
set_option maxRecDepth 100000 in
theorem kM_X3_35 : Cond.methodLink RX3 35 yX3_firstWrong ∈ WSG := mT3 134 rfl rfl
set_option maxRecDepth 100000 in
theorem kI_X3_firstWrong : Cond.instanceMethod yX3_firstWrong ∈ WSG := mT3 136 rfl rfl
set_option maxRecDepth 100000 in
theorem kS_X3_firstWrong : Cond.selects RX3 yX3_firstWrong yX3_firstWrong ∈ WSG := mS 19 rfl
set_option maxRecDepth 100000 in
theorem kK_X3_39 : Cond.constant RX3 39 (-1000100) ∈ WSG := mT3 144 rfl rfl
set_option maxRecDepth 100000 in
theorem kF_X3_40 : Cond.fieldLink RX3 40 "AbreastQuay$Dues" "rowCount" "I" ∈ WSG := mT1 121 rfl rfl
set_option maxRecDepth 100000 in
theorem kM_X3_43 : Cond.methodLink RX3 43 yX3_kindOf ∈ WSG := mT3 141 rfl rfl
set_option maxRecDepth 100000 in
theorem kT_X3_kindOf : Cond.static yX3_kindOf ∈ WSG := mT3 142 rfl rfl
set_option maxRecDepth 100000 in
theorem kM_X3_47 : Cond.methodLink RX3 47 yX3_twoDigits ∈ WSG := mT3 145 rfl rfl
set_option maxRecDepth 100000 in
theorem kI_X3_twoDigits : Cond.instanceMethod yX3_twoDigits ∈ WSG := mT3 147 rfl rfl
set_option maxRecDepth 100000 in
theorem kS_X3_twoDigits : Cond.selects RX3 yX3_twoDigits yX3_twoDigits ∈ WSG := mS 20 rfl
set_option maxRecDepth 100000 in
theorem kC_X3_firstWrong : Cond.code yX3_firstWrong cX3_firstWrong 2 (some .int) ∈ WSG := mT3 137 rfl rfl
set_option maxRecDepth 100000 in
theorem kM_X3_50 : Cond.methodLink RX3 50 yX3_canStand ∈ WSG := mT3 138 rfl rfl
set_option maxRecDepth 100000 in
theorem kT_X3_canStand : Cond.static yX3_canStand ∈ WSG := mT3 139 rfl rfl
set_option maxRecDepth 100000 in
theorem kC_X3_canStand : Cond.code yX3_canStand cX3_canStand 2 (some .boolean) ∈ WSG := mT3 140 rfl rfl
set_option maxRecDepth 100000 in
theorem kC_X3_kindOf : Cond.code yX3_kindOf cX3_kindOf 1 (some .int) ∈ WSG := mT3 143 rfl rfl
set_option maxRecDepth 100000 in
theorem kC_X3_twoDigits : Cond.code yX3_twoDigits cX3_twoDigits 2 (some .int) ∈ WSG := mT3 148 rfl rfl
set_option maxRecDepth 100000 in
theorem kC_X3_priceFor : Cond.code yX3_priceFor cX3_priceFor 3 (some .int) ∈ WSG := mT3 156 rfl rfl
set_option maxRecDepth 100000 in
theorem kM_X3_54 : Cond.methodLink RX3 54 yX1_isOfKind ∈ WSG := mT3 157 rfl rfl
set_option maxRecDepth 100000 in
theorem kI_X1_isOfKind : Cond.instanceMethod yX1_isOfKind ∈ WSG := mT2 71 rfl rfl
set_option maxRecDepth 100000 in
theorem kS_X1_isOfKind : Cond.selects RX1 yX1_isOfKind yX1_isOfKind ∈ WSG := mT2 72 rfl rfl
set_option maxRecDepth 100000 in
theorem kF_X3_60 : Cond.fieldLink RX3 60 "AbreastQuay$Boat" "length" "I" ∈ WSG := mT1 236 rfl rfl
set_option maxRecDepth 100000 in
theorem kK_X3_63 : Cond.constant RX3 63 (-1000004) ∈ WSG := mT3 158 rfl rfl
set_option maxRecDepth 100000 in
theorem kC_X4_init : Cond.code yX4_init cX4_init 1 none ∈ WSG := mT1 79 rfl rfl
set_option maxRecDepth 100000 in
theorem kN_X4 : Cond.initialized RX4 ∈ WSG := mT1 4 rfl rfl
set_option maxRecDepth 100000 in
theorem kM_X4_5 : Cond.methodLink RX4 5 objectInit ∈ WSG := mT1 80 rfl rfl
set_option maxRecDepth 100000 in
theorem kL_X4_11 : Cond.classLink RX4 11 RX1 ∈ WSG := mT1 81 rfl rfl
set_option maxRecDepth 100000 in
theorem kF_X4_13 : Cond.fieldLink RX4 13 "AbreastQuay$Placing" "ranked" "[LAbreastQuay$Boat;" ∈ WSG := mT1 82 rfl rfl
set_option maxRecDepth 100000 in
theorem kF_X4_17 : Cond.fieldLink RX4 17 "AbreastQuay$Placing" "mayLieNextTo" "[I" ∈ WSG := mT1 83 rfl rfl
set_option maxRecDepth 100000 in
theorem kF_X4_21 : Cond.fieldLink RX4 21 "AbreastQuay$Placing" "movedBy" "[I" ∈ WSG := mT1 84 rfl rfl
set_option maxRecDepth 100000 in
theorem kA_long : Cond.arrayClass .long ∈ WSG := mT1 108 rfl rfl
set_option maxRecDepth 100000 in
theorem kF_X4_24 : Cond.fieldLink RX4 24 "AbreastQuay$Placing" "rowCost" "[J" ∈ WSG := mT1 85 rfl rfl
set_option maxRecDepth 100000 in
theorem kF_X4_28 : Cond.fieldLink RX4 28 "AbreastQuay$Placing" "berthCost" "[J" ∈ WSG := mT1 86 rfl rfl
set_option maxRecDepth 100000 in
theorem kF_X4_31 : Cond.fieldLink RX4 31 "AbreastQuay$Placing" "cost" "[J" ∈ WSG := mT1 87 rfl rfl
set_option maxRecDepth 100000 in
theorem kC_X4_refuses : Cond.code yX4_refuses cX4_refuses 3 (some .int) ∈ WSG := mT2 225 rfl rfl
set_option maxRecDepth 100000 in
theorem kF_X4_34 : Cond.fieldLink RX4 34 "AbreastQuay$Quay" "boatCount" "I" ∈ WSG := mT1 39 rfl rfl
set_option maxRecDepth 100000 in
theorem kK_X4_40 : Cond.constant RX4 40 (-1000001) ∈ WSG := mT2 226 rfl rfl
set_option maxRecDepth 100000 in
theorem kM_X4_41 : Cond.methodLink RX4 41 yJ6_bitCount_0f7a4 ∈ WSG := mT2 227 rfl rfl
set_option maxRecDepth 100000 in
theorem kT_J6_bitCount_0f7a4 : Cond.static yJ6_bitCount_0f7a4 ∈ WSG := mT2 228 rfl rfl
set_option maxRecDepth 100000 in
theorem kK_X4_47 : Cond.constant RX4 47 (-1000007) ∈ WSG := mT2 233 rfl rfl
set_option maxRecDepth 100000 in
theorem kC_X4_find : Cond.code yX4_find cX4_find 5 (some .int) ∈ WSG := mT2 237 rfl rfl
set_option maxRecDepth 100000 in
theorem kM_X4_48 : Cond.methodLink RX4 48 yX4_rankBoats ∈ WSG := mT2 238 rfl rfl
set_option maxRecDepth 100000 in
theorem kI_X4_rankBoats : Cond.instanceMethod yX4_rankBoats ∈ WSG := mT3 0 rfl rfl
set_option maxRecDepth 100000 in
theorem kS_X4_rankBoats : Cond.selects RX4 yX4_rankBoats yX4_rankBoats ∈ WSG := mS 5 rfl
set_option maxRecDepth 100000 in
theorem kM_X4_52 : Cond.methodLink RX4 52 yX4_compareRanks ∈ WSG := mT3 5 rfl rfl
set_option maxRecDepth 100000 in
theorem kI_X4_compareRanks : Cond.instanceMethod yX4_compareRanks ∈ WSG := mT3 7 rfl rfl
set_option maxRecDepth 100000 in
theorem kS_X4_compareRanks : Cond.selects RX4 yX4_compareRanks yX4_compareRanks ∈ WSG := mS 6 rfl
set_option maxRecDepth 100000 in
theorem kJ_X4_56 : Cond.constantLong RX4 56 (1099511627776) ∈ WSG := mT3 15 rfl rfl
set_option maxRecDepth 100000 in
theorem kM_X4_58 : Cond.methodLink RX4 58 yJ7_fill_d0a16 ∈ WSG := mT3 16 rfl rfl
set_option maxRecDepth 100000 in
theorem kT_J7_fill_d0a16 : Cond.static yJ7_fill_d0a16 ∈ WSG := mT3 17 rfl rfl
set_option maxRecDepth 100000 in
theorem kF_X4_64 : Cond.fieldLink RX4 64 "AbreastQuay$Quay" "berthCount" "I" ∈ WSG := mT1 37 rfl rfl
set_option maxRecDepth 100000 in
theorem kM_X4_67 : Cond.methodLink RX4 67 yX5_berthOf ∈ WSG := mT3 19 rfl rfl
set_option maxRecDepth 100000 in
theorem kI_X5_berthOf : Cond.instanceMethod yX5_berthOf ∈ WSG := mT2 89 rfl rfl
set_option maxRecDepth 100000 in
theorem kS_X5_berthOf : Cond.selects RX5 yX5_berthOf yX5_berthOf ∈ WSG := mT2 90 rfl rfl
set_option maxRecDepth 100000 in
theorem kM_X4_71 : Cond.methodLink RX4 71 yX4_costRows ∈ WSG := mT3 20 rfl rfl
set_option maxRecDepth 100000 in
theorem kI_X4_costRows : Cond.instanceMethod yX4_costRows ∈ WSG := mT3 22 rfl rfl
set_option maxRecDepth 100000 in
theorem kS_X4_costRows : Cond.selects RX4 yX4_costRows yX4_costRows ∈ WSG := mS 8 rfl
set_option maxRecDepth 100000 in
theorem kM_X4_75 : Cond.methodLink RX4 75 yX4_joinBerth ∈ WSG := mT3 44 rfl rfl
set_option maxRecDepth 100000 in
theorem kI_X4_joinBerth : Cond.instanceMethod yX4_joinBerth ∈ WSG := mT3 46 rfl rfl
set_option maxRecDepth 100000 in
theorem kS_X4_joinBerth : Cond.selects RX4 yX4_joinBerth yX4_joinBerth ∈ WSG := mS 13 rfl
set_option maxRecDepth 100000 in
theorem kM_X4_78 : Cond.methodLink RX4 78 yX4_allRanks ∈ WSG := mT3 24 rfl rfl
set_option maxRecDepth 100000 in
theorem kI_X4_allRanks : Cond.instanceMethod yX4_allRanks ∈ WSG := mT3 26 rfl rfl
set_option maxRecDepth 100000 in
theorem kS_X4_allRanks : Cond.selects RX4 yX4_allRanks yX4_allRanks ∈ WSG := mS 9 rfl
set_option maxRecDepth 100000 in
theorem kF_X4_82 : Cond.fieldLink RX4 82 "AbreastQuay$Placing" "found" "J" ∈ WSG := mT1 89 rfl rfl
set_option maxRecDepth 100000 in
theorem kK_X4_86 : Cond.constant RX4 86 (-1000004) ∈ WSG := mT3 48 rfl rfl
set_option maxRecDepth 100000 in
theorem kC_X4_berthFor : Cond.code yX4_berthFor cX4_berthFor 3 (some .int) ∈ WSG := mT3 66 rfl rfl
set_option maxRecDepth 100000 in
theorem kM_X4_87 : Cond.methodLink RX4 87 yX4_spotFor ∈ WSG := mT3 59 rfl rfl
set_option maxRecDepth 100000 in
theorem kI_X4_spotFor : Cond.instanceMethod yX4_spotFor ∈ WSG := mT3 61 rfl rfl
set_option maxRecDepth 100000 in
theorem kS_X4_spotFor : Cond.selects RX4 yX4_spotFor yX4_spotFor ∈ WSG := mS 14 rfl
set_option maxRecDepth 100000 in
theorem kC_X4_placeFor : Cond.code yX4_placeFor cX4_placeFor 3 (some .int) ∈ WSG := mT3 58 rfl rfl
set_option maxRecDepth 100000 in
theorem kC_X4_spotFor : Cond.code yX4_spotFor cX4_spotFor 4 (some .int) ∈ WSG := mT3 62 rfl rfl
set_option maxRecDepth 100000 in
theorem kM_X4_91 : Cond.methodLink RX4 91 yX4_spotShift ∈ WSG := mT3 40 rfl rfl
set_option maxRecDepth 100000 in
theorem kI_X4_spotShift : Cond.instanceMethod yX4_spotShift ∈ WSG := mT3 42 rfl rfl
set_option maxRecDepth 100000 in
theorem kS_X4_spotShift : Cond.selects RX4 yX4_spotShift yX4_spotShift ∈ WSG := mS 12 rfl
set_option maxRecDepth 100000 in
theorem kC_X4_spotShift : Cond.code yX4_spotShift cX4_spotShift 2 (some .int) ∈ WSG := mT3 43 rfl rfl
set_option maxRecDepth 100000 in
theorem kC_X4_allRanks : Cond.code yX4_allRanks cX4_allRanks 1 (some .int) ∈ WSG := mT3 27 rfl rfl
set_option maxRecDepth 100000 in
theorem kF_X4_94 : Cond.fieldLink RX4 94 "AbreastQuay$Placing" "ranks" "I" ∈ WSG := mT1 88 rfl rfl
set_option maxRecDepth 100000 in
theorem kC_X4_rankBoats : Cond.code yX4_rankBoats cX4_rankBoats 7 none ∈ WSG := mT3 1 rfl rfl
set_option maxRecDepth 100000 in
theorem kF_X4_97 : Cond.fieldLink RX4 97 "AbreastQuay$Quay" "boats" "[LAbreastQuay$Boat;" ∈ WSG := mT1 35 rfl rfl
set_option maxRecDepth 100000 in
theorem kF_X4_100 : Cond.fieldLink RX4 100 "AbreastQuay$Boat" "number" "I" ∈ WSG := mT1 232 rfl rfl
set_option maxRecDepth 100000 in
theorem kT_X7_isInSet : Cond.static yX7_isInSet ∈ WSG := mT3 3 rfl rfl
set_option maxRecDepth 100000 in
theorem kC_X4_compareRanks : Cond.code yX4_compareRanks cX4_compareRanks 4 none ∈ WSG := mT3 8 rfl rfl
set_option maxRecDepth 100000 in
theorem kM_X4_107 : Cond.methodLink RX4 107 yX4_compareTwo ∈ WSG := mT3 9 rfl rfl
set_option maxRecDepth 100000 in
theorem kI_X4_compareTwo : Cond.instanceMethod yX4_compareTwo ∈ WSG := mT3 11 rfl rfl
set_option maxRecDepth 100000 in
theorem kS_X4_compareTwo : Cond.selects RX4 yX4_compareTwo yX4_compareTwo ∈ WSG := mS 7 rfl
set_option maxRecDepth 100000 in
theorem kC_X4_compareTwo : Cond.code yX4_compareTwo cX4_compareTwo 6 none ∈ WSG := mT3 12 rfl rfl
set_option maxRecDepth 100000 in
theorem kM_X4_111 : Cond.methodLink RX4 111 yX5_whyNotNextTo ∈ WSG := mT3 13 rfl rfl
set_option maxRecDepth 100000 in
theorem kI_X5_whyNotNextTo : Cond.instanceMethod yX5_whyNotNextTo ∈ WSG := mT2 125 rfl rfl
set_option maxRecDepth 100000 in
theorem kS_X5_whyNotNextTo : Cond.selects RX5 yX5_whyNotNextTo yX5_whyNotNextTo ∈ WSG := mT2 126 rfl rfl
set_option maxRecDepth 100000 in
theorem kM_X4_115 : Cond.methodLink RX4 115 yX1_movesMaybe ∈ WSG := mT3 14 rfl rfl
set_option maxRecDepth 100000 in
theorem kI_X1_movesMaybe : Cond.instanceMethod yX1_movesMaybe ∈ WSG := mT2 202 rfl rfl
set_option maxRecDepth 100000 in
theorem kS_X1_movesMaybe : Cond.selects RX1 yX1_movesMaybe yX1_movesMaybe ∈ WSG := mT2 203 rfl rfl
set_option maxRecDepth 100000 in
theorem kC_X4_costRows : Cond.code yX4_costRows cX4_costRows 8 none ∈ WSG := mT3 23 rfl rfl
set_option maxRecDepth 100000 in
theorem kM_X4_119 : Cond.methodLink RX4 119 yX4_costOutermost ∈ WSG := mT3 28 rfl rfl
set_option maxRecDepth 100000 in
theorem kI_X4_costOutermost : Cond.instanceMethod yX4_costOutermost ∈ WSG := mT3 30 rfl rfl
set_option maxRecDepth 100000 in
theorem kS_X4_costOutermost : Cond.selects RX4 yX4_costOutermost yX4_costOutermost ∈ WSG := mS 10 rfl
set_option maxRecDepth 100000 in
theorem kM_X4_123 : Cond.methodLink RX4 123 Lib.MathLoose.min_long.x ∈ WSG := mT3 37 rfl rfl
set_option maxRecDepth 100000 in
theorem kT_lmin : Cond.static Lib.MathLoose.min_long.x ∈ WSG := mT3 38 rfl rfl
set_option maxRecDepth 100000 in
theorem kN_math : Cond.initialized "java/lang/Math" ∈ WSG := mT1 12 rfl rfl
set_option maxRecDepth 100000 in
theorem kC_lmin : Cond.code Lib.MathLoose.min_long.x Lib.MathLoose.min_long.code 4 (some .long) ∈ WSG := mT3 39 rfl rfl
set_option maxRecDepth 100000 in
theorem kC_X4_costOutermost : Cond.code yX4_costOutermost cX4_costOutermost 15 (some .long) ∈ WSG := mT3 31 rfl rfl
set_option maxRecDepth 100000 in
theorem kM_X4_129 : Cond.methodLink RX4 129 yX5_whyNotAtPlace ∈ WSG := mT3 32 rfl rfl
set_option maxRecDepth 100000 in
theorem kI_X5_whyNotAtPlace : Cond.instanceMethod yX5_whyNotAtPlace ∈ WSG := mT2 121 rfl rfl
set_option maxRecDepth 100000 in
theorem kS_X5_whyNotAtPlace : Cond.selects RX5 yX5_whyNotAtPlace yX5_whyNotAtPlace ∈ WSG := mT2 122 rfl rfl
set_option maxRecDepth 100000 in
theorem kM_X4_133 : Cond.methodLink RX4 133 yX4_costInside ∈ WSG := mT3 33 rfl rfl
set_option maxRecDepth 100000 in
theorem kI_X4_costInside : Cond.instanceMethod yX4_costInside ∈ WSG := mT3 35 rfl rfl
set_option maxRecDepth 100000 in
theorem kS_X4_costInside : Cond.selects RX4 yX4_costInside yX4_costInside ∈ WSG := mS 11 rfl
set_option maxRecDepth 100000 in
theorem kC_X4_costInside : Cond.code yX4_costInside cX4_costInside 6 (some .long) ∈ WSG := mT3 36 rfl rfl
set_option maxRecDepth 100000 in
theorem kC_X4_joinBerth : Cond.code yX4_joinBerth cX4_joinBerth 5 none ∈ WSG := mT3 47 rfl rfl
set_option maxRecDepth 100000 in
theorem kC_X5_init : Cond.code yX5_init cX5_init 1 none ∈ WSG := mT1 26 rfl rfl
set_option maxRecDepth 100000 in
theorem kN_X5 : Cond.initialized RX5 ∈ WSG := mT1 2 rfl rfl
set_option maxRecDepth 100000 in
theorem kM_X5_3 : Cond.methodLink RX5 3 objectInit ∈ WSG := mT1 27 rfl rfl
set_option maxRecDepth 100000 in
theorem kL_X5_9 : Cond.classLink RX5 9 RX0 ∈ WSG := mT1 28 rfl rfl
set_option maxRecDepth 100000 in
theorem kF_X5_11 : Cond.fieldLink RX5 11 "AbreastQuay$Quay" "berths" "[LAbreastQuay$Berth;" ∈ WSG := mT1 32 rfl rfl
set_option maxRecDepth 100000 in
theorem kL_X5_17 : Cond.classLink RX5 17 RX1 ∈ WSG := mT1 30 rfl rfl
set_option maxRecDepth 100000 in
theorem kF_X5_19 : Cond.fieldLink RX5 19 "AbreastQuay$Quay" "boats" "[LAbreastQuay$Boat;" ∈ WSG := mT1 33 rfl rfl
set_option maxRecDepth 100000 in
theorem kC_X5_addBerth : Cond.code yX5_addBerth cX5_addBerth 5 (some .int) ∈ WSG := mT1 183 rfl rfl
set_option maxRecDepth 100000 in
theorem kK_X5_27 : Cond.constant RX5 27 (-1000001) ∈ WSG := mT1 187 rfl rfl
set_option maxRecDepth 100000 in
theorem kF_X5_28 : Cond.fieldLink RX5 28 "AbreastQuay$Quay" "berthCount" "I" ∈ WSG := mT1 36 rfl rfl
set_option maxRecDepth 100000 in
theorem kK_X5_32 : Cond.constant RX5 32 (-1000002) ∈ WSG := mT1 188 rfl rfl
set_option maxRecDepth 100000 in
theorem kZ_X0 : Cond.instantiable RX0 4 ∈ WSG := mT1 189 rfl rfl
set_option maxRecDepth 100000 in
theorem kM_X5_33 : Cond.methodLink RX5 33 yX0_init ∈ WSG := mT1 190 rfl rfl
set_option maxRecDepth 100000 in
theorem kI_X0_init : Cond.instanceMethod yX0_init ∈ WSG := mT1 191 rfl rfl
set_option maxRecDepth 100000 in
theorem kC_X5_addBoat : Cond.code yX5_addBoat cX5_addBoat 5 (some .int) ∈ WSG := mT1 223 rfl rfl
set_option maxRecDepth 100000 in
theorem kF_X5_36 : Cond.fieldLink RX5 36 "AbreastQuay$Quay" "boatCount" "I" ∈ WSG := mT1 40 rfl rfl
set_option maxRecDepth 100000 in
theorem kZ_X1 : Cond.instantiable RX1 12 ∈ WSG := mT1 224 rfl rfl
set_option maxRecDepth 100000 in
theorem kM_X5_39 : Cond.methodLink RX5 39 yX1_init ∈ WSG := mT1 225 rfl rfl
set_option maxRecDepth 100000 in
theorem kI_X1_init : Cond.instanceMethod yX1_init ∈ WSG := mT1 226 rfl rfl
set_option maxRecDepth 100000 in
theorem kC_X5_berthOf : Cond.code yX5_berthOf cX5_berthOf 2 (some (.object "AbreastQuay$Berth")) ∈ WSG := mT2 91 rfl rfl
set_option maxRecDepth 100000 in
theorem kC_X5_boatOf : Cond.code yX5_boatOf cX5_boatOf 2 (some (.object "AbreastQuay$Boat")) ∈ WSG := mT2 51 rfl rfl
set_option maxRecDepth 100000 in
theorem kC_X5_boatAt : Cond.code yX5_boatAt cX5_boatAt 7 (some (.object "AbreastQuay$Boat")) ∈ WSG := mT2 95 rfl rfl
set_option maxRecDepth 100000 in
theorem kF_X5_42 : Cond.fieldLink RX5 42 "AbreastQuay$Boat" "berth" "I" ∈ WSG := mT2 11 rfl rfl
set_option maxRecDepth 100000 in
theorem kF_X5_45 : Cond.fieldLink RX5 45 "AbreastQuay$Boat" "place" "I" ∈ WSG := mT2 14 rfl rfl
set_option maxRecDepth 100000 in
theorem kC_X5_countAt : Cond.code yX5_countAt cX5_countAt 7 (some .int) ∈ WSG := mT2 114 rfl rfl
set_option maxRecDepth 100000 in
theorem kC_X5_countLying : Cond.code yX5_countLying cX5_countLying 6 (some .int) ∈ WSG := mT3 220 rfl rfl
set_option maxRecDepth 100000 in
theorem kM_X5_48 : Cond.methodLink RX5 48 yX1_isLying ∈ WSG := mT2 106 rfl rfl
set_option maxRecDepth 100000 in
theorem kC_X5_whyNotRight : Cond.code yX5_whyNotRight cX5_whyNotRight 6 (some .int) ∈ WSG := mT2 119 rfl rfl
set_option maxRecDepth 100000 in
theorem kM_X5_52 : Cond.methodLink RX5 52 yX5_whyNotAtPlace ∈ WSG := mT2 120 rfl rfl
set_option maxRecDepth 100000 in
theorem kM_X5_56 : Cond.methodLink RX5 56 yX5_whyNotNextTo ∈ WSG := mT2 124 rfl rfl
set_option maxRecDepth 100000 in
theorem kC_X5_whyNotAtPlace : Cond.code yX5_whyNotAtPlace cX5_whyNotAtPlace 4 (some .int) ∈ WSG := mT2 123 rfl rfl
set_option maxRecDepth 100000 in
theorem kF_X5_60 : Cond.fieldLink RX5 60 "AbreastQuay$Berth" "places" "I" ∈ WSG := mT1 199 rfl rfl
set_option maxRecDepth 100000 in
theorem kF_X5_63 : Cond.fieldLink RX5 63 "AbreastQuay$Boat" "draught" "I" ∈ WSG := mT2 0 rfl rfl
set_option maxRecDepth 100000 in
theorem kF_X5_66 : Cond.fieldLink RX5 66 "AbreastQuay$Berth" "depth" "I" ∈ WSG := mT1 195 rfl rfl
set_option maxRecDepth 100000 in
theorem kF_X5_69 : Cond.fieldLink RX5 69 "AbreastQuay$Berth" "fall" "I" ∈ WSG := mT1 197 rfl rfl
set_option maxRecDepth 100000 in
theorem kF_X5_72 : Cond.fieldLink RX5 72 "AbreastQuay$Boat" "power" "Z" ∈ WSG := mT2 2 rfl rfl
set_option maxRecDepth 100000 in
theorem kF_X5_76 : Cond.fieldLink RX5 76 "AbreastQuay$Berth" "reach" "I" ∈ WSG := mT1 201 rfl rfl
set_option maxRecDepth 100000 in
theorem kC_X5_whyNotNextTo : Cond.code yX5_whyNotNextTo cX5_whyNotNextTo 4 (some .int) ∈ WSG := mT2 127 rfl rfl
set_option maxRecDepth 100000 in
theorem kF_X5_79 : Cond.fieldLink RX5 79 "AbreastQuay$Boat" "kind" "I" ∈ WSG := mT1 234 rfl rfl
set_option maxRecDepth 100000 in
theorem kM_X5_82 : Cond.methodLink RX5 82 yX1_isOfKind ∈ WSG := mT2 128 rfl rfl
set_option maxRecDepth 100000 in
theorem kF_X5_86 : Cond.fieldLink RX5 86 "AbreastQuay$Boat" "length" "I" ∈ WSG := mT1 237 rfl rfl
set_option maxRecDepth 100000 in
theorem kF_X5_89 : Cond.fieldLink RX5 89 "AbreastQuay$Quay" "overhang" "I" ∈ WSG := mT1 43 rfl rfl
set_option maxRecDepth 100000 in
theorem kC_X5_whyNotOutermost : Cond.code yX5_whyNotOutermost cX5_whyNotOutermost 6 (some .int) ∈ WSG := mT2 103 rfl rfl
set_option maxRecDepth 100000 in
theorem kM_X5_92 : Cond.methodLink RX5 92 yX5_boatOf ∈ WSG := mT2 104 rfl rfl
set_option maxRecDepth 100000 in
theorem kI_X5_boatOf : Cond.instanceMethod yX5_boatOf ∈ WSG := mT2 49 rfl rfl
set_option maxRecDepth 100000 in
theorem kS_X5_boatOf : Cond.selects RX5 yX5_boatOf yX5_boatOf ∈ WSG := mT2 50 rfl rfl
set_option maxRecDepth 100000 in
theorem kM_X5_96 : Cond.methodLink RX5 96 yX5_berthOf ∈ WSG := mT2 105 rfl rfl
set_option maxRecDepth 100000 in
theorem kK_X5_100 : Cond.constant RX5 100 (-1000005) ∈ WSG := mT2 110 rfl rfl
set_option maxRecDepth 100000 in
theorem kM_X5_101 : Cond.methodLink RX5 101 yX5_countAt ∈ WSG := mT2 111 rfl rfl
set_option maxRecDepth 100000 in
theorem kI_X5_countAt : Cond.instanceMethod yX5_countAt ∈ WSG := mT2 112 rfl rfl
set_option maxRecDepth 100000 in
theorem kS_X5_countAt : Cond.selects RX5 yX5_countAt yX5_countAt ∈ WSG := mT2 113 rfl rfl
set_option maxRecDepth 100000 in
theorem kM_X5_105 : Cond.methodLink RX5 105 yX5_boatAt ∈ WSG := mT2 115 rfl rfl
set_option maxRecDepth 100000 in
theorem kI_X5_boatAt : Cond.instanceMethod yX5_boatAt ∈ WSG := mT2 93 rfl rfl
set_option maxRecDepth 100000 in
theorem kS_X5_boatAt : Cond.selects RX5 yX5_boatAt yX5_boatAt ∈ WSG := mT2 94 rfl rfl
set_option maxRecDepth 100000 in
theorem kM_X5_109 : Cond.methodLink RX5 109 yX5_whyNotRight ∈ WSG := mT2 116 rfl rfl
set_option maxRecDepth 100000 in
theorem kI_X5_whyNotRight : Cond.instanceMethod yX5_whyNotRight ∈ WSG := mT2 117 rfl rfl
set_option maxRecDepth 100000 in
theorem kS_X5_whyNotRight : Cond.selects RX5 yX5_whyNotRight yX5_whyNotRight ∈ WSG := mT2 118 rfl rfl
set_option maxRecDepth 100000 in
theorem kC_X5_layOutermost : Cond.code yX5_layOutermost cX5_layOutermost 6 (some .int) ∈ WSG := mT2 136 rfl rfl
set_option maxRecDepth 100000 in
theorem kM_X5_113 : Cond.methodLink RX5 113 yX5_whyNotOutermost ∈ WSG := mT2 137 rfl rfl
set_option maxRecDepth 100000 in
theorem kI_X5_whyNotOutermost : Cond.instanceMethod yX5_whyNotOutermost ∈ WSG := mT2 101 rfl rfl
set_option maxRecDepth 100000 in
theorem kS_X5_whyNotOutermost : Cond.selects RX5 yX5_whyNotOutermost yX5_whyNotOutermost ∈ WSG := mT2 102 rfl rfl
set_option maxRecDepth 100000 in
theorem kK_X5_117 : Cond.constant RX5 117 (-1000003) ∈ WSG := mT2 138 rfl rfl
set_option maxRecDepth 100000 in
theorem kM_X5_118 : Cond.methodLink RX5 118 yX1_layAt ∈ WSG := mT2 139 rfl rfl
set_option maxRecDepth 100000 in
theorem kI_X1_layAt : Cond.instanceMethod yX1_layAt ∈ WSG := mT2 140 rfl rfl
set_option maxRecDepth 100000 in
theorem kS_X1_layAt : Cond.selects RX1 yX1_layAt yX1_layAt ∈ WSG := mT2 141 rfl rfl
set_option maxRecDepth 100000 in
theorem kC_X5_layBetween : Cond.code yX5_layBetween cX5_layBetween 7 (some .int) ∈ WSG := mT2 150 rfl rfl
set_option maxRecDepth 100000 in
theorem kM_X5_122 : Cond.methodLink RX5 122 yX5_fitsBetween ∈ WSG := mT2 151 rfl rfl
set_option maxRecDepth 100000 in
theorem kI_X5_fitsBetween : Cond.instanceMethod yX5_fitsBetween ∈ WSG := mT2 153 rfl rfl
set_option maxRecDepth 100000 in
theorem kS_X5_fitsBetween : Cond.selects RX5 yX5_fitsBetween yX5_fitsBetween ∈ WSG := mS 1 rfl
set_option maxRecDepth 100000 in
theorem kM_X5_126 : Cond.methodLink RX5 126 yX5_moveFrom ∈ WSG := mT2 155 rfl rfl
set_option maxRecDepth 100000 in
theorem kI_X5_moveFrom : Cond.instanceMethod yX5_moveFrom ∈ WSG := mT2 157 rfl rfl
set_option maxRecDepth 100000 in
theorem kS_X5_moveFrom : Cond.selects RX5 yX5_moveFrom yX5_moveFrom ∈ WSG := mS 2 rfl
set_option maxRecDepth 100000 in
theorem kC_X5_fitsBetween : Cond.code yX5_fitsBetween cX5_fitsBetween 10 (some .boolean) ∈ WSG := mT2 154 rfl rfl
set_option maxRecDepth 100000 in
theorem kC_X5_takeAway : Cond.code yX5_takeAway cX5_takeAway 4 (some .int) ∈ WSG := mT2 171 rfl rfl
set_option maxRecDepth 100000 in
theorem kC_X5_moveFrom : Cond.code yX5_moveFrom cX5_moveFrom 9 (some .int) ∈ WSG := mT2 158 rfl rfl
set_option maxRecDepth 100000 in
theorem kM_X5_130 : Cond.methodLink RX5 130 yX1_moveBy ∈ WSG := mT2 159 rfl rfl
set_option maxRecDepth 100000 in
theorem kI_X1_moveBy : Cond.instanceMethod yX1_moveBy ∈ WSG := mT2 160 rfl rfl
set_option maxRecDepth 100000 in
theorem kS_X1_moveBy : Cond.selects RX1 yX1_moveBy yX1_moveBy ∈ WSG := mT2 161 rfl rfl
set_option maxRecDepth 100000 in
theorem kF_X5_134 : Cond.fieldLink RX5 134 "AbreastQuay$Quay" "movedEver" "I" ∈ WSG := mT1 44 rfl rfl
set_option maxRecDepth 100000 in
theorem kC_X5_firstFault : Cond.code yX5_firstFault cX5_firstFault 5 (some .int) ∈ WSG := mT2 180 rfl rfl
set_option maxRecDepth 100000 in
theorem kC_X5_countPairs : Cond.code yX5_countPairs cX5_countPairs 8 (some .int) ∈ WSG := mT2 188 rfl rfl
set_option maxRecDepth 100000 in
theorem kM_X5_137 : Cond.methodLink RX5 137 yX5_countMoving ∈ WSG := mT2 189 rfl rfl
set_option maxRecDepth 100000 in
theorem kI_X5_countMoving : Cond.instanceMethod yX5_countMoving ∈ WSG := mT2 191 rfl rfl
set_option maxRecDepth 100000 in
theorem kS_X5_countMoving : Cond.selects RX5 yX5_countMoving yX5_countMoving ∈ WSG := mS 3 rfl
set_option maxRecDepth 100000 in
theorem kC_X5_countMoving : Cond.code yX5_countMoving cX5_countMoving 8 (some .int) ∈ WSG := mT2 192 rfl rfl
set_option maxRecDepth 100000 in
theorem kM_X5_141 : Cond.methodLink RX5 141 yX1_isOutsideOf ∈ WSG := mT2 193 rfl rfl
set_option maxRecDepth 100000 in
theorem kI_X1_isOutsideOf : Cond.instanceMethod yX1_isOutsideOf ∈ WSG := mT2 194 rfl rfl
set_option maxRecDepth 100000 in
theorem kS_X1_isOutsideOf : Cond.selects RX1 yX1_isOutsideOf yX1_isOutsideOf ∈ WSG := mT2 195 rfl rfl
set_option maxRecDepth 100000 in
theorem kM_X5_145 : Cond.methodLink RX5 145 yX1_movesSurely ∈ WSG := mT2 197 rfl rfl
set_option maxRecDepth 100000 in
theorem kI_X1_movesSurely : Cond.instanceMethod yX1_movesSurely ∈ WSG := mT2 198 rfl rfl
set_option maxRecDepth 100000 in
theorem kS_X1_movesSurely : Cond.selects RX1 yX1_movesSurely yX1_movesSurely ∈ WSG := mT2 199 rfl rfl
set_option maxRecDepth 100000 in
theorem kM_X5_148 : Cond.methodLink RX5 148 yX1_movesMaybe ∈ WSG := mT2 201 rfl rfl
set_option maxRecDepth 100000 in
theorem kC_X5_bestBerth : Cond.code yX5_bestBerth cX5_bestBerth 7 (some .int) ∈ WSG := mT2 212 rfl rfl
set_option maxRecDepth 100000 in
theorem kK_X5_151 : Cond.constant RX5 151 (-1000004) ∈ WSG := mT2 213 rfl rfl
set_option maxRecDepth 100000 in
theorem kM_X5_152 : Cond.methodLink RX5 152 yX5_countMaybeAt ∈ WSG := mT2 214 rfl rfl
set_option maxRecDepth 100000 in
theorem kI_X5_countMaybeAt : Cond.instanceMethod yX5_countMaybeAt ∈ WSG := mT2 216 rfl rfl
set_option maxRecDepth 100000 in
theorem kS_X5_countMaybeAt : Cond.selects RX5 yX5_countMaybeAt yX5_countMaybeAt ∈ WSG := mS 4 rfl
set_option maxRecDepth 100000 in
theorem kC_X5_countMaybeAt : Cond.code yX5_countMaybeAt cX5_countMaybeAt 8 (some .int) ∈ WSG := mT2 217 rfl rfl
set_option maxRecDepth 100000 in
theorem kC_X5_movedIfLeaving : Cond.code yX5_movedIfLeaving cX5_movedIfLeaving 8 (some .int) ∈ WSG := mT3 104 rfl rfl
set_option maxRecDepth 100000 in
theorem kM_X5_156 : Cond.methodLink RX5 156 yX1_hasCrewAt ∈ WSG := mT3 105 rfl rfl
set_option maxRecDepth 100000 in
theorem kI_X1_hasCrewAt : Cond.instanceMethod yX1_hasCrewAt ∈ WSG := mT3 106 rfl rfl
set_option maxRecDepth 100000 in
theorem kS_X1_hasCrewAt : Cond.selects RX1 yX1_hasCrewAt yX1_hasCrewAt ∈ WSG := mT3 107 rfl rfl
set_option maxRecDepth 100000 in
theorem kC_X6_init : Cond.code yX6_init cX6_init 1 none ∈ WSG := mT1 142 rfl rfl
set_option maxRecDepth 100000 in
theorem kN_X6 : Cond.initialized RX6 ∈ WSG := mT1 6 rfl rfl
set_option maxRecDepth 100000 in
theorem kM_X6_3 : Cond.methodLink RX6 3 objectInit ∈ WSG := mT1 143 rfl rfl
set_option maxRecDepth 100000 in
theorem kF_X6_11 : Cond.fieldLink RX6 11 "AbreastQuay$Sheet" "numbers" "[I" ∈ WSG := mT1 144 rfl rfl
set_option maxRecDepth 100000 in
theorem kC_X6_isMissing : Cond.code yX6_isMissing cX6_isMissing 1 (some .boolean) ∈ WSG := mT3 183 rfl rfl
set_option maxRecDepth 100000 in
theorem kF_X6_15 : Cond.fieldLink RX6 15 "AbreastQuay$Sheet" "width" "I" ∈ WSG := mT1 146 rfl rfl
set_option maxRecDepth 100000 in
theorem kC_X6_begin : Cond.code yX6_begin cX6_begin 3 (some .int) ∈ WSG := mT3 170 rfl rfl
set_option maxRecDepth 100000 in
theorem kK_X6_19 : Cond.constant RX6 19 (-1000001) ∈ WSG := mT3 171 rfl rfl
set_option maxRecDepth 100000 in
theorem kK_X6_20 : Cond.constant RX6 20 (-1000007) ∈ WSG := mT3 172 rfl rfl
set_option maxRecDepth 100000 in
theorem kF_X6_21 : Cond.fieldLink RX6 21 "AbreastQuay$Sheet" "size" "I" ∈ WSG := mT1 148 rfl rfl
set_option maxRecDepth 100000 in
theorem kM_X6_24 : Cond.methodLink RX6 24 yJ7_fill_53178 ∈ WSG := mT3 173 rfl rfl
set_option maxRecDepth 100000 in
theorem kT_J7_fill_53178 : Cond.static yJ7_fill_53178 ∈ WSG := mT3 174 rfl rfl
set_option maxRecDepth 100000 in
theorem kC_X6_hasNumbers : Cond.code yX6_hasNumbers cX6_hasNumbers 3 (some .boolean) ∈ WSG := mT3 188 rfl rfl
set_option maxRecDepth 100000 in
theorem kC_X6_numberAt : Cond.code yX6_numberAt cX6_numberAt 2 (some .int) ∈ WSG := mT3 196 rfl rfl
set_option maxRecDepth 100000 in
theorem kC_X6_replace : Cond.code yX6_replace cX6_replace 4 (some .int) ∈ WSG := mT3 192 rfl rfl
set_option maxRecDepth 100000 in
theorem kM_X6_30 : Cond.methodLink RX6 30 yX6_numberAt ∈ WSG := mT3 193 rfl rfl
set_option maxRecDepth 100000 in
theorem kI_X6_numberAt : Cond.instanceMethod yX6_numberAt ∈ WSG := mT3 194 rfl rfl
set_option maxRecDepth 100000 in
theorem kS_X6_numberAt : Cond.selects RX6 yX6_numberAt yX6_numberAt ∈ WSG := mT3 195 rfl rfl
set_option maxRecDepth 100000 in
theorem kM_X6_34 : Cond.methodLink RX6 34 yX6_cutToWidth ∈ WSG := mT3 197 rfl rfl
set_option maxRecDepth 100000 in
theorem kI_X6_cutToWidth : Cond.instanceMethod yX6_cutToWidth ∈ WSG := mT3 199 rfl rfl
set_option maxRecDepth 100000 in
theorem kS_X6_cutToWidth : Cond.selects RX6 yX6_cutToWidth yX6_cutToWidth ∈ WSG := mS 22 rfl
set_option maxRecDepth 100000 in
theorem kC_X6_cutToWidth : Cond.code yX6_cutToWidth cX6_cutToWidth 2 (some .int) ∈ WSG := mT3 200 rfl rfl
set_option maxRecDepth 100000 in
theorem kC_X7_init : Cond.code yX7_init cX7_init 2 none ∈ WSG := mT1 18 rfl rfl
set_option maxRecDepth 100000 in
theorem kN_X7 : Cond.initialized RX7 ∈ WSG := mT1 1 rfl rfl
set_option maxRecDepth 100000 in
theorem kM_X7_1 : Cond.methodLink RX7 1 objectInit ∈ WSG := mT1 19 rfl rfl
set_option maxRecDepth 100000 in
theorem kL_X7_7 : Cond.classLink RX7 7 RX5 ∈ WSG := mT1 22 rfl rfl
set_option maxRecDepth 100000 in
theorem kZ_X5 : Cond.instantiable RX5 6 ∈ WSG := mT1 23 rfl rfl
set_option maxRecDepth 100000 in
theorem kM_X7_9 : Cond.methodLink RX7 9 yX5_init ∈ WSG := mT1 24 rfl rfl
set_option maxRecDepth 100000 in
theorem kI_X5_init : Cond.instanceMethod yX5_init ∈ WSG := mT1 25 rfl rfl
set_option maxRecDepth 100000 in
theorem kF_X7_10 : Cond.fieldLink RX7 10 "AbreastQuay" "quay" "LAbreastQuay$Quay;" ∈ WSG := mT1 157 rfl rfl
set_option maxRecDepth 100000 in
theorem kL_X7_16 : Cond.classLink RX7 16 RX2 ∈ WSG := mT1 59 rfl rfl
set_option maxRecDepth 100000 in
theorem kZ_X2 : Cond.instantiable RX2 2 ∈ WSG := mT1 60 rfl rfl
set_option maxRecDepth 100000 in
theorem kM_X7_18 : Cond.methodLink RX7 18 yX2_init ∈ WSG := mT1 61 rfl rfl
set_option maxRecDepth 100000 in
theorem kI_X2_init : Cond.instanceMethod yX2_init ∈ WSG := mT1 62 rfl rfl
set_option maxRecDepth 100000 in
theorem kF_X7_19 : Cond.fieldLink RX7 19 "AbreastQuay" "day" "LAbreastQuay$Day;" ∈ WSG := mT1 158 rfl rfl
set_option maxRecDepth 100000 in
theorem kL_X7_23 : Cond.classLink RX7 23 RX4 ∈ WSG := mT1 75 rfl rfl
set_option maxRecDepth 100000 in
theorem kZ_X4 : Cond.instantiable RX4 8 ∈ WSG := mT1 76 rfl rfl
set_option maxRecDepth 100000 in
theorem kM_X7_25 : Cond.methodLink RX7 25 yX4_init ∈ WSG := mT1 77 rfl rfl
set_option maxRecDepth 100000 in
theorem kI_X4_init : Cond.instanceMethod yX4_init ∈ WSG := mT1 78 rfl rfl
set_option maxRecDepth 100000 in
theorem kF_X7_26 : Cond.fieldLink RX7 26 "AbreastQuay" "placing" "LAbreastQuay$Placing;" ∈ WSG := mT1 159 rfl rfl
set_option maxRecDepth 100000 in
theorem kL_X7_30 : Cond.classLink RX7 30 RX3 ∈ WSG := mT1 109 rfl rfl
set_option maxRecDepth 100000 in
theorem kZ_X3 : Cond.instantiable RX3 6 ∈ WSG := mT1 110 rfl rfl
set_option maxRecDepth 100000 in
theorem kM_X7_32 : Cond.methodLink RX7 32 yX3_init ∈ WSG := mT1 111 rfl rfl
set_option maxRecDepth 100000 in
theorem kI_X3_init : Cond.instanceMethod yX3_init ∈ WSG := mT1 112 rfl rfl
set_option maxRecDepth 100000 in
theorem kF_X7_33 : Cond.fieldLink RX7 33 "AbreastQuay" "dues" "LAbreastQuay$Dues;" ∈ WSG := mT1 160 rfl rfl
set_option maxRecDepth 100000 in
theorem kL_X7_37 : Cond.classLink RX7 37 RX6 ∈ WSG := mT1 137 rfl rfl
set_option maxRecDepth 100000 in
theorem kF_X7_39 : Cond.fieldLink RX7 39 "AbreastQuay" "sheets" "[LAbreastQuay$Sheet;" ∈ WSG := mT1 161 rfl rfl
set_option maxRecDepth 100000 in
theorem kZ_X6 : Cond.instantiable RX6 3 ∈ WSG := mT1 139 rfl rfl
set_option maxRecDepth 100000 in
theorem kM_X7_43 : Cond.methodLink RX7 43 yX6_init ∈ WSG := mT1 140 rfl rfl
set_option maxRecDepth 100000 in
theorem kI_X6_init : Cond.instanceMethod yX6_init ∈ WSG := mT1 141 rfl rfl
set_option maxRecDepth 100000 in
theorem kC_X7_berth : Cond.code yX7_berth cX7_berth 5 (some .int) ∈ WSG := mT1 179 rfl rfl
set_option maxRecDepth 100000 in
theorem kM_X7_44 : Cond.methodLink RX7 44 yX5_addBerth ∈ WSG := mT1 180 rfl rfl
set_option maxRecDepth 100000 in
theorem kI_X5_addBerth : Cond.instanceMethod yX5_addBerth ∈ WSG := mT1 181 rfl rfl
set_option maxRecDepth 100000 in
theorem kS_X5_addBerth : Cond.selects RX5 yX5_addBerth yX5_addBerth ∈ WSG := mT1 182 rfl rfl
set_option maxRecDepth 100000 in
theorem kM_X7_48 : Cond.methodLink RX7 48 yX7_counted ∈ WSG := mT1 211 rfl rfl
set_option maxRecDepth 100000 in
theorem kI_X7_counted : Cond.instanceMethod yX7_counted ∈ WSG := mT1 213 rfl rfl
set_option maxRecDepth 100000 in
theorem kS_X7_counted : Cond.selects RX7 yX7_counted yX7_counted ∈ WSG := mS 0 rfl
set_option maxRecDepth 100000 in
theorem kC_X7_boat : Cond.code yX7_boat cX7_boat 5 (some .int) ∈ WSG := mT1 219 rfl rfl
set_option maxRecDepth 100000 in
theorem kM_X7_52 : Cond.methodLink RX7 52 yX5_addBoat ∈ WSG := mT1 220 rfl rfl
set_option maxRecDepth 100000 in
theorem kI_X5_addBoat : Cond.instanceMethod yX5_addBoat ∈ WSG := mT1 221 rfl rfl
set_option maxRecDepth 100000 in
theorem kS_X5_addBoat : Cond.selects RX5 yX5_addBoat yX5_addBoat ∈ WSG := mT1 222 rfl rfl
set_option maxRecDepth 100000 in
theorem kC_X7_leaves : Cond.code yX7_leaves cX7_leaves 5 (some .int) ∈ WSG := mT2 47 rfl rfl
set_option maxRecDepth 100000 in
theorem kM_X7_56 : Cond.methodLink RX7 56 yX5_boatOf ∈ WSG := mT2 48 rfl rfl
set_option maxRecDepth 100000 in
theorem kK_X7_60 : Cond.constant RX7 60 (-1000001) ∈ WSG := mT2 52 rfl rfl
set_option maxRecDepth 100000 in
theorem kF_X7_61 : Cond.fieldLink RX7 61 "AbreastQuay$Boat" "first" "I" ∈ WSG := mT2 3 rfl rfl
set_option maxRecDepth 100000 in
theorem kF_X7_67 : Cond.fieldLink RX7 67 "AbreastQuay$Boat" "last" "I" ∈ WSG := mT2 7 rfl rfl
set_option maxRecDepth 100000 in
theorem kC_X7_aboard : Cond.code yX7_aboard cX7_aboard 5 (some .int) ∈ WSG := mT2 56 rfl rfl
set_option maxRecDepth 100000 in
theorem kM_X7_70 : Cond.methodLink RX7 70 yX7_areHours ∈ WSG := mT2 57 rfl rfl
set_option maxRecDepth 100000 in
theorem kT_X7_areHours : Cond.static yX7_areHours ∈ WSG := mT2 58 rfl rfl
set_option maxRecDepth 100000 in
theorem kF_X7_74 : Cond.fieldLink RX7 74 "AbreastQuay$Boat" "hoursAboard" "I" ∈ WSG := mT2 9 rfl rfl
set_option maxRecDepth 100000 in
theorem kC_X7_over : Cond.code yX7_over cX7_over 3 (some .int) ∈ WSG := mT2 64 rfl rfl
set_option maxRecDepth 100000 in
theorem kM_X7_77 : Cond.methodLink RX7 77 yX7_isWithin ∈ WSG := mT2 65 rfl rfl
set_option maxRecDepth 100000 in
theorem kF_X7_81 : Cond.fieldLink RX7 81 "AbreastQuay$Quay" "overhang" "I" ∈ WSG := mT1 42 rfl rfl
set_option maxRecDepth 100000 in
theorem kC_X7_as : Cond.code yX7_as cX7_as 4 (some .int) ∈ WSG := mT2 69 rfl rfl
set_option maxRecDepth 100000 in
theorem kM_X7_84 : Cond.methodLink RX7 84 yX1_isOfKind ∈ WSG := mT2 70 rfl rfl
set_option maxRecDepth 100000 in
theorem kF_X7_87 : Cond.fieldLink RX7 87 "AbreastQuay$Boat" "number" "I" ∈ WSG := mT1 231 rfl rfl
set_option maxRecDepth 100000 in
theorem kK_X7_90 : Cond.constant RX7 90 (-1000003) ∈ WSG := mT2 74 rfl rfl
set_option maxRecDepth 100000 in
theorem kC_X7_of : Cond.code yX7_of cX7_of 4 (some .int) ∈ WSG := mT2 78 rfl rfl
set_option maxRecDepth 100000 in
theorem kM_X7_91 : Cond.methodLink RX7 91 yX1_detail ∈ WSG := mT2 79 rfl rfl
set_option maxRecDepth 100000 in
theorem kI_X1_detail : Cond.instanceMethod yX1_detail ∈ WSG := mT2 80 rfl rfl
set_option maxRecDepth 100000 in
theorem kS_X1_detail : Cond.selects RX1 yX1_detail yX1_detail ∈ WSG := mT2 81 rfl rfl
set_option maxRecDepth 100000 in
theorem kC_X7_at : Cond.code yX7_at cX7_at 4 (some .int) ∈ WSG := mT2 87 rfl rfl
set_option maxRecDepth 100000 in
theorem kM_X7_94 : Cond.methodLink RX7 94 yX5_berthOf ∈ WSG := mT2 88 rfl rfl
set_option maxRecDepth 100000 in
theorem kM_X7_98 : Cond.methodLink RX7 98 yX5_boatAt ∈ WSG := mT2 92 rfl rfl
set_option maxRecDepth 100000 in
theorem kC_X7_may : Cond.code yX7_may cX7_may 3 (some .int) ∈ WSG := mT2 99 rfl rfl
set_option maxRecDepth 100000 in
theorem kM_X7_102 : Cond.methodLink RX7 102 yX5_whyNotOutermost ∈ WSG := mT2 100 rfl rfl
set_option maxRecDepth 100000 in
theorem kC_X7_comes : Cond.code yX7_comes cX7_comes 3 (some .int) ∈ WSG := mT2 132 rfl rfl
set_option maxRecDepth 100000 in
theorem kM_X7_106 : Cond.methodLink RX7 106 yX5_layOutermost ∈ WSG := mT2 133 rfl rfl
set_option maxRecDepth 100000 in
theorem kI_X5_layOutermost : Cond.instanceMethod yX5_layOutermost ∈ WSG := mT2 134 rfl rfl
set_option maxRecDepth 100000 in
theorem kS_X5_layOutermost : Cond.selects RX5 yX5_layOutermost yX5_layOutermost ∈ WSG := mT2 135 rfl rfl
set_option maxRecDepth 100000 in
theorem kC_X7_between : Cond.code yX7_between cX7_between 4 (some .int) ∈ WSG := mT2 146 rfl rfl
set_option maxRecDepth 100000 in
theorem kM_X7_109 : Cond.methodLink RX7 109 yX5_layBetween ∈ WSG := mT2 147 rfl rfl
set_option maxRecDepth 100000 in
theorem kI_X5_layBetween : Cond.instanceMethod yX5_layBetween ∈ WSG := mT2 148 rfl rfl
set_option maxRecDepth 100000 in
theorem kS_X5_layBetween : Cond.selects RX5 yX5_layBetween yX5_layBetween ∈ WSG := mT2 149 rfl rfl
set_option maxRecDepth 100000 in
theorem kC_X7_goes : Cond.code yX7_goes cX7_goes 3 (some .int) ∈ WSG := mT2 166 rfl rfl
set_option maxRecDepth 100000 in
theorem kM_X7_113 : Cond.methodLink RX7 113 yX1_isLying ∈ WSG := mT2 167 rfl rfl
set_option maxRecDepth 100000 in
theorem kM_X7_117 : Cond.methodLink RX7 117 yX5_takeAway ∈ WSG := mT2 168 rfl rfl
set_option maxRecDepth 100000 in
theorem kK_X7_121 : Cond.constant RX7 121 (-1000005) ∈ WSG := mT2 172 rfl rfl
set_option maxRecDepth 100000 in
theorem kC_X7_fault : Cond.code yX7_fault cX7_fault 2 (some .int) ∈ WSG := mT2 176 rfl rfl
set_option maxRecDepth 100000 in
theorem kM_X7_122 : Cond.methodLink RX7 122 yX5_firstFault ∈ WSG := mT2 177 rfl rfl
set_option maxRecDepth 100000 in
theorem kI_X5_firstFault : Cond.instanceMethod yX5_firstFault ∈ WSG := mT2 178 rfl rfl
set_option maxRecDepth 100000 in
theorem kS_X5_firstFault : Cond.selects RX5 yX5_firstFault yX5_firstFault ∈ WSG := mT2 179 rfl rfl
set_option maxRecDepth 100000 in
theorem kC_X7_pairs : Cond.code yX7_pairs cX7_pairs 3 (some .int) ∈ WSG := mT2 184 rfl rfl
set_option maxRecDepth 100000 in
theorem kM_X7_125 : Cond.methodLink RX7 125 yX5_countPairs ∈ WSG := mT2 185 rfl rfl
set_option maxRecDepth 100000 in
theorem kI_X5_countPairs : Cond.instanceMethod yX5_countPairs ∈ WSG := mT2 186 rfl rfl
set_option maxRecDepth 100000 in
theorem kS_X5_countPairs : Cond.selects RX5 yX5_countPairs yX5_countPairs ∈ WSG := mT2 187 rfl rfl
set_option maxRecDepth 100000 in
theorem kC_X7_offer : Cond.code yX7_offer cX7_offer 2 (some .int) ∈ WSG := mT2 208 rfl rfl
set_option maxRecDepth 100000 in
theorem kM_X7_129 : Cond.methodLink RX7 129 yX5_bestBerth ∈ WSG := mT2 209 rfl rfl
set_option maxRecDepth 100000 in
theorem kI_X5_bestBerth : Cond.instanceMethod yX5_bestBerth ∈ WSG := mT2 210 rfl rfl
set_option maxRecDepth 100000 in
theorem kS_X5_bestBerth : Cond.selects RX5 yX5_bestBerth yX5_bestBerth ∈ WSG := mT2 211 rfl rfl
set_option maxRecDepth 100000 in
theorem kC_X7_plan : Cond.code yX7_plan cX7_plan 3 (some .int) ∈ WSG := mT2 221 rfl rfl
set_option maxRecDepth 100000 in
theorem kM_X7_132 : Cond.methodLink RX7 132 yX4_refuses ∈ WSG := mT2 222 rfl rfl
set_option maxRecDepth 100000 in
theorem kI_X4_refuses : Cond.instanceMethod yX4_refuses ∈ WSG := mT2 223 rfl rfl
set_option maxRecDepth 100000 in
theorem kS_X4_refuses : Cond.selects RX4 yX4_refuses yX4_refuses ∈ WSG := mT2 224 rfl rfl
set_option maxRecDepth 100000 in
theorem kM_X7_136 : Cond.methodLink RX7 136 yX4_find ∈ WSG := mT2 234 rfl rfl
set_option maxRecDepth 100000 in
theorem kI_X4_find : Cond.instanceMethod yX4_find ∈ WSG := mT2 235 rfl rfl
set_option maxRecDepth 100000 in
theorem kS_X4_find : Cond.selects RX4 yX4_find yX4_find ∈ WSG := mT2 236 rfl rfl
set_option maxRecDepth 100000 in
theorem kC_X7_lies : Cond.code yX7_lies cX7_lies 5 (some .int) ∈ WSG := mT3 52 rfl rfl
set_option maxRecDepth 100000 in
theorem kM_X7_139 : Cond.methodLink RX7 139 yX7_isInSet ∈ WSG := mT3 53 rfl rfl
set_option maxRecDepth 100000 in
theorem kK_X7_143 : Cond.constant RX7 143 (-1000004) ∈ WSG := mT3 54 rfl rfl
set_option maxRecDepth 100000 in
theorem kM_X7_144 : Cond.methodLink RX7 144 yX4_placeFor ∈ WSG := mT3 55 rfl rfl
set_option maxRecDepth 100000 in
theorem kI_X4_placeFor : Cond.instanceMethod yX4_placeFor ∈ WSG := mT3 56 rfl rfl
set_option maxRecDepth 100000 in
theorem kS_X4_placeFor : Cond.selects RX4 yX4_placeFor yX4_placeFor ∈ WSG := mT3 57 rfl rfl
set_option maxRecDepth 100000 in
theorem kM_X7_147 : Cond.methodLink RX7 147 yX4_berthFor ∈ WSG := mT3 63 rfl rfl
set_option maxRecDepth 100000 in
theorem kI_X4_berthFor : Cond.instanceMethod yX4_berthFor ∈ WSG := mT3 64 rfl rfl
set_option maxRecDepth 100000 in
theorem kS_X4_berthFor : Cond.selects RX4 yX4_berthFor yX4_berthFor ∈ WSG := mT3 65 rfl rfl
set_option maxRecDepth 100000 in
theorem kC_X7_lay : Cond.code yX7_lay cX7_lay 3 (some .int) ∈ WSG := mT3 70 rfl rfl
set_option maxRecDepth 100000 in
theorem kM_X7_150 : Cond.methodLink RX7 150 yX7_layAnew ∈ WSG := mT3 71 rfl rfl
set_option maxRecDepth 100000 in
theorem kI_X7_layAnew : Cond.instanceMethod yX7_layAnew ∈ WSG := mT3 73 rfl rfl
set_option maxRecDepth 100000 in
theorem kS_X7_layAnew : Cond.selects RX7 yX7_layAnew yX7_layAnew ∈ WSG := mS 15 rfl
set_option maxRecDepth 100000 in
theorem kC_X7_layAnew : Cond.code yX7_layAnew cX7_layAnew 8 (some .int) ∈ WSG := mT3 74 rfl rfl
set_option maxRecDepth 100000 in
theorem kF_X7_153 : Cond.fieldLink RX7 153 "AbreastQuay$Boat" "berth" "I" ∈ WSG := mT2 12 rfl rfl
set_option maxRecDepth 100000 in
theorem kF_X7_156 : Cond.fieldLink RX7 156 "AbreastQuay$Boat" "place" "I" ∈ WSG := mT2 15 rfl rfl
set_option maxRecDepth 100000 in
theorem kM_X7_159 : Cond.methodLink RX7 159 yX1_layAt ∈ WSG := mT3 75 rfl rfl
set_option maxRecDepth 100000 in
theorem kC_X7_tide : Cond.code yX7_tide cX7_tide 3 (some .int) ∈ WSG := mT3 79 rfl rfl
set_option maxRecDepth 100000 in
theorem kF_X7_163 : Cond.fieldLink RX7 163 "AbreastQuay$Day" "tideHours" "I" ∈ WSG := mT1 69 rfl rfl
set_option maxRecDepth 100000 in
theorem kC_X7_run : Cond.code yX7_run cX7_run 4 (some .int) ∈ WSG := mT3 83 rfl rfl
set_option maxRecDepth 100000 in
theorem kM_X7_166 : Cond.methodLink RX7 166 yX2_passHour ∈ WSG := mT3 84 rfl rfl
set_option maxRecDepth 100000 in
theorem kI_X2_passHour : Cond.instanceMethod yX2_passHour ∈ WSG := mT3 85 rfl rfl
set_option maxRecDepth 100000 in
theorem kS_X2_passHour : Cond.selects RX2 yX2_passHour yX2_passHour ∈ WSG := mT3 86 rfl rfl
set_option maxRecDepth 100000 in
theorem kC_X7_could : Cond.code yX7_could cX7_could 3 (some .int) ∈ WSG := mT3 113 rfl rfl
set_option maxRecDepth 100000 in
theorem kF_X7_170 : Cond.fieldLink RX7 170 "AbreastQuay$Day" "hour" "I" ∈ WSG := mT1 67 rfl rfl
set_option maxRecDepth 100000 in
theorem kM_X7_173 : Cond.methodLink RX7 173 yX5_movedIfLeaving ∈ WSG := mT3 114 rfl rfl
set_option maxRecDepth 100000 in
theorem kC_X7_feed : Cond.code yX7_feed cX7_feed 4 (some .int) ∈ WSG := mT3 118 rfl rfl
set_option maxRecDepth 100000 in
theorem kM_X7_177 : Cond.methodLink RX7 177 yX3_takeBytes ∈ WSG := mT3 119 rfl rfl
set_option maxRecDepth 100000 in
theorem kI_X3_takeBytes : Cond.instanceMethod yX3_takeBytes ∈ WSG := mT3 120 rfl rfl
set_option maxRecDepth 100000 in
theorem kS_X3_takeBytes : Cond.selects RX3 yX3_takeBytes yX3_takeBytes ∈ WSG := mT3 121 rfl rfl
set_option maxRecDepth 100000 in
theorem kC_X7_text : Cond.code yX7_text cX7_text 1 (some .int) ∈ WSG := mT3 129 rfl rfl
set_option maxRecDepth 100000 in
theorem kM_X7_181 : Cond.methodLink RX7 181 yX3_takeText ∈ WSG := mT3 130 rfl rfl
set_option maxRecDepth 100000 in
theorem kI_X3_takeText : Cond.instanceMethod yX3_takeText ∈ WSG := mT3 131 rfl rfl
set_option maxRecDepth 100000 in
theorem kS_X3_takeText : Cond.selects RX3 yX3_takeText yX3_takeText ∈ WSG := mT3 132 rfl rfl
set_option maxRecDepth 100000 in
theorem kC_X7_due : Cond.code yX7_due cX7_due 5 (some .int) ∈ WSG := mT3 152 rfl rfl
set_option maxRecDepth 100000 in
theorem kM_X7_185 : Cond.methodLink RX7 185 yX3_priceFor ∈ WSG := mT3 153 rfl rfl
set_option maxRecDepth 100000 in
theorem kI_X3_priceFor : Cond.instanceMethod yX3_priceFor ∈ WSG := mT3 154 rfl rfl
set_option maxRecDepth 100000 in
theorem kS_X3_priceFor : Cond.selects RX3 yX3_priceFor yX3_priceFor ∈ WSG := mT3 155 rfl rfl
set_option maxRecDepth 100000 in
theorem kF_X7_188 : Cond.fieldLink RX7 188 "AbreastQuay$Boat" "length" "I" ∈ WSG := mT1 238 rfl rfl
set_option maxRecDepth 100000 in
theorem kC_X7_sheet : Cond.code yX7_sheet cX7_sheet 5 (some .int) ∈ WSG := mT3 162 rfl rfl
set_option maxRecDepth 100000 in
theorem kM_X7_191 : Cond.methodLink RX7 191 yX7_sheetOf ∈ WSG := mT3 163 rfl rfl
set_option maxRecDepth 100000 in
theorem kI_X7_sheetOf : Cond.instanceMethod yX7_sheetOf ∈ WSG := mT3 165 rfl rfl
set_option maxRecDepth 100000 in
theorem kS_X7_sheetOf : Cond.selects RX7 yX7_sheetOf yX7_sheetOf ∈ WSG := mS 21 rfl
set_option maxRecDepth 100000 in
theorem kM_X7_195 : Cond.methodLink RX7 195 yX6_begin ∈ WSG := mT3 167 rfl rfl
set_option maxRecDepth 100000 in
theorem kI_X6_begin : Cond.instanceMethod yX6_begin ∈ WSG := mT3 168 rfl rfl
set_option maxRecDepth 100000 in
theorem kS_X6_begin : Cond.selects RX6 yX6_begin yX6_begin ∈ WSG := mT3 169 rfl rfl
set_option maxRecDepth 100000 in
theorem kC_X7_write : Cond.code yX7_write cX7_write 5 (some .int) ∈ WSG := mT3 179 rfl rfl
set_option maxRecDepth 100000 in
theorem kM_X7_198 : Cond.methodLink RX7 198 yX6_isMissing ∈ WSG := mT3 180 rfl rfl
set_option maxRecDepth 100000 in
theorem kI_X6_isMissing : Cond.instanceMethod yX6_isMissing ∈ WSG := mT3 181 rfl rfl
set_option maxRecDepth 100000 in
theorem kS_X6_isMissing : Cond.selects RX6 yX6_isMissing yX6_isMissing ∈ WSG := mT3 182 rfl rfl
set_option maxRecDepth 100000 in
theorem kK_X7_201 : Cond.constant RX7 201 (-1000006) ∈ WSG := mT3 184 rfl rfl
set_option maxRecDepth 100000 in
theorem kM_X7_202 : Cond.methodLink RX7 202 yX6_hasNumbers ∈ WSG := mT3 185 rfl rfl
set_option maxRecDepth 100000 in
theorem kI_X6_hasNumbers : Cond.instanceMethod yX6_hasNumbers ∈ WSG := mT3 186 rfl rfl
set_option maxRecDepth 100000 in
theorem kS_X6_hasNumbers : Cond.selects RX6 yX6_hasNumbers yX6_hasNumbers ∈ WSG := mT3 187 rfl rfl
set_option maxRecDepth 100000 in
theorem kM_X7_205 : Cond.methodLink RX7 205 yX6_replace ∈ WSG := mT3 189 rfl rfl
set_option maxRecDepth 100000 in
theorem kI_X6_replace : Cond.instanceMethod yX6_replace ∈ WSG := mT3 190 rfl rfl
set_option maxRecDepth 100000 in
theorem kS_X6_replace : Cond.selects RX6 yX6_replace yX6_replace ∈ WSG := mT3 191 rfl rfl
set_option maxRecDepth 100000 in
theorem kC_X7_copy : Cond.code yX7_copy cX7_copy 8 (some .int) ∈ WSG := mT3 204 rfl rfl
set_option maxRecDepth 100000 in
theorem kF_X7_208 : Cond.fieldLink RX7 208 "AbreastQuay$Sheet" "width" "I" ∈ WSG := mT1 147 rfl rfl
set_option maxRecDepth 100000 in
theorem kF_X7_211 : Cond.fieldLink RX7 211 "AbreastQuay$Sheet" "numbers" "[I" ∈ WSG := mT1 145 rfl rfl
set_option maxRecDepth 100000 in
theorem kM_acopy : Cond.methodLink RX7 215 arraycopyName ∈ WSG := mT3 205 rfl rfl
set_option maxRecDepth 100000 in
theorem kV_acopy : Cond.native arraycopyName ∈ WSG := mT3 207 rfl rfl
set_option maxRecDepth 100000 in
theorem kT_acopy : Cond.static arraycopyName ∈ WSG := mT3 206 rfl rfl
set_option maxRecDepth 100000 in
theorem kN_J10 : Cond.initialized "java/lang/System" ∈ WSG := mT1 13 rfl rfl
set_option maxRecDepth 100000 in
theorem kC_X7_read : Cond.code yX7_read cX7_read 5 (some .int) ∈ WSG := mT3 211 rfl rfl
set_option maxRecDepth 100000 in
theorem kF_X7_221 : Cond.fieldLink RX7 221 "AbreastQuay$Sheet" "size" "I" ∈ WSG := mT1 149 rfl rfl
set_option maxRecDepth 100000 in
theorem kM_X7_224 : Cond.methodLink RX7 224 yX6_numberAt ∈ WSG := mT3 212 rfl rfl
set_option maxRecDepth 100000 in
theorem kC_X7_told : Cond.code yX7_told cX7_told 2 (some .int) ∈ WSG := mT3 216 rfl rfl
set_option maxRecDepth 100000 in
theorem kF_X7_227 : Cond.fieldLink RX7 227 "AbreastQuay$Quay" "berthCount" "I" ∈ WSG := mT1 38 rfl rfl
set_option maxRecDepth 100000 in
theorem kF_X7_230 : Cond.fieldLink RX7 230 "AbreastQuay$Quay" "boatCount" "I" ∈ WSG := mT1 41 rfl rfl
set_option maxRecDepth 100000 in
theorem kM_X7_233 : Cond.methodLink RX7 233 yX5_countLying ∈ WSG := mT3 217 rfl rfl
set_option maxRecDepth 100000 in
theorem kI_X5_countLying : Cond.instanceMethod yX5_countLying ∈ WSG := mT3 218 rfl rfl
set_option maxRecDepth 100000 in
theorem kS_X5_countLying : Cond.selects RX5 yX5_countLying yX5_countLying ∈ WSG := mT3 219 rfl rfl
set_option maxRecDepth 100000 in
theorem kF_X7_236 : Cond.fieldLink RX7 236 "AbreastQuay$Dues" "rowCount" "I" ∈ WSG := mT1 122 rfl rfl
set_option maxRecDepth 100000 in
theorem kF_X7_239 : Cond.fieldLink RX7 239 "AbreastQuay$Dues" "tapeLength" "I" ∈ WSG := mT1 120 rfl rfl
set_option maxRecDepth 100000 in
theorem kF_X7_242 : Cond.fieldLink RX7 242 "AbreastQuay$Quay" "movedEver" "I" ∈ WSG := mT1 45 rfl rfl
set_option maxRecDepth 100000 in
theorem kF_X7_245 : Cond.fieldLink RX7 245 "AbreastQuay" "findings" "I" ∈ WSG := mT1 162 rfl rfl
set_option maxRecDepth 100000 in
theorem kC_X7_counted : Cond.code yX7_counted cX7_counted 2 (some .int) ∈ WSG := mT1 214 rfl rfl
set_option maxRecDepth 100000 in
theorem kK_X7_248 : Cond.constant RX7 248 (-1000000) ∈ WSG := mT1 215 rfl rfl
set_option maxRecDepth 100000 in
theorem kC_X7_sheetOf : Cond.code yX7_sheetOf cX7_sheetOf 2 (some (.object "AbreastQuay$Sheet")) ∈ WSG := mT3 166 rfl rfl
set_option maxRecDepth 100000 in
theorem kC_X7_isWithin : Cond.code yX7_isWithin cX7_isWithin 3 (some .boolean) ∈ WSG := mT1 186 rfl rfl
set_option maxRecDepth 100000 in
theorem kC_X7_areHours : Cond.code yX7_areHours cX7_areHours 1 (some .boolean) ∈ WSG := mT2 59 rfl rfl
set_option maxRecDepth 100000 in
theorem kK_X7_249 : Cond.constant RX7 249 (-16777216) ∈ WSG := mT2 60 rfl rfl
set_option maxRecDepth 100000 in
theorem kC_X7_isInSet : Cond.code yX7_isInSet cX7_isInSet 2 (some .boolean) ∈ WSG := mT3 4 rfl rfl
set_option maxRecDepth 100000 in
theorem kC_X8_init : Cond.code yX8_init cX8_init 1 none ∈ WSG := mT3 225 rfl rfl
set_option maxRecDepth 100000 in
theorem kN_X8 : Cond.initialized RX8 ∈ WSG := mT1 7 rfl rfl
set_option maxRecDepth 100000 in
theorem kM_X8_1 : Cond.methodLink RX8 1 objectInit ∈ WSG := mT3 226 rfl rfl
set_option maxRecDepth 100000 in
theorem kF_X8_9 : Cond.fieldLink RX8 9 "AbreastQuayModel" "depths" "[I" ∈ WSG := mT3 229 rfl rfl
set_option maxRecDepth 100000 in
theorem kF_X8_13 : Cond.fieldLink RX8 13 "AbreastQuayModel" "falls" "[I" ∈ WSG := mT3 230 rfl rfl
set_option maxRecDepth 100000 in
theorem kF_X8_16 : Cond.fieldLink RX8 16 "AbreastQuayModel" "places" "[I" ∈ WSG := mT3 231 rfl rfl
set_option maxRecDepth 100000 in
theorem kF_X8_19 : Cond.fieldLink RX8 19 "AbreastQuayModel" "reaches" "[I" ∈ WSG := mT3 232 rfl rfl
set_option maxRecDepth 100000 in
theorem kF_X8_22 : Cond.fieldLink RX8 22 "AbreastQuayModel" "kinds" "[I" ∈ WSG := mT3 235 rfl rfl
set_option maxRecDepth 100000 in
theorem kF_X8_25 : Cond.fieldLink RX8 25 "AbreastQuayModel" "lengths" "[I" ∈ WSG := mT3 236 rfl rfl
set_option maxRecDepth 100000 in
theorem kF_X8_28 : Cond.fieldLink RX8 28 "AbreastQuayModel" "draughts" "[I" ∈ WSG := mT3 237 rfl rfl
set_option maxRecDepth 100000 in
theorem kA_boolean : Cond.arrayClass .boolean ∈ WSG := mT4 124 rfl rfl
set_option maxRecDepth 100000 in
theorem kF_X8_31 : Cond.fieldLink RX8 31 "AbreastQuayModel" "wants" "[Z" ∈ WSG := mT3 238 rfl rfl
set_option maxRecDepth 100000 in
theorem kF_X8_35 : Cond.fieldLink RX8 35 "AbreastQuayModel" "firsts" "[I" ∈ WSG := mT3 239 rfl rfl
set_option maxRecDepth 100000 in
theorem kF_X8_38 : Cond.fieldLink RX8 38 "AbreastQuayModel" "lasts" "[I" ∈ WSG := mT4 0 rfl rfl
set_option maxRecDepth 100000 in
theorem kF_X8_41 : Cond.fieldLink RX8 41 "AbreastQuayModel" "aboards" "[I" ∈ WSG := mT4 1 rfl rfl
set_option maxRecDepth 100000 in
theorem kF_X8_44 : Cond.fieldLink RX8 44 "AbreastQuayModel" "late" "[I" ∈ WSG := mT4 2 rfl rfl
set_option maxRecDepth 100000 in
theorem kF_X8_47 : Cond.fieldLink RX8 47 "AbreastQuayModel" "moved" "[I" ∈ WSG := mT4 3 rfl rfl
set_option maxRecDepth 100000 in
theorem kF_X8_50 : Cond.fieldLink RX8 50 "AbreastQuayModel" "many" "[I" ∈ WSG := mT4 5 rfl rfl
set_option maxRecDepth 100000 in
theorem kF_X8_53 : Cond.fieldLink RX8 53 "AbreastQuayModel" "row" "[I" ∈ WSG := mT4 6 rfl rfl
set_option maxRecDepth 100000 in
theorem kK_X8_56 : Cond.constant RX8 56 (16777215) ∈ WSG := mT3 227 rfl rfl
set_option maxRecDepth 100000 in
theorem kF_X8_57 : Cond.fieldLink RX8 57 "AbreastQuayModel" "tide" "I" ∈ WSG := mT4 8 rfl rfl
set_option maxRecDepth 100000 in
theorem kF_X8_61 : Cond.fieldLink RX8 61 "AbreastQuayModel" "dueKind" "[I" ∈ WSG := mT4 10 rfl rfl
set_option maxRecDepth 100000 in
theorem kF_X8_64 : Cond.fieldLink RX8 64 "AbreastQuayModel" "dueLength" "[I" ∈ WSG := mT4 11 rfl rfl
set_option maxRecDepth 100000 in
theorem kF_X8_67 : Cond.fieldLink RX8 67 "AbreastQuayModel" "duePrice" "[I" ∈ WSG := mT4 12 rfl rfl
set_option maxRecDepth 100000 in
theorem kF_X8_70 : Cond.fieldLink RX8 70 "AbreastQuayModel" "tape" "[I" ∈ WSG := mT4 13 rfl rfl
set_option maxRecDepth 100000 in
theorem kF_X8_73 : Cond.fieldLink RX8 73 "AbreastQuayModel" "bits" "[I" ∈ WSG := mT4 15 rfl rfl
set_option maxRecDepth 100000 in
theorem kF_X8_76 : Cond.fieldLink RX8 76 "AbreastQuayModel" "sizes" "[I" ∈ WSG := mT4 16 rfl rfl
set_option maxRecDepth 100000 in
theorem kF_X8_79 : Cond.fieldLink RX8 79 "AbreastQuayModel" "sheets" "[I" ∈ WSG := mT4 17 rfl rfl
set_option maxRecDepth 100000 in
theorem kF_X8_82 : Cond.fieldLink RX8 82 "AbreastQuayModel" "someOf" "[I" ∈ WSG := mT4 20 rfl rfl
set_option maxRecDepth 100000 in
theorem kF_X8_85 : Cond.fieldLink RX8 85 "AbreastQuayModel" "steps" "[I" ∈ WSG := mT4 21 rfl rfl
set_option maxRecDepth 100000 in
theorem kF_X8_88 : Cond.fieldLink RX8 88 "AbreastQuayModel" "stepBerth" "[I" ∈ WSG := mT4 22 rfl rfl
set_option maxRecDepth 100000 in
theorem kF_X8_91 : Cond.fieldLink RX8 91 "AbreastQuayModel" "stepPlace" "[I" ∈ WSG := mT4 23 rfl rfl
set_option maxRecDepth 100000 in
theorem kF_X8_94 : Cond.fieldLink RX8 94 "AbreastQuayModel" "stepPairs" "[I" ∈ WSG := mT4 24 rfl rfl
set_option maxRecDepth 100000 in
theorem kF_X8_97 : Cond.fieldLink RX8 97 "AbreastQuayModel" "stepLaid" "[I" ∈ WSG := mT4 25 rfl rfl
set_option maxRecDepth 100000 in
theorem kF_X8_100 : Cond.fieldLink RX8 100 "AbreastQuayModel" "spot" "[I" ∈ WSG := mT4 29 rfl rfl
set_option maxRecDepth 100000 in
theorem kF_X8_103 : Cond.fieldLink RX8 103 "AbreastQuayModel" "bestSpot" "[I" ∈ WSG := mT4 30 rfl rfl
set_option maxRecDepth 100000 in
theorem kF_X8_106 : Cond.fieldLink RX8 106 "AbreastQuayModel" "lay" "[I" ∈ WSG := mT4 31 rfl rfl
set_option maxRecDepth 100000 in
theorem kF_X8_109 : Cond.fieldLink RX8 109 "AbreastQuayModel" "carried" "[I" ∈ WSG := mT4 32 rfl rfl
set_option maxRecDepth 100000 in
theorem kC_X8_finding : Cond.code yX8_finding cX8_finding 2 (some .int) ∈ WSG := mT4 136 rfl rfl
set_option maxRecDepth 100000 in
theorem kF_X8_112 : Cond.fieldLink RX8 112 "AbreastQuayModel" "findings" "I" ∈ WSG := mT4 18 rfl rfl
set_option maxRecDepth 100000 in
theorem kC_X8_within : Cond.code yX8_within cX8_within 3 (some .boolean) ∈ WSG := mT4 131 rfl rfl
set_option maxRecDepth 100000 in
theorem kC_X8_isBerth : Cond.code yX8_isBerth cX8_isBerth 2 (some .boolean) ∈ WSG := mT4 184 rfl rfl
set_option maxRecDepth 100000 in
theorem kF_X8_115 : Cond.fieldLink RX8 115 "AbreastQuayModel" "berths" "I" ∈ WSG := mT3 228 rfl rfl
set_option maxRecDepth 100000 in
theorem kM_X8_118 : Cond.methodLink RX8 118 yX8_within ∈ WSG := mT4 129 rfl rfl
set_option maxRecDepth 100000 in
theorem kT_X8_within : Cond.static yX8_within ∈ WSG := mT4 130 rfl rfl
set_option maxRecDepth 100000 in
theorem kC_X8_isBoat : Cond.code yX8_isBoat cX8_isBoat 2 (some .boolean) ∈ WSG := mT4 149 rfl rfl
set_option maxRecDepth 100000 in
theorem kF_X8_122 : Cond.fieldLink RX8 122 "AbreastQuayModel" "boats" "I" ∈ WSG := mT3 234 rfl rfl
set_option maxRecDepth 100000 in
theorem kC_X8_isHour : Cond.code yX8_isHour cX8_isHour 1 (some .boolean) ∈ WSG := mT4 152 rfl rfl
set_option maxRecDepth 100000 in
theorem kC_X8_berth : Cond.code yX8_berth cX8_berth 5 (some .int) ∈ WSG := mT4 128 rfl rfl
set_option maxRecDepth 100000 in
theorem kK_X8_125 : Cond.constant RX8 125 (-1000001) ∈ WSG := mT4 132 rfl rfl
set_option maxRecDepth 100000 in
theorem kM_X8_126 : Cond.methodLink RX8 126 yX8_finding ∈ WSG := mT4 133 rfl rfl
set_option maxRecDepth 100000 in
theorem kI_X8_finding : Cond.instanceMethod yX8_finding ∈ WSG := mT4 135 rfl rfl
set_option maxRecDepth 100000 in
theorem kS_X8_finding : Cond.selects RX8 yX8_finding yX8_finding ∈ WSG := mS 23 rfl
set_option maxRecDepth 100000 in
theorem kK_X8_130 : Cond.constant RX8 130 (-1000002) ∈ WSG := mT4 137 rfl rfl
set_option maxRecDepth 100000 in
theorem kC_X8_boat : Cond.code yX8_boat cX8_boat 5 (some .int) ∈ WSG := mT4 141 rfl rfl
set_option maxRecDepth 100000 in
theorem kC_X8_leaves : Cond.code yX8_leaves cX8_leaves 4 (some .int) ∈ WSG := mT4 145 rfl rfl
set_option maxRecDepth 100000 in
theorem kM_X8_131 : Cond.methodLink RX8 131 yX8_isBoat ∈ WSG := mT4 146 rfl rfl
set_option maxRecDepth 100000 in
theorem kI_X8_isBoat : Cond.instanceMethod yX8_isBoat ∈ WSG := mT4 148 rfl rfl
set_option maxRecDepth 100000 in
theorem kS_X8_isBoat : Cond.selects RX8 yX8_isBoat yX8_isBoat ∈ WSG := mS 24 rfl
set_option maxRecDepth 100000 in
theorem kM_X8_135 : Cond.methodLink RX8 135 yX8_isHour ∈ WSG := mT4 150 rfl rfl
set_option maxRecDepth 100000 in
theorem kT_X8_isHour : Cond.static yX8_isHour ∈ WSG := mT4 151 rfl rfl
set_option maxRecDepth 100000 in
theorem kC_X8_aboard : Cond.code yX8_aboard cX8_aboard 4 (some .int) ∈ WSG := mT4 156 rfl rfl
set_option maxRecDepth 100000 in
theorem kC_X8_over : Cond.code yX8_over cX8_over 3 (some .int) ∈ WSG := mT4 160 rfl rfl
set_option maxRecDepth 100000 in
theorem kF_X8_138 : Cond.fieldLink RX8 138 "AbreastQuayModel" "over" "I" ∈ WSG := mT3 233 rfl rfl
set_option maxRecDepth 100000 in
theorem kC_X8_isUnder : Cond.code yX8_isUnder cX8_isUnder 2 (some .boolean) ∈ WSG := mT4 167 rfl rfl
set_option maxRecDepth 100000 in
theorem kC_X8_as : Cond.code yX8_as cX8_as 3 (some .int) ∈ WSG := mT4 164 rfl rfl
set_option maxRecDepth 100000 in
theorem kM_X8_141 : Cond.methodLink RX8 141 yX8_isUnder ∈ WSG := mT4 165 rfl rfl
set_option maxRecDepth 100000 in
theorem kT_X8_isUnder : Cond.static yX8_isUnder ∈ WSG := mT4 166 rfl rfl
set_option maxRecDepth 100000 in
theorem kK_X8_145 : Cond.constant RX8 145 (-1000003) ∈ WSG := mT4 168 rfl rfl
set_option maxRecDepth 100000 in
theorem kC_X8_spotOf : Cond.code yX8_spotOf cX8_spotOf 4 (some .int) ∈ WSG := mT4 176 rfl rfl
set_option maxRecDepth 100000 in
theorem kC_X8_of : Cond.code yX8_of cX8_of 4 (some .int) ∈ WSG := mT4 172 rfl rfl
set_option maxRecDepth 100000 in
theorem kM_X8_146 : Cond.methodLink RX8 146 yX8_spotOf ∈ WSG := mT4 173 rfl rfl
set_option maxRecDepth 100000 in
theorem kI_X8_spotOf : Cond.instanceMethod yX8_spotOf ∈ WSG := mT4 175 rfl rfl
set_option maxRecDepth 100000 in
theorem kS_X8_spotOf : Cond.selects RX8 yX8_spotOf yX8_spotOf ∈ WSG := mS 25 rfl
set_option maxRecDepth 100000 in
theorem kC_X8_at : Cond.code yX8_at cX8_at 3 (some .int) ∈ WSG := mT4 180 rfl rfl
set_option maxRecDepth 100000 in
theorem kM_X8_149 : Cond.methodLink RX8 149 yX8_isBerth ∈ WSG := mT4 181 rfl rfl
set_option maxRecDepth 100000 in
theorem kI_X8_isBerth : Cond.instanceMethod yX8_isBerth ∈ WSG := mT4 183 rfl rfl
set_option maxRecDepth 100000 in
theorem kS_X8_isBerth : Cond.selects RX8 yX8_isBerth yX8_isBerth ∈ WSG := mS 26 rfl
set_option maxRecDepth 100000 in
theorem kC_X8_whyNot : Cond.code yX8_whyNot cX8_whyNot 6 (some .int) ∈ WSG := mT4 201 rfl rfl
set_option maxRecDepth 100000 in
theorem kC_X8_insideOf : Cond.code yX8_insideOf cX8_insideOf 3 (some .int) ∈ WSG := mT4 197 rfl rfl
set_option maxRecDepth 100000 in
theorem kC_X8_whyNotOutside : Cond.code yX8_whyNotOutside cX8_whyNotOutside 3 (some .int) ∈ WSG := mT4 193 rfl rfl
set_option maxRecDepth 100000 in
theorem kM_X8_152 : Cond.methodLink RX8 152 yX8_insideOf ∈ WSG := mT4 194 rfl rfl
set_option maxRecDepth 100000 in
theorem kI_X8_insideOf : Cond.instanceMethod yX8_insideOf ∈ WSG := mT4 196 rfl rfl
set_option maxRecDepth 100000 in
theorem kS_X8_insideOf : Cond.selects RX8 yX8_insideOf yX8_insideOf ∈ WSG := mS 28 rfl
set_option maxRecDepth 100000 in
theorem kM_X8_156 : Cond.methodLink RX8 156 yX8_whyNot ∈ WSG := mT4 198 rfl rfl
set_option maxRecDepth 100000 in
theorem kI_X8_whyNot : Cond.instanceMethod yX8_whyNot ∈ WSG := mT4 200 rfl rfl
set_option maxRecDepth 100000 in
theorem kS_X8_whyNot : Cond.selects RX8 yX8_whyNot yX8_whyNot ∈ WSG := mS 29 rfl
set_option maxRecDepth 100000 in
theorem kC_X8_may : Cond.code yX8_may cX8_may 3 (some .int) ∈ WSG := mT4 188 rfl rfl
set_option maxRecDepth 100000 in
theorem kK_X8_160 : Cond.constant RX8 160 (-1000005) ∈ WSG := mT4 189 rfl rfl
set_option maxRecDepth 100000 in
theorem kM_X8_161 : Cond.methodLink RX8 161 yX8_whyNotOutside ∈ WSG := mT4 190 rfl rfl
set_option maxRecDepth 100000 in
theorem kI_X8_whyNotOutside : Cond.instanceMethod yX8_whyNotOutside ∈ WSG := mT4 192 rfl rfl
set_option maxRecDepth 100000 in
theorem kS_X8_whyNotOutside : Cond.selects RX8 yX8_whyNotOutside yX8_whyNotOutside ∈ WSG := mS 27 rfl
set_option maxRecDepth 100000 in
theorem kC_X8_laysOut : Cond.code yX8_laysOut cX8_laysOut 3 none ∈ WSG := mT4 209 rfl rfl
set_option maxRecDepth 100000 in
theorem kC_X8_comes : Cond.code yX8_comes cX8_comes 4 (some .int) ∈ WSG := mT4 205 rfl rfl
set_option maxRecDepth 100000 in
theorem kM_X8_164 : Cond.methodLink RX8 164 yX8_laysOut ∈ WSG := mT4 206 rfl rfl
set_option maxRecDepth 100000 in
theorem kI_X8_laysOut : Cond.instanceMethod yX8_laysOut ∈ WSG := mT4 208 rfl rfl
set_option maxRecDepth 100000 in
theorem kS_X8_laysOut : Cond.selects RX8 yX8_laysOut yX8_laysOut ∈ WSG := mS 30 rfl
set_option maxRecDepth 100000 in
theorem kC_X8_counts : Cond.code yX8_counts cX8_counts 2 none ∈ WSG := mT4 217 rfl rfl
set_option maxRecDepth 100000 in
theorem kF_X8_168 : Cond.fieldLink RX8 168 "AbreastQuayModel" "movedEver" "I" ∈ WSG := mT4 4 rfl rfl
set_option maxRecDepth 100000 in
theorem kC_X8_between : Cond.code yX8_between cX8_between 7 (some .int) ∈ WSG := mT4 213 rfl rfl
set_option maxRecDepth 100000 in
theorem kM_X8_171 : Cond.methodLink RX8 171 yX8_counts ∈ WSG := mT4 214 rfl rfl
set_option maxRecDepth 100000 in
theorem kI_X8_counts : Cond.instanceMethod yX8_counts ∈ WSG := mT4 216 rfl rfl
set_option maxRecDepth 100000 in
theorem kS_X8_counts : Cond.selects RX8 yX8_counts yX8_counts ∈ WSG := mS 31 rfl
set_option maxRecDepth 100000 in
theorem kC_X8_leavesNow : Cond.code yX8_leavesNow cX8_leavesNow 5 (some .int) ∈ WSG := mT4 225 rfl rfl
set_option maxRecDepth 100000 in
theorem kC_X8_goes : Cond.code yX8_goes cX8_goes 3 (some .int) ∈ WSG := mT4 221 rfl rfl
set_option maxRecDepth 100000 in
theorem kM_X8_175 : Cond.methodLink RX8 175 yX8_leavesNow ∈ WSG := mT4 222 rfl rfl
set_option maxRecDepth 100000 in
theorem kI_X8_leavesNow : Cond.instanceMethod yX8_leavesNow ∈ WSG := mT4 224 rfl rfl
set_option maxRecDepth 100000 in
theorem kS_X8_leavesNow : Cond.selects RX8 yX8_leavesNow yX8_leavesNow ∈ WSG := mS 32 rfl
set_option maxRecDepth 100000 in
theorem kC_X8_fault : Cond.code yX8_fault cX8_fault 3 (some .int) ∈ WSG := mT4 229 rfl rfl
set_option maxRecDepth 100000 in
theorem kC_X8_movesMaybe : Cond.code yX8_movesMaybe cX8_movesMaybe 3 (some .boolean) ∈ WSG := mT4 237 rfl rfl
set_option maxRecDepth 100000 in
theorem kC_X8_pairs : Cond.code yX8_pairs cX8_pairs 9 (some .int) ∈ WSG := mT4 233 rfl rfl
set_option maxRecDepth 100000 in
theorem kM_X8_178 : Cond.methodLink RX8 178 yX8_movesMaybe ∈ WSG := mT4 234 rfl rfl
set_option maxRecDepth 100000 in
theorem kI_X8_movesMaybe : Cond.instanceMethod yX8_movesMaybe ∈ WSG := mT4 236 rfl rfl
set_option maxRecDepth 100000 in
theorem kS_X8_movesMaybe : Cond.selects RX8 yX8_movesMaybe yX8_movesMaybe ∈ WSG := mS 33 rfl
set_option maxRecDepth 100000 in
theorem kC_X8_offer : Cond.code yX8_offer cX8_offer 7 (some .int) ∈ WSG := mT5 1 rfl rfl
set_option maxRecDepth 100000 in
theorem kK_X8_181 : Cond.constant RX8 181 (-1000004) ∈ WSG := mT5 2 rfl rfl
set_option maxRecDepth 100000 in
theorem kC_X8_pairsWith : Cond.code yX8_pairsWith cX8_pairsWith 8 (some .int) ∈ WSG := mT5 27 rfl rfl
set_option maxRecDepth 100000 in
theorem kC_X8_goesOn : Cond.code yX8_goesOn cX8_goesOn 4 (some .boolean) ∈ WSG := mT5 23 rfl rfl
set_option maxRecDepth 100000 in
theorem kF_X8_182 : Cond.fieldLink RX8 182 "AbreastQuayModel" "some" "I" ∈ WSG := mT4 19 rfl rfl
set_option maxRecDepth 100000 in
theorem kM_X8_185 : Cond.methodLink RX8 185 yX8_pairsWith ∈ WSG := mT5 24 rfl rfl
set_option maxRecDepth 100000 in
theorem kI_X8_pairsWith : Cond.instanceMethod yX8_pairsWith ∈ WSG := mT5 26 rfl rfl
set_option maxRecDepth 100000 in
theorem kS_X8_pairsWith : Cond.selects RX8 yX8_pairsWith yX8_pairsWith ∈ WSG := mS 38 rfl
set_option maxRecDepth 100000 in
theorem kC_X8_ends : Cond.code yX8_ends cX8_ends 4 none ∈ WSG := mT5 19 rfl rfl
set_option maxRecDepth 100000 in
theorem kF_X8_188 : Cond.fieldLink RX8 188 "AbreastQuayModel" "isFound" "Z" ∈ WSG := mT4 26 rfl rfl
set_option maxRecDepth 100000 in
theorem kF_X8_192 : Cond.fieldLink RX8 192 "AbreastQuayModel" "fewest" "I" ∈ WSG := mT4 27 rfl rfl
set_option maxRecDepth 100000 in
theorem kF_X8_195 : Cond.fieldLink RX8 195 "AbreastQuayModel" "bestKey" "I" ∈ WSG := mT4 28 rfl rfl
set_option maxRecDepth 100000 in
theorem kC_X8_findPlacing : Cond.code yX8_findPlacing cX8_findPlacing 2 none ∈ WSG := mT5 15 rfl rfl
set_option maxRecDepth 100000 in
theorem kM_X8_198 : Cond.methodLink RX8 198 yX8_ends ∈ WSG := mT5 16 rfl rfl
set_option maxRecDepth 100000 in
theorem kI_X8_ends : Cond.instanceMethod yX8_ends ∈ WSG := mT5 18 rfl rfl
set_option maxRecDepth 100000 in
theorem kS_X8_ends : Cond.selects RX8 yX8_ends yX8_ends ∈ WSG := mS 36 rfl
set_option maxRecDepth 100000 in
theorem kM_X8_201 : Cond.methodLink RX8 201 yX8_goesOn ∈ WSG := mT5 20 rfl rfl
set_option maxRecDepth 100000 in
theorem kI_X8_goesOn : Cond.instanceMethod yX8_goesOn ∈ WSG := mT5 22 rfl rfl
set_option maxRecDepth 100000 in
theorem kS_X8_goesOn : Cond.selects RX8 yX8_goesOn yX8_goesOn ∈ WSG := mS 37 rfl
set_option maxRecDepth 100000 in
theorem kC_X8_refusal : Cond.code yX8_refusal cX8_refusal 5 (some .int) ∈ WSG := mT5 10 rfl rfl
set_option maxRecDepth 100000 in
theorem kK_X8_204 : Cond.constant RX8 204 (-1000007) ∈ WSG := mT5 11 rfl rfl
set_option maxRecDepth 100000 in
theorem kM_X8_205 : Cond.methodLink RX8 205 yX8_findPlacing ∈ WSG := mT5 12 rfl rfl
set_option maxRecDepth 100000 in
theorem kI_X8_findPlacing : Cond.instanceMethod yX8_findPlacing ∈ WSG := mT5 14 rfl rfl
set_option maxRecDepth 100000 in
theorem kS_X8_findPlacing : Cond.selects RX8 yX8_findPlacing yX8_findPlacing ∈ WSG := mS 35 rfl
set_option maxRecDepth 100000 in
theorem kC_X8_plan : Cond.code yX8_plan cX8_plan 3 (some .int) ∈ WSG := mT5 6 rfl rfl
set_option maxRecDepth 100000 in
theorem kM_X8_208 : Cond.methodLink RX8 208 yX8_refusal ∈ WSG := mT5 7 rfl rfl
set_option maxRecDepth 100000 in
theorem kI_X8_refusal : Cond.instanceMethod yX8_refusal ∈ WSG := mT5 9 rfl rfl
set_option maxRecDepth 100000 in
theorem kS_X8_refusal : Cond.selects RX8 yX8_refusal yX8_refusal ∈ WSG := mS 34 rfl
set_option maxRecDepth 100000 in
theorem kC_X8_lies : Cond.code yX8_lies cX8_lies 6 (some .int) ∈ WSG := mT5 31 rfl rfl
set_option maxRecDepth 100000 in
theorem kC_X8_lay : Cond.code yX8_lay cX8_lay 5 (some .int) ∈ WSG := mT5 35 rfl rfl
set_option maxRecDepth 100000 in
theorem kC_X8_tide : Cond.code yX8_tide cX8_tide 3 (some .int) ∈ WSG := mT5 39 rfl rfl
set_option maxRecDepth 100000 in
theorem kC_X8_outside : Cond.code yX8_outside cX8_outside 4 (some .int) ∈ WSG := mT5 55 rfl rfl
set_option maxRecDepth 100000 in
theorem kF_X8_211 : Cond.fieldLink RX8 211 "AbreastQuayModel" "hour" "I" ∈ WSG := mT4 7 rfl rfl
set_option maxRecDepth 100000 in
theorem kC_X8_nextToLeave : Cond.code yX8_nextToLeave cX8_nextToLeave 6 (some .int) ∈ WSG := mT5 51 rfl rfl
set_option maxRecDepth 100000 in
theorem kM_X8_214 : Cond.methodLink RX8 214 yX8_outside ∈ WSG := mT5 52 rfl rfl
set_option maxRecDepth 100000 in
theorem kI_X8_outside : Cond.instanceMethod yX8_outside ∈ WSG := mT5 54 rfl rfl
set_option maxRecDepth 100000 in
theorem kS_X8_outside : Cond.selects RX8 yX8_outside yX8_outside ∈ WSG := mS 41 rfl
set_option maxRecDepth 100000 in
theorem kC_X8_doHour : Cond.code yX8_doHour cX8_doHour 5 (some .int) ∈ WSG := mT5 47 rfl rfl
set_option maxRecDepth 100000 in
theorem kM_X8_217 : Cond.methodLink RX8 217 yX8_nextToLeave ∈ WSG := mT5 48 rfl rfl
set_option maxRecDepth 100000 in
theorem kI_X8_nextToLeave : Cond.instanceMethod yX8_nextToLeave ∈ WSG := mT5 50 rfl rfl
set_option maxRecDepth 100000 in
theorem kS_X8_nextToLeave : Cond.selects RX8 yX8_nextToLeave yX8_nextToLeave ∈ WSG := mS 40 rfl
set_option maxRecDepth 100000 in
theorem kC_X8_run : Cond.code yX8_run cX8_run 4 (some .int) ∈ WSG := mT5 43 rfl rfl
set_option maxRecDepth 100000 in
theorem kM_X8_221 : Cond.methodLink RX8 221 yX8_doHour ∈ WSG := mT5 44 rfl rfl
set_option maxRecDepth 100000 in
theorem kI_X8_doHour : Cond.instanceMethod yX8_doHour ∈ WSG := mT5 46 rfl rfl
set_option maxRecDepth 100000 in
theorem kS_X8_doHour : Cond.selects RX8 yX8_doHour yX8_doHour ∈ WSG := mS 39 rfl
set_option maxRecDepth 100000 in
theorem kC_X8_could : Cond.code yX8_could cX8_could 3 (some .int) ∈ WSG := mT5 59 rfl rfl
set_option maxRecDepth 100000 in
theorem kC_X8_feed : Cond.code yX8_feed cX8_feed 5 (some .int) ∈ WSG := mT5 63 rfl rfl
set_option maxRecDepth 100000 in
theorem kF_X8_224 : Cond.fieldLink RX8 224 "AbreastQuayModel" "taped" "I" ∈ WSG := mT4 14 rfl rfl
set_option maxRecDepth 100000 in
theorem kJ_X8_227 : Cond.constantLong RX8 227 (255) ∈ WSG := mT5 64 rfl rfl
set_option maxRecDepth 100000 in
theorem kC_X8_kindBy : Cond.code yX8_kindBy cX8_kindBy 1 (some .int) ∈ WSG := mT5 75 rfl rfl
set_option maxRecDepth 100000 in
theorem kC_X8_canStand : Cond.code yX8_canStand cX8_canStand 3 (some .boolean) ∈ WSG := mT5 72 rfl rfl
set_option maxRecDepth 100000 in
theorem kM_X8_229 : Cond.methodLink RX8 229 yX8_kindBy ∈ WSG := mT5 73 rfl rfl
set_option maxRecDepth 100000 in
theorem kT_X8_kindBy : Cond.static yX8_kindBy ∈ WSG := mT5 74 rfl rfl
set_option maxRecDepth 100000 in
theorem kC_X8_twoDigits : Cond.code yX8_twoDigits cX8_twoDigits 2 (some .int) ∈ WSG := mT5 80 rfl rfl
set_option maxRecDepth 100000 in
theorem kC_X8_text : Cond.code yX8_text cX8_text 3 (some .int) ∈ WSG := mT5 68 rfl rfl
set_option maxRecDepth 100000 in
theorem kM_X8_232 : Cond.methodLink RX8 232 yX8_canStand ∈ WSG := mT5 69 rfl rfl
set_option maxRecDepth 100000 in
theorem kI_X8_canStand : Cond.instanceMethod yX8_canStand ∈ WSG := mT5 71 rfl rfl
set_option maxRecDepth 100000 in
theorem kS_X8_canStand : Cond.selects RX8 yX8_canStand yX8_canStand ∈ WSG := mS 42 rfl
set_option maxRecDepth 100000 in
theorem kK_X8_235 : Cond.constant RX8 235 (-1000100) ∈ WSG := mT5 76 rfl rfl
set_option maxRecDepth 100000 in
theorem kF_X8_236 : Cond.fieldLink RX8 236 "AbreastQuayModel" "dues" "I" ∈ WSG := mT4 9 rfl rfl
set_option maxRecDepth 100000 in
theorem kM_X8_239 : Cond.methodLink RX8 239 yX8_twoDigits ∈ WSG := mT5 77 rfl rfl
set_option maxRecDepth 100000 in
theorem kI_X8_twoDigits : Cond.instanceMethod yX8_twoDigits ∈ WSG := mT5 79 rfl rfl
set_option maxRecDepth 100000 in
theorem kS_X8_twoDigits : Cond.selects RX8 yX8_twoDigits yX8_twoDigits ∈ WSG := mS 43 rfl
set_option maxRecDepth 100000 in
theorem kC_X8_due : Cond.code yX8_due cX8_due 4 (some .int) ∈ WSG := mT5 84 rfl rfl
set_option maxRecDepth 100000 in
theorem kC_X8_isSheet : Cond.code yX8_isSheet cX8_isSheet 1 (some .boolean) ∈ WSG := mT5 91 rfl rfl
set_option maxRecDepth 100000 in
theorem kC_X8_sheet : Cond.code yX8_sheet cX8_sheet 5 (some .int) ∈ WSG := mT5 88 rfl rfl
set_option maxRecDepth 100000 in
theorem kM_X8_242 : Cond.methodLink RX8 242 yX8_isSheet ∈ WSG := mT5 89 rfl rfl
set_option maxRecDepth 100000 in
theorem kT_X8_isSheet : Cond.static yX8_isSheet ∈ WSG := mT5 90 rfl rfl
set_option maxRecDepth 100000 in
theorem kC_X8_write : Cond.code yX8_write cX8_write 6 (some .int) ∈ WSG := mT5 95 rfl rfl
set_option maxRecDepth 100000 in
theorem kK_X8_245 : Cond.constant RX8 245 (-1000006) ∈ WSG := mT5 96 rfl rfl
set_option maxRecDepth 100000 in
theorem kC_X8_copy : Cond.code yX8_copy cX8_copy 7 (some .int) ∈ WSG := mT5 100 rfl rfl
set_option maxRecDepth 100000 in
theorem kC_X8_read : Cond.code yX8_read cX8_read 6 (some .int) ∈ WSG := mT5 104 rfl rfl
set_option maxRecDepth 100000 in
theorem kC_X8_told : Cond.code yX8_told cX8_told 4 (some .int) ∈ WSG := mT5 108 rfl rfl
set_option maxRecDepth 100000 in
theorem kC_J6_bitCount_0f7a4 : Cond.code yJ6_bitCount_0f7a4 cJ6_bitCount_0f7a4 1 (some .int) ∈ WSG := mT2 229 rfl rfl
set_option maxRecDepth 100000 in
theorem kN_J6 : Cond.initialized RJ6 ∈ WSG := mT1 10 rfl rfl
set_option maxRecDepth 100000 in
theorem kK_J6_265 : Cond.constant RJ6 265 (1431655765) ∈ WSG := mT2 230 rfl rfl
set_option maxRecDepth 100000 in
theorem kK_J6_266 : Cond.constant RJ6 266 (858993459) ∈ WSG := mT2 231 rfl rfl
set_option maxRecDepth 100000 in
theorem kK_J6_267 : Cond.constant RJ6 267 (252645135) ∈ WSG := mT2 232 rfl rfl
set_option maxRecDepth 100000 in
theorem kC_J7_fill_d0a16 : Cond.code yJ7_fill_d0a16 cJ7_fill_d0a16 5 none ∈ WSG := mT3 18 rfl rfl
set_option maxRecDepth 100000 in
theorem kN_J7 : Cond.initialized RJ7 ∈ WSG := mT1 11 rfl rfl
set_option maxRecDepth 100000 in
theorem kC_J7_fill_53178 : Cond.code yJ7_fill_53178 cJ7_fill_53178 4 none ∈ WSG := mT3 175 rfl rfl
set_option maxRecDepth 100000 in
theorem kL_L_7 : Cond.classLink RL 7 RX7 ∈ WSG := mT1 14 rfl rfl
set_option maxRecDepth 100000 in
theorem kZ_X7 : Cond.instantiable RX7 6 ∈ WSG := mT1 15 rfl rfl
set_option maxRecDepth 100000 in
theorem kM_L_9 : Cond.methodLink RL 9 yX7_init ∈ WSG := mT1 16 rfl rfl
set_option maxRecDepth 100000 in
theorem kI_X7_init : Cond.instanceMethod yX7_init ∈ WSG := mT1 17 rfl rfl
set_option maxRecDepth 100000 in
theorem kL_L_10 : Cond.classLink RL 10 RX8 ∈ WSG := mT3 221 rfl rfl
set_option maxRecDepth 100000 in
theorem kZ_X8 : Cond.instantiable RX8 45 ∈ WSG := mT3 222 rfl rfl
set_option maxRecDepth 100000 in
theorem kM_L_12 : Cond.methodLink RL 12 yX8_init ∈ WSG := mT3 223 rfl rfl
set_option maxRecDepth 100000 in
theorem kI_X8_init : Cond.instanceMethod yX8_init ∈ WSG := mT3 224 rfl rfl
set_option maxRecDepth 100000 in
theorem kM_L_13 : Cond.methodLink RL 13 yX7_berth ∈ WSG := mT1 176 rfl rfl
set_option maxRecDepth 100000 in
theorem kI_X7_berth : Cond.instanceMethod yX7_berth ∈ WSG := mT1 177 rfl rfl
set_option maxRecDepth 100000 in
theorem kS_X7_berth : Cond.selects RX7 yX7_berth yX7_berth ∈ WSG := mT1 178 rfl rfl
set_option maxRecDepth 100000 in
theorem kM_L_17 : Cond.methodLink RL 17 yX8_berth ∈ WSG := mT4 125 rfl rfl
set_option maxRecDepth 100000 in
theorem kI_X8_berth : Cond.instanceMethod yX8_berth ∈ WSG := mT4 126 rfl rfl
set_option maxRecDepth 100000 in
theorem kS_X8_berth : Cond.selects RX8 yX8_berth yX8_berth ∈ WSG := mT4 127 rfl rfl
set_option maxRecDepth 100000 in
theorem kM_L_18 : Cond.methodLink RL 18 yX7_boat ∈ WSG := mT1 216 rfl rfl
set_option maxRecDepth 100000 in
theorem kI_X7_boat : Cond.instanceMethod yX7_boat ∈ WSG := mT1 217 rfl rfl
set_option maxRecDepth 100000 in
theorem kS_X7_boat : Cond.selects RX7 yX7_boat yX7_boat ∈ WSG := mT1 218 rfl rfl
set_option maxRecDepth 100000 in
theorem kM_L_22 : Cond.methodLink RL 22 yX8_boat ∈ WSG := mT4 138 rfl rfl
set_option maxRecDepth 100000 in
theorem kI_X8_boat : Cond.instanceMethod yX8_boat ∈ WSG := mT4 139 rfl rfl
set_option maxRecDepth 100000 in
theorem kS_X8_boat : Cond.selects RX8 yX8_boat yX8_boat ∈ WSG := mT4 140 rfl rfl
set_option maxRecDepth 100000 in
theorem kM_L_23 : Cond.methodLink RL 23 yX7_leaves ∈ WSG := mT2 44 rfl rfl
set_option maxRecDepth 100000 in
theorem kI_X7_leaves : Cond.instanceMethod yX7_leaves ∈ WSG := mT2 45 rfl rfl
set_option maxRecDepth 100000 in
theorem kS_X7_leaves : Cond.selects RX7 yX7_leaves yX7_leaves ∈ WSG := mT2 46 rfl rfl
set_option maxRecDepth 100000 in
theorem kM_L_27 : Cond.methodLink RL 27 yX8_leaves ∈ WSG := mT4 142 rfl rfl
set_option maxRecDepth 100000 in
theorem kI_X8_leaves : Cond.instanceMethod yX8_leaves ∈ WSG := mT4 143 rfl rfl
set_option maxRecDepth 100000 in
theorem kS_X8_leaves : Cond.selects RX8 yX8_leaves yX8_leaves ∈ WSG := mT4 144 rfl rfl
set_option maxRecDepth 100000 in
theorem kM_L_28 : Cond.methodLink RL 28 yX7_aboard ∈ WSG := mT2 53 rfl rfl
set_option maxRecDepth 100000 in
theorem kI_X7_aboard : Cond.instanceMethod yX7_aboard ∈ WSG := mT2 54 rfl rfl
set_option maxRecDepth 100000 in
theorem kS_X7_aboard : Cond.selects RX7 yX7_aboard yX7_aboard ∈ WSG := mT2 55 rfl rfl
set_option maxRecDepth 100000 in
theorem kM_L_32 : Cond.methodLink RL 32 yX8_aboard ∈ WSG := mT4 153 rfl rfl
set_option maxRecDepth 100000 in
theorem kI_X8_aboard : Cond.instanceMethod yX8_aboard ∈ WSG := mT4 154 rfl rfl
set_option maxRecDepth 100000 in
theorem kS_X8_aboard : Cond.selects RX8 yX8_aboard yX8_aboard ∈ WSG := mT4 155 rfl rfl
set_option maxRecDepth 100000 in
theorem kM_L_33 : Cond.methodLink RL 33 yX7_over ∈ WSG := mT2 61 rfl rfl
set_option maxRecDepth 100000 in
theorem kI_X7_over : Cond.instanceMethod yX7_over ∈ WSG := mT2 62 rfl rfl
set_option maxRecDepth 100000 in
theorem kS_X7_over : Cond.selects RX7 yX7_over yX7_over ∈ WSG := mT2 63 rfl rfl
set_option maxRecDepth 100000 in
theorem kM_L_37 : Cond.methodLink RL 37 yX8_over ∈ WSG := mT4 157 rfl rfl
set_option maxRecDepth 100000 in
theorem kI_X8_over : Cond.instanceMethod yX8_over ∈ WSG := mT4 158 rfl rfl
set_option maxRecDepth 100000 in
theorem kS_X8_over : Cond.selects RX8 yX8_over yX8_over ∈ WSG := mT4 159 rfl rfl
set_option maxRecDepth 100000 in
theorem kM_L_38 : Cond.methodLink RL 38 yX7_as ∈ WSG := mT2 66 rfl rfl
set_option maxRecDepth 100000 in
theorem kI_X7_as : Cond.instanceMethod yX7_as ∈ WSG := mT2 67 rfl rfl
set_option maxRecDepth 100000 in
theorem kS_X7_as : Cond.selects RX7 yX7_as yX7_as ∈ WSG := mT2 68 rfl rfl
set_option maxRecDepth 100000 in
theorem kM_L_41 : Cond.methodLink RL 41 yX8_as ∈ WSG := mT4 161 rfl rfl
set_option maxRecDepth 100000 in
theorem kI_X8_as : Cond.instanceMethod yX8_as ∈ WSG := mT4 162 rfl rfl
set_option maxRecDepth 100000 in
theorem kS_X8_as : Cond.selects RX8 yX8_as yX8_as ∈ WSG := mT4 163 rfl rfl
set_option maxRecDepth 100000 in
theorem kM_L_42 : Cond.methodLink RL 42 yX7_of ∈ WSG := mT2 75 rfl rfl
set_option maxRecDepth 100000 in
theorem kI_X7_of : Cond.instanceMethod yX7_of ∈ WSG := mT2 76 rfl rfl
set_option maxRecDepth 100000 in
theorem kS_X7_of : Cond.selects RX7 yX7_of yX7_of ∈ WSG := mT2 77 rfl rfl
set_option maxRecDepth 100000 in
theorem kM_L_45 : Cond.methodLink RL 45 yX8_of ∈ WSG := mT4 169 rfl rfl
set_option maxRecDepth 100000 in
theorem kI_X8_of : Cond.instanceMethod yX8_of ∈ WSG := mT4 170 rfl rfl
set_option maxRecDepth 100000 in
theorem kS_X8_of : Cond.selects RX8 yX8_of yX8_of ∈ WSG := mT4 171 rfl rfl
set_option maxRecDepth 100000 in
theorem kM_L_46 : Cond.methodLink RL 46 yX7_at ∈ WSG := mT2 84 rfl rfl
set_option maxRecDepth 100000 in
theorem kI_X7_at : Cond.instanceMethod yX7_at ∈ WSG := mT2 85 rfl rfl
set_option maxRecDepth 100000 in
theorem kS_X7_at : Cond.selects RX7 yX7_at yX7_at ∈ WSG := mT2 86 rfl rfl
set_option maxRecDepth 100000 in
theorem kM_L_49 : Cond.methodLink RL 49 yX8_at ∈ WSG := mT4 177 rfl rfl
set_option maxRecDepth 100000 in
theorem kI_X8_at : Cond.instanceMethod yX8_at ∈ WSG := mT4 178 rfl rfl
set_option maxRecDepth 100000 in
theorem kS_X8_at : Cond.selects RX8 yX8_at yX8_at ∈ WSG := mT4 179 rfl rfl
set_option maxRecDepth 100000 in
theorem kM_L_50 : Cond.methodLink RL 50 yX7_may ∈ WSG := mT2 96 rfl rfl
set_option maxRecDepth 100000 in
theorem kI_X7_may : Cond.instanceMethod yX7_may ∈ WSG := mT2 97 rfl rfl
set_option maxRecDepth 100000 in
theorem kS_X7_may : Cond.selects RX7 yX7_may yX7_may ∈ WSG := mT2 98 rfl rfl
set_option maxRecDepth 100000 in
theorem kM_L_53 : Cond.methodLink RL 53 yX8_may ∈ WSG := mT4 185 rfl rfl
set_option maxRecDepth 100000 in
theorem kI_X8_may : Cond.instanceMethod yX8_may ∈ WSG := mT4 186 rfl rfl
set_option maxRecDepth 100000 in
theorem kS_X8_may : Cond.selects RX8 yX8_may yX8_may ∈ WSG := mT4 187 rfl rfl
set_option maxRecDepth 100000 in
theorem kM_L_54 : Cond.methodLink RL 54 yX7_comes ∈ WSG := mT2 129 rfl rfl
set_option maxRecDepth 100000 in
theorem kI_X7_comes : Cond.instanceMethod yX7_comes ∈ WSG := mT2 130 rfl rfl
set_option maxRecDepth 100000 in
theorem kS_X7_comes : Cond.selects RX7 yX7_comes yX7_comes ∈ WSG := mT2 131 rfl rfl
set_option maxRecDepth 100000 in
theorem kM_L_57 : Cond.methodLink RL 57 yX8_comes ∈ WSG := mT4 202 rfl rfl
set_option maxRecDepth 100000 in
theorem kI_X8_comes : Cond.instanceMethod yX8_comes ∈ WSG := mT4 203 rfl rfl
set_option maxRecDepth 100000 in
theorem kS_X8_comes : Cond.selects RX8 yX8_comes yX8_comes ∈ WSG := mT4 204 rfl rfl
set_option maxRecDepth 100000 in
theorem kM_L_58 : Cond.methodLink RL 58 yX7_between ∈ WSG := mT2 143 rfl rfl
set_option maxRecDepth 100000 in
theorem kI_X7_between : Cond.instanceMethod yX7_between ∈ WSG := mT2 144 rfl rfl
set_option maxRecDepth 100000 in
theorem kS_X7_between : Cond.selects RX7 yX7_between yX7_between ∈ WSG := mT2 145 rfl rfl
set_option maxRecDepth 100000 in
theorem kM_L_61 : Cond.methodLink RL 61 yX8_between ∈ WSG := mT4 210 rfl rfl
set_option maxRecDepth 100000 in
theorem kI_X8_between : Cond.instanceMethod yX8_between ∈ WSG := mT4 211 rfl rfl
set_option maxRecDepth 100000 in
theorem kS_X8_between : Cond.selects RX8 yX8_between yX8_between ∈ WSG := mT4 212 rfl rfl
set_option maxRecDepth 100000 in
theorem kM_L_62 : Cond.methodLink RL 62 yX7_goes ∈ WSG := mT2 163 rfl rfl
set_option maxRecDepth 100000 in
theorem kI_X7_goes : Cond.instanceMethod yX7_goes ∈ WSG := mT2 164 rfl rfl
set_option maxRecDepth 100000 in
theorem kS_X7_goes : Cond.selects RX7 yX7_goes yX7_goes ∈ WSG := mT2 165 rfl rfl
set_option maxRecDepth 100000 in
theorem kM_L_65 : Cond.methodLink RL 65 yX8_goes ∈ WSG := mT4 218 rfl rfl
set_option maxRecDepth 100000 in
theorem kI_X8_goes : Cond.instanceMethod yX8_goes ∈ WSG := mT4 219 rfl rfl
set_option maxRecDepth 100000 in
theorem kS_X8_goes : Cond.selects RX8 yX8_goes yX8_goes ∈ WSG := mT4 220 rfl rfl
set_option maxRecDepth 100000 in
theorem kM_L_66 : Cond.methodLink RL 66 yX7_fault ∈ WSG := mT2 173 rfl rfl
set_option maxRecDepth 100000 in
theorem kI_X7_fault : Cond.instanceMethod yX7_fault ∈ WSG := mT2 174 rfl rfl
set_option maxRecDepth 100000 in
theorem kS_X7_fault : Cond.selects RX7 yX7_fault yX7_fault ∈ WSG := mT2 175 rfl rfl
set_option maxRecDepth 100000 in
theorem kM_L_69 : Cond.methodLink RL 69 yX8_fault ∈ WSG := mT4 226 rfl rfl
set_option maxRecDepth 100000 in
theorem kI_X8_fault : Cond.instanceMethod yX8_fault ∈ WSG := mT4 227 rfl rfl
set_option maxRecDepth 100000 in
theorem kS_X8_fault : Cond.selects RX8 yX8_fault yX8_fault ∈ WSG := mT4 228 rfl rfl
set_option maxRecDepth 100000 in
theorem kM_L_70 : Cond.methodLink RL 70 yX7_pairs ∈ WSG := mT2 181 rfl rfl
set_option maxRecDepth 100000 in
theorem kI_X7_pairs : Cond.instanceMethod yX7_pairs ∈ WSG := mT2 182 rfl rfl
set_option maxRecDepth 100000 in
theorem kS_X7_pairs : Cond.selects RX7 yX7_pairs yX7_pairs ∈ WSG := mT2 183 rfl rfl
set_option maxRecDepth 100000 in
theorem kM_L_74 : Cond.methodLink RL 74 yX8_pairs ∈ WSG := mT4 230 rfl rfl
set_option maxRecDepth 100000 in
theorem kI_X8_pairs : Cond.instanceMethod yX8_pairs ∈ WSG := mT4 231 rfl rfl
set_option maxRecDepth 100000 in
theorem kS_X8_pairs : Cond.selects RX8 yX8_pairs yX8_pairs ∈ WSG := mT4 232 rfl rfl
set_option maxRecDepth 100000 in
theorem kM_L_75 : Cond.methodLink RL 75 yX7_offer ∈ WSG := mT2 205 rfl rfl
set_option maxRecDepth 100000 in
theorem kI_X7_offer : Cond.instanceMethod yX7_offer ∈ WSG := mT2 206 rfl rfl
set_option maxRecDepth 100000 in
theorem kS_X7_offer : Cond.selects RX7 yX7_offer yX7_offer ∈ WSG := mT2 207 rfl rfl
set_option maxRecDepth 100000 in
theorem kM_L_78 : Cond.methodLink RL 78 yX8_offer ∈ WSG := mT4 238 rfl rfl
set_option maxRecDepth 100000 in
theorem kI_X8_offer : Cond.instanceMethod yX8_offer ∈ WSG := mT4 239 rfl rfl
set_option maxRecDepth 100000 in
theorem kS_X8_offer : Cond.selects RX8 yX8_offer yX8_offer ∈ WSG := mT5 0 rfl rfl
set_option maxRecDepth 100000 in
theorem kM_L_79 : Cond.methodLink RL 79 yX7_plan ∈ WSG := mT2 218 rfl rfl
set_option maxRecDepth 100000 in
theorem kI_X7_plan : Cond.instanceMethod yX7_plan ∈ WSG := mT2 219 rfl rfl
set_option maxRecDepth 100000 in
theorem kS_X7_plan : Cond.selects RX7 yX7_plan yX7_plan ∈ WSG := mT2 220 rfl rfl
set_option maxRecDepth 100000 in
theorem kM_L_82 : Cond.methodLink RL 82 yX8_plan ∈ WSG := mT5 3 rfl rfl
set_option maxRecDepth 100000 in
theorem kI_X8_plan : Cond.instanceMethod yX8_plan ∈ WSG := mT5 4 rfl rfl
set_option maxRecDepth 100000 in
theorem kS_X8_plan : Cond.selects RX8 yX8_plan yX8_plan ∈ WSG := mT5 5 rfl rfl
set_option maxRecDepth 100000 in
theorem kM_L_83 : Cond.methodLink RL 83 yX7_lies ∈ WSG := mT3 49 rfl rfl
set_option maxRecDepth 100000 in
theorem kI_X7_lies : Cond.instanceMethod yX7_lies ∈ WSG := mT3 50 rfl rfl
set_option maxRecDepth 100000 in
theorem kS_X7_lies : Cond.selects RX7 yX7_lies yX7_lies ∈ WSG := mT3 51 rfl rfl
set_option maxRecDepth 100000 in
theorem kM_L_87 : Cond.methodLink RL 87 yX8_lies ∈ WSG := mT5 28 rfl rfl
set_option maxRecDepth 100000 in
theorem kI_X8_lies : Cond.instanceMethod yX8_lies ∈ WSG := mT5 29 rfl rfl
set_option maxRecDepth 100000 in
theorem kS_X8_lies : Cond.selects RX8 yX8_lies yX8_lies ∈ WSG := mT5 30 rfl rfl
set_option maxRecDepth 100000 in
theorem kM_L_88 : Cond.methodLink RL 88 yX7_lay ∈ WSG := mT3 67 rfl rfl
set_option maxRecDepth 100000 in
theorem kI_X7_lay : Cond.instanceMethod yX7_lay ∈ WSG := mT3 68 rfl rfl
set_option maxRecDepth 100000 in
theorem kS_X7_lay : Cond.selects RX7 yX7_lay yX7_lay ∈ WSG := mT3 69 rfl rfl
set_option maxRecDepth 100000 in
theorem kM_L_91 : Cond.methodLink RL 91 yX8_lay ∈ WSG := mT5 32 rfl rfl
set_option maxRecDepth 100000 in
theorem kI_X8_lay : Cond.instanceMethod yX8_lay ∈ WSG := mT5 33 rfl rfl
set_option maxRecDepth 100000 in
theorem kS_X8_lay : Cond.selects RX8 yX8_lay yX8_lay ∈ WSG := mT5 34 rfl rfl
set_option maxRecDepth 100000 in
theorem kM_L_92 : Cond.methodLink RL 92 yX7_tide ∈ WSG := mT3 76 rfl rfl
set_option maxRecDepth 100000 in
theorem kI_X7_tide : Cond.instanceMethod yX7_tide ∈ WSG := mT3 77 rfl rfl
set_option maxRecDepth 100000 in
theorem kS_X7_tide : Cond.selects RX7 yX7_tide yX7_tide ∈ WSG := mT3 78 rfl rfl
set_option maxRecDepth 100000 in
theorem kM_L_95 : Cond.methodLink RL 95 yX8_tide ∈ WSG := mT5 36 rfl rfl
set_option maxRecDepth 100000 in
theorem kI_X8_tide : Cond.instanceMethod yX8_tide ∈ WSG := mT5 37 rfl rfl
set_option maxRecDepth 100000 in
theorem kS_X8_tide : Cond.selects RX8 yX8_tide yX8_tide ∈ WSG := mT5 38 rfl rfl
set_option maxRecDepth 100000 in
theorem kM_L_96 : Cond.methodLink RL 96 yX7_run ∈ WSG := mT3 80 rfl rfl
set_option maxRecDepth 100000 in
theorem kI_X7_run : Cond.instanceMethod yX7_run ∈ WSG := mT3 81 rfl rfl
set_option maxRecDepth 100000 in
theorem kS_X7_run : Cond.selects RX7 yX7_run yX7_run ∈ WSG := mT3 82 rfl rfl
set_option maxRecDepth 100000 in
theorem kM_L_99 : Cond.methodLink RL 99 yX8_run ∈ WSG := mT5 40 rfl rfl
set_option maxRecDepth 100000 in
theorem kI_X8_run : Cond.instanceMethod yX8_run ∈ WSG := mT5 41 rfl rfl
set_option maxRecDepth 100000 in
theorem kS_X8_run : Cond.selects RX8 yX8_run yX8_run ∈ WSG := mT5 42 rfl rfl
set_option maxRecDepth 100000 in
theorem kM_L_100 : Cond.methodLink RL 100 yX7_could ∈ WSG := mT3 110 rfl rfl
set_option maxRecDepth 100000 in
theorem kI_X7_could : Cond.instanceMethod yX7_could ∈ WSG := mT3 111 rfl rfl
set_option maxRecDepth 100000 in
theorem kS_X7_could : Cond.selects RX7 yX7_could yX7_could ∈ WSG := mT3 112 rfl rfl
set_option maxRecDepth 100000 in
theorem kM_L_103 : Cond.methodLink RL 103 yX8_could ∈ WSG := mT5 56 rfl rfl
set_option maxRecDepth 100000 in
theorem kI_X8_could : Cond.instanceMethod yX8_could ∈ WSG := mT5 57 rfl rfl
set_option maxRecDepth 100000 in
theorem kS_X8_could : Cond.selects RX8 yX8_could yX8_could ∈ WSG := mT5 58 rfl rfl
set_option maxRecDepth 100000 in
theorem kJ_L_104 : Cond.constantLong RL 104 (4294967295) ∈ WSG := mT5 109 rfl rfl
set_option maxRecDepth 100000 in
theorem kM_L_106 : Cond.methodLink RL 106 yX7_feed ∈ WSG := mT3 115 rfl rfl
set_option maxRecDepth 100000 in
theorem kI_X7_feed : Cond.instanceMethod yX7_feed ∈ WSG := mT3 116 rfl rfl
set_option maxRecDepth 100000 in
theorem kS_X7_feed : Cond.selects RX7 yX7_feed yX7_feed ∈ WSG := mT3 117 rfl rfl
set_option maxRecDepth 100000 in
theorem kM_L_110 : Cond.methodLink RL 110 yX8_feed ∈ WSG := mT5 60 rfl rfl
set_option maxRecDepth 100000 in
theorem kI_X8_feed : Cond.instanceMethod yX8_feed ∈ WSG := mT5 61 rfl rfl
set_option maxRecDepth 100000 in
theorem kS_X8_feed : Cond.selects RX8 yX8_feed yX8_feed ∈ WSG := mT5 62 rfl rfl
set_option maxRecDepth 100000 in
theorem kM_L_111 : Cond.methodLink RL 111 yX7_text ∈ WSG := mT3 126 rfl rfl
set_option maxRecDepth 100000 in
theorem kI_X7_text : Cond.instanceMethod yX7_text ∈ WSG := mT3 127 rfl rfl
set_option maxRecDepth 100000 in
theorem kS_X7_text : Cond.selects RX7 yX7_text yX7_text ∈ WSG := mT3 128 rfl rfl
set_option maxRecDepth 100000 in
theorem kM_L_115 : Cond.methodLink RL 115 yX8_text ∈ WSG := mT5 65 rfl rfl
set_option maxRecDepth 100000 in
theorem kI_X8_text : Cond.instanceMethod yX8_text ∈ WSG := mT5 66 rfl rfl
set_option maxRecDepth 100000 in
theorem kS_X8_text : Cond.selects RX8 yX8_text yX8_text ∈ WSG := mT5 67 rfl rfl
set_option maxRecDepth 100000 in
theorem kM_L_116 : Cond.methodLink RL 116 yX7_due ∈ WSG := mT3 149 rfl rfl
set_option maxRecDepth 100000 in
theorem kI_X7_due : Cond.instanceMethod yX7_due ∈ WSG := mT3 150 rfl rfl
set_option maxRecDepth 100000 in
theorem kS_X7_due : Cond.selects RX7 yX7_due yX7_due ∈ WSG := mT3 151 rfl rfl
set_option maxRecDepth 100000 in
theorem kM_L_119 : Cond.methodLink RL 119 yX8_due ∈ WSG := mT5 81 rfl rfl
set_option maxRecDepth 100000 in
theorem kI_X8_due : Cond.instanceMethod yX8_due ∈ WSG := mT5 82 rfl rfl
set_option maxRecDepth 100000 in
theorem kS_X8_due : Cond.selects RX8 yX8_due yX8_due ∈ WSG := mT5 83 rfl rfl
set_option maxRecDepth 100000 in
theorem kM_L_120 : Cond.methodLink RL 120 yX7_sheet ∈ WSG := mT3 159 rfl rfl
set_option maxRecDepth 100000 in
theorem kI_X7_sheet : Cond.instanceMethod yX7_sheet ∈ WSG := mT3 160 rfl rfl
set_option maxRecDepth 100000 in
theorem kS_X7_sheet : Cond.selects RX7 yX7_sheet yX7_sheet ∈ WSG := mT3 161 rfl rfl
set_option maxRecDepth 100000 in
theorem kM_L_123 : Cond.methodLink RL 123 yX8_sheet ∈ WSG := mT5 85 rfl rfl
set_option maxRecDepth 100000 in
theorem kI_X8_sheet : Cond.instanceMethod yX8_sheet ∈ WSG := mT5 86 rfl rfl
set_option maxRecDepth 100000 in
theorem kS_X8_sheet : Cond.selects RX8 yX8_sheet yX8_sheet ∈ WSG := mT5 87 rfl rfl
set_option maxRecDepth 100000 in
theorem kM_L_124 : Cond.methodLink RL 124 yX7_write ∈ WSG := mT3 176 rfl rfl
set_option maxRecDepth 100000 in
theorem kI_X7_write : Cond.instanceMethod yX7_write ∈ WSG := mT3 177 rfl rfl
set_option maxRecDepth 100000 in
theorem kS_X7_write : Cond.selects RX7 yX7_write yX7_write ∈ WSG := mT3 178 rfl rfl
set_option maxRecDepth 100000 in
theorem kM_L_127 : Cond.methodLink RL 127 yX8_write ∈ WSG := mT5 92 rfl rfl
set_option maxRecDepth 100000 in
theorem kI_X8_write : Cond.instanceMethod yX8_write ∈ WSG := mT5 93 rfl rfl
set_option maxRecDepth 100000 in
theorem kS_X8_write : Cond.selects RX8 yX8_write yX8_write ∈ WSG := mT5 94 rfl rfl
set_option maxRecDepth 100000 in
theorem kM_L_128 : Cond.methodLink RL 128 yX7_copy ∈ WSG := mT3 201 rfl rfl
set_option maxRecDepth 100000 in
theorem kI_X7_copy : Cond.instanceMethod yX7_copy ∈ WSG := mT3 202 rfl rfl
set_option maxRecDepth 100000 in
theorem kS_X7_copy : Cond.selects RX7 yX7_copy yX7_copy ∈ WSG := mT3 203 rfl rfl
set_option maxRecDepth 100000 in
theorem kM_L_132 : Cond.methodLink RL 132 yX8_copy ∈ WSG := mT5 97 rfl rfl
set_option maxRecDepth 100000 in
theorem kI_X8_copy : Cond.instanceMethod yX8_copy ∈ WSG := mT5 98 rfl rfl
set_option maxRecDepth 100000 in
theorem kS_X8_copy : Cond.selects RX8 yX8_copy yX8_copy ∈ WSG := mT5 99 rfl rfl
set_option maxRecDepth 100000 in
theorem kM_L_133 : Cond.methodLink RL 133 yX7_read ∈ WSG := mT3 208 rfl rfl
set_option maxRecDepth 100000 in
theorem kI_X7_read : Cond.instanceMethod yX7_read ∈ WSG := mT3 209 rfl rfl
set_option maxRecDepth 100000 in
theorem kS_X7_read : Cond.selects RX7 yX7_read yX7_read ∈ WSG := mT3 210 rfl rfl
set_option maxRecDepth 100000 in
theorem kM_L_136 : Cond.methodLink RL 136 yX8_read ∈ WSG := mT5 101 rfl rfl
set_option maxRecDepth 100000 in
theorem kI_X8_read : Cond.instanceMethod yX8_read ∈ WSG := mT5 102 rfl rfl
set_option maxRecDepth 100000 in
theorem kS_X8_read : Cond.selects RX8 yX8_read yX8_read ∈ WSG := mT5 103 rfl rfl
set_option maxRecDepth 100000 in
theorem kM_L_137 : Cond.methodLink RL 137 yX7_told ∈ WSG := mT3 213 rfl rfl
set_option maxRecDepth 100000 in
theorem kI_X7_told : Cond.instanceMethod yX7_told ∈ WSG := mT3 214 rfl rfl
set_option maxRecDepth 100000 in
theorem kS_X7_told : Cond.selects RX7 yX7_told yX7_told ∈ WSG := mT3 215 rfl rfl
set_option maxRecDepth 100000 in
theorem kM_L_140 : Cond.methodLink RL 140 yX8_told ∈ WSG := mT5 105 rfl rfl
set_option maxRecDepth 100000 in
theorem kI_X8_told : Cond.instanceMethod yX8_told ∈ WSG := mT5 106 rfl rfl
set_option maxRecDepth 100000 in
theorem kS_X8_told : Cond.selects RX8 yX8_told yX8_told ∈ WSG := mT5 107 rfl rfl
set_option maxRecDepth 100000 in
theorem kY_0_0 : u_lay RX0 TX0 0 ∈ WSG := mT1 202 rfl rfl
set_option maxRecDepth 100000 in
theorem kY_0_1 : u_lay RX0 TX0 1 ∈ WSG := mT1 204 rfl rfl
set_option maxRecDepth 100000 in
theorem kY_0_2 : u_lay RX0 TX0 2 ∈ WSG := mT1 206 rfl rfl
set_option maxRecDepth 100000 in
theorem kY_0_3 : u_lay RX0 TX0 3 ∈ WSG := mT1 208 rfl rfl
set_option maxRecDepth 100000 in
theorem kY_1_0 : u_lay RX1 TX1 0 ∈ WSG := mT2 19 rfl rfl
set_option maxRecDepth 100000 in
theorem kY_1_1 : u_lay RX1 TX1 1 ∈ WSG := mT2 21 rfl rfl
set_option maxRecDepth 100000 in
theorem kY_1_2 : u_lay RX1 TX1 2 ∈ WSG := mT2 23 rfl rfl
set_option maxRecDepth 100000 in
theorem kY_1_3 : u_lay RX1 TX1 3 ∈ WSG := mT2 25 rfl rfl
set_option maxRecDepth 100000 in
theorem kY_1_4 : u_lay RX1 TX1 4 ∈ WSG := mT2 27 rfl rfl
set_option maxRecDepth 100000 in
theorem kY_1_5 : u_lay RX1 TX1 5 ∈ WSG := mT2 29 rfl rfl
set_option maxRecDepth 100000 in
theorem kY_1_6 : u_lay RX1 TX1 6 ∈ WSG := mT2 31 rfl rfl
set_option maxRecDepth 100000 in
theorem kY_1_7 : u_lay RX1 TX1 7 ∈ WSG := mT2 33 rfl rfl
set_option maxRecDepth 100000 in
theorem kY_1_8 : u_lay RX1 TX1 8 ∈ WSG := mT2 35 rfl rfl
set_option maxRecDepth 100000 in
theorem kY_1_9 : u_lay RX1 TX1 9 ∈ WSG := mT2 37 rfl rfl
set_option maxRecDepth 100000 in
theorem kY_1_10 : u_lay RX1 TX1 10 ∈ WSG := mT2 39 rfl rfl
set_option maxRecDepth 100000 in
theorem kY_1_11 : u_lay RX1 TX1 11 ∈ WSG := mT2 41 rfl rfl
set_option maxRecDepth 100000 in
theorem kY_2_0 : u_lay RX2 TX2 0 ∈ WSG := mT1 70 rfl rfl
set_option maxRecDepth 100000 in
theorem kY_2_1 : u_lay RX2 TX2 1 ∈ WSG := mT1 72 rfl rfl
set_option maxRecDepth 100000 in
theorem kY_3_0 : u_lay RX3 TX3 0 ∈ WSG := mT1 123 rfl rfl
set_option maxRecDepth 100000 in
theorem kY_3_1 : u_lay RX3 TX3 1 ∈ WSG := mT1 125 rfl rfl
set_option maxRecDepth 100000 in
theorem kY_3_2 : u_lay RX3 TX3 2 ∈ WSG := mT1 127 rfl rfl
set_option maxRecDepth 100000 in
theorem kY_3_3 : u_lay RX3 TX3 3 ∈ WSG := mT1 129 rfl rfl
set_option maxRecDepth 100000 in
theorem kY_3_4 : u_lay RX3 TX3 4 ∈ WSG := mT1 131 rfl rfl
set_option maxRecDepth 100000 in
theorem kY_3_5 : u_lay RX3 TX3 5 ∈ WSG := mT1 133 rfl rfl
set_option maxRecDepth 100000 in
theorem kY_4_0 : u_lay RX4 TX4 0 ∈ WSG := mT1 90 rfl rfl
set_option maxRecDepth 100000 in
theorem kY_4_1 : u_lay RX4 TX4 1 ∈ WSG := mT1 92 rfl rfl
set_option maxRecDepth 100000 in
theorem kY_4_2 : u_lay RX4 TX4 2 ∈ WSG := mT1 94 rfl rfl
set_option maxRecDepth 100000 in
theorem kY_4_3 : u_lay RX4 TX4 3 ∈ WSG := mT1 96 rfl rfl
set_option maxRecDepth 100000 in
theorem kY_4_4 : u_lay RX4 TX4 4 ∈ WSG := mT1 98 rfl rfl
set_option maxRecDepth 100000 in
theorem kY_4_5 : u_lay RX4 TX4 5 ∈ WSG := mT1 100 rfl rfl
set_option maxRecDepth 100000 in
theorem kY_4_6 : u_lay RX4 TX4 6 ∈ WSG := mT1 102 rfl rfl
set_option maxRecDepth 100000 in
theorem kY_4_7 : u_lay RX4 TX4 7 ∈ WSG := mT1 104 rfl rfl
set_option maxRecDepth 100000 in
theorem kY_5_0 : u_lay RX5 TX5 0 ∈ WSG := mT1 46 rfl rfl
set_option maxRecDepth 100000 in
theorem kY_5_1 : u_lay RX5 TX5 1 ∈ WSG := mT1 48 rfl rfl
set_option maxRecDepth 100000 in
theorem kY_5_2 : u_lay RX5 TX5 2 ∈ WSG := mT1 50 rfl rfl
set_option maxRecDepth 100000 in
theorem kY_5_3 : u_lay RX5 TX5 3 ∈ WSG := mT1 52 rfl rfl
set_option maxRecDepth 100000 in
theorem kY_5_4 : u_lay RX5 TX5 4 ∈ WSG := mT1 54 rfl rfl
set_option maxRecDepth 100000 in
theorem kY_5_5 : u_lay RX5 TX5 5 ∈ WSG := mT1 56 rfl rfl
set_option maxRecDepth 100000 in
theorem kY_6_0 : u_lay RX6 TX6 0 ∈ WSG := mT1 150 rfl rfl
set_option maxRecDepth 100000 in
theorem kY_6_1 : u_lay RX6 TX6 1 ∈ WSG := mT1 152 rfl rfl
set_option maxRecDepth 100000 in
theorem kY_6_2 : u_lay RX6 TX6 2 ∈ WSG := mT1 154 rfl rfl
set_option maxRecDepth 100000 in
theorem kY_7_0 : u_lay RX7 TX7 0 ∈ WSG := mT1 163 rfl rfl
set_option maxRecDepth 100000 in
theorem kY_7_1 : u_lay RX7 TX7 1 ∈ WSG := mT1 165 rfl rfl
set_option maxRecDepth 100000 in
theorem kY_7_2 : u_lay RX7 TX7 2 ∈ WSG := mT1 167 rfl rfl
set_option maxRecDepth 100000 in
theorem kY_7_3 : u_lay RX7 TX7 3 ∈ WSG := mT1 169 rfl rfl
set_option maxRecDepth 100000 in
theorem kY_7_4 : u_lay RX7 TX7 4 ∈ WSG := mT1 171 rfl rfl
set_option maxRecDepth 100000 in
theorem kY_7_5 : u_lay RX7 TX7 5 ∈ WSG := mT1 173 rfl rfl
set_option maxRecDepth 100000 in
theorem kY_8_0 : u_lay RX8 TX8 0 ∈ WSG := mT4 33 rfl rfl
set_option maxRecDepth 100000 in
theorem kY_8_1 : u_lay RX8 TX8 1 ∈ WSG := mT4 35 rfl rfl
set_option maxRecDepth 100000 in
theorem kY_8_2 : u_lay RX8 TX8 2 ∈ WSG := mT4 37 rfl rfl
set_option maxRecDepth 100000 in
theorem kY_8_3 : u_lay RX8 TX8 3 ∈ WSG := mT4 39 rfl rfl
set_option maxRecDepth 100000 in
theorem kY_8_4 : u_lay RX8 TX8 4 ∈ WSG := mT4 41 rfl rfl
set_option maxRecDepth 100000 in
theorem kY_8_5 : u_lay RX8 TX8 5 ∈ WSG := mT4 43 rfl rfl
set_option maxRecDepth 100000 in
theorem kY_8_6 : u_lay RX8 TX8 6 ∈ WSG := mT4 45 rfl rfl
set_option maxRecDepth 100000 in
theorem kY_8_7 : u_lay RX8 TX8 7 ∈ WSG := mT4 47 rfl rfl
set_option maxRecDepth 100000 in
theorem kY_8_8 : u_lay RX8 TX8 8 ∈ WSG := mT4 49 rfl rfl
set_option maxRecDepth 100000 in
theorem kY_8_9 : u_lay RX8 TX8 9 ∈ WSG := mT4 51 rfl rfl
set_option maxRecDepth 100000 in
theorem kY_8_10 : u_lay RX8 TX8 10 ∈ WSG := mT4 53 rfl rfl
set_option maxRecDepth 100000 in
theorem kY_8_11 : u_lay RX8 TX8 11 ∈ WSG := mT4 55 rfl rfl
set_option maxRecDepth 100000 in
theorem kY_8_12 : u_lay RX8 TX8 12 ∈ WSG := mT4 57 rfl rfl
set_option maxRecDepth 100000 in
theorem kY_8_13 : u_lay RX8 TX8 13 ∈ WSG := mT4 59 rfl rfl
set_option maxRecDepth 100000 in
theorem kY_8_14 : u_lay RX8 TX8 14 ∈ WSG := mT4 61 rfl rfl
set_option maxRecDepth 100000 in
theorem kY_8_15 : u_lay RX8 TX8 15 ∈ WSG := mT4 63 rfl rfl
set_option maxRecDepth 100000 in
theorem kY_8_16 : u_lay RX8 TX8 16 ∈ WSG := mT4 65 rfl rfl
set_option maxRecDepth 100000 in
theorem kY_8_17 : u_lay RX8 TX8 17 ∈ WSG := mT4 67 rfl rfl
set_option maxRecDepth 100000 in
theorem kY_8_18 : u_lay RX8 TX8 18 ∈ WSG := mT4 69 rfl rfl
set_option maxRecDepth 100000 in
theorem kY_8_19 : u_lay RX8 TX8 19 ∈ WSG := mT4 71 rfl rfl
set_option maxRecDepth 100000 in
theorem kY_8_20 : u_lay RX8 TX8 20 ∈ WSG := mT4 73 rfl rfl
set_option maxRecDepth 100000 in
theorem kY_8_21 : u_lay RX8 TX8 21 ∈ WSG := mT4 75 rfl rfl
set_option maxRecDepth 100000 in
theorem kY_8_22 : u_lay RX8 TX8 22 ∈ WSG := mT4 77 rfl rfl
set_option maxRecDepth 100000 in
theorem kY_8_23 : u_lay RX8 TX8 23 ∈ WSG := mT4 79 rfl rfl
set_option maxRecDepth 100000 in
theorem kY_8_24 : u_lay RX8 TX8 24 ∈ WSG := mT4 81 rfl rfl
set_option maxRecDepth 100000 in
theorem kY_8_25 : u_lay RX8 TX8 25 ∈ WSG := mT4 83 rfl rfl
set_option maxRecDepth 100000 in
theorem kY_8_26 : u_lay RX8 TX8 26 ∈ WSG := mT4 85 rfl rfl
set_option maxRecDepth 100000 in
theorem kY_8_27 : u_lay RX8 TX8 27 ∈ WSG := mT4 87 rfl rfl
set_option maxRecDepth 100000 in
theorem kY_8_28 : u_lay RX8 TX8 28 ∈ WSG := mT4 89 rfl rfl
set_option maxRecDepth 100000 in
theorem kY_8_29 : u_lay RX8 TX8 29 ∈ WSG := mT4 91 rfl rfl
set_option maxRecDepth 100000 in
theorem kY_8_30 : u_lay RX8 TX8 30 ∈ WSG := mT4 93 rfl rfl
set_option maxRecDepth 100000 in
theorem kY_8_31 : u_lay RX8 TX8 31 ∈ WSG := mT4 95 rfl rfl
set_option maxRecDepth 100000 in
theorem kY_8_32 : u_lay RX8 TX8 32 ∈ WSG := mT4 97 rfl rfl
set_option maxRecDepth 100000 in
theorem kY_8_33 : u_lay RX8 TX8 33 ∈ WSG := mT4 99 rfl rfl
set_option maxRecDepth 100000 in
theorem kY_8_34 : u_lay RX8 TX8 34 ∈ WSG := mT4 101 rfl rfl
set_option maxRecDepth 100000 in
theorem kY_8_35 : u_lay RX8 TX8 35 ∈ WSG := mT4 103 rfl rfl
set_option maxRecDepth 100000 in
theorem kY_8_36 : u_lay RX8 TX8 36 ∈ WSG := mT4 105 rfl rfl
set_option maxRecDepth 100000 in
theorem kY_8_37 : u_lay RX8 TX8 37 ∈ WSG := mT4 107 rfl rfl
set_option maxRecDepth 100000 in
theorem kY_8_38 : u_lay RX8 TX8 38 ∈ WSG := mT4 109 rfl rfl
set_option maxRecDepth 100000 in
theorem kY_8_39 : u_lay RX8 TX8 39 ∈ WSG := mT4 111 rfl rfl
set_option maxRecDepth 100000 in
theorem kY_8_40 : u_lay RX8 TX8 40 ∈ WSG := mT4 113 rfl rfl
set_option maxRecDepth 100000 in
theorem kY_8_41 : u_lay RX8 TX8 41 ∈ WSG := mT4 115 rfl rfl
set_option maxRecDepth 100000 in
theorem kY_8_42 : u_lay RX8 TX8 42 ∈ WSG := mT4 117 rfl rfl
set_option maxRecDepth 100000 in
theorem kY_8_43 : u_lay RX8 TX8 43 ∈ WSG := mT4 119 rfl rfl
set_option maxRecDepth 100000 in
theorem kY_8_44 : u_lay RX8 TX8 44 ∈ WSG := mT4 121 rfl rfl
theorem clX0 : ClF 0 RX0 TX0 4 tyX0 := by
  refine ⟨rfl, fun w hw => ?_, tyX0_ok, nmX0, rfl, by decide⟩
  obtain ⟨k, hk, rfl⟩ := List.mem_map.mp hw
  match k, List.mem_range.mp hk with
    | 0, _ => exact kY_0_0
    | 1, _ => exact kY_0_1
    | 2, _ => exact kY_0_2
    | 3, _ => exact kY_0_3
    | k + 4, h => exact absurd h (by omega)
theorem clX1 : ClF 1 RX1 TX1 12 tyX1 := by
  refine ⟨rfl, fun w hw => ?_, tyX1_ok, nmX1, rfl, by decide⟩
  obtain ⟨k, hk, rfl⟩ := List.mem_map.mp hw
  match k, List.mem_range.mp hk with
    | 0, _ => exact kY_1_0
    | 1, _ => exact kY_1_1
    | 2, _ => exact kY_1_2
    | 3, _ => exact kY_1_3
    | 4, _ => exact kY_1_4
    | 5, _ => exact kY_1_5
    | 6, _ => exact kY_1_6
    | 7, _ => exact kY_1_7
    | 8, _ => exact kY_1_8
    | 9, _ => exact kY_1_9
    | 10, _ => exact kY_1_10
    | 11, _ => exact kY_1_11
    | k + 12, h => exact absurd h (by omega)
theorem clX2 : ClF 2 RX2 TX2 2 tyX2 := by
  refine ⟨rfl, fun w hw => ?_, tyX2_ok, nmX2, rfl, by decide⟩
  obtain ⟨k, hk, rfl⟩ := List.mem_map.mp hw
  match k, List.mem_range.mp hk with
    | 0, _ => exact kY_2_0
    | 1, _ => exact kY_2_1
    | k + 2, h => exact absurd h (by omega)
theorem clX3 : ClF 3 RX3 TX3 6 tyX3 := by
  refine ⟨rfl, fun w hw => ?_, tyX3_ok, nmX3, rfl, by decide⟩
  obtain ⟨k, hk, rfl⟩ := List.mem_map.mp hw
  match k, List.mem_range.mp hk with
    | 0, _ => exact kY_3_0
    | 1, _ => exact kY_3_1
    | 2, _ => exact kY_3_2
    | 3, _ => exact kY_3_3
    | 4, _ => exact kY_3_4
    | 5, _ => exact kY_3_5
    | k + 6, h => exact absurd h (by omega)
theorem clX4 : ClF 4 RX4 TX4 8 tyX4 := by
  refine ⟨rfl, fun w hw => ?_, tyX4_ok, nmX4, rfl, by decide⟩
  obtain ⟨k, hk, rfl⟩ := List.mem_map.mp hw
  match k, List.mem_range.mp hk with
    | 0, _ => exact kY_4_0
    | 1, _ => exact kY_4_1
    | 2, _ => exact kY_4_2
    | 3, _ => exact kY_4_3
    | 4, _ => exact kY_4_4
    | 5, _ => exact kY_4_5
    | 6, _ => exact kY_4_6
    | 7, _ => exact kY_4_7
    | k + 8, h => exact absurd h (by omega)
theorem clX5 : ClF 5 RX5 TX5 6 tyX5 := by
  refine ⟨rfl, fun w hw => ?_, tyX5_ok, nmX5, rfl, by decide⟩
  obtain ⟨k, hk, rfl⟩ := List.mem_map.mp hw
  match k, List.mem_range.mp hk with
    | 0, _ => exact kY_5_0
    | 1, _ => exact kY_5_1
    | 2, _ => exact kY_5_2
    | 3, _ => exact kY_5_3
    | 4, _ => exact kY_5_4
    | 5, _ => exact kY_5_5
    | k + 6, h => exact absurd h (by omega)
theorem clX6 : ClF 6 RX6 TX6 3 tyX6 := by
  refine ⟨rfl, fun w hw => ?_, tyX6_ok, nmX6, rfl, by decide⟩
  obtain ⟨k, hk, rfl⟩ := List.mem_map.mp hw
  match k, List.mem_range.mp hk with
    | 0, _ => exact kY_6_0
    | 1, _ => exact kY_6_1
    | 2, _ => exact kY_6_2
    | k + 3, h => exact absurd h (by omega)
theorem clX7 : ClF 7 RX7 TX7 6 tyX7 := by
  refine ⟨rfl, fun w hw => ?_, tyX7_ok, nmX7, rfl, by decide⟩
  obtain ⟨k, hk, rfl⟩ := List.mem_map.mp hw
  match k, List.mem_range.mp hk with
    | 0, _ => exact kY_7_0
    | 1, _ => exact kY_7_1
    | 2, _ => exact kY_7_2
    | 3, _ => exact kY_7_3
    | 4, _ => exact kY_7_4
    | 5, _ => exact kY_7_5
    | k + 6, h => exact absurd h (by omega)
theorem clX8 : ClF 8 RX8 TX8 45 tyX8 := by
  refine ⟨rfl, fun w hw => ?_, tyX8_ok, nmX8, rfl, by decide⟩
  obtain ⟨k, hk, rfl⟩ := List.mem_map.mp hw
  match k, List.mem_range.mp hk with
    | 0, _ => exact kY_8_0
    | 1, _ => exact kY_8_1
    | 2, _ => exact kY_8_2
    | 3, _ => exact kY_8_3
    | 4, _ => exact kY_8_4
    | 5, _ => exact kY_8_5
    | 6, _ => exact kY_8_6
    | 7, _ => exact kY_8_7
    | 8, _ => exact kY_8_8
    | 9, _ => exact kY_8_9
    | 10, _ => exact kY_8_10
    | 11, _ => exact kY_8_11
    | 12, _ => exact kY_8_12
    | 13, _ => exact kY_8_13
    | 14, _ => exact kY_8_14
    | 15, _ => exact kY_8_15
    | 16, _ => exact kY_8_16
    | 17, _ => exact kY_8_17
    | 18, _ => exact kY_8_18
    | 19, _ => exact kY_8_19
    | 20, _ => exact kY_8_20
    | 21, _ => exact kY_8_21
    | 22, _ => exact kY_8_22
    | 23, _ => exact kY_8_23
    | 24, _ => exact kY_8_24
    | 25, _ => exact kY_8_25
    | 26, _ => exact kY_8_26
    | 27, _ => exact kY_8_27
    | 28, _ => exact kY_8_28
    | 29, _ => exact kY_8_29
    | 30, _ => exact kY_8_30
    | 31, _ => exact kY_8_31
    | 32, _ => exact kY_8_32
    | 33, _ => exact kY_8_33
    | 34, _ => exact kY_8_34
    | 35, _ => exact kY_8_35
    | 36, _ => exact kY_8_36
    | 37, _ => exact kY_8_37
    | 38, _ => exact kY_8_38
    | 39, _ => exact kY_8_39
    | 40, _ => exact kY_8_40
    | 41, _ => exact kY_8_41
    | 42, _ => exact kY_8_42
    | 43, _ => exact kY_8_43
    | 44, _ => exact kY_8_44
    | k + 45, h => exact absurd h (by omega)
theorem kQ_X5_23 : (RX5, 23, yX7_isWithin, RX7) ∈ nestL := List.mem_of_getElem? (i := 0) rfl
theorem kQ_X4_103 : (RX4, 103, yX7_isInSet, RX7) ∈ nestL := List.mem_of_getElem? (i := 1) rfl
theorem kQ_X3_25 : (RX3, 25, yX7_isWithin, RX7) ∈ nestL := List.mem_of_getElem? (i := 2) rfl
theorem h0X0 : ∀ k, k < 4 → fty 0 k = 0 := by decide
theorem h1X0 : ∀ k, k < 4 → defaultValue (tyX0 k) = .int 0 := by
  intro k hk
  match k, hk with
    | 0, _ => rfl
    | 1, _ => rfl
    | 2, _ => rfl
    | 3, _ => rfl
    | k + 4, h => exact absurd h (by omega)
theorem h2X0 : ∀ k, ¬ fty 0 k = 2 := by
  intro k
  match k with
    | 0 => decide
    | 1 => decide
    | 2 => decide
    | 3 => decide
    | k + 4 => exact (show ¬ (9 : Nat) = 2 by decide)
theorem h0X1 : ∀ k, k < 12 → fty 1 k = 0 := by decide
theorem h1X1 : ∀ k, k < 12 → defaultValue (tyX1 k) = .int 0 := by
  intro k hk
  match k, hk with
    | 0, _ => rfl
    | 1, _ => rfl
    | 2, _ => rfl
    | 3, _ => rfl
    | 4, _ => rfl
    | 5, _ => rfl
    | 6, _ => rfl
    | 7, _ => rfl
    | 8, _ => rfl
    | 9, _ => rfl
    | 10, _ => rfl
    | 11, _ => rfl
    | k + 12, h => exact absurd h (by omega)
theorem h2X1 : ∀ k, ¬ fty 1 k = 2 := by
  intro k
  match k with
    | 0 => decide
    | 1 => decide
    | 2 => decide
    | 3 => decide
    | 4 => decide
    | 5 => decide
    | 6 => decide
    | 7 => decide
    | 8 => decide
    | 9 => decide
    | 10 => decide
    | 11 => decide
    | k + 12 => exact (show ¬ (9 : Nat) = 2 by decide)
theorem hdX2 : ∀ k, k < 2 → (fty 2 k = 0 ∧ defaultValue (tyX2 k) = .int 0) ∨ (fty 2 k = 1 ∧ defaultValue (tyX2 k) = .long 0) ∨ (fty 2 k = 2 ∧ defaultValue (tyX2 k) = .null) := by
  intro k hk
  match k, hk with
    | 0, _ => exact Or.inl ⟨rfl, rfl⟩
    | 1, _ => exact Or.inl ⟨rfl, rfl⟩
    | k + 2, h => exact absurd h (by omega)
theorem hdX3 : ∀ k, k < 6 → (fty 3 k = 0 ∧ defaultValue (tyX3 k) = .int 0) ∨ (fty 3 k = 1 ∧ defaultValue (tyX3 k) = .long 0) ∨ (fty 3 k = 2 ∧ defaultValue (tyX3 k) = .null) := by
  intro k hk
  match k, hk with
    | 0, _ => exact Or.inr (Or.inr ⟨rfl, rfl⟩)
    | 1, _ => exact Or.inr (Or.inr ⟨rfl, rfl⟩)
    | 2, _ => exact Or.inr (Or.inr ⟨rfl, rfl⟩)
    | 3, _ => exact Or.inr (Or.inr ⟨rfl, rfl⟩)
    | 4, _ => exact Or.inl ⟨rfl, rfl⟩
    | 5, _ => exact Or.inl ⟨rfl, rfl⟩
    | k + 6, h => exact absurd h (by omega)
theorem hdX4 : ∀ k, k < 8 → (fty 4 k = 0 ∧ defaultValue (tyX4 k) = .int 0) ∨ (fty 4 k = 1 ∧ defaultValue (tyX4 k) = .long 0) ∨ (fty 4 k = 2 ∧ defaultValue (tyX4 k) = .null) := by
  intro k hk
  match k, hk with
    | 0, _ => exact Or.inr (Or.inr ⟨rfl, rfl⟩)
    | 1, _ => exact Or.inr (Or.inr ⟨rfl, rfl⟩)
    | 2, _ => exact Or.inr (Or.inr ⟨rfl, rfl⟩)
    | 3, _ => exact Or.inr (Or.inr ⟨rfl, rfl⟩)
    | 4, _ => exact Or.inr (Or.inr ⟨rfl, rfl⟩)
    | 5, _ => exact Or.inr (Or.inr ⟨rfl, rfl⟩)
    | 6, _ => exact Or.inl ⟨rfl, rfl⟩
    | 7, _ => exact Or.inr (Or.inl ⟨rfl, rfl⟩)
    | k + 8, h => exact absurd h (by omega)
theorem hdX5 : ∀ k, k < 6 → (fty 5 k = 0 ∧ defaultValue (tyX5 k) = .int 0) ∨ (fty 5 k = 1 ∧ defaultValue (tyX5 k) = .long 0) ∨ (fty 5 k = 2 ∧ defaultValue (tyX5 k) = .null) := by
  intro k hk
  match k, hk with
    | 0, _ => exact Or.inr (Or.inr ⟨rfl, rfl⟩)
    | 1, _ => exact Or.inr (Or.inr ⟨rfl, rfl⟩)
    | 2, _ => exact Or.inl ⟨rfl, rfl⟩
    | 3, _ => exact Or.inl ⟨rfl, rfl⟩
    | 4, _ => exact Or.inl ⟨rfl, rfl⟩
    | 5, _ => exact Or.inl ⟨rfl, rfl⟩
    | k + 6, h => exact absurd h (by omega)
theorem hdX6 : ∀ k, k < 3 → (fty 6 k = 0 ∧ defaultValue (tyX6 k) = .int 0) ∨ (fty 6 k = 1 ∧ defaultValue (tyX6 k) = .long 0) ∨ (fty 6 k = 2 ∧ defaultValue (tyX6 k) = .null) := by
  intro k hk
  match k, hk with
    | 0, _ => exact Or.inr (Or.inr ⟨rfl, rfl⟩)
    | 1, _ => exact Or.inl ⟨rfl, rfl⟩
    | 2, _ => exact Or.inl ⟨rfl, rfl⟩
    | k + 3, h => exact absurd h (by omega)
theorem hdX7 : ∀ k, k < 6 → (fty 7 k = 0 ∧ defaultValue (tyX7 k) = .int 0) ∨ (fty 7 k = 1 ∧ defaultValue (tyX7 k) = .long 0) ∨ (fty 7 k = 2 ∧ defaultValue (tyX7 k) = .null) := by
  intro k hk
  match k, hk with
    | 0, _ => exact Or.inr (Or.inr ⟨rfl, rfl⟩)
    | 1, _ => exact Or.inr (Or.inr ⟨rfl, rfl⟩)
    | 2, _ => exact Or.inr (Or.inr ⟨rfl, rfl⟩)
    | 3, _ => exact Or.inr (Or.inr ⟨rfl, rfl⟩)
    | 4, _ => exact Or.inr (Or.inr ⟨rfl, rfl⟩)
    | 5, _ => exact Or.inl ⟨rfl, rfl⟩
    | k + 6, h => exact absurd h (by omega)
theorem hdX8 : ∀ k, k < 45 → (fty 8 k = 0 ∧ defaultValue (tyX8 k) = .int 0) ∨ (fty 8 k = 1 ∧ defaultValue (tyX8 k) = .long 0) ∨ (fty 8 k = 2 ∧ defaultValue (tyX8 k) = .null) := by
  intro k hk
  match k, hk with
    | 0, _ => exact Or.inl ⟨rfl, rfl⟩
    | 1, _ => exact Or.inr (Or.inr ⟨rfl, rfl⟩)
    | 2, _ => exact Or.inr (Or.inr ⟨rfl, rfl⟩)
    | 3, _ => exact Or.inr (Or.inr ⟨rfl, rfl⟩)
    | 4, _ => exact Or.inr (Or.inr ⟨rfl, rfl⟩)
    | 5, _ => exact Or.inl ⟨rfl, rfl⟩
    | 6, _ => exact Or.inl ⟨rfl, rfl⟩
    | 7, _ => exact Or.inr (Or.inr ⟨rfl, rfl⟩)
    | 8, _ => exact Or.inr (Or.inr ⟨rfl, rfl⟩)
    | 9, _ => exact Or.inr (Or.inr ⟨rfl, rfl⟩)
    | 10, _ => exact Or.inr (Or.inr ⟨rfl, rfl⟩)
    | 11, _ => exact Or.inr (Or.inr ⟨rfl, rfl⟩)
    | 12, _ => exact Or.inr (Or.inr ⟨rfl, rfl⟩)
    | 13, _ => exact Or.inr (Or.inr ⟨rfl, rfl⟩)
    | 14, _ => exact Or.inr (Or.inr ⟨rfl, rfl⟩)
    | 15, _ => exact Or.inr (Or.inr ⟨rfl, rfl⟩)
    | 16, _ => exact Or.inl ⟨rfl, rfl⟩
    | 17, _ => exact Or.inr (Or.inr ⟨rfl, rfl⟩)
    | 18, _ => exact Or.inr (Or.inr ⟨rfl, rfl⟩)
    | 19, _ => exact Or.inl ⟨rfl, rfl⟩
    | 20, _ => exact Or.inl ⟨rfl, rfl⟩
    | 21, _ => exact Or.inl ⟨rfl, rfl⟩
    | 22, _ => exact Or.inr (Or.inr ⟨rfl, rfl⟩)
    | 23, _ => exact Or.inr (Or.inr ⟨rfl, rfl⟩)
    | 24, _ => exact Or.inr (Or.inr ⟨rfl, rfl⟩)
    | 25, _ => exact Or.inr (Or.inr ⟨rfl, rfl⟩)
    | 26, _ => exact Or.inl ⟨rfl, rfl⟩
    | 27, _ => exact Or.inr (Or.inr ⟨rfl, rfl⟩)
    | 28, _ => exact Or.inr (Or.inr ⟨rfl, rfl⟩)
    | 29, _ => exact Or.inr (Or.inr ⟨rfl, rfl⟩)
    | 30, _ => exact Or.inl ⟨rfl, rfl⟩
    | 31, _ => exact Or.inl ⟨rfl, rfl⟩
    | 32, _ => exact Or.inr (Or.inr ⟨rfl, rfl⟩)
    | 33, _ => exact Or.inr (Or.inr ⟨rfl, rfl⟩)
    | 34, _ => exact Or.inr (Or.inr ⟨rfl, rfl⟩)
    | 35, _ => exact Or.inr (Or.inr ⟨rfl, rfl⟩)
    | 36, _ => exact Or.inr (Or.inr ⟨rfl, rfl⟩)
    | 37, _ => exact Or.inr (Or.inr ⟨rfl, rfl⟩)
    | 38, _ => exact Or.inl ⟨rfl, rfl⟩
    | 39, _ => exact Or.inl ⟨rfl, rfl⟩
    | 40, _ => exact Or.inl ⟨rfl, rfl⟩
    | 41, _ => exact Or.inr (Or.inr ⟨rfl, rfl⟩)
    | 42, _ => exact Or.inr (Or.inr ⟨rfl, rfl⟩)
    | 43, _ => exact Or.inr (Or.inr ⟨rfl, rfl⟩)
    | 44, _ => exact Or.inr (Or.inr ⟨rfl, rfl⟩)
    | k + 45, h => exact absurd h (by omega)
