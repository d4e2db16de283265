theorem dX0_init_0 : decode cX0_init 0 = .ok (.aload_n 0, 1) := by decide +kernel
theorem dX0_init_1 : decode cX0_init 1 = .ok (.invokespecial 1, 3) := by decide +kernel
theorem dX0_init_4 : decode cX0_init 4 = .ok (.aload_n 0, 1) := by decide +kernel
theorem dX0_init_5 : decode cX0_init 5 = .ok (.iload_n 1, 1) := by decide +kernel
theorem dX0_init_6 : decode cX0_init 6 = .ok (.putfield 7, 3) := by decide +kernel
theorem dX0_init_9 : decode cX0_init 9 = .ok (.aload_n 0, 1) := by decide +kernel
theorem dX0_init_10 : decode cX0_init 10 = .ok (.iload_n 2, 1) := by decide +kernel
theorem dX0_init_11 : decode cX0_init 11 = .ok (.putfield 13, 3) := by decide +kernel
theorem dX0_init_14 : decode cX0_init 14 = .ok (.aload_n 0, 1) := by decide +kernel
theorem dX0_init_15 : decode cX0_init 15 = .ok (.iload_n 3, 1) := by decide +kernel
theorem dX0_init_16 : decode cX0_init 16 = .ok (.putfield 16, 3) := by decide +kernel
theorem dX0_init_19 : decode cX0_init 19 = .ok (.aload_n 0, 1) := by decide +kernel
theorem dX0_init_20 : decode cX0_init 20 = .ok (.iload 4, 2) := by decide +kernel
theorem dX0_init_22 : decode cX0_init 22 = .ok (.putfield 19, 3) := by decide +kernel
theorem dX0_init_25 : decode cX0_init 25 = .ok (.return_, 1) := by decide +kernel
theorem dX1_init_0 : decode cX1_init 0 = .ok (.aload_n 0, 1) := by decide +kernel
theorem dX1_init_1 : decode cX1_init 1 = .ok (.invokespecial 3, 3) := by decide +kernel
theorem dX1_init_4 : decode cX1_init 4 = .ok (.aload_n 0, 1) := by decide +kernel
theorem dX1_init_5 : decode cX1_init 5 = .ok (.iload_n 1, 1) := by decide +kernel
theorem dX1_init_6 : decode cX1_init 6 = .ok (.putfield 9, 3) := by decide +kernel
theorem dX1_init_9 : decode cX1_init 9 = .ok (.aload_n 0, 1) := by decide +kernel
theorem dX1_init_10 : decode cX1_init 10 = .ok (.iload_n 2, 1) := by decide +kernel
theorem dX1_init_11 : decode cX1_init 11 = .ok (.putfield 15, 3) := by decide +kernel
theorem dX1_init_14 : decode cX1_init 14 = .ok (.aload_n 0, 1) := by decide +kernel
theorem dX1_init_15 : decode cX1_init 15 = .ok (.iload_n 3, 1) := by decide +kernel
theorem dX1_init_16 : decode cX1_init 16 = .ok (.putfield 18, 3) := by decide +kernel
theorem dX1_init_19 : decode cX1_init 19 = .ok (.aload_n 0, 1) := by decide +kernel
theorem dX1_init_20 : decode cX1_init 20 = .ok (.iload 4, 2) := by decide +kernel
theorem dX1_init_22 : decode cX1_init 22 = .ok (.putfield 21, 3) := by decide +kernel
theorem dX1_init_25 : decode cX1_init 25 = .ok (.aload_n 0, 1) := by decide +kernel
theorem dX1_init_26 : decode cX1_init 26 = .ok (.iload 5, 2) := by decide +kernel
theorem dX1_init_28 : decode cX1_init 28 = .ok (.putfield 24, 3) := by decide +kernel
theorem dX1_init_31 : decode cX1_init 31 = .ok (.aload_n 0, 1) := by decide +kernel
theorem dX1_init_32 : decode cX1_init 32 = .ok (.bipush 23, 2) := by decide +kernel
theorem dX1_init_34 : decode cX1_init 34 = .ok (.putfield 28, 3) := by decide +kernel
theorem dX1_init_37 : decode cX1_init 37 = .ok (.aload_n 0, 1) := by decide +kernel
theorem dX1_init_38 : decode cX1_init 38 = .ok (.ldc 31, 2) := by decide +kernel
theorem dX1_init_40 : decode cX1_init 40 = .ok (.putfield 32, 3) := by decide +kernel
theorem dX1_init_43 : decode cX1_init 43 = .ok (.aload_n 0, 1) := by decide +kernel
theorem dX1_init_44 : decode cX1_init 44 = .ok (.iconst (-1), 1) := by decide +kernel
theorem dX1_init_45 : decode cX1_init 45 = .ok (.putfield 35, 3) := by decide +kernel
theorem dX1_init_48 : decode cX1_init 48 = .ok (.aload_n 0, 1) := by decide +kernel
theorem dX1_init_49 : decode cX1_init 49 = .ok (.iconst (-1), 1) := by decide +kernel
theorem dX1_init_50 : decode cX1_init 50 = .ok (.putfield 38, 3) := by decide +kernel
theorem dX1_init_53 : decode cX1_init 53 = .ok (.return_, 1) := by decide +kernel
theorem dX1_isOfKind_0 : decode cX1_isOfKind 0 = .ok (.aload_n 0, 1) := by decide +kernel
theorem dX1_isOfKind_1 : decode cX1_isOfKind 1 = .ok (.getfield 15, 3) := by decide +kernel
theorem dX1_isOfKind_4 : decode cX1_isOfKind 4 = .ok (.iload_n 1, 1) := by decide +kernel
theorem dX1_isOfKind_5 : decode cX1_isOfKind 5 = .ok (.if_icmp .eq 20, 3) := by decide +kernel
theorem dX1_isOfKind_8 : decode cX1_isOfKind 8 = .ok (.iload_n 1, 1) := by decide +kernel
theorem dX1_isOfKind_9 : decode cX1_isOfKind 9 = .ok (.ifCond .eq 16, 3) := by decide +kernel
theorem dX1_isOfKind_12 : decode cX1_isOfKind 12 = .ok (.aload_n 0, 1) := by decide +kernel
theorem dX1_isOfKind_13 : decode cX1_isOfKind 13 = .ok (.getfield 15, 3) := by decide +kernel
theorem dX1_isOfKind_16 : decode cX1_isOfKind 16 = .ok (.iconst 3, 1) := by decide +kernel
theorem dX1_isOfKind_17 : decode cX1_isOfKind 17 = .ok (.if_icmp .ne 12, 3) := by decide +kernel
theorem dX1_isOfKind_20 : decode cX1_isOfKind 20 = .ok (.iload_n 1, 1) := by decide +kernel
theorem dX1_isOfKind_21 : decode cX1_isOfKind 21 = .ok (.iconst 2, 1) := by decide +kernel
theorem dX1_isOfKind_22 : decode cX1_isOfKind 22 = .ok (.if_icmp .ne 7, 3) := by decide +kernel
theorem dX1_isOfKind_25 : decode cX1_isOfKind 25 = .ok (.iconst 1, 1) := by decide +kernel
theorem dX1_isOfKind_26 : decode cX1_isOfKind 26 = .ok (.goto 4, 3) := by decide +kernel
theorem dX1_isOfKind_29 : decode cX1_isOfKind 29 = .ok (.iconst 0, 1) := by decide +kernel
theorem dX1_isOfKind_30 : decode cX1_isOfKind 30 = .ok (.ireturn, 1) := by decide +kernel
theorem dX1_isLying_0 : decode cX1_isLying 0 = .ok (.aload_n 0, 1) := by decide +kernel
theorem dX1_isLying_1 : decode cX1_isLying 1 = .ok (.getfield 35, 3) := by decide +kernel
theorem dX1_isLying_4 : decode cX1_isLying 4 = .ok (.iconst (-1), 1) := by decide +kernel
theorem dX1_isLying_5 : decode cX1_isLying 5 = .ok (.if_icmp .eq 7, 3) := by decide +kernel
theorem dX1_isLying_8 : decode cX1_isLying 8 = .ok (.iconst 1, 1) := by decide +kernel
theorem dX1_isLying_9 : decode cX1_isLying 9 = .ok (.goto 4, 3) := by decide +kernel
theorem dX1_isLying_12 : decode cX1_isLying 12 = .ok (.iconst 0, 1) := by decide +kernel
theorem dX1_isLying_13 : decode cX1_isLying 13 = .ok (.ireturn, 1) := by decide +kernel
theorem dX1_isOutsideOf_0 : decode cX1_isOutsideOf 0 = .ok (.aload_n 0, 1) := by decide +kernel
theorem dX1_isOutsideOf_1 : decode cX1_isOutsideOf 1 = .ok (.getfield 35, 3) := by decide +kernel
theorem dX1_isOutsideOf_4 : decode cX1_isOutsideOf 4 = .ok (.aload_n 1, 1) := by decide +kernel
theorem dX1_isOutsideOf_5 : decode cX1_isOutsideOf 5 = .ok (.getfield 35, 3) := by decide +kernel
theorem dX1_isOutsideOf_8 : decode cX1_isOutsideOf 8 = .ok (.if_icmp .ne 18, 3) := by decide +kernel
theorem dX1_isOutsideOf_11 : decode cX1_isOutsideOf 11 = .ok (.aload_n 0, 1) := by decide +kernel
theorem dX1_isOutsideOf_12 : decode cX1_isOutsideOf 12 = .ok (.getfield 38, 3) := by decide +kernel
theorem dX1_isOutsideOf_15 : decode cX1_isOutsideOf 15 = .ok (.aload_n 1, 1) := by decide +kernel
theorem dX1_isOutsideOf_16 : decode cX1_isOutsideOf 16 = .ok (.getfield 38, 3) := by decide +kernel
theorem dX1_isOutsideOf_19 : decode cX1_isOutsideOf 19 = .ok (.if_icmp .le 7, 3) := by decide +kernel
theorem dX1_isOutsideOf_22 : decode cX1_isOutsideOf 22 = .ok (.iconst 1, 1) := by decide +kernel
theorem dX1_isOutsideOf_23 : decode cX1_isOutsideOf 23 = .ok (.goto 4, 3) := by decide +kernel
theorem dX1_isOutsideOf_26 : decode cX1_isOutsideOf 26 = .ok (.iconst 0, 1) := by decide +kernel
theorem dX1_isOutsideOf_27 : decode cX1_isOutsideOf 27 = .ok (.ireturn, 1) := by decide +kernel
theorem dX1_hasCrewAt_0 : decode cX1_hasCrewAt 0 = .ok (.aload_n 0, 1) := by decide +kernel
theorem dX1_hasCrewAt_1 : decode cX1_hasCrewAt 1 = .ok (.getfield 32, 3) := by decide +kernel
theorem dX1_hasCrewAt_4 : decode cX1_hasCrewAt 4 = .ok (.iload_n 1, 1) := by decide +kernel
theorem dX1_hasCrewAt_5 : decode cX1_hasCrewAt 5 = .ok (.ishr, 1) := by decide +kernel
theorem dX1_hasCrewAt_6 : decode cX1_hasCrewAt 6 = .ok (.iconst 1, 1) := by decide +kernel
theorem dX1_hasCrewAt_7 : decode cX1_hasCrewAt 7 = .ok (.iand, 1) := by decide +kernel
theorem dX1_hasCrewAt_8 : decode cX1_hasCrewAt 8 = .ok (.ifCond .eq 7, 3) := by decide +kernel
theorem dX1_hasCrewAt_11 : decode cX1_hasCrewAt 11 = .ok (.iconst 1, 1) := by decide +kernel
theorem dX1_hasCrewAt_12 : decode cX1_hasCrewAt 12 = .ok (.goto 4, 3) := by decide +kernel
theorem dX1_hasCrewAt_15 : decode cX1_hasCrewAt 15 = .ok (.iconst 0, 1) := by decide +kernel
theorem dX1_hasCrewAt_16 : decode cX1_hasCrewAt 16 = .ok (.ireturn, 1) := by decide +kernel
theorem dX1_movesMaybe_0 : decode cX1_movesMaybe 0 = .ok (.aload_n 0, 1) := by decide +kernel
theorem dX1_movesMaybe_1 : decode cX1_movesMaybe 1 = .ok (.getfield 41, 3) := by decide +kernel
theorem dX1_movesMaybe_4 : decode cX1_movesMaybe 4 = .ok (.aload_n 1, 1) := by decide +kernel
theorem dX1_movesMaybe_5 : decode cX1_movesMaybe 5 = .ok (.getfield 28, 3) := by decide +kernel
theorem dX1_movesMaybe_8 : decode cX1_movesMaybe 8 = .ok (.if_icmp .ge 7, 3) := by decide +kernel
theorem dX1_movesMaybe_11 : decode cX1_movesMaybe 11 = .ok (.iconst 1, 1) := by decide +kernel
theorem dX1_movesMaybe_12 : decode cX1_movesMaybe 12 = .ok (.goto 4, 3) := by decide +kernel
theorem dX1_movesMaybe_15 : decode cX1_movesMaybe 15 = .ok (.iconst 0, 1) := by decide +kernel
theorem dX1_movesMaybe_16 : decode cX1_movesMaybe 16 = .ok (.ireturn, 1) := by decide +kernel
theorem dX1_movesSurely_0 : decode cX1_movesSurely 0 = .ok (.aload_n 0, 1) := by decide +kernel
theorem dX1_movesSurely_1 : decode cX1_movesSurely 1 = .ok (.getfield 28, 3) := by decide +kernel
theorem dX1_movesSurely_4 : decode cX1_movesSurely 4 = .ok (.aload_n 1, 1) := by decide +kernel
theorem dX1_movesSurely_5 : decode cX1_movesSurely 5 = .ok (.getfield 41, 3) := by decide +kernel
theorem dX1_movesSurely_8 : decode cX1_movesSurely 8 = .ok (.if_icmp .ge 7, 3) := by decide +kernel
theorem dX1_movesSurely_11 : decode cX1_movesSurely 11 = .ok (.iconst 1, 1) := by decide +kernel
theorem dX1_movesSurely_12 : decode cX1_movesSurely 12 = .ok (.goto 4, 3) := by decide +kernel
theorem dX1_movesSurely_15 : decode cX1_movesSurely 15 = .ok (.iconst 0, 1) := by decide +kernel
theorem dX1_movesSurely_16 : decode cX1_movesSurely 16 = .ok (.ireturn, 1) := by decide +kernel
theorem dX1_layAt_0 : decode cX1_layAt 0 = .ok (.aload_n 0, 1) := by decide +kernel
theorem dX1_layAt_1 : decode cX1_layAt 1 = .ok (.iload_n 1, 1) := by decide +kernel
theorem dX1_layAt_2 : decode cX1_layAt 2 = .ok (.putfield 35, 3) := by decide +kernel
theorem dX1_layAt_5 : decode cX1_layAt 5 = .ok (.aload_n 0, 1) := by decide +kernel
theorem dX1_layAt_6 : decode cX1_layAt 6 = .ok (.iload_n 2, 1) := by decide +kernel
theorem dX1_layAt_7 : decode cX1_layAt 7 = .ok (.putfield 38, 3) := by decide +kernel
theorem dX1_layAt_10 : decode cX1_layAt 10 = .ok (.return_, 1) := by decide +kernel
theorem dX1_moveBy_0 : decode cX1_moveBy 0 = .ok (.aload_n 0, 1) := by decide +kernel
theorem dX1_moveBy_1 : decode cX1_moveBy 1 = .ok (.dup, 1) := by decide +kernel
theorem dX1_moveBy_2 : decode cX1_moveBy 2 = .ok (.getfield 38, 3) := by decide +kernel
theorem dX1_moveBy_5 : decode cX1_moveBy 5 = .ok (.iload_n 1, 1) := by decide +kernel
theorem dX1_moveBy_6 : decode cX1_moveBy 6 = .ok (.iadd, 1) := by decide +kernel
theorem dX1_moveBy_7 : decode cX1_moveBy 7 = .ok (.putfield 38, 3) := by decide +kernel
theorem dX1_moveBy_10 : decode cX1_moveBy 10 = .ok (.aload_n 0, 1) := by decide +kernel
theorem dX1_moveBy_11 : decode cX1_moveBy 11 = .ok (.dup, 1) := by decide +kernel
theorem dX1_moveBy_12 : decode cX1_moveBy 12 = .ok (.getfield 44, 3) := by decide +kernel
theorem dX1_moveBy_15 : decode cX1_moveBy 15 = .ok (.iconst 1, 1) := by decide +kernel
theorem dX1_moveBy_16 : decode cX1_moveBy 16 = .ok (.iadd, 1) := by decide +kernel
theorem dX1_moveBy_17 : decode cX1_moveBy 17 = .ok (.putfield 44, 3) := by decide +kernel
theorem dX1_moveBy_20 : decode cX1_moveBy 20 = .ok (.return_, 1) := by decide +kernel
theorem dX1_detail_0 : decode cX1_detail 0 = .ok (.iload_n 1, 1) := by decide +kernel
theorem dX1_detail_1 : decode cX1_detail 1 = .ok (.tableswitch 122 0 10 #[59, 64, 69, 74, 87, 92, 97, 102, 107, 112, 117], 59) := by decide +kernel
theorem dX1_detail_60 : decode cX1_detail 60 = .ok (.aload_n 0, 1) := by decide +kernel
theorem dX1_detail_61 : decode cX1_detail 61 = .ok (.getfield 15, 3) := by decide +kernel
theorem dX1_detail_64 : decode cX1_detail 64 = .ok (.ireturn, 1) := by decide +kernel
theorem dX1_detail_65 : decode cX1_detail 65 = .ok (.aload_n 0, 1) := by decide +kernel
theorem dX1_detail_66 : decode cX1_detail 66 = .ok (.getfield 18, 3) := by decide +kernel
theorem dX1_detail_69 : decode cX1_detail 69 = .ok (.ireturn, 1) := by decide +kernel
theorem dX1_detail_70 : decode cX1_detail 70 = .ok (.aload_n 0, 1) := by decide +kernel
theorem dX1_detail_71 : decode cX1_detail 71 = .ok (.getfield 21, 3) := by decide +kernel
theorem dX1_detail_74 : decode cX1_detail 74 = .ok (.ireturn, 1) := by decide +kernel
theorem dX1_detail_75 : decode cX1_detail 75 = .ok (.aload_n 0, 1) := by decide +kernel
theorem dX1_detail_76 : decode cX1_detail 76 = .ok (.getfield 24, 3) := by decide +kernel
theorem dX1_detail_79 : decode cX1_detail 79 = .ok (.ifCond .eq 7, 3) := by decide +kernel
theorem dX1_detail_82 : decode cX1_detail 82 = .ok (.iconst 1, 1) := by decide +kernel
theorem dX1_detail_83 : decode cX1_detail 83 = .ok (.goto 4, 3) := by decide +kernel
theorem dX1_detail_86 : decode cX1_detail 86 = .ok (.iconst 0, 1) := by decide +kernel
theorem dX1_detail_87 : decode cX1_detail 87 = .ok (.ireturn, 1) := by decide +kernel
theorem dX1_detail_88 : decode cX1_detail 88 = .ok (.aload_n 0, 1) := by decide +kernel
theorem dX1_detail_89 : decode cX1_detail 89 = .ok (.getfield 41, 3) := by decide +kernel
theorem dX1_detail_92 : decode cX1_detail 92 = .ok (.ireturn, 1) := by decide +kernel
theorem dX1_detail_93 : decode cX1_detail 93 = .ok (.aload_n 0, 1) := by decide +kernel
theorem dX1_detail_94 : decode cX1_detail 94 = .ok (.getfield 28, 3) := by decide +kernel
theorem dX1_detail_97 : decode cX1_detail 97 = .ok (.ireturn, 1) := by decide +kernel
theorem dX1_detail_98 : decode cX1_detail 98 = .ok (.aload_n 0, 1) := by decide +kernel
theorem dX1_detail_99 : decode cX1_detail 99 = .ok (.getfield 32, 3) := by decide +kernel
theorem dX1_detail_102 : decode cX1_detail 102 = .ok (.ireturn, 1) := by decide +kernel
theorem dX1_detail_103 : decode cX1_detail 103 = .ok (.aload_n 0, 1) := by decide +kernel
theorem dX1_detail_104 : decode cX1_detail 104 = .ok (.getfield 35, 3) := by decide +kernel
theorem dX1_detail_107 : decode cX1_detail 107 = .ok (.ireturn, 1) := by decide +kernel
theorem dX1_detail_108 : decode cX1_detail 108 = .ok (.aload_n 0, 1) := by decide +kernel
theorem dX1_detail_109 : decode cX1_detail 109 = .ok (.getfield 38, 3) := by decide +kernel
theorem dX1_detail_112 : decode cX1_detail 112 = .ok (.ireturn, 1) := by decide +kernel
theorem dX1_detail_113 : decode cX1_detail 113 = .ok (.aload_n 0, 1) := by decide +kernel
theorem dX1_detail_114 : decode cX1_detail 114 = .ok (.getfield 47, 3) := by decide +kernel
theorem dX1_detail_117 : decode cX1_detail 117 = .ok (.ireturn, 1) := by decide +kernel
theorem dX1_detail_118 : decode cX1_detail 118 = .ok (.aload_n 0, 1) := by decide +kernel
theorem dX1_detail_119 : decode cX1_detail 119 = .ok (.getfield 44, 3) := by decide +kernel
theorem dX1_detail_122 : decode cX1_detail 122 = .ok (.ireturn, 1) := by decide +kernel
theorem dX1_detail_123 : decode cX1_detail 123 = .ok (.ldc 50, 2) := by decide +kernel
theorem dX1_detail_125 : decode cX1_detail 125 = .ok (.ireturn, 1) := by decide +kernel
theorem dX2_init_0 : decode cX2_init 0 = .ok (.aload_n 0, 1) := by decide +kernel
theorem dX2_init_1 : decode cX2_init 1 = .ok (.invokespecial 3, 3) := by decide +kernel
theorem dX2_init_4 : decode cX2_init 4 = .ok (.aload_n 0, 1) := by decide +kernel
theorem dX2_init_5 : decode cX2_init 5 = .ok (.ldc 9, 2) := by decide +kernel
theorem dX2_init_7 : decode cX2_init 7 = .ok (.putfield 10, 3) := by decide +kernel
theorem dX2_init_10 : decode cX2_init 10 = .ok (.return_, 1) := by decide +kernel
theorem dX2_passHour_0 : decode cX2_passHour 0 = .ok (.aload_n 0, 1) := by decide +kernel
theorem dX2_passHour_1 : decode cX2_passHour 1 = .ok (.getfield 10, 3) := by decide +kernel
theorem dX2_passHour_4 : decode cX2_passHour 4 = .ok (.aload_n 0, 1) := by decide +kernel
theorem dX2_passHour_5 : decode cX2_passHour 5 = .ok (.getfield 16, 3) := by decide +kernel
theorem dX2_passHour_8 : decode cX2_passHour 8 = .ok (.ishr, 1) := by decide +kernel
theorem dX2_passHour_9 : decode cX2_passHour 9 = .ok (.iconst 1, 1) := by decide +kernel
theorem dX2_passHour_10 : decode cX2_passHour 10 = .ok (.iand, 1) := by decide +kernel
theorem dX2_passHour_11 : decode cX2_passHour 11 = .ok (.ifCond .eq 11, 3) := by decide +kernel
theorem dX2_passHour_14 : decode cX2_passHour 14 = .ok (.aload_n 0, 1) := by decide +kernel
theorem dX2_passHour_15 : decode cX2_passHour 15 = .ok (.aload_n 1, 1) := by decide +kernel
theorem dX2_passHour_16 : decode cX2_passHour 16 = .ok (.invokevirtual 19, 3) := by decide +kernel
theorem dX2_passHour_19 : decode cX2_passHour 19 = .ok (.goto 4, 3) := by decide +kernel
theorem dX2_passHour_22 : decode cX2_passHour 22 = .ok (.iconst 0, 1) := by decide +kernel
theorem dX2_passHour_23 : decode cX2_passHour 23 = .ok (.istore_n 2, 1) := by decide +kernel
theorem dX2_passHour_24 : decode cX2_passHour 24 = .ok (.aload_n 1, 1) := by decide +kernel
theorem dX2_passHour_25 : decode cX2_passHour 25 = .ok (.getfield 23, 3) := by decide +kernel
theorem dX2_passHour_28 : decode cX2_passHour 28 = .ok (.astore_n 3, 1) := by decide +kernel
theorem dX2_passHour_29 : decode cX2_passHour 29 = .ok (.aload_n 3, 1) := by decide +kernel
theorem dX2_passHour_30 : decode cX2_passHour 30 = .ok (.arraylength, 1) := by decide +kernel
theorem dX2_passHour_31 : decode cX2_passHour 31 = .ok (.istore 4, 2) := by decide +kernel
theorem dX2_passHour_33 : decode cX2_passHour 33 = .ok (.iconst 0, 1) := by decide +kernel
theorem dX2_passHour_34 : decode cX2_passHour 34 = .ok (.istore 5, 2) := by decide +kernel
theorem dX2_passHour_36 : decode cX2_passHour 36 = .ok (.iload 5, 2) := by decide +kernel
theorem dX2_passHour_38 : decode cX2_passHour 38 = .ok (.iload 4, 2) := by decide +kernel
theorem dX2_passHour_40 : decode cX2_passHour 40 = .ok (.if_icmp .ge 40, 3) := by decide +kernel
theorem dX2_passHour_43 : decode cX2_passHour 43 = .ok (.aload_n 3, 1) := by decide +kernel
theorem dX2_passHour_44 : decode cX2_passHour 44 = .ok (.iload 5, 2) := by decide +kernel
theorem dX2_passHour_46 : decode cX2_passHour 46 = .ok (.aaload, 1) := by decide +kernel
theorem dX2_passHour_47 : decode cX2_passHour 47 = .ok (.astore 6, 2) := by decide +kernel
theorem dX2_passHour_49 : decode cX2_passHour 49 = .ok (.aload 6, 2) := by decide +kernel
theorem dX2_passHour_51 : decode cX2_passHour 51 = .ok (.ifnull 23, 3) := by decide +kernel
theorem dX2_passHour_54 : decode cX2_passHour 54 = .ok (.aload_n 0, 1) := by decide +kernel
theorem dX2_passHour_55 : decode cX2_passHour 55 = .ok (.aload 6, 2) := by decide +kernel
theorem dX2_passHour_57 : decode cX2_passHour 57 = .ok (.invokevirtual 29, 3) := by decide +kernel
theorem dX2_passHour_60 : decode cX2_passHour 60 = .ok (.ifCond .eq 14, 3) := by decide +kernel
theorem dX2_passHour_63 : decode cX2_passHour 63 = .ok (.aload 6, 2) := by decide +kernel
theorem dX2_passHour_65 : decode cX2_passHour 65 = .ok (.dup, 1) := by decide +kernel
theorem dX2_passHour_66 : decode cX2_passHour 66 = .ok (.getfield 33, 3) := by decide +kernel
theorem dX2_passHour_69 : decode cX2_passHour 69 = .ok (.iconst 1, 1) := by decide +kernel
theorem dX2_passHour_70 : decode cX2_passHour 70 = .ok (.iadd, 1) := by decide +kernel
theorem dX2_passHour_71 : decode cX2_passHour 71 = .ok (.putfield 33, 3) := by decide +kernel
theorem dX2_passHour_74 : decode cX2_passHour 74 = .ok (.iinc 5 1, 3) := by decide +kernel
theorem dX2_passHour_77 : decode cX2_passHour 77 = .ok (.goto (-41), 3) := by decide +kernel
theorem dX2_passHour_80 : decode cX2_passHour 80 = .ok (.aload_n 0, 1) := by decide +kernel
theorem dX2_passHour_81 : decode cX2_passHour 81 = .ok (.aload_n 0, 1) := by decide +kernel
theorem dX2_passHour_82 : decode cX2_passHour 82 = .ok (.getfield 16, 3) := by decide +kernel
theorem dX2_passHour_85 : decode cX2_passHour 85 = .ok (.bipush 23, 2) := by decide +kernel
theorem dX2_passHour_87 : decode cX2_passHour 87 = .ok (.if_icmp .lt 7, 3) := by decide +kernel
theorem dX2_passHour_90 : decode cX2_passHour 90 = .ok (.iconst 0, 1) := by decide +kernel
theorem dX2_passHour_91 : decode cX2_passHour 91 = .ok (.goto 9, 3) := by decide +kernel
theorem dX2_passHour_94 : decode cX2_passHour 94 = .ok (.aload_n 0, 1) := by decide +kernel
theorem dX2_passHour_95 : decode cX2_passHour 95 = .ok (.getfield 16, 3) := by decide +kernel
theorem dX2_passHour_98 : decode cX2_passHour 98 = .ok (.iconst 1, 1) := by decide +kernel
theorem dX2_passHour_99 : decode cX2_passHour 99 = .ok (.iadd, 1) := by decide +kernel
theorem dX2_passHour_100 : decode cX2_passHour 100 = .ok (.putfield 16, 3) := by decide +kernel
theorem dX2_passHour_103 : decode cX2_passHour 103 = .ok (.iload_n 2, 1) := by decide +kernel
theorem dX2_passHour_104 : decode cX2_passHour 104 = .ok (.ireturn, 1) := by decide +kernel
theorem dX2_sendOff_0 : decode cX2_sendOff 0 = .ok (.iconst 0, 1) := by decide +kernel
theorem dX2_sendOff_1 : decode cX2_sendOff 1 = .ok (.istore_n 2, 1) := by decide +kernel
theorem dX2_sendOff_2 : decode cX2_sendOff 2 = .ok (.iconst 0, 1) := by decide +kernel
theorem dX2_sendOff_3 : decode cX2_sendOff 3 = .ok (.istore_n 3, 1) := by decide +kernel
theorem dX2_sendOff_4 : decode cX2_sendOff 4 = .ok (.iload_n 3, 1) := by decide +kernel
theorem dX2_sendOff_5 : decode cX2_sendOff 5 = .ok (.bipush 8, 2) := by decide +kernel
theorem dX2_sendOff_7 : decode cX2_sendOff 7 = .ok (.if_icmp .ge 34, 3) := by decide +kernel
theorem dX2_sendOff_10 : decode cX2_sendOff 10 = .ok (.aload_n 0, 1) := by decide +kernel
theorem dX2_sendOff_11 : decode cX2_sendOff 11 = .ok (.aload_n 1, 1) := by decide +kernel
theorem dX2_sendOff_12 : decode cX2_sendOff 12 = .ok (.invokevirtual 38, 3) := by decide +kernel
theorem dX2_sendOff_15 : decode cX2_sendOff 15 = .ok (.astore 4, 2) := by decide +kernel
theorem dX2_sendOff_17 : decode cX2_sendOff 17 = .ok (.aload 4, 2) := by decide +kernel
theorem dX2_sendOff_19 : decode cX2_sendOff 19 = .ok (.ifnonnull 6, 3) := by decide +kernel
theorem dX2_sendOff_22 : decode cX2_sendOff 22 = .ok (.goto 19, 3) := by decide +kernel
theorem dX2_sendOff_25 : decode cX2_sendOff 25 = .ok (.aload_n 1, 1) := by decide +kernel
theorem dX2_sendOff_26 : decode cX2_sendOff 26 = .ok (.aload 4, 2) := by decide +kernel
theorem dX2_sendOff_28 : decode cX2_sendOff 28 = .ok (.invokevirtual 42, 3) := by decide +kernel
theorem dX2_sendOff_31 : decode cX2_sendOff 31 = .ok (.pop, 1) := by decide +kernel
theorem dX2_sendOff_32 : decode cX2_sendOff 32 = .ok (.iinc 2 1, 3) := by decide +kernel
theorem dX2_sendOff_35 : decode cX2_sendOff 35 = .ok (.iinc 3 1, 3) := by decide +kernel
theorem dX2_sendOff_38 : decode cX2_sendOff 38 = .ok (.goto (-34), 3) := by decide +kernel
theorem dX2_sendOff_41 : decode cX2_sendOff 41 = .ok (.iload_n 2, 1) := by decide +kernel
theorem dX2_sendOff_42 : decode cX2_sendOff 42 = .ok (.ireturn, 1) := by decide +kernel
theorem dX2_nextToLeave_0 : decode cX2_nextToLeave 0 = .ok (.aconst_null, 1) := by decide +kernel
theorem dX2_nextToLeave_1 : decode cX2_nextToLeave 1 = .ok (.astore_n 2, 1) := by decide +kernel
theorem dX2_nextToLeave_2 : decode cX2_nextToLeave 2 = .ok (.bipush 8, 2) := by decide +kernel
theorem dX2_nextToLeave_4 : decode cX2_nextToLeave 4 = .ok (.istore_n 3, 1) := by decide +kernel
theorem dX2_nextToLeave_5 : decode cX2_nextToLeave 5 = .ok (.aload_n 1, 1) := by decide +kernel
theorem dX2_nextToLeave_6 : decode cX2_nextToLeave 6 = .ok (.getfield 23, 3) := by decide +kernel
theorem dX2_nextToLeave_9 : decode cX2_nextToLeave 9 = .ok (.astore 4, 2) := by decide +kernel
theorem dX2_nextToLeave_11 : decode cX2_nextToLeave 11 = .ok (.aload 4, 2) := by decide +kernel
theorem dX2_nextToLeave_13 : decode cX2_nextToLeave 13 = .ok (.arraylength, 1) := by decide +kernel
theorem dX2_nextToLeave_14 : decode cX2_nextToLeave 14 = .ok (.istore 5, 2) := by decide +kernel
theorem dX2_nextToLeave_16 : decode cX2_nextToLeave 16 = .ok (.iconst 0, 1) := by decide +kernel
theorem dX2_nextToLeave_17 : decode cX2_nextToLeave 17 = .ok (.istore 6, 2) := by decide +kernel
theorem dX2_nextToLeave_19 : decode cX2_nextToLeave 19 = .ok (.iload 6, 2) := by decide +kernel
theorem dX2_nextToLeave_21 : decode cX2_nextToLeave 21 = .ok (.iload 5, 2) := by decide +kernel
theorem dX2_nextToLeave_23 : decode cX2_nextToLeave 23 = .ok (.if_icmp .ge 59, 3) := by decide +kernel
theorem dX2_nextToLeave_26 : decode cX2_nextToLeave 26 = .ok (.aload 4, 2) := by decide +kernel
theorem dX2_nextToLeave_28 : decode cX2_nextToLeave 28 = .ok (.iload 6, 2) := by decide +kernel
theorem dX2_nextToLeave_30 : decode cX2_nextToLeave 30 = .ok (.aaload, 1) := by decide +kernel
theorem dX2_nextToLeave_31 : decode cX2_nextToLeave 31 = .ok (.astore 7, 2) := by decide +kernel
theorem dX2_nextToLeave_33 : decode cX2_nextToLeave 33 = .ok (.aload 7, 2) := by decide +kernel
theorem dX2_nextToLeave_35 : decode cX2_nextToLeave 35 = .ok (.ifnull 41, 3) := by decide +kernel
theorem dX2_nextToLeave_38 : decode cX2_nextToLeave 38 = .ok (.aload_n 0, 1) := by decide +kernel
theorem dX2_nextToLeave_39 : decode cX2_nextToLeave 39 = .ok (.aload 7, 2) := by decide +kernel
theorem dX2_nextToLeave_41 : decode cX2_nextToLeave 41 = .ok (.invokevirtual 29, 3) := by decide +kernel
theorem dX2_nextToLeave_44 : decode cX2_nextToLeave 44 = .ok (.ifCond .eq 32, 3) := by decide +kernel
theorem dX2_nextToLeave_47 : decode cX2_nextToLeave 47 = .ok (.aload_n 1, 1) := by decide +kernel
theorem dX2_nextToLeave_48 : decode cX2_nextToLeave 48 = .ok (.aload 7, 2) := by decide +kernel
theorem dX2_nextToLeave_50 : decode cX2_nextToLeave 50 = .ok (.aload_n 0, 1) := by decide +kernel
theorem dX2_nextToLeave_51 : decode cX2_nextToLeave 51 = .ok (.getfield 16, 3) := by decide +kernel
theorem dX2_nextToLeave_54 : decode cX2_nextToLeave 54 = .ok (.invokevirtual 46, 3) := by decide +kernel
theorem dX2_nextToLeave_57 : decode cX2_nextToLeave 57 = .ok (.istore 8, 2) := by decide +kernel
theorem dX2_nextToLeave_59 : decode cX2_nextToLeave 59 = .ok (.iload 8, 2) := by decide +kernel
theorem dX2_nextToLeave_61 : decode cX2_nextToLeave 61 = .ok (.ifCond .lt 15, 3) := by decide +kernel
theorem dX2_nextToLeave_64 : decode cX2_nextToLeave 64 = .ok (.iload 8, 2) := by decide +kernel
theorem dX2_nextToLeave_66 : decode cX2_nextToLeave 66 = .ok (.iload_n 3, 1) := by decide +kernel
theorem dX2_nextToLeave_67 : decode cX2_nextToLeave 67 = .ok (.if_icmp .ge 9, 3) := by decide +kernel
theorem dX2_nextToLeave_70 : decode cX2_nextToLeave 70 = .ok (.aload 7, 2) := by decide +kernel
theorem dX2_nextToLeave_72 : decode cX2_nextToLeave 72 = .ok (.astore_n 2, 1) := by decide +kernel
theorem dX2_nextToLeave_73 : decode cX2_nextToLeave 73 = .ok (.iload 8, 2) := by decide +kernel
theorem dX2_nextToLeave_75 : decode cX2_nextToLeave 75 = .ok (.istore_n 3, 1) := by decide +kernel
theorem dX2_nextToLeave_76 : decode cX2_nextToLeave 76 = .ok (.iinc 6 1, 3) := by decide +kernel
theorem dX2_nextToLeave_79 : decode cX2_nextToLeave 79 = .ok (.goto (-60), 3) := by decide +kernel
theorem dX2_nextToLeave_82 : decode cX2_nextToLeave 82 = .ok (.aload_n 2, 1) := by decide +kernel
theorem dX2_nextToLeave_83 : decode cX2_nextToLeave 83 = .ok (.areturn, 1) := by decide +kernel
theorem dX2_wantsToLeave_0 : decode cX2_wantsToLeave 0 = .ok (.aload_n 1, 1) := by decide +kernel
theorem dX2_wantsToLeave_1 : decode cX2_wantsToLeave 1 = .ok (.invokevirtual 50, 3) := by decide +kernel
theorem dX2_wantsToLeave_4 : decode cX2_wantsToLeave 4 = .ok (.ifCond .eq 18, 3) := by decide +kernel
theorem dX2_wantsToLeave_7 : decode cX2_wantsToLeave 7 = .ok (.aload_n 1, 1) := by decide +kernel
theorem dX2_wantsToLeave_8 : decode cX2_wantsToLeave 8 = .ok (.getfield 54, 3) := by decide +kernel
theorem dX2_wantsToLeave_11 : decode cX2_wantsToLeave 11 = .ok (.aload_n 0, 1) := by decide +kernel
theorem dX2_wantsToLeave_12 : decode cX2_wantsToLeave 12 = .ok (.getfield 16, 3) := by decide +kernel
theorem dX2_wantsToLeave_15 : decode cX2_wantsToLeave 15 = .ok (.if_icmp .gt 7, 3) := by decide +kernel
theorem dX2_wantsToLeave_18 : decode cX2_wantsToLeave 18 = .ok (.iconst 1, 1) := by decide +kernel
theorem dX2_wantsToLeave_19 : decode cX2_wantsToLeave 19 = .ok (.goto 4, 3) := by decide +kernel
theorem dX2_wantsToLeave_22 : decode cX2_wantsToLeave 22 = .ok (.iconst 0, 1) := by decide +kernel
theorem dX2_wantsToLeave_23 : decode cX2_wantsToLeave 23 = .ok (.ireturn, 1) := by decide +kernel
theorem dX3_init_0 : decode cX3_init 0 = .ok (.aload_n 0, 1) := by decide +kernel
theorem dX3_init_1 : decode cX3_init 1 = .ok (.invokespecial 3, 3) := by decide +kernel
theorem dX3_init_4 : decode cX3_init 4 = .ok (.aload_n 0, 1) := by decide +kernel
theorem dX3_init_5 : decode cX3_init 5 = .ok (.bipush 80, 2) := by decide +kernel
theorem dX3_init_7 : decode cX3_init 7 = .ok (.newarray .byte, 2) := by decide +kernel
theorem dX3_init_9 : decode cX3_init 9 = .ok (.putfield 11, 3) := by decide +kernel
theorem dX3_init_12 : decode cX3_init 12 = .ok (.aload_n 0, 1) := by decide +kernel
theorem dX3_init_13 : decode cX3_init 13 = .ok (.bipush 8, 2) := by decide +kernel
theorem dX3_init_15 : decode cX3_init 15 = .ok (.newarray .int, 2) := by decide +kernel
theorem dX3_init_17 : decode cX3_init 17 = .ok (.putfield 15, 3) := by decide +kernel
theorem dX3_init_20 : decode cX3_init 20 = .ok (.aload_n 0, 1) := by decide +kernel
theorem dX3_init_21 : decode cX3_init 21 = .ok (.bipush 8, 2) := by decide +kernel
theorem dX3_init_23 : decode cX3_init 23 = .ok (.newarray .int, 2) := by decide +kernel
theorem dX3_init_25 : decode cX3_init 25 = .ok (.putfield 19, 3) := by decide +kernel
theorem dX3_init_28 : decode cX3_init 28 = .ok (.aload_n 0, 1) := by decide +kernel
theorem dX3_init_29 : decode cX3_init 29 = .ok (.bipush 8, 2) := by decide +kernel
theorem dX3_init_31 : decode cX3_init 31 = .ok (.newarray .int, 2) := by decide +kernel
theorem dX3_init_33 : decode cX3_init 33 = .ok (.putfield 22, 3) := by decide +kernel
theorem dX3_init_36 : decode cX3_init 36 = .ok (.return_, 1) := by decide +kernel
theorem dX3_takeBytes_0 : decode cX3_takeBytes 0 = .ok (.iload_n 3, 1) := by decide +kernel
theorem dX3_takeBytes_1 : decode cX3_takeBytes 1 = .ok (.iconst 1, 1) := by decide +kernel
theorem dX3_takeBytes_2 : decode cX3_takeBytes 2 = .ok (.bipush 8, 2) := by decide +kernel
theorem dX3_takeBytes_4 : decode cX3_takeBytes 4 = .ok (.invokestatic 25, 3) := by decide +kernel
theorem dX3_takeBytes_7 : decode cX3_takeBytes 7 = .ok (.ifCond .ne 6, 3) := by decide +kernel
theorem dX3_takeBytes_10 : decode cX3_takeBytes 10 = .ok (.ldc 29, 2) := by decide +kernel
theorem dX3_takeBytes_12 : decode cX3_takeBytes 12 = .ok (.ireturn, 1) := by decide +kernel
theorem dX3_takeBytes_13 : decode cX3_takeBytes 13 = .ok (.aload_n 0, 1) := by decide +kernel
theorem dX3_takeBytes_14 : decode cX3_takeBytes 14 = .ok (.getfield 30, 3) := by decide +kernel
theorem dX3_takeBytes_17 : decode cX3_takeBytes 17 = .ok (.iload_n 3, 1) := by decide +kernel
theorem dX3_takeBytes_18 : decode cX3_takeBytes 18 = .ok (.iadd, 1) := by decide +kernel
theorem dX3_takeBytes_19 : decode cX3_takeBytes 19 = .ok (.aload_n 0, 1) := by decide +kernel
theorem dX3_takeBytes_20 : decode cX3_takeBytes 20 = .ok (.getfield 11, 3) := by decide +kernel
theorem dX3_takeBytes_23 : decode cX3_takeBytes 23 = .ok (.arraylength, 1) := by decide +kernel
theorem dX3_takeBytes_24 : decode cX3_takeBytes 24 = .ok (.if_icmp .le 6, 3) := by decide +kernel
theorem dX3_takeBytes_27 : decode cX3_takeBytes 27 = .ok (.ldc 34, 2) := by decide +kernel
theorem dX3_takeBytes_29 : decode cX3_takeBytes 29 = .ok (.ireturn, 1) := by decide +kernel
theorem dX3_takeBytes_30 : decode cX3_takeBytes 30 = .ok (.iconst 0, 1) := by decide +kernel
theorem dX3_takeBytes_31 : decode cX3_takeBytes 31 = .ok (.istore 4, 2) := by decide +kernel
theorem dX3_takeBytes_33 : decode cX3_takeBytes 33 = .ok (.iload 4, 2) := by decide +kernel
theorem dX3_takeBytes_35 : decode cX3_takeBytes 35 = .ok (.iload_n 3, 1) := by decide +kernel
theorem dX3_takeBytes_36 : decode cX3_takeBytes 36 = .ok (.if_icmp .ge 30, 3) := by decide +kernel
theorem dX3_takeBytes_39 : decode cX3_takeBytes 39 = .ok (.aload_n 0, 1) := by decide +kernel
theorem dX3_takeBytes_40 : decode cX3_takeBytes 40 = .ok (.getfield 11, 3) := by decide +kernel
theorem dX3_takeBytes_43 : decode cX3_takeBytes 43 = .ok (.aload_n 0, 1) := by decide +kernel
theorem dX3_takeBytes_44 : decode cX3_takeBytes 44 = .ok (.getfield 30, 3) := by decide +kernel
theorem dX3_takeBytes_47 : decode cX3_takeBytes 47 = .ok (.iload 4, 2) := by decide +kernel
theorem dX3_takeBytes_49 : decode cX3_takeBytes 49 = .ok (.iadd, 1) := by decide +kernel
theorem dX3_takeBytes_50 : decode cX3_takeBytes 50 = .ok (.lload_n 1, 1) := by decide +kernel
theorem dX3_takeBytes_51 : decode cX3_takeBytes 51 = .ok (.bipush 8, 2) := by decide +kernel
theorem dX3_takeBytes_53 : decode cX3_takeBytes 53 = .ok (.iload 4, 2) := by decide +kernel
theorem dX3_takeBytes_55 : decode cX3_takeBytes 55 = .ok (.imul, 1) := by decide +kernel
theorem dX3_takeBytes_56 : decode cX3_takeBytes 56 = .ok (.lshr, 1) := by decide +kernel
theorem dX3_takeBytes_57 : decode cX3_takeBytes 57 = .ok (.l2i, 1) := by decide +kernel
theorem dX3_takeBytes_58 : decode cX3_takeBytes 58 = .ok (.i2b, 1) := by decide +kernel
theorem dX3_takeBytes_59 : decode cX3_takeBytes 59 = .ok (.bastore, 1) := by decide +kernel
theorem dX3_takeBytes_60 : decode cX3_takeBytes 60 = .ok (.iinc 4 1, 3) := by decide +kernel
theorem dX3_takeBytes_63 : decode cX3_takeBytes 63 = .ok (.goto (-30), 3) := by decide +kernel
theorem dX3_takeBytes_66 : decode cX3_takeBytes 66 = .ok (.aload_n 0, 1) := by decide +kernel
theorem dX3_takeBytes_67 : decode cX3_takeBytes 67 = .ok (.dup, 1) := by decide +kernel
theorem dX3_takeBytes_68 : decode cX3_takeBytes 68 = .ok (.getfield 30, 3) := by decide +kernel
theorem dX3_takeBytes_71 : decode cX3_takeBytes 71 = .ok (.iload_n 3, 1) := by decide +kernel
theorem dX3_takeBytes_72 : decode cX3_takeBytes 72 = .ok (.iadd, 1) := by decide +kernel
theorem dX3_takeBytes_73 : decode cX3_takeBytes 73 = .ok (.putfield 30, 3) := by decide +kernel
theorem dX3_takeBytes_76 : decode cX3_takeBytes 76 = .ok (.aload_n 0, 1) := by decide +kernel
theorem dX3_takeBytes_77 : decode cX3_takeBytes 77 = .ok (.getfield 30, 3) := by decide +kernel
theorem dX3_takeBytes_80 : decode cX3_takeBytes 80 = .ok (.ireturn, 1) := by decide +kernel
theorem dX3_takeText_0 : decode cX3_takeText 0 = .ok (.aload_n 0, 1) := by decide +kernel
theorem dX3_takeText_1 : decode cX3_takeText 1 = .ok (.getfield 30, 3) := by decide +kernel
theorem dX3_takeText_4 : decode cX3_takeText 4 = .ok (.istore_n 1, 1) := by decide +kernel
theorem dX3_takeText_5 : decode cX3_takeText 5 = .ok (.aload_n 0, 1) := by decide +kernel
theorem dX3_takeText_6 : decode cX3_takeText 6 = .ok (.invokevirtual 35, 3) := by decide +kernel
theorem dX3_takeText_9 : decode cX3_takeText 9 = .ok (.istore_n 2, 1) := by decide +kernel
theorem dX3_takeText_10 : decode cX3_takeText 10 = .ok (.aload_n 0, 1) := by decide +kernel
theorem dX3_takeText_11 : decode cX3_takeText 11 = .ok (.iconst 0, 1) := by decide +kernel
theorem dX3_takeText_12 : decode cX3_takeText 12 = .ok (.putfield 30, 3) := by decide +kernel
theorem dX3_takeText_15 : decode cX3_takeText 15 = .ok (.iload_n 2, 1) := by decide +kernel
theorem dX3_takeText_16 : decode cX3_takeText 16 = .ok (.ifCond .lt 8, 3) := by decide +kernel
theorem dX3_takeText_19 : decode cX3_takeText 19 = .ok (.ldc 39, 2) := by decide +kernel
theorem dX3_takeText_21 : decode cX3_takeText 21 = .ok (.iload_n 2, 1) := by decide +kernel
theorem dX3_takeText_22 : decode cX3_takeText 22 = .ok (.isub, 1) := by decide +kernel
theorem dX3_takeText_23 : decode cX3_takeText 23 = .ok (.ireturn, 1) := by decide +kernel
theorem dX3_takeText_24 : decode cX3_takeText 24 = .ok (.aload_n 0, 1) := by decide +kernel
theorem dX3_takeText_25 : decode cX3_takeText 25 = .ok (.iload_n 1, 1) := by decide +kernel
theorem dX3_takeText_26 : decode cX3_takeText 26 = .ok (.bipush 7, 2) := by decide +kernel
theorem dX3_takeText_28 : decode cX3_takeText 28 = .ok (.idiv, 1) := by decide +kernel
theorem dX3_takeText_29 : decode cX3_takeText 29 = .ok (.putfield 40, 3) := by decide +kernel
theorem dX3_takeText_32 : decode cX3_takeText 32 = .ok (.iconst 0, 1) := by decide +kernel
theorem dX3_takeText_33 : decode cX3_takeText 33 = .ok (.istore_n 3, 1) := by decide +kernel
theorem dX3_takeText_34 : decode cX3_takeText 34 = .ok (.iload_n 3, 1) := by decide +kernel
theorem dX3_takeText_35 : decode cX3_takeText 35 = .ok (.aload_n 0, 1) := by decide +kernel
theorem dX3_takeText_36 : decode cX3_takeText 36 = .ok (.getfield 40, 3) := by decide +kernel
theorem dX3_takeText_39 : decode cX3_takeText 39 = .ok (.if_icmp .ge 65, 3) := by decide +kernel
theorem dX3_takeText_42 : decode cX3_takeText 42 = .ok (.iload_n 3, 1) := by decide +kernel
theorem dX3_takeText_43 : decode cX3_takeText 43 = .ok (.bipush 8, 2) := by decide +kernel
theorem dX3_takeText_45 : decode cX3_takeText 45 = .ok (.if_icmp .ge 59, 3) := by decide +kernel
theorem dX3_takeText_48 : decode cX3_takeText 48 = .ok (.iload_n 3, 1) := by decide +kernel
theorem dX3_takeText_49 : decode cX3_takeText 49 = .ok (.bipush 7, 2) := by decide +kernel
theorem dX3_takeText_51 : decode cX3_takeText 51 = .ok (.imul, 1) := by decide +kernel
theorem dX3_takeText_52 : decode cX3_takeText 52 = .ok (.istore 4, 2) := by decide +kernel
theorem dX3_takeText_54 : decode cX3_takeText 54 = .ok (.aload_n 0, 1) := by decide +kernel
theorem dX3_takeText_55 : decode cX3_takeText 55 = .ok (.getfield 15, 3) := by decide +kernel
theorem dX3_takeText_58 : decode cX3_takeText 58 = .ok (.iload_n 3, 1) := by decide +kernel
theorem dX3_takeText_59 : decode cX3_takeText 59 = .ok (.aload_n 0, 1) := by decide +kernel
theorem dX3_takeText_60 : decode cX3_takeText 60 = .ok (.getfield 11, 3) := by decide +kernel
theorem dX3_takeText_63 : decode cX3_takeText 63 = .ok (.iload 4, 2) := by decide +kernel
theorem dX3_takeText_65 : decode cX3_takeText 65 = .ok (.baload, 1) := by decide +kernel
theorem dX3_takeText_66 : decode cX3_takeText 66 = .ok (.invokestatic 43, 3) := by decide +kernel
theorem dX3_takeText_69 : decode cX3_takeText 69 = .ok (.iastore, 1) := by decide +kernel
theorem dX3_takeText_70 : decode cX3_takeText 70 = .ok (.aload_n 0, 1) := by decide +kernel
theorem dX3_takeText_71 : decode cX3_takeText 71 = .ok (.getfield 19, 3) := by decide +kernel
theorem dX3_takeText_74 : decode cX3_takeText 74 = .ok (.iload_n 3, 1) := by decide +kernel
theorem dX3_takeText_75 : decode cX3_takeText 75 = .ok (.aload_n 0, 1) := by decide +kernel
theorem dX3_takeText_76 : decode cX3_takeText 76 = .ok (.iload 4, 2) := by decide +kernel
theorem dX3_takeText_78 : decode cX3_takeText 78 = .ok (.iconst 1, 1) := by decide +kernel
theorem dX3_takeText_79 : decode cX3_takeText 79 = .ok (.iadd, 1) := by decide +kernel
theorem dX3_takeText_80 : decode cX3_takeText 80 = .ok (.invokevirtual 47, 3) := by decide +kernel
theorem dX3_takeText_83 : decode cX3_takeText 83 = .ok (.iastore, 1) := by decide +kernel
theorem dX3_takeText_84 : decode cX3_takeText 84 = .ok (.aload_n 0, 1) := by decide +kernel
theorem dX3_takeText_85 : decode cX3_takeText 85 = .ok (.getfield 22, 3) := by decide +kernel
theorem dX3_takeText_88 : decode cX3_takeText 88 = .ok (.iload_n 3, 1) := by decide +kernel
theorem dX3_takeText_89 : decode cX3_takeText 89 = .ok (.aload_n 0, 1) := by decide +kernel
theorem dX3_takeText_90 : decode cX3_takeText 90 = .ok (.iload 4, 2) := by decide +kernel
theorem dX3_takeText_92 : decode cX3_takeText 92 = .ok (.iconst 4, 1) := by decide +kernel
theorem dX3_takeText_93 : decode cX3_takeText 93 = .ok (.iadd, 1) := by decide +kernel
theorem dX3_takeText_94 : decode cX3_takeText 94 = .ok (.invokevirtual 47, 3) := by decide +kernel
theorem dX3_takeText_97 : decode cX3_takeText 97 = .ok (.iastore, 1) := by decide +kernel
theorem dX3_takeText_98 : decode cX3_takeText 98 = .ok (.iinc 3 1, 3) := by decide +kernel
theorem dX3_takeText_101 : decode cX3_takeText 101 = .ok (.goto (-67), 3) := by decide +kernel
theorem dX3_takeText_104 : decode cX3_takeText 104 = .ok (.aload_n 0, 1) := by decide +kernel
theorem dX3_takeText_105 : decode cX3_takeText 105 = .ok (.getfield 40, 3) := by decide +kernel
theorem dX3_takeText_108 : decode cX3_takeText 108 = .ok (.ireturn, 1) := by decide +kernel
theorem dX3_firstWrong_0 : decode cX3_firstWrong 0 = .ok (.iconst 0, 1) := by decide +kernel
theorem dX3_firstWrong_1 : decode cX3_firstWrong 1 = .ok (.istore_n 1, 1) := by decide +kernel
theorem dX3_firstWrong_2 : decode cX3_firstWrong 2 = .ok (.iload_n 1, 1) := by decide +kernel
theorem dX3_firstWrong_3 : decode cX3_firstWrong 3 = .ok (.aload_n 0, 1) := by decide +kernel
theorem dX3_firstWrong_4 : decode cX3_firstWrong 4 = .ok (.getfield 30, 3) := by decide +kernel
theorem dX3_firstWrong_7 : decode cX3_firstWrong 7 = .ok (.if_icmp .ge 24, 3) := by decide +kernel
theorem dX3_firstWrong_10 : decode cX3_firstWrong 10 = .ok (.aload_n 0, 1) := by decide +kernel
theorem dX3_firstWrong_11 : decode cX3_firstWrong 11 = .ok (.getfield 11, 3) := by decide +kernel
theorem dX3_firstWrong_14 : decode cX3_firstWrong 14 = .ok (.iload_n 1, 1) := by decide +kernel
theorem dX3_firstWrong_15 : decode cX3_firstWrong 15 = .ok (.baload, 1) := by decide +kernel
theorem dX3_firstWrong_16 : decode cX3_firstWrong 16 = .ok (.iload_n 1, 1) := by decide +kernel
theorem dX3_firstWrong_17 : decode cX3_firstWrong 17 = .ok (.invokestatic 50, 3) := by decide +kernel
theorem dX3_firstWrong_20 : decode cX3_firstWrong 20 = .ok (.ifCond .ne 5, 3) := by decide +kernel
theorem dX3_firstWrong_23 : decode cX3_firstWrong 23 = .ok (.iload_n 1, 1) := by decide +kernel
theorem dX3_firstWrong_24 : decode cX3_firstWrong 24 = .ok (.ireturn, 1) := by decide +kernel
theorem dX3_firstWrong_25 : decode cX3_firstWrong 25 = .ok (.iinc 1 1, 3) := by decide +kernel
theorem dX3_firstWrong_28 : decode cX3_firstWrong 28 = .ok (.goto (-26), 3) := by decide +kernel
theorem dX3_firstWrong_31 : decode cX3_firstWrong 31 = .ok (.aload_n 0, 1) := by decide +kernel
theorem dX3_firstWrong_32 : decode cX3_firstWrong 32 = .ok (.getfield 30, 3) := by decide +kernel
theorem dX3_firstWrong_35 : decode cX3_firstWrong 35 = .ok (.bipush 7, 2) := by decide +kernel
theorem dX3_firstWrong_37 : decode cX3_firstWrong 37 = .ok (.irem, 1) := by decide +kernel
theorem dX3_firstWrong_38 : decode cX3_firstWrong 38 = .ok (.ifCond .ne 7, 3) := by decide +kernel
theorem dX3_firstWrong_41 : decode cX3_firstWrong 41 = .ok (.iconst (-1), 1) := by decide +kernel
theorem dX3_firstWrong_42 : decode cX3_firstWrong 42 = .ok (.goto 7, 3) := by decide +kernel
theorem dX3_firstWrong_45 : decode cX3_firstWrong 45 = .ok (.aload_n 0, 1) := by decide +kernel
theorem dX3_firstWrong_46 : decode cX3_firstWrong 46 = .ok (.getfield 30, 3) := by decide +kernel
theorem dX3_firstWrong_49 : decode cX3_firstWrong 49 = .ok (.ireturn, 1) := by decide +kernel
theorem dX3_canStand_0 : decode cX3_canStand 0 = .ok (.iload_n 1, 1) := by decide +kernel
theorem dX3_canStand_1 : decode cX3_canStand 1 = .ok (.bipush 7, 2) := by decide +kernel
theorem dX3_canStand_3 : decode cX3_canStand 3 = .ok (.irem, 1) := by decide +kernel
theorem dX3_canStand_4 : decode cX3_canStand 4 = .ok (.lookupswitch 79 #[(0, 36), (3, 55), (6, 67)], 36) := by decide +kernel
theorem dX3_canStand_40 : decode cX3_canStand 40 = .ok (.iload_n 0, 1) := by decide +kernel
theorem dX3_canStand_41 : decode cX3_canStand 41 = .ok (.invokestatic 43, 3) := by decide +kernel
theorem dX3_canStand_44 : decode cX3_canStand 44 = .ok (.ifCond .lt 13, 3) := by decide +kernel
theorem dX3_canStand_47 : decode cX3_canStand 47 = .ok (.iload_n 1, 1) := by decide +kernel
theorem dX3_canStand_48 : decode cX3_canStand 48 = .ok (.bipush 56, 2) := by decide +kernel
theorem dX3_canStand_50 : decode cX3_canStand 50 = .ok (.if_icmp .ge 7, 3) := by decide +kernel
theorem dX3_canStand_53 : decode cX3_canStand 53 = .ok (.iconst 1, 1) := by decide +kernel
theorem dX3_canStand_54 : decode cX3_canStand 54 = .ok (.goto 4, 3) := by decide +kernel
theorem dX3_canStand_57 : decode cX3_canStand 57 = .ok (.iconst 0, 1) := by decide +kernel
theorem dX3_canStand_58 : decode cX3_canStand 58 = .ok (.ireturn, 1) := by decide +kernel
theorem dX3_canStand_59 : decode cX3_canStand 59 = .ok (.iload_n 0, 1) := by decide +kernel
theorem dX3_canStand_60 : decode cX3_canStand 60 = .ok (.bipush 58, 2) := by decide +kernel
theorem dX3_canStand_62 : decode cX3_canStand 62 = .ok (.if_icmp .ne 7, 3) := by decide +kernel
theorem dX3_canStand_65 : decode cX3_canStand 65 = .ok (.iconst 1, 1) := by decide +kernel
theorem dX3_canStand_66 : decode cX3_canStand 66 = .ok (.goto 4, 3) := by decide +kernel
theorem dX3_canStand_69 : decode cX3_canStand 69 = .ok (.iconst 0, 1) := by decide +kernel
theorem dX3_canStand_70 : decode cX3_canStand 70 = .ok (.ireturn, 1) := by decide +kernel
theorem dX3_canStand_71 : decode cX3_canStand 71 = .ok (.iload_n 0, 1) := by decide +kernel
theorem dX3_canStand_72 : decode cX3_canStand 72 = .ok (.bipush 59, 2) := by decide +kernel
theorem dX3_canStand_74 : decode cX3_canStand 74 = .ok (.if_icmp .ne 7, 3) := by decide +kernel
theorem dX3_canStand_77 : decode cX3_canStand 77 = .ok (.iconst 1, 1) := by decide +kernel
theorem dX3_canStand_78 : decode cX3_canStand 78 = .ok (.goto 4, 3) := by decide +kernel
theorem dX3_canStand_81 : decode cX3_canStand 81 = .ok (.iconst 0, 1) := by decide +kernel
theorem dX3_canStand_82 : decode cX3_canStand 82 = .ok (.ireturn, 1) := by decide +kernel
theorem dX3_canStand_83 : decode cX3_canStand 83 = .ok (.iload_n 0, 1) := by decide +kernel
theorem dX3_canStand_84 : decode cX3_canStand 84 = .ok (.bipush 48, 2) := by decide +kernel
theorem dX3_canStand_86 : decode cX3_canStand 86 = .ok (.bipush 57, 2) := by decide +kernel
theorem dX3_canStand_88 : decode cX3_canStand 88 = .ok (.invokestatic 25, 3) := by decide +kernel
theorem dX3_canStand_91 : decode cX3_canStand 91 = .ok (.ireturn, 1) := by decide +kernel
theorem dX3_kindOf_0 : decode cX3_kindOf 0 = .ok (.iload_n 0, 1) := by decide +kernel
theorem dX3_kindOf_1 : decode cX3_kindOf 1 = .ok (.lookupswitch 51 #[(98, 43), (99, 45), (108, 47), (114, 49)], 43) := by decide +kernel
theorem dX3_kindOf_44 : decode cX3_kindOf 44 = .ok (.iconst 0, 1) := by decide +kernel
theorem dX3_kindOf_45 : decode cX3_kindOf 45 = .ok (.ireturn, 1) := by decide +kernel
theorem dX3_kindOf_46 : decode cX3_kindOf 46 = .ok (.iconst 1, 1) := by decide +kernel
theorem dX3_kindOf_47 : decode cX3_kindOf 47 = .ok (.ireturn, 1) := by decide +kernel
theorem dX3_kindOf_48 : decode cX3_kindOf 48 = .ok (.iconst 2, 1) := by decide +kernel
theorem dX3_kindOf_49 : decode cX3_kindOf 49 = .ok (.ireturn, 1) := by decide +kernel
theorem dX3_kindOf_50 : decode cX3_kindOf 50 = .ok (.iconst 3, 1) := by decide +kernel
theorem dX3_kindOf_51 : decode cX3_kindOf 51 = .ok (.ireturn, 1) := by decide +kernel
theorem dX3_kindOf_52 : decode cX3_kindOf 52 = .ok (.iconst (-1), 1) := by decide +kernel
theorem dX3_kindOf_53 : decode cX3_kindOf 53 = .ok (.ireturn, 1) := by decide +kernel
theorem dX3_twoDigits_0 : decode cX3_twoDigits 0 = .ok (.iload_n 1, 1) := by decide +kernel
theorem dX3_twoDigits_1 : decode cX3_twoDigits 1 = .ok (.ifCond .lt 14, 3) := by decide +kernel
theorem dX3_twoDigits_4 : decode cX3_twoDigits 4 = .ok (.iload_n 1, 1) := by decide +kernel
theorem dX3_twoDigits_5 : decode cX3_twoDigits 5 = .ok (.iconst 1, 1) := by decide +kernel
theorem dX3_twoDigits_6 : decode cX3_twoDigits 6 = .ok (.iadd, 1) := by decide +kernel
theorem dX3_twoDigits_7 : decode cX3_twoDigits 7 = .ok (.aload_n 0, 1) := by decide +kernel
theorem dX3_twoDigits_8 : decode cX3_twoDigits 8 = .ok (.getfield 11, 3) := by decide +kernel
theorem dX3_twoDigits_11 : decode cX3_twoDigits 11 = .ok (.arraylength, 1) := by decide +kernel
theorem dX3_twoDigits_12 : decode cX3_twoDigits 12 = .ok (.if_icmp .lt 5, 3) := by decide +kernel
theorem dX3_twoDigits_15 : decode cX3_twoDigits 15 = .ok (.iconst 0, 1) := by decide +kernel
theorem dX3_twoDigits_16 : decode cX3_twoDigits 16 = .ok (.ireturn, 1) := by decide +kernel
theorem dX3_twoDigits_17 : decode cX3_twoDigits 17 = .ok (.aload_n 0, 1) := by decide +kernel
theorem dX3_twoDigits_18 : decode cX3_twoDigits 18 = .ok (.getfield 11, 3) := by decide +kernel
theorem dX3_twoDigits_21 : decode cX3_twoDigits 21 = .ok (.iload_n 1, 1) := by decide +kernel
theorem dX3_twoDigits_22 : decode cX3_twoDigits 22 = .ok (.baload, 1) := by decide +kernel
theorem dX3_twoDigits_23 : decode cX3_twoDigits 23 = .ok (.bipush 48, 2) := by decide +kernel
theorem dX3_twoDigits_25 : decode cX3_twoDigits 25 = .ok (.isub, 1) := by decide +kernel
theorem dX3_twoDigits_26 : decode cX3_twoDigits 26 = .ok (.bipush 10, 2) := by decide +kernel
theorem dX3_twoDigits_28 : decode cX3_twoDigits 28 = .ok (.imul, 1) := by decide +kernel
theorem dX3_twoDigits_29 : decode cX3_twoDigits 29 = .ok (.aload_n 0, 1) := by decide +kernel
theorem dX3_twoDigits_30 : decode cX3_twoDigits 30 = .ok (.getfield 11, 3) := by decide +kernel
theorem dX3_twoDigits_33 : decode cX3_twoDigits 33 = .ok (.iload_n 1, 1) := by decide +kernel
theorem dX3_twoDigits_34 : decode cX3_twoDigits 34 = .ok (.iconst 1, 1) := by decide +kernel
theorem dX3_twoDigits_35 : decode cX3_twoDigits 35 = .ok (.iadd, 1) := by decide +kernel
theorem dX3_twoDigits_36 : decode cX3_twoDigits 36 = .ok (.baload, 1) := by decide +kernel
theorem dX3_twoDigits_37 : decode cX3_twoDigits 37 = .ok (.iadd, 1) := by decide +kernel
theorem dX3_twoDigits_38 : decode cX3_twoDigits 38 = .ok (.bipush 48, 2) := by decide +kernel
theorem dX3_twoDigits_40 : decode cX3_twoDigits 40 = .ok (.isub, 1) := by decide +kernel
theorem dX3_twoDigits_41 : decode cX3_twoDigits 41 = .ok (.ireturn, 1) := by decide +kernel
theorem dX3_priceFor_0 : decode cX3_priceFor 0 = .ok (.iconst 0, 1) := by decide +kernel
theorem dX3_priceFor_1 : decode cX3_priceFor 1 = .ok (.istore_n 2, 1) := by decide +kernel
theorem dX3_priceFor_2 : decode cX3_priceFor 2 = .ok (.iload_n 2, 1) := by decide +kernel
theorem dX3_priceFor_3 : decode cX3_priceFor 3 = .ok (.aload_n 0, 1) := by decide +kernel
theorem dX3_priceFor_4 : decode cX3_priceFor 4 = .ok (.getfield 40, 3) := by decide +kernel
theorem dX3_priceFor_7 : decode cX3_priceFor 7 = .ok (.if_icmp .ge 48, 3) := by decide +kernel
theorem dX3_priceFor_10 : decode cX3_priceFor 10 = .ok (.iload_n 2, 1) := by decide +kernel
theorem dX3_priceFor_11 : decode cX3_priceFor 11 = .ok (.bipush 8, 2) := by decide +kernel
theorem dX3_priceFor_13 : decode cX3_priceFor 13 = .ok (.if_icmp .ge 42, 3) := by decide +kernel
theorem dX3_priceFor_16 : decode cX3_priceFor 16 = .ok (.aload_n 1, 1) := by decide +kernel
theorem dX3_priceFor_17 : decode cX3_priceFor 17 = .ok (.aload_n 0, 1) := by decide +kernel
theorem dX3_priceFor_18 : decode cX3_priceFor 18 = .ok (.getfield 15, 3) := by decide +kernel
theorem dX3_priceFor_21 : decode cX3_priceFor 21 = .ok (.iload_n 2, 1) := by decide +kernel
theorem dX3_priceFor_22 : decode cX3_priceFor 22 = .ok (.iaload, 1) := by decide +kernel
theorem dX3_priceFor_23 : decode cX3_priceFor 23 = .ok (.invokevirtual 54, 3) := by decide +kernel
theorem dX3_priceFor_26 : decode cX3_priceFor 26 = .ok (.ifCond .eq 23, 3) := by decide +kernel
theorem dX3_priceFor_29 : decode cX3_priceFor 29 = .ok (.aload_n 0, 1) := by decide +kernel
theorem dX3_priceFor_30 : decode cX3_priceFor 30 = .ok (.getfield 19, 3) := by decide +kernel
theorem dX3_priceFor_33 : decode cX3_priceFor 33 = .ok (.iload_n 2, 1) := by decide +kernel
theorem dX3_priceFor_34 : decode cX3_priceFor 34 = .ok (.iaload, 1) := by decide +kernel
theorem dX3_priceFor_35 : decode cX3_priceFor 35 = .ok (.aload_n 1, 1) := by decide +kernel
theorem dX3_priceFor_36 : decode cX3_priceFor 36 = .ok (.getfield 60, 3) := by decide +kernel
theorem dX3_priceFor_39 : decode cX3_priceFor 39 = .ok (.if_icmp .lt 10, 3) := by decide +kernel
theorem dX3_priceFor_42 : decode cX3_priceFor 42 = .ok (.aload_n 0, 1) := by decide +kernel
theorem dX3_priceFor_43 : decode cX3_priceFor 43 = .ok (.getfield 22, 3) := by decide +kernel
theorem dX3_priceFor_46 : decode cX3_priceFor 46 = .ok (.iload_n 2, 1) := by decide +kernel
theorem dX3_priceFor_47 : decode cX3_priceFor 47 = .ok (.iaload, 1) := by decide +kernel
theorem dX3_priceFor_48 : decode cX3_priceFor 48 = .ok (.ireturn, 1) := by decide +kernel
theorem dX3_priceFor_49 : decode cX3_priceFor 49 = .ok (.iinc 2 1, 3) := by decide +kernel
theorem dX3_priceFor_52 : decode cX3_priceFor 52 = .ok (.goto (-50), 3) := by decide +kernel
theorem dX3_priceFor_55 : decode cX3_priceFor 55 = .ok (.ldc 63, 2) := by decide +kernel
theorem dX3_priceFor_57 : decode cX3_priceFor 57 = .ok (.ireturn, 1) := by decide +kernel
theorem dX4_init_0 : decode cX4_init 0 = .ok (.aload_n 0, 1) := by decide +kernel
theorem dX4_init_1 : decode cX4_init 1 = .ok (.invokespecial 5, 3) := by decide +kernel
theorem dX4_init_4 : decode cX4_init 4 = .ok (.aload_n 0, 1) := by decide +kernel
theorem dX4_init_5 : decode cX4_init 5 = .ok (.bipush 6, 2) := by decide +kernel
theorem dX4_init_7 : decode cX4_init 7 = .ok (.anewarray 11, 3) := by decide +kernel
theorem dX4_init_10 : decode cX4_init 10 = .ok (.putfield 13, 3) := by decide +kernel
theorem dX4_init_13 : decode cX4_init 13 = .ok (.aload_n 0, 1) := by decide +kernel
theorem dX4_init_14 : decode cX4_init 14 = .ok (.bipush 6, 2) := by decide +kernel
theorem dX4_init_16 : decode cX4_init 16 = .ok (.newarray .int, 2) := by decide +kernel
theorem dX4_init_18 : decode cX4_init 18 = .ok (.putfield 17, 3) := by decide +kernel
theorem dX4_init_21 : decode cX4_init 21 = .ok (.aload_n 0, 1) := by decide +kernel
theorem dX4_init_22 : decode cX4_init 22 = .ok (.bipush 6, 2) := by decide +kernel
theorem dX4_init_24 : decode cX4_init 24 = .ok (.newarray .int, 2) := by decide +kernel
theorem dX4_init_26 : decode cX4_init 26 = .ok (.putfield 21, 3) := by decide +kernel
theorem dX4_init_29 : decode cX4_init 29 = .ok (.aload_n 0, 1) := by decide +kernel
theorem dX4_init_30 : decode cX4_init 30 = .ok (.sipush 384, 3) := by decide +kernel
theorem dX4_init_33 : decode cX4_init 33 = .ok (.newarray .long, 2) := by decide +kernel
theorem dX4_init_35 : decode cX4_init 35 = .ok (.putfield 24, 3) := by decide +kernel
theorem dX4_init_38 : decode cX4_init 38 = .ok (.aload_n 0, 1) := by decide +kernel
theorem dX4_init_39 : decode cX4_init 39 = .ok (.bipush 64, 2) := by decide +kernel
theorem dX4_init_41 : decode cX4_init 41 = .ok (.newarray .long, 2) := by decide +kernel
theorem dX4_init_43 : decode cX4_init 43 = .ok (.putfield 28, 3) := by decide +kernel
theorem dX4_init_46 : decode cX4_init 46 = .ok (.aload_n 0, 1) := by decide +kernel
theorem dX4_init_47 : decode cX4_init 47 = .ok (.bipush 64, 2) := by decide +kernel
theorem dX4_init_49 : decode cX4_init 49 = .ok (.newarray .long, 2) := by decide +kernel
theorem dX4_init_51 : decode cX4_init 51 = .ok (.putfield 31, 3) := by decide +kernel
theorem dX4_init_54 : decode cX4_init 54 = .ok (.return_, 1) := by decide +kernel
theorem dX4_refuses_0 : decode cX4_refuses 0 = .ok (.iload_n 2, 1) := by decide +kernel
theorem dX4_refuses_1 : decode cX4_refuses 1 = .ok (.iconst 1, 1) := by decide +kernel
theorem dX4_refuses_2 : decode cX4_refuses 2 = .ok (.aload_n 1, 1) := by decide +kernel
theorem dX4_refuses_3 : decode cX4_refuses 3 = .ok (.getfield 34, 3) := by decide +kernel
theorem dX4_refuses_6 : decode cX4_refuses 6 = .ok (.ishl, 1) := by decide +kernel
theorem dX4_refuses_7 : decode cX4_refuses 7 = .ok (.ineg, 1) := by decide +kernel
theorem dX4_refuses_8 : decode cX4_refuses 8 = .ok (.iand, 1) := by decide +kernel
theorem dX4_refuses_9 : decode cX4_refuses 9 = .ok (.ifCond .eq 6, 3) := by decide +kernel
theorem dX4_refuses_12 : decode cX4_refuses 12 = .ok (.ldc 40, 2) := by decide +kernel
theorem dX4_refuses_14 : decode cX4_refuses 14 = .ok (.ireturn, 1) := by decide +kernel
theorem dX4_refuses_15 : decode cX4_refuses 15 = .ok (.iload_n 2, 1) := by decide +kernel
theorem dX4_refuses_16 : decode cX4_refuses 16 = .ok (.invokestatic 41, 3) := by decide +kernel
theorem dX4_refuses_19 : decode cX4_refuses 19 = .ok (.bipush 6, 2) := by decide +kernel
theorem dX4_refuses_21 : decode cX4_refuses 21 = .ok (.if_icmp .le 8, 3) := by decide +kernel
theorem dX4_refuses_24 : decode cX4_refuses 24 = .ok (.ldc 47, 2) := by decide +kernel
theorem dX4_refuses_26 : decode cX4_refuses 26 = .ok (.goto 4, 3) := by decide +kernel
theorem dX4_refuses_29 : decode cX4_refuses 29 = .ok (.iconst 0, 1) := by decide +kernel
theorem dX4_refuses_30 : decode cX4_refuses 30 = .ok (.ireturn, 1) := by decide +kernel
theorem dX4_find_0 : decode cX4_find 0 = .ok (.aload_n 0, 1) := by decide +kernel
theorem dX4_find_1 : decode cX4_find 1 = .ok (.aload_n 1, 1) := by decide +kernel
theorem dX4_find_2 : decode cX4_find 2 = .ok (.iload_n 2, 1) := by decide +kernel
theorem dX4_find_3 : decode cX4_find 3 = .ok (.invokevirtual 48, 3) := by decide +kernel
theorem dX4_find_6 : decode cX4_find 6 = .ok (.aload_n 0, 1) := by decide +kernel
theorem dX4_find_7 : decode cX4_find 7 = .ok (.aload_n 1, 1) := by decide +kernel
theorem dX4_find_8 : decode cX4_find 8 = .ok (.invokevirtual 52, 3) := by decide +kernel
theorem dX4_find_11 : decode cX4_find 11 = .ok (.aload_n 0, 1) := by decide +kernel
theorem dX4_find_12 : decode cX4_find 12 = .ok (.getfield 31, 3) := by decide +kernel
theorem dX4_find_15 : decode cX4_find 15 = .ok (.ldc2_w 56, 3) := by decide +kernel
theorem dX4_find_18 : decode cX4_find 18 = .ok (.invokestatic 58, 3) := by decide +kernel
theorem dX4_find_21 : decode cX4_find 21 = .ok (.aload_n 0, 1) := by decide +kernel
theorem dX4_find_22 : decode cX4_find 22 = .ok (.getfield 31, 3) := by decide +kernel
theorem dX4_find_25 : decode cX4_find 25 = .ok (.iconst 0, 1) := by decide +kernel
theorem dX4_find_26 : decode cX4_find 26 = .ok (.lconst 0, 1) := by decide +kernel
theorem dX4_find_27 : decode cX4_find 27 = .ok (.lastore, 1) := by decide +kernel
theorem dX4_find_28 : decode cX4_find 28 = .ok (.iconst 0, 1) := by decide +kernel
theorem dX4_find_29 : decode cX4_find 29 = .ok (.istore_n 3, 1) := by decide +kernel
theorem dX4_find_30 : decode cX4_find 30 = .ok (.iload_n 3, 1) := by decide +kernel
theorem dX4_find_31 : decode cX4_find 31 = .ok (.aload_n 1, 1) := by decide +kernel
theorem dX4_find_32 : decode cX4_find 32 = .ok (.getfield 64, 3) := by decide +kernel
theorem dX4_find_35 : decode cX4_find 35 = .ok (.if_icmp .ge 33, 3) := by decide +kernel
theorem dX4_find_38 : decode cX4_find 38 = .ok (.aload_n 1, 1) := by decide +kernel
theorem dX4_find_39 : decode cX4_find 39 = .ok (.iload_n 3, 1) := by decide +kernel
theorem dX4_find_40 : decode cX4_find 40 = .ok (.invokevirtual 67, 3) := by decide +kernel
theorem dX4_find_43 : decode cX4_find 43 = .ok (.astore 4, 2) := by decide +kernel
theorem dX4_find_45 : decode cX4_find 45 = .ok (.aload 4, 2) := by decide +kernel
theorem dX4_find_47 : decode cX4_find 47 = .ok (.ifnull 15, 3) := by decide +kernel
theorem dX4_find_50 : decode cX4_find 50 = .ok (.aload_n 0, 1) := by decide +kernel
theorem dX4_find_51 : decode cX4_find 51 = .ok (.aload_n 1, 1) := by decide +kernel
theorem dX4_find_52 : decode cX4_find 52 = .ok (.aload 4, 2) := by decide +kernel
theorem dX4_find_54 : decode cX4_find 54 = .ok (.iload_n 3, 1) := by decide +kernel
theorem dX4_find_55 : decode cX4_find 55 = .ok (.invokevirtual 71, 3) := by decide +kernel
theorem dX4_find_58 : decode cX4_find 58 = .ok (.aload_n 0, 1) := by decide +kernel
theorem dX4_find_59 : decode cX4_find 59 = .ok (.invokevirtual 75, 3) := by decide +kernel
theorem dX4_find_62 : decode cX4_find 62 = .ok (.iinc 3 1, 3) := by decide +kernel
theorem dX4_find_65 : decode cX4_find 65 = .ok (.goto (-35), 3) := by decide +kernel
theorem dX4_find_68 : decode cX4_find 68 = .ok (.aload_n 0, 1) := by decide +kernel
theorem dX4_find_69 : decode cX4_find 69 = .ok (.aload_n 0, 1) := by decide +kernel
theorem dX4_find_70 : decode cX4_find 70 = .ok (.getfield 31, 3) := by decide +kernel
theorem dX4_find_73 : decode cX4_find 73 = .ok (.aload_n 0, 1) := by decide +kernel
theorem dX4_find_74 : decode cX4_find 74 = .ok (.invokevirtual 78, 3) := by decide +kernel
theorem dX4_find_77 : decode cX4_find 77 = .ok (.laload, 1) := by decide +kernel
theorem dX4_find_78 : decode cX4_find 78 = .ok (.putfield 82, 3) := by decide +kernel
theorem dX4_find_81 : decode cX4_find 81 = .ok (.aload_n 0, 1) := by decide +kernel
theorem dX4_find_82 : decode cX4_find 82 = .ok (.getfield 82, 3) := by decide +kernel
theorem dX4_find_85 : decode cX4_find 85 = .ok (.ldc2_w 56, 3) := by decide +kernel
theorem dX4_find_88 : decode cX4_find 88 = .ok (.lcmp, 1) := by decide +kernel
theorem dX4_find_89 : decode cX4_find 89 = .ok (.ifCond .lt 8, 3) := by decide +kernel
theorem dX4_find_92 : decode cX4_find 92 = .ok (.ldc 86, 2) := by decide +kernel
theorem dX4_find_94 : decode cX4_find 94 = .ok (.goto 11, 3) := by decide +kernel
theorem dX4_find_97 : decode cX4_find 97 = .ok (.aload_n 0, 1) := by decide +kernel
theorem dX4_find_98 : decode cX4_find 98 = .ok (.getfield 82, 3) := by decide +kernel
theorem dX4_find_101 : decode cX4_find 101 = .ok (.bipush 30, 2) := by decide +kernel
theorem dX4_find_103 : decode cX4_find 103 = .ok (.lshr, 1) := by decide +kernel
theorem dX4_find_104 : decode cX4_find 104 = .ok (.l2i, 1) := by decide +kernel
theorem dX4_find_105 : decode cX4_find 105 = .ok (.ireturn, 1) := by decide +kernel
theorem dX4_berthFor_0 : decode cX4_berthFor 0 = .ok (.aload_n 0, 1) := by decide +kernel
theorem dX4_berthFor_1 : decode cX4_berthFor 1 = .ok (.iload_n 1, 1) := by decide +kernel
theorem dX4_berthFor_2 : decode cX4_berthFor 2 = .ok (.iload_n 2, 1) := by decide +kernel
theorem dX4_berthFor_3 : decode cX4_berthFor 3 = .ok (.invokevirtual 87, 3) := by decide +kernel
theorem dX4_berthFor_6 : decode cX4_berthFor 6 = .ok (.iconst 3, 1) := by decide +kernel
theorem dX4_berthFor_7 : decode cX4_berthFor 7 = .ok (.ishr, 1) := by decide +kernel
theorem dX4_berthFor_8 : decode cX4_berthFor 8 = .ok (.ireturn, 1) := by decide +kernel
theorem dX4_placeFor_0 : decode cX4_placeFor 0 = .ok (.aload_n 0, 1) := by decide +kernel
theorem dX4_placeFor_1 : decode cX4_placeFor 1 = .ok (.iload_n 1, 1) := by decide +kernel
theorem dX4_placeFor_2 : decode cX4_placeFor 2 = .ok (.iload_n 2, 1) := by decide +kernel
theorem dX4_placeFor_3 : decode cX4_placeFor 3 = .ok (.invokevirtual 87, 3) := by decide +kernel
theorem dX4_placeFor_6 : decode cX4_placeFor 6 = .ok (.bipush 7, 2) := by decide +kernel
theorem dX4_placeFor_8 : decode cX4_placeFor 8 = .ok (.iand, 1) := by decide +kernel
theorem dX4_placeFor_9 : decode cX4_placeFor 9 = .ok (.ireturn, 1) := by decide +kernel
theorem dX4_spotFor_0 : decode cX4_spotFor 0 = .ok (.iload_n 1, 1) := by decide +kernel
theorem dX4_spotFor_1 : decode cX4_spotFor 1 = .ok (.iconst 1, 1) := by decide +kernel
theorem dX4_spotFor_2 : decode cX4_spotFor 2 = .ok (.iload_n 2, 1) := by decide +kernel
theorem dX4_spotFor_3 : decode cX4_spotFor 3 = .ok (.ishl, 1) := by decide +kernel
theorem dX4_spotFor_4 : decode cX4_spotFor 4 = .ok (.iconst 1, 1) := by decide +kernel
theorem dX4_spotFor_5 : decode cX4_spotFor 5 = .ok (.isub, 1) := by decide +kernel
theorem dX4_spotFor_6 : decode cX4_spotFor 6 = .ok (.iand, 1) := by decide +kernel
theorem dX4_spotFor_7 : decode cX4_spotFor 7 = .ok (.invokestatic 41, 3) := by decide +kernel
theorem dX4_spotFor_10 : decode cX4_spotFor 10 = .ok (.istore_n 3, 1) := by decide +kernel
theorem dX4_spotFor_11 : decode cX4_spotFor 11 = .ok (.aload_n 0, 1) := by decide +kernel
theorem dX4_spotFor_12 : decode cX4_spotFor 12 = .ok (.getfield 82, 3) := by decide +kernel
theorem dX4_spotFor_15 : decode cX4_spotFor 15 = .ok (.aload_n 0, 1) := by decide +kernel
theorem dX4_spotFor_16 : decode cX4_spotFor 16 = .ok (.iload_n 3, 1) := by decide +kernel
theorem dX4_spotFor_17 : decode cX4_spotFor 17 = .ok (.invokevirtual 91, 3) := by decide +kernel
theorem dX4_spotFor_20 : decode cX4_spotFor 20 = .ok (.lshr, 1) := by decide +kernel
theorem dX4_spotFor_21 : decode cX4_spotFor 21 = .ok (.l2i, 1) := by decide +kernel
theorem dX4_spotFor_22 : decode cX4_spotFor 22 = .ok (.bipush 31, 2) := by decide +kernel
theorem dX4_spotFor_24 : decode cX4_spotFor 24 = .ok (.iand, 1) := by decide +kernel
theorem dX4_spotFor_25 : decode cX4_spotFor 25 = .ok (.ireturn, 1) := by decide +kernel
theorem dX4_spotShift_0 : decode cX4_spotShift 0 = .ok (.iconst 5, 1) := by decide +kernel
theorem dX4_spotShift_1 : decode cX4_spotShift 1 = .ok (.iconst 5, 1) := by decide +kernel
theorem dX4_spotShift_2 : decode cX4_spotShift 2 = .ok (.iload_n 1, 1) := by decide +kernel
theorem dX4_spotShift_3 : decode cX4_spotShift 3 = .ok (.isub, 1) := by decide +kernel
theorem dX4_spotShift_4 : decode cX4_spotShift 4 = .ok (.imul, 1) := by decide +kernel
theorem dX4_spotShift_5 : decode cX4_spotShift 5 = .ok (.ireturn, 1) := by decide +kernel
theorem dX4_allRanks_0 : decode cX4_allRanks 0 = .ok (.iconst 1, 1) := by decide +kernel
theorem dX4_allRanks_1 : decode cX4_allRanks 1 = .ok (.aload_n 0, 1) := by decide +kernel
theorem dX4_allRanks_2 : decode cX4_allRanks 2 = .ok (.getfield 94, 3) := by decide +kernel
theorem dX4_allRanks_5 : decode cX4_allRanks 5 = .ok (.ishl, 1) := by decide +kernel
theorem dX4_allRanks_6 : decode cX4_allRanks 6 = .ok (.iconst 1, 1) := by decide +kernel
theorem dX4_allRanks_7 : decode cX4_allRanks 7 = .ok (.isub, 1) := by decide +kernel
theorem dX4_allRanks_8 : decode cX4_allRanks 8 = .ok (.ireturn, 1) := by decide +kernel
theorem dX4_rankBoats_0 : decode cX4_rankBoats 0 = .ok (.aload_n 0, 1) := by decide +kernel
theorem dX4_rankBoats_1 : decode cX4_rankBoats 1 = .ok (.iconst 0, 1) := by decide +kernel
theorem dX4_rankBoats_2 : decode cX4_rankBoats 2 = .ok (.putfield 94, 3) := by decide +kernel
theorem dX4_rankBoats_5 : decode cX4_rankBoats 5 = .ok (.aload_n 1, 1) := by decide +kernel
theorem dX4_rankBoats_6 : decode cX4_rankBoats 6 = .ok (.getfield 97, 3) := by decide +kernel
theorem dX4_rankBoats_9 : decode cX4_rankBoats 9 = .ok (.astore_n 3, 1) := by decide +kernel
theorem dX4_rankBoats_10 : decode cX4_rankBoats 10 = .ok (.aload_n 3, 1) := by decide +kernel
theorem dX4_rankBoats_11 : decode cX4_rankBoats 11 = .ok (.arraylength, 1) := by decide +kernel
theorem dX4_rankBoats_12 : decode cX4_rankBoats 12 = .ok (.istore 4, 2) := by decide +kernel
theorem dX4_rankBoats_14 : decode cX4_rankBoats 14 = .ok (.iconst 0, 1) := by decide +kernel
theorem dX4_rankBoats_15 : decode cX4_rankBoats 15 = .ok (.istore 5, 2) := by decide +kernel
theorem dX4_rankBoats_17 : decode cX4_rankBoats 17 = .ok (.iload 5, 2) := by decide +kernel
theorem dX4_rankBoats_19 : decode cX4_rankBoats 19 = .ok (.iload 4, 2) := by decide +kernel
theorem dX4_rankBoats_21 : decode cX4_rankBoats 21 = .ok (.if_icmp .ge 62, 3) := by decide +kernel
theorem dX4_rankBoats_24 : decode cX4_rankBoats 24 = .ok (.aload_n 3, 1) := by decide +kernel
theorem dX4_rankBoats_25 : decode cX4_rankBoats 25 = .ok (.iload 5, 2) := by decide +kernel
theorem dX4_rankBoats_27 : decode cX4_rankBoats 27 = .ok (.aaload, 1) := by decide +kernel
theorem dX4_rankBoats_28 : decode cX4_rankBoats 28 = .ok (.astore 6, 2) := by decide +kernel
theorem dX4_rankBoats_30 : decode cX4_rankBoats 30 = .ok (.aload 6, 2) := by decide +kernel
theorem dX4_rankBoats_32 : decode cX4_rankBoats 32 = .ok (.ifnull 45, 3) := by decide +kernel
theorem dX4_rankBoats_35 : decode cX4_rankBoats 35 = .ok (.aload_n 0, 1) := by decide +kernel
theorem dX4_rankBoats_36 : decode cX4_rankBoats 36 = .ok (.getfield 94, 3) := by decide +kernel
theorem dX4_rankBoats_39 : decode cX4_rankBoats 39 = .ok (.bipush 6, 2) := by decide +kernel
theorem dX4_rankBoats_41 : decode cX4_rankBoats 41 = .ok (.if_icmp .ge 36, 3) := by decide +kernel
theorem dX4_rankBoats_44 : decode cX4_rankBoats 44 = .ok (.iload_n 2, 1) := by decide +kernel
theorem dX4_rankBoats_45 : decode cX4_rankBoats 45 = .ok (.aload 6, 2) := by decide +kernel
theorem dX4_rankBoats_47 : decode cX4_rankBoats 47 = .ok (.getfield 100, 3) := by decide +kernel
theorem dX4_rankBoats_50 : decode cX4_rankBoats 50 = .ok (.invokestatic 103, 3) := by decide +kernel
theorem dX4_rankBoats_53 : decode cX4_rankBoats 53 = .ok (.ifCond .eq 24, 3) := by decide +kernel
theorem dX4_rankBoats_56 : decode cX4_rankBoats 56 = .ok (.aload_n 0, 1) := by decide +kernel
theorem dX4_rankBoats_57 : decode cX4_rankBoats 57 = .ok (.getfield 13, 3) := by decide +kernel
theorem dX4_rankBoats_60 : decode cX4_rankBoats 60 = .ok (.aload_n 0, 1) := by decide +kernel
theorem dX4_rankBoats_61 : decode cX4_rankBoats 61 = .ok (.getfield 94, 3) := by decide +kernel
theorem dX4_rankBoats_64 : decode cX4_rankBoats 64 = .ok (.aload 6, 2) := by decide +kernel
theorem dX4_rankBoats_66 : decode cX4_rankBoats 66 = .ok (.aastore, 1) := by decide +kernel
theorem dX4_rankBoats_67 : decode cX4_rankBoats 67 = .ok (.aload_n 0, 1) := by decide +kernel
theorem dX4_rankBoats_68 : decode cX4_rankBoats 68 = .ok (.dup, 1) := by decide +kernel
theorem dX4_rankBoats_69 : decode cX4_rankBoats 69 = .ok (.getfield 94, 3) := by decide +kernel
theorem dX4_rankBoats_72 : decode cX4_rankBoats 72 = .ok (.iconst 1, 1) := by decide +kernel
theorem dX4_rankBoats_73 : decode cX4_rankBoats 73 = .ok (.iadd, 1) := by decide +kernel
theorem dX4_rankBoats_74 : decode cX4_rankBoats 74 = .ok (.putfield 94, 3) := by decide +kernel
theorem dX4_rankBoats_77 : decode cX4_rankBoats 77 = .ok (.iinc 5 1, 3) := by decide +kernel
theorem dX4_rankBoats_80 : decode cX4_rankBoats 80 = .ok (.goto (-63), 3) := by decide +kernel
theorem dX4_rankBoats_83 : decode cX4_rankBoats 83 = .ok (.return_, 1) := by decide +kernel
theorem dX4_compareRanks_0 : decode cX4_compareRanks 0 = .ok (.iconst 0, 1) := by decide +kernel
theorem dX4_compareRanks_1 : decode cX4_compareRanks 1 = .ok (.istore_n 2, 1) := by decide +kernel
theorem dX4_compareRanks_2 : decode cX4_compareRanks 2 = .ok (.iload_n 2, 1) := by decide +kernel
theorem dX4_compareRanks_3 : decode cX4_compareRanks 3 = .ok (.aload_n 0, 1) := by decide +kernel
theorem dX4_compareRanks_4 : decode cX4_compareRanks 4 = .ok (.getfield 94, 3) := by decide +kernel
theorem dX4_compareRanks_7 : decode cX4_compareRanks 7 = .ok (.if_icmp .ge 46, 3) := by decide +kernel
theorem dX4_compareRanks_10 : decode cX4_compareRanks 10 = .ok (.aload_n 0, 1) := by decide +kernel
theorem dX4_compareRanks_11 : decode cX4_compareRanks 11 = .ok (.getfield 17, 3) := by decide +kernel
theorem dX4_compareRanks_14 : decode cX4_compareRanks 14 = .ok (.iload_n 2, 1) := by decide +kernel
theorem dX4_compareRanks_15 : decode cX4_compareRanks 15 = .ok (.iconst 0, 1) := by decide +kernel
theorem dX4_compareRanks_16 : decode cX4_compareRanks 16 = .ok (.iastore, 1) := by decide +kernel
theorem dX4_compareRanks_17 : decode cX4_compareRanks 17 = .ok (.aload_n 0, 1) := by decide +kernel
theorem dX4_compareRanks_18 : decode cX4_compareRanks 18 = .ok (.getfield 21, 3) := by decide +kernel
theorem dX4_compareRanks_21 : decode cX4_compareRanks 21 = .ok (.iload_n 2, 1) := by decide +kernel
theorem dX4_compareRanks_22 : decode cX4_compareRanks 22 = .ok (.iconst 0, 1) := by decide +kernel
theorem dX4_compareRanks_23 : decode cX4_compareRanks 23 = .ok (.iastore, 1) := by decide +kernel
theorem dX4_compareRanks_24 : decode cX4_compareRanks 24 = .ok (.iconst 0, 1) := by decide +kernel
theorem dX4_compareRanks_25 : decode cX4_compareRanks 25 = .ok (.istore_n 3, 1) := by decide +kernel
theorem dX4_compareRanks_26 : decode cX4_compareRanks 26 = .ok (.iload_n 3, 1) := by decide +kernel
theorem dX4_compareRanks_27 : decode cX4_compareRanks 27 = .ok (.aload_n 0, 1) := by decide +kernel
theorem dX4_compareRanks_28 : decode cX4_compareRanks 28 = .ok (.getfield 94, 3) := by decide +kernel
theorem dX4_compareRanks_31 : decode cX4_compareRanks 31 = .ok (.if_icmp .ge 16, 3) := by decide +kernel
theorem dX4_compareRanks_34 : decode cX4_compareRanks 34 = .ok (.aload_n 0, 1) := by decide +kernel
theorem dX4_compareRanks_35 : decode cX4_compareRanks 35 = .ok (.aload_n 1, 1) := by decide +kernel
theorem dX4_compareRanks_36 : decode cX4_compareRanks 36 = .ok (.iload_n 2, 1) := by decide +kernel
theorem dX4_compareRanks_37 : decode cX4_compareRanks 37 = .ok (.iload_n 3, 1) := by decide +kernel
theorem dX4_compareRanks_38 : decode cX4_compareRanks 38 = .ok (.invokevirtual 107, 3) := by decide +kernel
theorem dX4_compareRanks_41 : decode cX4_compareRanks 41 = .ok (.iinc 3 1, 3) := by decide +kernel
theorem dX4_compareRanks_44 : decode cX4_compareRanks 44 = .ok (.goto (-18), 3) := by decide +kernel
theorem dX4_compareRanks_47 : decode cX4_compareRanks 47 = .ok (.iinc 2 1, 3) := by decide +kernel
theorem dX4_compareRanks_50 : decode cX4_compareRanks 50 = .ok (.goto (-48), 3) := by decide +kernel
theorem dX4_compareRanks_53 : decode cX4_compareRanks 53 = .ok (.return_, 1) := by decide +kernel
theorem dX4_compareTwo_0 : decode cX4_compareTwo 0 = .ok (.aload_n 0, 1) := by decide +kernel
theorem dX4_compareTwo_1 : decode cX4_compareTwo 1 = .ok (.getfield 13, 3) := by decide +kernel
theorem dX4_compareTwo_4 : decode cX4_compareTwo 4 = .ok (.iload_n 2, 1) := by decide +kernel
theorem dX4_compareTwo_5 : decode cX4_compareTwo 5 = .ok (.aaload, 1) := by decide +kernel
theorem dX4_compareTwo_6 : decode cX4_compareTwo 6 = .ok (.astore 4, 2) := by decide +kernel
theorem dX4_compareTwo_8 : decode cX4_compareTwo 8 = .ok (.aload_n 0, 1) := by decide +kernel
theorem dX4_compareTwo_9 : decode cX4_compareTwo 9 = .ok (.getfield 13, 3) := by decide +kernel
theorem dX4_compareTwo_12 : decode cX4_compareTwo 12 = .ok (.iload_n 3, 1) := by decide +kernel
theorem dX4_compareTwo_13 : decode cX4_compareTwo 13 = .ok (.aaload, 1) := by decide +kernel
theorem dX4_compareTwo_14 : decode cX4_compareTwo 14 = .ok (.astore 5, 2) := by decide +kernel
theorem dX4_compareTwo_16 : decode cX4_compareTwo 16 = .ok (.aload 5, 2) := by decide +kernel
theorem dX4_compareTwo_18 : decode cX4_compareTwo 18 = .ok (.ifnull 8, 3) := by decide +kernel
theorem dX4_compareTwo_21 : decode cX4_compareTwo 21 = .ok (.aload 4, 2) := by decide +kernel
theorem dX4_compareTwo_23 : decode cX4_compareTwo 23 = .ok (.ifnonnull 4, 3) := by decide +kernel
theorem dX4_compareTwo_26 : decode cX4_compareTwo 26 = .ok (.return_, 1) := by decide +kernel
theorem dX4_compareTwo_27 : decode cX4_compareTwo 27 = .ok (.aload_n 1, 1) := by decide +kernel
theorem dX4_compareTwo_28 : decode cX4_compareTwo 28 = .ok (.aload 4, 2) := by decide +kernel
theorem dX4_compareTwo_30 : decode cX4_compareTwo 30 = .ok (.aload 5, 2) := by decide +kernel
theorem dX4_compareTwo_32 : decode cX4_compareTwo 32 = .ok (.invokevirtual 111, 3) := by decide +kernel
theorem dX4_compareTwo_35 : decode cX4_compareTwo 35 = .ok (.ifCond .ne 15, 3) := by decide +kernel
theorem dX4_compareTwo_38 : decode cX4_compareTwo 38 = .ok (.aload_n 0, 1) := by decide +kernel
theorem dX4_compareTwo_39 : decode cX4_compareTwo 39 = .ok (.getfield 17, 3) := by decide +kernel
theorem dX4_compareTwo_42 : decode cX4_compareTwo 42 = .ok (.iload_n 2, 1) := by decide +kernel
theorem dX4_compareTwo_43 : decode cX4_compareTwo 43 = .ok (.dup2, 1) := by decide +kernel
theorem dX4_compareTwo_44 : decode cX4_compareTwo 44 = .ok (.iaload, 1) := by decide +kernel
theorem dX4_compareTwo_45 : decode cX4_compareTwo 45 = .ok (.iconst 1, 1) := by decide +kernel
theorem dX4_compareTwo_46 : decode cX4_compareTwo 46 = .ok (.iload_n 3, 1) := by decide +kernel
theorem dX4_compareTwo_47 : decode cX4_compareTwo 47 = .ok (.ishl, 1) := by decide +kernel
theorem dX4_compareTwo_48 : decode cX4_compareTwo 48 = .ok (.ior, 1) := by decide +kernel
theorem dX4_compareTwo_49 : decode cX4_compareTwo 49 = .ok (.iastore, 1) := by decide +kernel
theorem dX4_compareTwo_50 : decode cX4_compareTwo 50 = .ok (.aload 5, 2) := by decide +kernel
theorem dX4_compareTwo_52 : decode cX4_compareTwo 52 = .ok (.aload 4, 2) := by decide +kernel
theorem dX4_compareTwo_54 : decode cX4_compareTwo 54 = .ok (.invokevirtual 115, 3) := by decide +kernel
theorem dX4_compareTwo_57 : decode cX4_compareTwo 57 = .ok (.ifCond .eq 15, 3) := by decide +kernel
theorem dX4_compareTwo_60 : decode cX4_compareTwo 60 = .ok (.aload_n 0, 1) := by decide +kernel
theorem dX4_compareTwo_61 : decode cX4_compareTwo 61 = .ok (.getfield 21, 3) := by decide +kernel
theorem dX4_compareTwo_64 : decode cX4_compareTwo 64 = .ok (.iload_n 2, 1) := by decide +kernel
theorem dX4_compareTwo_65 : decode cX4_compareTwo 65 = .ok (.dup2, 1) := by decide +kernel
theorem dX4_compareTwo_66 : decode cX4_compareTwo 66 = .ok (.iaload, 1) := by decide +kernel
theorem dX4_compareTwo_67 : decode cX4_compareTwo 67 = .ok (.iconst 1, 1) := by decide +kernel
theorem dX4_compareTwo_68 : decode cX4_compareTwo 68 = .ok (.iload_n 3, 1) := by decide +kernel
theorem dX4_compareTwo_69 : decode cX4_compareTwo 69 = .ok (.ishl, 1) := by decide +kernel
theorem dX4_compareTwo_70 : decode cX4_compareTwo 70 = .ok (.ior, 1) := by decide +kernel
theorem dX4_compareTwo_71 : decode cX4_compareTwo 71 = .ok (.iastore, 1) := by decide +kernel
theorem dX4_compareTwo_72 : decode cX4_compareTwo 72 = .ok (.return_, 1) := by decide +kernel
theorem dX4_costRows_0 : decode cX4_costRows 0 = .ok (.iconst 1, 1) := by decide +kernel
theorem dX4_costRows_1 : decode cX4_costRows 1 = .ok (.istore 4, 2) := by decide +kernel
theorem dX4_costRows_3 : decode cX4_costRows 3 = .ok (.iload 4, 2) := by decide +kernel
theorem dX4_costRows_5 : decode cX4_costRows 5 = .ok (.aload_n 0, 1) := by decide +kernel
theorem dX4_costRows_6 : decode cX4_costRows 6 = .ok (.invokevirtual 78, 3) := by decide +kernel
theorem dX4_costRows_9 : decode cX4_costRows 9 = .ok (.if_icmp .gt 94, 3) := by decide +kernel
theorem dX4_costRows_12 : decode cX4_costRows 12 = .ok (.aload_n 0, 1) := by decide +kernel
theorem dX4_costRows_13 : decode cX4_costRows 13 = .ok (.getfield 28, 3) := by decide +kernel
theorem dX4_costRows_16 : decode cX4_costRows 16 = .ok (.iload 4, 2) := by decide +kernel
theorem dX4_costRows_18 : decode cX4_costRows 18 = .ok (.ldc2_w 56, 3) := by decide +kernel
theorem dX4_costRows_21 : decode cX4_costRows 21 = .ok (.lastore, 1) := by decide +kernel
theorem dX4_costRows_22 : decode cX4_costRows 22 = .ok (.iconst 0, 1) := by decide +kernel
theorem dX4_costRows_23 : decode cX4_costRows 23 = .ok (.istore 5, 2) := by decide +kernel
theorem dX4_costRows_25 : decode cX4_costRows 25 = .ok (.iload 5, 2) := by decide +kernel
theorem dX4_costRows_27 : decode cX4_costRows 27 = .ok (.aload_n 0, 1) := by decide +kernel
theorem dX4_costRows_28 : decode cX4_costRows 28 = .ok (.getfield 94, 3) := by decide +kernel
theorem dX4_costRows_31 : decode cX4_costRows 31 = .ok (.if_icmp .ge 66, 3) := by decide +kernel
theorem dX4_costRows_34 : decode cX4_costRows 34 = .ok (.iload 4, 2) := by decide +kernel
theorem dX4_costRows_36 : decode cX4_costRows 36 = .ok (.iload 5, 2) := by decide +kernel
theorem dX4_costRows_38 : decode cX4_costRows 38 = .ok (.ishr, 1) := by decide +kernel
theorem dX4_costRows_39 : decode cX4_costRows 39 = .ok (.iconst 1, 1) := by decide +kernel
theorem dX4_costRows_40 : decode cX4_costRows 40 = .ok (.iand, 1) := by decide +kernel
theorem dX4_costRows_41 : decode cX4_costRows 41 = .ok (.ifCond .eq 50, 3) := by decide +kernel
theorem dX4_costRows_44 : decode cX4_costRows 44 = .ok (.aload_n 0, 1) := by decide +kernel
theorem dX4_costRows_45 : decode cX4_costRows 45 = .ok (.aload_n 1, 1) := by decide +kernel
theorem dX4_costRows_46 : decode cX4_costRows 46 = .ok (.aload_n 2, 1) := by decide +kernel
theorem dX4_costRows_47 : decode cX4_costRows 47 = .ok (.iload_n 3, 1) := by decide +kernel
theorem dX4_costRows_48 : decode cX4_costRows 48 = .ok (.iload 4, 2) := by decide +kernel
theorem dX4_costRows_50 : decode cX4_costRows 50 = .ok (.iload 5, 2) := by decide +kernel
theorem dX4_costRows_52 : decode cX4_costRows 52 = .ok (.invokevirtual 119, 3) := by decide +kernel
theorem dX4_costRows_55 : decode cX4_costRows 55 = .ok (.lstore 6, 2) := by decide +kernel
theorem dX4_costRows_57 : decode cX4_costRows 57 = .ok (.aload_n 0, 1) := by decide +kernel
theorem dX4_costRows_58 : decode cX4_costRows 58 = .ok (.getfield 24, 3) := by decide +kernel
theorem dX4_costRows_61 : decode cX4_costRows 61 = .ok (.iload 4, 2) := by decide +kernel
theorem dX4_costRows_63 : decode cX4_costRows 63 = .ok (.bipush 6, 2) := by decide +kernel
theorem dX4_costRows_65 : decode cX4_costRows 65 = .ok (.imul, 1) := by decide +kernel
theorem dX4_costRows_66 : decode cX4_costRows 66 = .ok (.iload 5, 2) := by decide +kernel
theorem dX4_costRows_68 : decode cX4_costRows 68 = .ok (.iadd, 1) := by decide +kernel
theorem dX4_costRows_69 : decode cX4_costRows 69 = .ok (.lload 6, 2) := by decide +kernel
theorem dX4_costRows_71 : decode cX4_costRows 71 = .ok (.lastore, 1) := by decide +kernel
theorem dX4_costRows_72 : decode cX4_costRows 72 = .ok (.aload_n 0, 1) := by decide +kernel
theorem dX4_costRows_73 : decode cX4_costRows 73 = .ok (.getfield 28, 3) := by decide +kernel
theorem dX4_costRows_76 : decode cX4_costRows 76 = .ok (.iload 4, 2) := by decide +kernel
theorem dX4_costRows_78 : decode cX4_costRows 78 = .ok (.aload_n 0, 1) := by decide +kernel
theorem dX4_costRows_79 : decode cX4_costRows 79 = .ok (.getfield 28, 3) := by decide +kernel
theorem dX4_costRows_82 : decode cX4_costRows 82 = .ok (.iload 4, 2) := by decide +kernel
theorem dX4_costRows_84 : decode cX4_costRows 84 = .ok (.laload, 1) := by decide +kernel
theorem dX4_costRows_85 : decode cX4_costRows 85 = .ok (.lload 6, 2) := by decide +kernel
theorem dX4_costRows_87 : decode cX4_costRows 87 = .ok (.invokestatic 123, 3) := by decide +kernel
theorem dX4_costRows_90 : decode cX4_costRows 90 = .ok (.lastore, 1) := by decide +kernel
theorem dX4_costRows_91 : decode cX4_costRows 91 = .ok (.iinc 5 1, 3) := by decide +kernel
theorem dX4_costRows_94 : decode cX4_costRows 94 = .ok (.goto (-69), 3) := by decide +kernel
theorem dX4_costRows_97 : decode cX4_costRows 97 = .ok (.iinc 4 1, 3) := by decide +kernel
theorem dX4_costRows_100 : decode cX4_costRows 100 = .ok (.goto (-97), 3) := by decide +kernel
theorem dX4_costRows_103 : decode cX4_costRows 103 = .ok (.return_, 1) := by decide +kernel
theorem dX4_costOutermost_0 : decode cX4_costOutermost 0 = .ok (.iload 4, 2) := by decide +kernel
theorem dX4_costOutermost_2 : decode cX4_costOutermost 2 = .ok (.iconst 1, 1) := by decide +kernel
theorem dX4_costOutermost_3 : decode cX4_costOutermost 3 = .ok (.iload 5, 2) := by decide +kernel
theorem dX4_costOutermost_5 : decode cX4_costOutermost 5 = .ok (.ishl, 1) := by decide +kernel
theorem dX4_costOutermost_6 : decode cX4_costOutermost 6 = .ok (.iconst (-1), 1) := by decide +kernel
theorem dX4_costOutermost_7 : decode cX4_costOutermost 7 = .ok (.ixor, 1) := by decide +kernel
theorem dX4_costOutermost_8 : decode cX4_costOutermost 8 = .ok (.iand, 1) := by decide +kernel
theorem dX4_costOutermost_9 : decode cX4_costOutermost 9 = .ok (.istore 6, 2) := by decide +kernel
theorem dX4_costOutermost_11 : decode cX4_costOutermost 11 = .ok (.iload 6, 2) := by decide +kernel
theorem dX4_costOutermost_13 : decode cX4_costOutermost 13 = .ok (.invokestatic 41, 3) := by decide +kernel
theorem dX4_costOutermost_16 : decode cX4_costOutermost 16 = .ok (.istore 7, 2) := by decide +kernel
theorem dX4_costOutermost_18 : decode cX4_costOutermost 18 = .ok (.aload_n 0, 1) := by decide +kernel
theorem dX4_costOutermost_19 : decode cX4_costOutermost 19 = .ok (.getfield 13, 3) := by decide +kernel
theorem dX4_costOutermost_22 : decode cX4_costOutermost 22 = .ok (.iload 5, 2) := by decide +kernel
theorem dX4_costOutermost_24 : decode cX4_costOutermost 24 = .ok (.aaload, 1) := by decide +kernel
theorem dX4_costOutermost_25 : decode cX4_costOutermost 25 = .ok (.astore 8, 2) := by decide +kernel
theorem dX4_costOutermost_27 : decode cX4_costOutermost 27 = .ok (.aload 8, 2) := by decide +kernel
theorem dX4_costOutermost_29 : decode cX4_costOutermost 29 = .ok (.ifnull 15, 3) := by decide +kernel
theorem dX4_costOutermost_32 : decode cX4_costOutermost 32 = .ok (.aload_n 1, 1) := by decide +kernel
theorem dX4_costOutermost_33 : decode cX4_costOutermost 33 = .ok (.aload 8, 2) := by decide +kernel
theorem dX4_costOutermost_35 : decode cX4_costOutermost 35 = .ok (.aload_n 2, 1) := by decide +kernel
theorem dX4_costOutermost_36 : decode cX4_costOutermost 36 = .ok (.iload 7, 2) := by decide +kernel
theorem dX4_costOutermost_38 : decode cX4_costOutermost 38 = .ok (.invokevirtual 129, 3) := by decide +kernel
theorem dX4_costOutermost_41 : decode cX4_costOutermost 41 = .ok (.ifCond .eq 7, 3) := by decide +kernel
theorem dX4_costOutermost_44 : decode cX4_costOutermost 44 = .ok (.ldc2_w 56, 3) := by decide +kernel
theorem dX4_costOutermost_47 : decode cX4_costOutermost 47 = .ok (.lreturn, 1) := by decide +kernel
theorem dX4_costOutermost_48 : decode cX4_costOutermost 48 = .ok (.iload 6, 2) := by decide +kernel
theorem dX4_costOutermost_50 : decode cX4_costOutermost 50 = .ok (.ifCond .ne 7, 3) := by decide +kernel
theorem dX4_costOutermost_53 : decode cX4_costOutermost 53 = .ok (.lconst 0, 1) := by decide +kernel
theorem dX4_costOutermost_54 : decode cX4_costOutermost 54 = .ok (.goto 19, 3) := by decide +kernel
theorem dX4_costOutermost_57 : decode cX4_costOutermost 57 = .ok (.aload_n 0, 1) := by decide +kernel
theorem dX4_costOutermost_58 : decode cX4_costOutermost 58 = .ok (.iload 6, 2) := by decide +kernel
theorem dX4_costOutermost_60 : decode cX4_costOutermost 60 = .ok (.iload 6, 2) := by decide +kernel
theorem dX4_costOutermost_62 : decode cX4_costOutermost 62 = .ok (.aload_n 0, 1) := by decide +kernel
theorem dX4_costOutermost_63 : decode cX4_costOutermost 63 = .ok (.getfield 17, 3) := by decide +kernel
theorem dX4_costOutermost_66 : decode cX4_costOutermost 66 = .ok (.iload 5, 2) := by decide +kernel
theorem dX4_costOutermost_68 : decode cX4_costOutermost 68 = .ok (.iaload, 1) := by decide +kernel
theorem dX4_costOutermost_69 : decode cX4_costOutermost 69 = .ok (.iand, 1) := by decide +kernel
theorem dX4_costOutermost_70 : decode cX4_costOutermost 70 = .ok (.invokevirtual 133, 3) := by decide +kernel
theorem dX4_costOutermost_73 : decode cX4_costOutermost 73 = .ok (.lstore 9, 2) := by decide +kernel
theorem dX4_costOutermost_75 : decode cX4_costOutermost 75 = .ok (.lload 9, 2) := by decide +kernel
theorem dX4_costOutermost_77 : decode cX4_costOutermost 77 = .ok (.ldc2_w 56, 3) := by decide +kernel
theorem dX4_costOutermost_80 : decode cX4_costOutermost 80 = .ok (.lcmp, 1) := by decide +kernel
theorem dX4_costOutermost_81 : decode cX4_costOutermost 81 = .ok (.ifCond .lt 7, 3) := by decide +kernel
theorem dX4_costOutermost_84 : decode cX4_costOutermost 84 = .ok (.ldc2_w 56, 3) := by decide +kernel
theorem dX4_costOutermost_87 : decode cX4_costOutermost 87 = .ok (.lreturn, 1) := by decide +kernel
theorem dX4_costOutermost_88 : decode cX4_costOutermost 88 = .ok (.iload 6, 2) := by decide +kernel
theorem dX4_costOutermost_90 : decode cX4_costOutermost 90 = .ok (.aload_n 0, 1) := by decide +kernel
theorem dX4_costOutermost_91 : decode cX4_costOutermost 91 = .ok (.getfield 21, 3) := by decide +kernel
theorem dX4_costOutermost_94 : decode cX4_costOutermost 94 = .ok (.iload 5, 2) := by decide +kernel
theorem dX4_costOutermost_96 : decode cX4_costOutermost 96 = .ok (.iaload, 1) := by decide +kernel
theorem dX4_costOutermost_97 : decode cX4_costOutermost 97 = .ok (.iand, 1) := by decide +kernel
theorem dX4_costOutermost_98 : decode cX4_costOutermost 98 = .ok (.invokestatic 41, 3) := by decide +kernel
theorem dX4_costOutermost_101 : decode cX4_costOutermost 101 = .ok (.i2l, 1) := by decide +kernel
theorem dX4_costOutermost_102 : decode cX4_costOutermost 102 = .ok (.lstore 11, 2) := by decide +kernel
theorem dX4_costOutermost_104 : decode cX4_costOutermost 104 = .ok (.iload_n 3, 1) := by decide +kernel
theorem dX4_costOutermost_105 : decode cX4_costOutermost 105 = .ok (.iconst 3, 1) := by decide +kernel
theorem dX4_costOutermost_106 : decode cX4_costOutermost 106 = .ok (.ishl, 1) := by decide +kernel
theorem dX4_costOutermost_107 : decode cX4_costOutermost 107 = .ok (.iload 7, 2) := by decide +kernel
theorem dX4_costOutermost_109 : decode cX4_costOutermost 109 = .ok (.ior, 1) := by decide +kernel
theorem dX4_costOutermost_110 : decode cX4_costOutermost 110 = .ok (.i2l, 1) := by decide +kernel
theorem dX4_costOutermost_111 : decode cX4_costOutermost 111 = .ok (.lstore 13, 2) := by decide +kernel
theorem dX4_costOutermost_113 : decode cX4_costOutermost 113 = .ok (.lload 9, 2) := by decide +kernel
theorem dX4_costOutermost_115 : decode cX4_costOutermost 115 = .ok (.lload 11, 2) := by decide +kernel
theorem dX4_costOutermost_117 : decode cX4_costOutermost 117 = .ok (.bipush 30, 2) := by decide +kernel
theorem dX4_costOutermost_119 : decode cX4_costOutermost 119 = .ok (.lshl, 1) := by decide +kernel
theorem dX4_costOutermost_120 : decode cX4_costOutermost 120 = .ok (.ladd, 1) := by decide +kernel
theorem dX4_costOutermost_121 : decode cX4_costOutermost 121 = .ok (.lload 13, 2) := by decide +kernel
theorem dX4_costOutermost_123 : decode cX4_costOutermost 123 = .ok (.aload_n 0, 1) := by decide +kernel
theorem dX4_costOutermost_124 : decode cX4_costOutermost 124 = .ok (.iload 5, 2) := by decide +kernel
theorem dX4_costOutermost_126 : decode cX4_costOutermost 126 = .ok (.invokevirtual 91, 3) := by decide +kernel
theorem dX4_costOutermost_129 : decode cX4_costOutermost 129 = .ok (.lshl, 1) := by decide +kernel
theorem dX4_costOutermost_130 : decode cX4_costOutermost 130 = .ok (.ladd, 1) := by decide +kernel
theorem dX4_costOutermost_131 : decode cX4_costOutermost 131 = .ok (.lreturn, 1) := by decide +kernel
theorem dX4_costInside_0 : decode cX4_costInside 0 = .ok (.ldc2_w 56, 3) := by decide +kernel
theorem dX4_costInside_3 : decode cX4_costInside 3 = .ok (.lstore_n 3, 1) := by decide +kernel
theorem dX4_costInside_4 : decode cX4_costInside 4 = .ok (.iconst 0, 1) := by decide +kernel
theorem dX4_costInside_5 : decode cX4_costInside 5 = .ok (.istore 5, 2) := by decide +kernel
theorem dX4_costInside_7 : decode cX4_costInside 7 = .ok (.iload 5, 2) := by decide +kernel
theorem dX4_costInside_9 : decode cX4_costInside 9 = .ok (.aload_n 0, 1) := by decide +kernel
theorem dX4_costInside_10 : decode cX4_costInside 10 = .ok (.getfield 94, 3) := by decide +kernel
theorem dX4_costInside_13 : decode cX4_costInside 13 = .ok (.if_icmp .ge 35, 3) := by decide +kernel
theorem dX4_costInside_16 : decode cX4_costInside 16 = .ok (.iload_n 2, 1) := by decide +kernel
theorem dX4_costInside_17 : decode cX4_costInside 17 = .ok (.iload 5, 2) := by decide +kernel
theorem dX4_costInside_19 : decode cX4_costInside 19 = .ok (.ishr, 1) := by decide +kernel
theorem dX4_costInside_20 : decode cX4_costInside 20 = .ok (.iconst 1, 1) := by decide +kernel
theorem dX4_costInside_21 : decode cX4_costInside 21 = .ok (.iand, 1) := by decide +kernel
theorem dX4_costInside_22 : decode cX4_costInside 22 = .ok (.ifCond .eq 20, 3) := by decide +kernel
theorem dX4_costInside_25 : decode cX4_costInside 25 = .ok (.lload_n 3, 1) := by decide +kernel
theorem dX4_costInside_26 : decode cX4_costInside 26 = .ok (.aload_n 0, 1) := by decide +kernel
theorem dX4_costInside_27 : decode cX4_costInside 27 = .ok (.getfield 24, 3) := by decide +kernel
theorem dX4_costInside_30 : decode cX4_costInside 30 = .ok (.iload_n 1, 1) := by decide +kernel
theorem dX4_costInside_31 : decode cX4_costInside 31 = .ok (.bipush 6, 2) := by decide +kernel
theorem dX4_costInside_33 : decode cX4_costInside 33 = .ok (.imul, 1) := by decide +kernel
theorem dX4_costInside_34 : decode cX4_costInside 34 = .ok (.iload 5, 2) := by decide +kernel
theorem dX4_costInside_36 : decode cX4_costInside 36 = .ok (.iadd, 1) := by decide +kernel
theorem dX4_costInside_37 : decode cX4_costInside 37 = .ok (.laload, 1) := by decide +kernel
theorem dX4_costInside_38 : decode cX4_costInside 38 = .ok (.invokestatic 123, 3) := by decide +kernel
theorem dX4_costInside_41 : decode cX4_costInside 41 = .ok (.lstore_n 3, 1) := by decide +kernel
theorem dX4_costInside_42 : decode cX4_costInside 42 = .ok (.iinc 5 1, 3) := by decide +kernel
theorem dX4_costInside_45 : decode cX4_costInside 45 = .ok (.goto (-38), 3) := by decide +kernel
theorem dX4_costInside_48 : decode cX4_costInside 48 = .ok (.lload_n 3, 1) := by decide +kernel
theorem dX4_costInside_49 : decode cX4_costInside 49 = .ok (.lreturn, 1) := by decide +kernel
theorem dX4_joinBerth_0 : decode cX4_joinBerth 0 = .ok (.aload_n 0, 1) := by decide +kernel
theorem dX4_joinBerth_1 : decode cX4_joinBerth 1 = .ok (.invokevirtual 78, 3) := by decide +kernel
theorem dX4_joinBerth_4 : decode cX4_joinBerth 4 = .ok (.istore_n 1, 1) := by decide +kernel
theorem dX4_joinBerth_5 : decode cX4_joinBerth 5 = .ok (.iload_n 1, 1) := by decide +kernel
theorem dX4_joinBerth_6 : decode cX4_joinBerth 6 = .ok (.ifCond .le 66, 3) := by decide +kernel
theorem dX4_joinBerth_9 : decode cX4_joinBerth 9 = .ok (.aload_n 0, 1) := by decide +kernel
theorem dX4_joinBerth_10 : decode cX4_joinBerth 10 = .ok (.getfield 31, 3) := by decide +kernel
theorem dX4_joinBerth_13 : decode cX4_joinBerth 13 = .ok (.iload_n 1, 1) := by decide +kernel
theorem dX4_joinBerth_14 : decode cX4_joinBerth 14 = .ok (.laload, 1) := by decide +kernel
theorem dX4_joinBerth_15 : decode cX4_joinBerth 15 = .ok (.lstore_n 2, 1) := by decide +kernel
theorem dX4_joinBerth_16 : decode cX4_joinBerth 16 = .ok (.iload_n 1, 1) := by decide +kernel
theorem dX4_joinBerth_17 : decode cX4_joinBerth 17 = .ok (.istore 4, 2) := by decide +kernel
theorem dX4_joinBerth_19 : decode cX4_joinBerth 19 = .ok (.iload 4, 2) := by decide +kernel
theorem dX4_joinBerth_21 : decode cX4_joinBerth 21 = .ok (.ifCond .le 38, 3) := by decide +kernel
theorem dX4_joinBerth_24 : decode cX4_joinBerth 24 = .ok (.lload_n 2, 1) := by decide +kernel
theorem dX4_joinBerth_25 : decode cX4_joinBerth 25 = .ok (.aload_n 0, 1) := by decide +kernel
theorem dX4_joinBerth_26 : decode cX4_joinBerth 26 = .ok (.getfield 28, 3) := by decide +kernel
theorem dX4_joinBerth_29 : decode cX4_joinBerth 29 = .ok (.iload 4, 2) := by decide +kernel
theorem dX4_joinBerth_31 : decode cX4_joinBerth 31 = .ok (.laload, 1) := by decide +kernel
theorem dX4_joinBerth_32 : decode cX4_joinBerth 32 = .ok (.aload_n 0, 1) := by decide +kernel
theorem dX4_joinBerth_33 : decode cX4_joinBerth 33 = .ok (.getfield 31, 3) := by decide +kernel
theorem dX4_joinBerth_36 : decode cX4_joinBerth 36 = .ok (.iload_n 1, 1) := by decide +kernel
theorem dX4_joinBerth_37 : decode cX4_joinBerth 37 = .ok (.iload 4, 2) := by decide +kernel
theorem dX4_joinBerth_39 : decode cX4_joinBerth 39 = .ok (.iconst (-1), 1) := by decide +kernel
theorem dX4_joinBerth_40 : decode cX4_joinBerth 40 = .ok (.ixor, 1) := by decide +kernel
theorem dX4_joinBerth_41 : decode cX4_joinBerth 41 = .ok (.iand, 1) := by decide +kernel
theorem dX4_joinBerth_42 : decode cX4_joinBerth 42 = .ok (.laload, 1) := by decide +kernel
theorem dX4_joinBerth_43 : decode cX4_joinBerth 43 = .ok (.ladd, 1) := by decide +kernel
theorem dX4_joinBerth_44 : decode cX4_joinBerth 44 = .ok (.invokestatic 123, 3) := by decide +kernel
theorem dX4_joinBerth_47 : decode cX4_joinBerth 47 = .ok (.lstore_n 2, 1) := by decide +kernel
theorem dX4_joinBerth_48 : decode cX4_joinBerth 48 = .ok (.iload 4, 2) := by decide +kernel
theorem dX4_joinBerth_50 : decode cX4_joinBerth 50 = .ok (.iconst 1, 1) := by decide +kernel
theorem dX4_joinBerth_51 : decode cX4_joinBerth 51 = .ok (.isub, 1) := by decide +kernel
theorem dX4_joinBerth_52 : decode cX4_joinBerth 52 = .ok (.iload_n 1, 1) := by decide +kernel
theorem dX4_joinBerth_53 : decode cX4_joinBerth 53 = .ok (.iand, 1) := by decide +kernel
theorem dX4_joinBerth_54 : decode cX4_joinBerth 54 = .ok (.istore 4, 2) := by decide +kernel
theorem dX4_joinBerth_56 : decode cX4_joinBerth 56 = .ok (.goto (-37), 3) := by decide +kernel
theorem dX4_joinBerth_59 : decode cX4_joinBerth 59 = .ok (.aload_n 0, 1) := by decide +kernel
theorem dX4_joinBerth_60 : decode cX4_joinBerth 60 = .ok (.getfield 31, 3) := by decide +kernel
theorem dX4_joinBerth_63 : decode cX4_joinBerth 63 = .ok (.iload_n 1, 1) := by decide +kernel
theorem dX4_joinBerth_64 : decode cX4_joinBerth 64 = .ok (.lload_n 2, 1) := by decide +kernel
theorem dX4_joinBerth_65 : decode cX4_joinBerth 65 = .ok (.lastore, 1) := by decide +kernel
theorem dX4_joinBerth_66 : decode cX4_joinBerth 66 = .ok (.iinc 1 (-1), 3) := by decide +kernel
theorem dX4_joinBerth_69 : decode cX4_joinBerth 69 = .ok (.goto (-64), 3) := by decide +kernel
theorem dX4_joinBerth_72 : decode cX4_joinBerth 72 = .ok (.return_, 1) := by decide +kernel
theorem dX5_init_0 : decode cX5_init 0 = .ok (.aload_n 0, 1) := by decide +kernel
theorem dX5_init_1 : decode cX5_init 1 = .ok (.invokespecial 3, 3) := by decide +kernel
theorem dX5_init_4 : decode cX5_init 4 = .ok (.aload_n 0, 1) := by decide +kernel
theorem dX5_init_5 : decode cX5_init 5 = .ok (.iconst 4, 1) := by decide +kernel
theorem dX5_init_6 : decode cX5_init 6 = .ok (.anewarray 9, 3) := by decide +kernel
theorem dX5_init_9 : decode cX5_init 9 = .ok (.putfield 11, 3) := by decide +kernel
theorem dX5_init_12 : decode cX5_init 12 = .ok (.aload_n 0, 1) := by decide +kernel
theorem dX5_init_13 : decode cX5_init 13 = .ok (.bipush 8, 2) := by decide +kernel
theorem dX5_init_15 : decode cX5_init 15 = .ok (.anewarray 17, 3) := by decide +kernel
theorem dX5_init_18 : decode cX5_init 18 = .ok (.putfield 19, 3) := by decide +kernel
theorem dX5_init_21 : decode cX5_init 21 = .ok (.return_, 1) := by decide +kernel
theorem dX5_addBerth_0 : decode cX5_addBerth 0 = .ok (.iload_n 1, 1) := by decide +kernel
theorem dX5_addBerth_1 : decode cX5_addBerth 1 = .ok (.iconst 0, 1) := by decide +kernel
theorem dX5_addBerth_2 : decode cX5_addBerth 2 = .ok (.bipush 90, 2) := by decide +kernel
theorem dX5_addBerth_4 : decode cX5_addBerth 4 = .ok (.invokestatic 23, 3) := by decide +kernel
theorem dX5_addBerth_7 : decode cX5_addBerth 7 = .ok (.ifCond .eq 34, 3) := by decide +kernel
theorem dX5_addBerth_10 : decode cX5_addBerth 10 = .ok (.iload_n 2, 1) := by decide +kernel
theorem dX5_addBerth_11 : decode cX5_addBerth 11 = .ok (.iconst 0, 1) := by decide +kernel
theorem dX5_addBerth_12 : decode cX5_addBerth 12 = .ok (.bipush 9, 2) := by decide +kernel
theorem dX5_addBerth_14 : decode cX5_addBerth 14 = .ok (.invokestatic 23, 3) := by decide +kernel
theorem dX5_addBerth_17 : decode cX5_addBerth 17 = .ok (.ifCond .eq 24, 3) := by decide +kernel
theorem dX5_addBerth_20 : decode cX5_addBerth 20 = .ok (.iload_n 3, 1) := by decide +kernel
theorem dX5_addBerth_21 : decode cX5_addBerth 21 = .ok (.iconst 1, 1) := by decide +kernel
theorem dX5_addBerth_22 : decode cX5_addBerth 22 = .ok (.bipush 6, 2) := by decide +kernel
theorem dX5_addBerth_24 : decode cX5_addBerth 24 = .ok (.invokestatic 23, 3) := by decide +kernel
theorem dX5_addBerth_27 : decode cX5_addBerth 27 = .ok (.ifCond .eq 14, 3) := by decide +kernel
theorem dX5_addBerth_30 : decode cX5_addBerth 30 = .ok (.iload 4, 2) := by decide +kernel
theorem dX5_addBerth_32 : decode cX5_addBerth 32 = .ok (.iconst 0, 1) := by decide +kernel
theorem dX5_addBerth_33 : decode cX5_addBerth 33 = .ok (.bipush 6, 2) := by decide +kernel
theorem dX5_addBerth_35 : decode cX5_addBerth 35 = .ok (.invokestatic 23, 3) := by decide +kernel
theorem dX5_addBerth_38 : decode cX5_addBerth 38 = .ok (.ifCond .ne 6, 3) := by decide +kernel
theorem dX5_addBerth_41 : decode cX5_addBerth 41 = .ok (.ldc 27, 2) := by decide +kernel
theorem dX5_addBerth_43 : decode cX5_addBerth 43 = .ok (.ireturn, 1) := by decide +kernel
theorem dX5_addBerth_44 : decode cX5_addBerth 44 = .ok (.aload_n 0, 1) := by decide +kernel
theorem dX5_addBerth_45 : decode cX5_addBerth 45 = .ok (.getfield 28, 3) := by decide +kernel
theorem dX5_addBerth_48 : decode cX5_addBerth 48 = .ok (.aload_n 0, 1) := by decide +kernel
theorem dX5_addBerth_49 : decode cX5_addBerth 49 = .ok (.getfield 11, 3) := by decide +kernel
theorem dX5_addBerth_52 : decode cX5_addBerth 52 = .ok (.arraylength, 1) := by decide +kernel
theorem dX5_addBerth_53 : decode cX5_addBerth 53 = .ok (.if_icmp .lt 6, 3) := by decide +kernel
theorem dX5_addBerth_56 : decode cX5_addBerth 56 = .ok (.ldc 32, 2) := by decide +kernel
theorem dX5_addBerth_58 : decode cX5_addBerth 58 = .ok (.ireturn, 1) := by decide +kernel
theorem dX5_addBerth_59 : decode cX5_addBerth 59 = .ok (.aload_n 0, 1) := by decide +kernel
theorem dX5_addBerth_60 : decode cX5_addBerth 60 = .ok (.getfield 11, 3) := by decide +kernel
theorem dX5_addBerth_63 : decode cX5_addBerth 63 = .ok (.aload_n 0, 1) := by decide +kernel
theorem dX5_addBerth_64 : decode cX5_addBerth 64 = .ok (.getfield 28, 3) := by decide +kernel
theorem dX5_addBerth_67 : decode cX5_addBerth 67 = .ok (.new 9, 3) := by decide +kernel
theorem dX5_addBerth_70 : decode cX5_addBerth 70 = .ok (.dup, 1) := by decide +kernel
theorem dX5_addBerth_71 : decode cX5_addBerth 71 = .ok (.iload_n 1, 1) := by decide +kernel
theorem dX5_addBerth_72 : decode cX5_addBerth 72 = .ok (.iload_n 2, 1) := by decide +kernel
theorem dX5_addBerth_73 : decode cX5_addBerth 73 = .ok (.iload_n 3, 1) := by decide +kernel
theorem dX5_addBerth_74 : decode cX5_addBerth 74 = .ok (.iload 4, 2) := by decide +kernel
theorem dX5_addBerth_76 : decode cX5_addBerth 76 = .ok (.invokespecial 33, 3) := by decide +kernel
theorem dX5_addBerth_79 : decode cX5_addBerth 79 = .ok (.aastore, 1) := by decide +kernel
theorem dX5_addBerth_80 : decode cX5_addBerth 80 = .ok (.aload_n 0, 1) := by decide +kernel
theorem dX5_addBerth_81 : decode cX5_addBerth 81 = .ok (.dup, 1) := by decide +kernel
theorem dX5_addBerth_82 : decode cX5_addBerth 82 = .ok (.getfield 28, 3) := by decide +kernel
theorem dX5_addBerth_85 : decode cX5_addBerth 85 = .ok (.iconst 1, 1) := by decide +kernel
theorem dX5_addBerth_86 : decode cX5_addBerth 86 = .ok (.iadd, 1) := by decide +kernel
theorem dX5_addBerth_87 : decode cX5_addBerth 87 = .ok (.putfield 28, 3) := by decide +kernel
theorem dX5_addBerth_90 : decode cX5_addBerth 90 = .ok (.aload_n 0, 1) := by decide +kernel
theorem dX5_addBerth_91 : decode cX5_addBerth 91 = .ok (.getfield 28, 3) := by decide +kernel
theorem dX5_addBerth_94 : decode cX5_addBerth 94 = .ok (.iconst 1, 1) := by decide +kernel
theorem dX5_addBerth_95 : decode cX5_addBerth 95 = .ok (.isub, 1) := by decide +kernel
theorem dX5_addBerth_96 : decode cX5_addBerth 96 = .ok (.ireturn, 1) := by decide +kernel
theorem dX5_addBoat_0 : decode cX5_addBoat 0 = .ok (.iload_n 1, 1) := by decide +kernel
theorem dX5_addBoat_1 : decode cX5_addBoat 1 = .ok (.iconst 0, 1) := by decide +kernel
theorem dX5_addBoat_2 : decode cX5_addBoat 2 = .ok (.iconst 3, 1) := by decide +kernel
theorem dX5_addBoat_3 : decode cX5_addBoat 3 = .ok (.invokestatic 23, 3) := by decide +kernel
theorem dX5_addBoat_6 : decode cX5_addBoat 6 = .ok (.ifCond .eq 23, 3) := by decide +kernel
theorem dX5_addBoat_9 : decode cX5_addBoat 9 = .ok (.iload_n 2, 1) := by decide +kernel
theorem dX5_addBoat_10 : decode cX5_addBoat 10 = .ok (.iconst 1, 1) := by decide +kernel
theorem dX5_addBoat_11 : decode cX5_addBoat 11 = .ok (.bipush 40, 2) := by decide +kernel
theorem dX5_addBoat_13 : decode cX5_addBoat 13 = .ok (.invokestatic 23, 3) := by decide +kernel
theorem dX5_addBoat_16 : decode cX5_addBoat 16 = .ok (.ifCond .eq 13, 3) := by decide +kernel
theorem dX5_addBoat_19 : decode cX5_addBoat 19 = .ok (.iload_n 3, 1) := by decide +kernel
theorem dX5_addBoat_20 : decode cX5_addBoat 20 = .ok (.iconst 0, 1) := by decide +kernel
theorem dX5_addBoat_21 : decode cX5_addBoat 21 = .ok (.bipush 99, 2) := by decide +kernel
theorem dX5_addBoat_23 : decode cX5_addBoat 23 = .ok (.invokestatic 23, 3) := by decide +kernel
theorem dX5_addBoat_26 : decode cX5_addBoat 26 = .ok (.ifCond .ne 6, 3) := by decide +kernel
theorem dX5_addBoat_29 : decode cX5_addBoat 29 = .ok (.ldc 27, 2) := by decide +kernel
theorem dX5_addBoat_31 : decode cX5_addBoat 31 = .ok (.ireturn, 1) := by decide +kernel
theorem dX5_addBoat_32 : decode cX5_addBoat 32 = .ok (.aload_n 0, 1) := by decide +kernel
theorem dX5_addBoat_33 : decode cX5_addBoat 33 = .ok (.getfield 36, 3) := by decide +kernel
theorem dX5_addBoat_36 : decode cX5_addBoat 36 = .ok (.aload_n 0, 1) := by decide +kernel
theorem dX5_addBoat_37 : decode cX5_addBoat 37 = .ok (.getfield 19, 3) := by decide +kernel
theorem dX5_addBoat_40 : decode cX5_addBoat 40 = .ok (.arraylength, 1) := by decide +kernel
theorem dX5_addBoat_41 : decode cX5_addBoat 41 = .ok (.if_icmp .lt 6, 3) := by decide +kernel
theorem dX5_addBoat_44 : decode cX5_addBoat 44 = .ok (.ldc 32, 2) := by decide +kernel
theorem dX5_addBoat_46 : decode cX5_addBoat 46 = .ok (.ireturn, 1) := by decide +kernel
theorem dX5_addBoat_47 : decode cX5_addBoat 47 = .ok (.aload_n 0, 1) := by decide +kernel
theorem dX5_addBoat_48 : decode cX5_addBoat 48 = .ok (.getfield 19, 3) := by decide +kernel
theorem dX5_addBoat_51 : decode cX5_addBoat 51 = .ok (.aload_n 0, 1) := by decide +kernel
theorem dX5_addBoat_52 : decode cX5_addBoat 52 = .ok (.getfield 36, 3) := by decide +kernel
theorem dX5_addBoat_55 : decode cX5_addBoat 55 = .ok (.new 17, 3) := by decide +kernel
theorem dX5_addBoat_58 : decode cX5_addBoat 58 = .ok (.dup, 1) := by decide +kernel
theorem dX5_addBoat_59 : decode cX5_addBoat 59 = .ok (.aload_n 0, 1) := by decide +kernel
theorem dX5_addBoat_60 : decode cX5_addBoat 60 = .ok (.getfield 36, 3) := by decide +kernel
theorem dX5_addBoat_63 : decode cX5_addBoat 63 = .ok (.iload_n 1, 1) := by decide +kernel
theorem dX5_addBoat_64 : decode cX5_addBoat 64 = .ok (.iload_n 2, 1) := by decide +kernel
theorem dX5_addBoat_65 : decode cX5_addBoat 65 = .ok (.iload_n 3, 1) := by decide +kernel
theorem dX5_addBoat_66 : decode cX5_addBoat 66 = .ok (.iload 4, 2) := by decide +kernel
theorem dX5_addBoat_68 : decode cX5_addBoat 68 = .ok (.invokespecial 39, 3) := by decide +kernel
theorem dX5_addBoat_71 : decode cX5_addBoat 71 = .ok (.aastore, 1) := by decide +kernel
theorem dX5_addBoat_72 : decode cX5_addBoat 72 = .ok (.aload_n 0, 1) := by decide +kernel
theorem dX5_addBoat_73 : decode cX5_addBoat 73 = .ok (.dup, 1) := by decide +kernel
theorem dX5_addBoat_74 : decode cX5_addBoat 74 = .ok (.getfield 36, 3) := by decide +kernel
theorem dX5_addBoat_77 : decode cX5_addBoat 77 = .ok (.iconst 1, 1) := by decide +kernel
theorem dX5_addBoat_78 : decode cX5_addBoat 78 = .ok (.iadd, 1) := by decide +kernel
theorem dX5_addBoat_79 : decode cX5_addBoat 79 = .ok (.putfield 36, 3) := by decide +kernel
theorem dX5_addBoat_82 : decode cX5_addBoat 82 = .ok (.aload_n 0, 1) := by decide +kernel
theorem dX5_addBoat_83 : decode cX5_addBoat 83 = .ok (.getfield 36, 3) := by decide +kernel
theorem dX5_addBoat_86 : decode cX5_addBoat 86 = .ok (.iconst 1, 1) := by decide +kernel
theorem dX5_addBoat_87 : decode cX5_addBoat 87 = .ok (.isub, 1) := by decide +kernel
theorem dX5_addBoat_88 : decode cX5_addBoat 88 = .ok (.ireturn, 1) := by decide +kernel
theorem dX5_berthOf_0 : decode cX5_berthOf 0 = .ok (.iload_n 1, 1) := by decide +kernel
theorem dX5_berthOf_1 : decode cX5_berthOf 1 = .ok (.ifCond .lt 21, 3) := by decide +kernel
theorem dX5_berthOf_4 : decode cX5_berthOf 4 = .ok (.iload_n 1, 1) := by decide +kernel
theorem dX5_berthOf_5 : decode cX5_berthOf 5 = .ok (.aload_n 0, 1) := by decide +kernel
theorem dX5_berthOf_6 : decode cX5_berthOf 6 = .ok (.getfield 11, 3) := by decide +kernel
theorem dX5_berthOf_9 : decode cX5_berthOf 9 = .ok (.arraylength, 1) := by decide +kernel
theorem dX5_berthOf_10 : decode cX5_berthOf 10 = .ok (.if_icmp .ge 12, 3) := by decide +kernel
theorem dX5_berthOf_13 : decode cX5_berthOf 13 = .ok (.aload_n 0, 1) := by decide +kernel
theorem dX5_berthOf_14 : decode cX5_berthOf 14 = .ok (.getfield 11, 3) := by decide +kernel
theorem dX5_berthOf_17 : decode cX5_berthOf 17 = .ok (.iload_n 1, 1) := by decide +kernel
theorem dX5_berthOf_18 : decode cX5_berthOf 18 = .ok (.aaload, 1) := by decide +kernel
theorem dX5_berthOf_19 : decode cX5_berthOf 19 = .ok (.goto 4, 3) := by decide +kernel
theorem dX5_berthOf_22 : decode cX5_berthOf 22 = .ok (.aconst_null, 1) := by decide +kernel
theorem dX5_berthOf_23 : decode cX5_berthOf 23 = .ok (.areturn, 1) := by decide +kernel
theorem dX5_boatOf_0 : decode cX5_boatOf 0 = .ok (.iload_n 1, 1) := by decide +kernel
theorem dX5_boatOf_1 : decode cX5_boatOf 1 = .ok (.ifCond .lt 21, 3) := by decide +kernel
theorem dX5_boatOf_4 : decode cX5_boatOf 4 = .ok (.iload_n 1, 1) := by decide +kernel
theorem dX5_boatOf_5 : decode cX5_boatOf 5 = .ok (.aload_n 0, 1) := by decide +kernel
theorem dX5_boatOf_6 : decode cX5_boatOf 6 = .ok (.getfield 19, 3) := by decide +kernel
theorem dX5_boatOf_9 : decode cX5_boatOf 9 = .ok (.arraylength, 1) := by decide +kernel
theorem dX5_boatOf_10 : decode cX5_boatOf 10 = .ok (.if_icmp .ge 12, 3) := by decide +kernel
theorem dX5_boatOf_13 : decode cX5_boatOf 13 = .ok (.aload_n 0, 1) := by decide +kernel
theorem dX5_boatOf_14 : decode cX5_boatOf 14 = .ok (.getfield 19, 3) := by decide +kernel
theorem dX5_boatOf_17 : decode cX5_boatOf 17 = .ok (.iload_n 1, 1) := by decide +kernel
theorem dX5_boatOf_18 : decode cX5_boatOf 18 = .ok (.aaload, 1) := by decide +kernel
theorem dX5_boatOf_19 : decode cX5_boatOf 19 = .ok (.goto 4, 3) := by decide +kernel
theorem dX5_boatOf_22 : decode cX5_boatOf 22 = .ok (.aconst_null, 1) := by decide +kernel
theorem dX5_boatOf_23 : decode cX5_boatOf 23 = .ok (.areturn, 1) := by decide +kernel
theorem dX5_boatAt_0 : decode cX5_boatAt 0 = .ok (.aload_n 0, 1) := by decide +kernel
theorem dX5_boatAt_1 : decode cX5_boatAt 1 = .ok (.getfield 19, 3) := by decide +kernel
theorem dX5_boatAt_4 : decode cX5_boatAt 4 = .ok (.astore_n 3, 1) := by decide +kernel
theorem dX5_boatAt_5 : decode cX5_boatAt 5 = .ok (.aload_n 3, 1) := by decide +kernel
theorem dX5_boatAt_6 : decode cX5_boatAt 6 = .ok (.arraylength, 1) := by decide +kernel
theorem dX5_boatAt_7 : decode cX5_boatAt 7 = .ok (.istore 4, 2) := by decide +kernel
theorem dX5_boatAt_9 : decode cX5_boatAt 9 = .ok (.iconst 0, 1) := by decide +kernel
theorem dX5_boatAt_10 : decode cX5_boatAt 10 = .ok (.istore 5, 2) := by decide +kernel
theorem dX5_boatAt_12 : decode cX5_boatAt 12 = .ok (.iload 5, 2) := by decide +kernel
theorem dX5_boatAt_14 : decode cX5_boatAt 14 = .ok (.iload 4, 2) := by decide +kernel
theorem dX5_boatAt_16 : decode cX5_boatAt 16 = .ok (.if_icmp .ge 41, 3) := by decide +kernel
theorem dX5_boatAt_19 : decode cX5_boatAt 19 = .ok (.aload_n 3, 1) := by decide +kernel
theorem dX5_boatAt_20 : decode cX5_boatAt 20 = .ok (.iload 5, 2) := by decide +kernel
theorem dX5_boatAt_22 : decode cX5_boatAt 22 = .ok (.aaload, 1) := by decide +kernel
theorem dX5_boatAt_23 : decode cX5_boatAt 23 = .ok (.astore 6, 2) := by decide +kernel
theorem dX5_boatAt_25 : decode cX5_boatAt 25 = .ok (.aload 6, 2) := by decide +kernel
theorem dX5_boatAt_27 : decode cX5_boatAt 27 = .ok (.ifnull 24, 3) := by decide +kernel
theorem dX5_boatAt_30 : decode cX5_boatAt 30 = .ok (.aload 6, 2) := by decide +kernel
theorem dX5_boatAt_32 : decode cX5_boatAt 32 = .ok (.getfield 42, 3) := by decide +kernel
theorem dX5_boatAt_35 : decode cX5_boatAt 35 = .ok (.iload_n 1, 1) := by decide +kernel
theorem dX5_boatAt_36 : decode cX5_boatAt 36 = .ok (.if_icmp .ne 15, 3) := by decide +kernel
theorem dX5_boatAt_39 : decode cX5_boatAt 39 = .ok (.aload 6, 2) := by decide +kernel
theorem dX5_boatAt_41 : decode cX5_boatAt 41 = .ok (.getfield 45, 3) := by decide +kernel
theorem dX5_boatAt_44 : decode cX5_boatAt 44 = .ok (.iload_n 2, 1) := by decide +kernel
theorem dX5_boatAt_45 : decode cX5_boatAt 45 = .ok (.if_icmp .ne 6, 3) := by decide +kernel
theorem dX5_boatAt_48 : decode cX5_boatAt 48 = .ok (.aload 6, 2) := by decide +kernel
theorem dX5_boatAt_50 : decode cX5_boatAt 50 = .ok (.areturn, 1) := by decide +kernel
theorem dX5_boatAt_51 : decode cX5_boatAt 51 = .ok (.iinc 5 1, 3) := by decide +kernel
theorem dX5_boatAt_54 : decode cX5_boatAt 54 = .ok (.goto (-42), 3) := by decide +kernel
theorem dX5_boatAt_57 : decode cX5_boatAt 57 = .ok (.aconst_null, 1) := by decide +kernel
theorem dX5_boatAt_58 : decode cX5_boatAt 58 = .ok (.areturn, 1) := by decide +kernel
theorem dX5_countAt_0 : decode cX5_countAt 0 = .ok (.iconst 0, 1) := by decide +kernel
theorem dX5_countAt_1 : decode cX5_countAt 1 = .ok (.istore_n 2, 1) := by decide +kernel
theorem dX5_countAt_2 : decode cX5_countAt 2 = .ok (.aload_n 0, 1) := by decide +kernel
theorem dX5_countAt_3 : decode cX5_countAt 3 = .ok (.getfield 19, 3) := by decide +kernel
theorem dX5_countAt_6 : decode cX5_countAt 6 = .ok (.astore_n 3, 1) := by decide +kernel
theorem dX5_countAt_7 : decode cX5_countAt 7 = .ok (.aload_n 3, 1) := by decide +kernel
theorem dX5_countAt_8 : decode cX5_countAt 8 = .ok (.arraylength, 1) := by decide +kernel
theorem dX5_countAt_9 : decode cX5_countAt 9 = .ok (.istore 4, 2) := by decide +kernel
theorem dX5_countAt_11 : decode cX5_countAt 11 = .ok (.iconst 0, 1) := by decide +kernel
theorem dX5_countAt_12 : decode cX5_countAt 12 = .ok (.istore 5, 2) := by decide +kernel
theorem dX5_countAt_14 : decode cX5_countAt 14 = .ok (.iload 5, 2) := by decide +kernel
theorem dX5_countAt_16 : decode cX5_countAt 16 = .ok (.iload 4, 2) := by decide +kernel
theorem dX5_countAt_18 : decode cX5_countAt 18 = .ok (.if_icmp .ge 32, 3) := by decide +kernel
theorem dX5_countAt_21 : decode cX5_countAt 21 = .ok (.aload_n 3, 1) := by decide +kernel
theorem dX5_countAt_22 : decode cX5_countAt 22 = .ok (.iload 5, 2) := by decide +kernel
theorem dX5_countAt_24 : decode cX5_countAt 24 = .ok (.aaload, 1) := by decide +kernel
theorem dX5_countAt_25 : decode cX5_countAt 25 = .ok (.astore 6, 2) := by decide +kernel
theorem dX5_countAt_27 : decode cX5_countAt 27 = .ok (.aload 6, 2) := by decide +kernel
theorem dX5_countAt_29 : decode cX5_countAt 29 = .ok (.ifnull 15, 3) := by decide +kernel
theorem dX5_countAt_32 : decode cX5_countAt 32 = .ok (.aload 6, 2) := by decide +kernel
theorem dX5_countAt_34 : decode cX5_countAt 34 = .ok (.getfield 42, 3) := by decide +kernel
theorem dX5_countAt_37 : decode cX5_countAt 37 = .ok (.iload_n 1, 1) := by decide +kernel
theorem dX5_countAt_38 : decode cX5_countAt 38 = .ok (.if_icmp .ne 6, 3) := by decide +kernel
theorem dX5_countAt_41 : decode cX5_countAt 41 = .ok (.iinc 2 1, 3) := by decide +kernel
theorem dX5_countAt_44 : decode cX5_countAt 44 = .ok (.iinc 5 1, 3) := by decide +kernel
theorem dX5_countAt_47 : decode cX5_countAt 47 = .ok (.goto (-33), 3) := by decide +kernel
theorem dX5_countAt_50 : decode cX5_countAt 50 = .ok (.iload_n 2, 1) := by decide +kernel
theorem dX5_countAt_51 : decode cX5_countAt 51 = .ok (.ireturn, 1) := by decide +kernel
theorem dX5_countLying_0 : decode cX5_countLying 0 = .ok (.iconst 0, 1) := by decide +kernel
theorem dX5_countLying_1 : decode cX5_countLying 1 = .ok (.istore_n 1, 1) := by decide +kernel
theorem dX5_countLying_2 : decode cX5_countLying 2 = .ok (.aload_n 0, 1) := by decide +kernel
theorem dX5_countLying_3 : decode cX5_countLying 3 = .ok (.getfield 19, 3) := by decide +kernel
theorem dX5_countLying_6 : decode cX5_countLying 6 = .ok (.astore_n 2, 1) := by decide +kernel
theorem dX5_countLying_7 : decode cX5_countLying 7 = .ok (.aload_n 2, 1) := by decide +kernel
theorem dX5_countLying_8 : decode cX5_countLying 8 = .ok (.arraylength, 1) := by decide +kernel
theorem dX5_countLying_9 : decode cX5_countLying 9 = .ok (.istore_n 3, 1) := by decide +kernel
theorem dX5_countLying_10 : decode cX5_countLying 10 = .ok (.iconst 0, 1) := by decide +kernel
theorem dX5_countLying_11 : decode cX5_countLying 11 = .ok (.istore 4, 2) := by decide +kernel
theorem dX5_countLying_13 : decode cX5_countLying 13 = .ok (.iload 4, 2) := by decide +kernel
theorem dX5_countLying_15 : decode cX5_countLying 15 = .ok (.iload_n 3, 1) := by decide +kernel
theorem dX5_countLying_16 : decode cX5_countLying 16 = .ok (.if_icmp .ge 31, 3) := by decide +kernel
theorem dX5_countLying_19 : decode cX5_countLying 19 = .ok (.aload_n 2, 1) := by decide +kernel
theorem dX5_countLying_20 : decode cX5_countLying 20 = .ok (.iload 4, 2) := by decide +kernel
theorem dX5_countLying_22 : decode cX5_countLying 22 = .ok (.aaload, 1) := by decide +kernel
theorem dX5_countLying_23 : decode cX5_countLying 23 = .ok (.astore 5, 2) := by decide +kernel
theorem dX5_countLying_25 : decode cX5_countLying 25 = .ok (.aload 5, 2) := by decide +kernel
theorem dX5_countLying_27 : decode cX5_countLying 27 = .ok (.ifnull 14, 3) := by decide +kernel
theorem dX5_countLying_30 : decode cX5_countLying 30 = .ok (.aload 5, 2) := by decide +kernel
theorem dX5_countLying_32 : decode cX5_countLying 32 = .ok (.invokevirtual 48, 3) := by decide +kernel
theorem dX5_countLying_35 : decode cX5_countLying 35 = .ok (.ifCond .eq 6, 3) := by decide +kernel
theorem dX5_countLying_38 : decode cX5_countLying 38 = .ok (.iinc 1 1, 3) := by decide +kernel
theorem dX5_countLying_41 : decode cX5_countLying 41 = .ok (.iinc 4 1, 3) := by decide +kernel
theorem dX5_countLying_44 : decode cX5_countLying 44 = .ok (.goto (-31), 3) := by decide +kernel
theorem dX5_countLying_47 : decode cX5_countLying 47 = .ok (.iload_n 1, 1) := by decide +kernel
theorem dX5_countLying_48 : decode cX5_countLying 48 = .ok (.ireturn, 1) := by decide +kernel
theorem dX5_whyNotRight_0 : decode cX5_whyNotRight 0 = .ok (.aload_n 0, 1) := by decide +kernel
theorem dX5_whyNotRight_1 : decode cX5_whyNotRight 1 = .ok (.aload_n 1, 1) := by decide +kernel
theorem dX5_whyNotRight_2 : decode cX5_whyNotRight 2 = .ok (.aload_n 2, 1) := by decide +kernel
theorem dX5_whyNotRight_3 : decode cX5_whyNotRight 3 = .ok (.iload_n 3, 1) := by decide +kernel
theorem dX5_whyNotRight_4 : decode cX5_whyNotRight 4 = .ok (.invokevirtual 52, 3) := by decide +kernel
theorem dX5_whyNotRight_7 : decode cX5_whyNotRight 7 = .ok (.istore 5, 2) := by decide +kernel
theorem dX5_whyNotRight_9 : decode cX5_whyNotRight 9 = .ok (.iload 5, 2) := by decide +kernel
theorem dX5_whyNotRight_11 : decode cX5_whyNotRight 11 = .ok (.ifCond .ne 8, 3) := by decide +kernel
theorem dX5_whyNotRight_14 : decode cX5_whyNotRight 14 = .ok (.aload 4, 2) := by decide +kernel
theorem dX5_whyNotRight_16 : decode cX5_whyNotRight 16 = .ok (.ifnonnull 8, 3) := by decide +kernel
theorem dX5_whyNotRight_19 : decode cX5_whyNotRight 19 = .ok (.iload 5, 2) := by decide +kernel
theorem dX5_whyNotRight_21 : decode cX5_whyNotRight 21 = .ok (.goto 10, 3) := by decide +kernel
theorem dX5_whyNotRight_24 : decode cX5_whyNotRight 24 = .ok (.aload_n 0, 1) := by decide +kernel
theorem dX5_whyNotRight_25 : decode cX5_whyNotRight 25 = .ok (.aload_n 1, 1) := by decide +kernel
theorem dX5_whyNotRight_26 : decode cX5_whyNotRight 26 = .ok (.aload 4, 2) := by decide +kernel
theorem dX5_whyNotRight_28 : decode cX5_whyNotRight 28 = .ok (.invokevirtual 56, 3) := by decide +kernel
theorem dX5_whyNotRight_31 : decode cX5_whyNotRight 31 = .ok (.ireturn, 1) := by decide +kernel
theorem dX5_whyNotAtPlace_0 : decode cX5_whyNotAtPlace 0 = .ok (.iload_n 3, 1) := by decide +kernel
theorem dX5_whyNotAtPlace_1 : decode cX5_whyNotAtPlace 1 = .ok (.aload_n 2, 1) := by decide +kernel
theorem dX5_whyNotAtPlace_2 : decode cX5_whyNotAtPlace 2 = .ok (.getfield 60, 3) := by decide +kernel
theorem dX5_whyNotAtPlace_5 : decode cX5_whyNotAtPlace 5 = .ok (.if_icmp .lt 5, 3) := by decide +kernel
theorem dX5_whyNotAtPlace_8 : decode cX5_whyNotAtPlace 8 = .ok (.iconst 1, 1) := by decide +kernel
theorem dX5_whyNotAtPlace_9 : decode cX5_whyNotAtPlace 9 = .ok (.ireturn, 1) := by decide +kernel
theorem dX5_whyNotAtPlace_10 : decode cX5_whyNotAtPlace 10 = .ok (.aload_n 1, 1) := by decide +kernel
theorem dX5_whyNotAtPlace_11 : decode cX5_whyNotAtPlace 11 = .ok (.getfield 63, 3) := by decide +kernel
theorem dX5_whyNotAtPlace_14 : decode cX5_whyNotAtPlace 14 = .ok (.aload_n 2, 1) := by decide +kernel
theorem dX5_whyNotAtPlace_15 : decode cX5_whyNotAtPlace 15 = .ok (.getfield 66, 3) := by decide +kernel
theorem dX5_whyNotAtPlace_18 : decode cX5_whyNotAtPlace 18 = .ok (.iload_n 3, 1) := by decide +kernel
theorem dX5_whyNotAtPlace_19 : decode cX5_whyNotAtPlace 19 = .ok (.aload_n 2, 1) := by decide +kernel
theorem dX5_whyNotAtPlace_20 : decode cX5_whyNotAtPlace 20 = .ok (.getfield 69, 3) := by decide +kernel
theorem dX5_whyNotAtPlace_23 : decode cX5_whyNotAtPlace 23 = .ok (.imul, 1) := by decide +kernel
theorem dX5_whyNotAtPlace_24 : decode cX5_whyNotAtPlace 24 = .ok (.iadd, 1) := by decide +kernel
theorem dX5_whyNotAtPlace_25 : decode cX5_whyNotAtPlace 25 = .ok (.if_icmp .le 5, 3) := by decide +kernel
theorem dX5_whyNotAtPlace_28 : decode cX5_whyNotAtPlace 28 = .ok (.iconst 2, 1) := by decide +kernel
theorem dX5_whyNotAtPlace_29 : decode cX5_whyNotAtPlace 29 = .ok (.ireturn, 1) := by decide +kernel
theorem dX5_whyNotAtPlace_30 : decode cX5_whyNotAtPlace 30 = .ok (.aload_n 1, 1) := by decide +kernel
theorem dX5_whyNotAtPlace_31 : decode cX5_whyNotAtPlace 31 = .ok (.getfield 72, 3) := by decide +kernel
theorem dX5_whyNotAtPlace_34 : decode cX5_whyNotAtPlace 34 = .ok (.ifCond .eq 15, 3) := by decide +kernel
theorem dX5_whyNotAtPlace_37 : decode cX5_whyNotAtPlace 37 = .ok (.iload_n 3, 1) := by decide +kernel
theorem dX5_whyNotAtPlace_38 : decode cX5_whyNotAtPlace 38 = .ok (.aload_n 2, 1) := by decide +kernel
theorem dX5_whyNotAtPlace_39 : decode cX5_whyNotAtPlace 39 = .ok (.getfield 76, 3) := by decide +kernel
theorem dX5_whyNotAtPlace_42 : decode cX5_whyNotAtPlace 42 = .ok (.if_icmp .lt 7, 3) := by decide +kernel
theorem dX5_whyNotAtPlace_45 : decode cX5_whyNotAtPlace 45 = .ok (.iconst 3, 1) := by decide +kernel
theorem dX5_whyNotAtPlace_46 : decode cX5_whyNotAtPlace 46 = .ok (.goto 4, 3) := by decide +kernel
theorem dX5_whyNotAtPlace_49 : decode cX5_whyNotAtPlace 49 = .ok (.iconst 0, 1) := by decide +kernel
theorem dX5_whyNotAtPlace_50 : decode cX5_whyNotAtPlace 50 = .ok (.ireturn, 1) := by decide +kernel
theorem dX5_whyNotNextTo_0 : decode cX5_whyNotNextTo 0 = .ok (.aload_n 2, 1) := by decide +kernel
theorem dX5_whyNotNextTo_1 : decode cX5_whyNotNextTo 1 = .ok (.getfield 79, 3) := by decide +kernel
theorem dX5_whyNotNextTo_4 : decode cX5_whyNotNextTo 4 = .ok (.iconst 1, 1) := by decide +kernel
theorem dX5_whyNotNextTo_5 : decode cX5_whyNotNextTo 5 = .ok (.if_icmp .ne 5, 3) := by decide +kernel
theorem dX5_whyNotNextTo_8 : decode cX5_whyNotNextTo 8 = .ok (.iconst 4, 1) := by decide +kernel
theorem dX5_whyNotNextTo_9 : decode cX5_whyNotNextTo 9 = .ok (.ireturn, 1) := by decide +kernel
theorem dX5_whyNotNextTo_10 : decode cX5_whyNotNextTo 10 = .ok (.aload_n 1, 1) := by decide +kernel
theorem dX5_whyNotNextTo_11 : decode cX5_whyNotNextTo 11 = .ok (.iconst 2, 1) := by decide +kernel
theorem dX5_whyNotNextTo_12 : decode cX5_whyNotNextTo 12 = .ok (.invokevirtual 82, 3) := by decide +kernel
theorem dX5_whyNotNextTo_15 : decode cX5_whyNotNextTo 15 = .ok (.ifCond .eq 15, 3) := by decide +kernel
theorem dX5_whyNotNextTo_18 : decode cX5_whyNotNextTo 18 = .ok (.aload_n 2, 1) := by decide +kernel
theorem dX5_whyNotNextTo_19 : decode cX5_whyNotNextTo 19 = .ok (.iconst 2, 1) := by decide +kernel
theorem dX5_whyNotNextTo_20 : decode cX5_whyNotNextTo 20 = .ok (.invokevirtual 82, 3) := by decide +kernel
theorem dX5_whyNotNextTo_23 : decode cX5_whyNotNextTo 23 = .ok (.ifCond .eq 7, 3) := by decide +kernel
theorem dX5_whyNotNextTo_26 : decode cX5_whyNotNextTo 26 = .ok (.iconst 1, 1) := by decide +kernel
theorem dX5_whyNotNextTo_27 : decode cX5_whyNotNextTo 27 = .ok (.goto 4, 3) := by decide +kernel
theorem dX5_whyNotNextTo_30 : decode cX5_whyNotNextTo 30 = .ok (.iconst 0, 1) := by decide +kernel
theorem dX5_whyNotNextTo_31 : decode cX5_whyNotNextTo 31 = .ok (.istore_n 3, 1) := by decide +kernel
theorem dX5_whyNotNextTo_32 : decode cX5_whyNotNextTo 32 = .ok (.iload_n 3, 1) := by decide +kernel
theorem dX5_whyNotNextTo_33 : decode cX5_whyNotNextTo 33 = .ok (.ifCond .ne 21, 3) := by decide +kernel
theorem dX5_whyNotNextTo_36 : decode cX5_whyNotNextTo 36 = .ok (.aload_n 1, 1) := by decide +kernel
theorem dX5_whyNotNextTo_37 : decode cX5_whyNotNextTo 37 = .ok (.getfield 86, 3) := by decide +kernel
theorem dX5_whyNotNextTo_40 : decode cX5_whyNotNextTo 40 = .ok (.aload_n 2, 1) := by decide +kernel
theorem dX5_whyNotNextTo_41 : decode cX5_whyNotNextTo 41 = .ok (.getfield 86, 3) := by decide +kernel
theorem dX5_whyNotNextTo_44 : decode cX5_whyNotNextTo 44 = .ok (.aload_n 0, 1) := by decide +kernel
theorem dX5_whyNotNextTo_45 : decode cX5_whyNotNextTo 45 = .ok (.getfield 89, 3) := by decide +kernel
theorem dX5_whyNotNextTo_48 : decode cX5_whyNotNextTo 48 = .ok (.iadd, 1) := by decide +kernel
theorem dX5_whyNotNextTo_49 : decode cX5_whyNotNextTo 49 = .ok (.if_icmp .le 5, 3) := by decide +kernel
theorem dX5_whyNotNextTo_52 : decode cX5_whyNotNextTo 52 = .ok (.iconst 5, 1) := by decide +kernel
theorem dX5_whyNotNextTo_53 : decode cX5_whyNotNextTo 53 = .ok (.ireturn, 1) := by decide +kernel
theorem dX5_whyNotNextTo_54 : decode cX5_whyNotNextTo 54 = .ok (.aload_n 1, 1) := by decide +kernel
theorem dX5_whyNotNextTo_55 : decode cX5_whyNotNextTo 55 = .ok (.getfield 79, 3) := by decide +kernel
theorem dX5_whyNotNextTo_58 : decode cX5_whyNotNextTo 58 = .ok (.iconst 3, 1) := by decide +kernel
theorem dX5_whyNotNextTo_59 : decode cX5_whyNotNextTo 59 = .ok (.if_icmp .ne 16, 3) := by decide +kernel
theorem dX5_whyNotNextTo_62 : decode cX5_whyNotNextTo 62 = .ok (.aload_n 2, 1) := by decide +kernel
theorem dX5_whyNotNextTo_63 : decode cX5_whyNotNextTo 63 = .ok (.getfield 79, 3) := by decide +kernel
theorem dX5_whyNotNextTo_66 : decode cX5_whyNotNextTo 66 = .ok (.iconst 3, 1) := by decide +kernel
theorem dX5_whyNotNextTo_67 : decode cX5_whyNotNextTo 67 = .ok (.if_icmp .eq 8, 3) := by decide +kernel
theorem dX5_whyNotNextTo_70 : decode cX5_whyNotNextTo 70 = .ok (.bipush 6, 2) := by decide +kernel
theorem dX5_whyNotNextTo_72 : decode cX5_whyNotNextTo 72 = .ok (.goto 4, 3) := by decide +kernel
theorem dX5_whyNotNextTo_75 : decode cX5_whyNotNextTo 75 = .ok (.iconst 0, 1) := by decide +kernel
theorem dX5_whyNotNextTo_76 : decode cX5_whyNotNextTo 76 = .ok (.ireturn, 1) := by decide +kernel
theorem dX5_whyNotOutermost_0 : decode cX5_whyNotOutermost 0 = .ok (.aload_n 0, 1) := by decide +kernel
theorem dX5_whyNotOutermost_1 : decode cX5_whyNotOutermost 1 = .ok (.iload_n 1, 1) := by decide +kernel
theorem dX5_whyNotOutermost_2 : decode cX5_whyNotOutermost 2 = .ok (.invokevirtual 92, 3) := by decide +kernel
theorem dX5_whyNotOutermost_5 : decode cX5_whyNotOutermost 5 = .ok (.astore_n 3, 1) := by decide +kernel
theorem dX5_whyNotOutermost_6 : decode cX5_whyNotOutermost 6 = .ok (.aload_n 0, 1) := by decide +kernel
theorem dX5_whyNotOutermost_7 : decode cX5_whyNotOutermost 7 = .ok (.iload_n 2, 1) := by decide +kernel
theorem dX5_whyNotOutermost_8 : decode cX5_whyNotOutermost 8 = .ok (.invokevirtual 96, 3) := by decide +kernel
theorem dX5_whyNotOutermost_11 : decode cX5_whyNotOutermost 11 = .ok (.astore 4, 2) := by decide +kernel
theorem dX5_whyNotOutermost_13 : decode cX5_whyNotOutermost 13 = .ok (.aload_n 3, 1) := by decide +kernel
theorem dX5_whyNotOutermost_14 : decode cX5_whyNotOutermost 14 = .ok (.ifnull 8, 3) := by decide +kernel
theorem dX5_whyNotOutermost_17 : decode cX5_whyNotOutermost 17 = .ok (.aload 4, 2) := by decide +kernel
theorem dX5_whyNotOutermost_19 : decode cX5_whyNotOutermost 19 = .ok (.ifnonnull 6, 3) := by decide +kernel
theorem dX5_whyNotOutermost_22 : decode cX5_whyNotOutermost 22 = .ok (.ldc 27, 2) := by decide +kernel
theorem dX5_whyNotOutermost_24 : decode cX5_whyNotOutermost 24 = .ok (.ireturn, 1) := by decide +kernel
theorem dX5_whyNotOutermost_25 : decode cX5_whyNotOutermost 25 = .ok (.aload_n 3, 1) := by decide +kernel
theorem dX5_whyNotOutermost_26 : decode cX5_whyNotOutermost 26 = .ok (.invokevirtual 48, 3) := by decide +kernel
theorem dX5_whyNotOutermost_29 : decode cX5_whyNotOutermost 29 = .ok (.ifCond .eq 6, 3) := by decide +kernel
theorem dX5_whyNotOutermost_32 : decode cX5_whyNotOutermost 32 = .ok (.ldc 100, 2) := by decide +kernel
theorem dX5_whyNotOutermost_34 : decode cX5_whyNotOutermost 34 = .ok (.ireturn, 1) := by decide +kernel
theorem dX5_whyNotOutermost_35 : decode cX5_whyNotOutermost 35 = .ok (.aload_n 0, 1) := by decide +kernel
theorem dX5_whyNotOutermost_36 : decode cX5_whyNotOutermost 36 = .ok (.iload_n 2, 1) := by decide +kernel
theorem dX5_whyNotOutermost_37 : decode cX5_whyNotOutermost 37 = .ok (.invokevirtual 101, 3) := by decide +kernel
theorem dX5_whyNotOutermost_40 : decode cX5_whyNotOutermost 40 = .ok (.istore 5, 2) := by decide +kernel
theorem dX5_whyNotOutermost_42 : decode cX5_whyNotOutermost 42 = .ok (.aload_n 0, 1) := by decide +kernel
theorem dX5_whyNotOutermost_43 : decode cX5_whyNotOutermost 43 = .ok (.aload_n 3, 1) := by decide +kernel
theorem dX5_whyNotOutermost_44 : decode cX5_whyNotOutermost 44 = .ok (.aload 4, 2) := by decide +kernel
theorem dX5_whyNotOutermost_46 : decode cX5_whyNotOutermost 46 = .ok (.iload 5, 2) := by decide +kernel
theorem dX5_whyNotOutermost_48 : decode cX5_whyNotOutermost 48 = .ok (.aload_n 0, 1) := by decide +kernel
theorem dX5_whyNotOutermost_49 : decode cX5_whyNotOutermost 49 = .ok (.iload_n 2, 1) := by decide +kernel
theorem dX5_whyNotOutermost_50 : decode cX5_whyNotOutermost 50 = .ok (.iload 5, 2) := by decide +kernel
theorem dX5_whyNotOutermost_52 : decode cX5_whyNotOutermost 52 = .ok (.iconst 1, 1) := by decide +kernel
theorem dX5_whyNotOutermost_53 : decode cX5_whyNotOutermost 53 = .ok (.isub, 1) := by decide +kernel
theorem dX5_whyNotOutermost_54 : decode cX5_whyNotOutermost 54 = .ok (.invokevirtual 105, 3) := by decide +kernel
theorem dX5_whyNotOutermost_57 : decode cX5_whyNotOutermost 57 = .ok (.invokevirtual 109, 3) := by decide +kernel
theorem dX5_whyNotOutermost_60 : decode cX5_whyNotOutermost 60 = .ok (.ireturn, 1) := by decide +kernel
theorem dX5_layOutermost_0 : decode cX5_layOutermost 0 = .ok (.aload_n 0, 1) := by decide +kernel
theorem dX5_layOutermost_1 : decode cX5_layOutermost 1 = .ok (.iload_n 1, 1) := by decide +kernel
theorem dX5_layOutermost_2 : decode cX5_layOutermost 2 = .ok (.iload_n 2, 1) := by decide +kernel
theorem dX5_layOutermost_3 : decode cX5_layOutermost 3 = .ok (.invokevirtual 113, 3) := by decide +kernel
theorem dX5_layOutermost_6 : decode cX5_layOutermost 6 = .ok (.istore_n 3, 1) := by decide +kernel
theorem dX5_layOutermost_7 : decode cX5_layOutermost 7 = .ok (.iload_n 3, 1) := by decide +kernel
theorem dX5_layOutermost_8 : decode cX5_layOutermost 8 = .ok (.ifCond .eq 24, 3) := by decide +kernel
theorem dX5_layOutermost_11 : decode cX5_layOutermost 11 = .ok (.iload_n 3, 1) := by decide +kernel
theorem dX5_layOutermost_12 : decode cX5_layOutermost 12 = .ok (.ifCond .ge 7, 3) := by decide +kernel
theorem dX5_layOutermost_15 : decode cX5_layOutermost 15 = .ok (.iload_n 3, 1) := by decide +kernel
theorem dX5_layOutermost_16 : decode cX5_layOutermost 16 = .ok (.goto 15, 3) := by decide +kernel
theorem dX5_layOutermost_19 : decode cX5_layOutermost 19 = .ok (.iload_n 3, 1) := by decide +kernel
theorem dX5_layOutermost_20 : decode cX5_layOutermost 20 = .ok (.iconst 1, 1) := by decide +kernel
theorem dX5_layOutermost_21 : decode cX5_layOutermost 21 = .ok (.if_icmp .ne 8, 3) := by decide +kernel
theorem dX5_layOutermost_24 : decode cX5_layOutermost 24 = .ok (.ldc 32, 2) := by decide +kernel
theorem dX5_layOutermost_26 : decode cX5_layOutermost 26 = .ok (.goto 5, 3) := by decide +kernel
theorem dX5_layOutermost_29 : decode cX5_layOutermost 29 = .ok (.ldc 117, 2) := by decide +kernel
theorem dX5_layOutermost_31 : decode cX5_layOutermost 31 = .ok (.ireturn, 1) := by decide +kernel
theorem dX5_layOutermost_32 : decode cX5_layOutermost 32 = .ok (.aload_n 0, 1) := by decide +kernel
theorem dX5_layOutermost_33 : decode cX5_layOutermost 33 = .ok (.iload_n 1, 1) := by decide +kernel
theorem dX5_layOutermost_34 : decode cX5_layOutermost 34 = .ok (.invokevirtual 92, 3) := by decide +kernel
theorem dX5_layOutermost_37 : decode cX5_layOutermost 37 = .ok (.astore 4, 2) := by decide +kernel
theorem dX5_layOutermost_39 : decode cX5_layOutermost 39 = .ok (.aload 4, 2) := by decide +kernel
theorem dX5_layOutermost_41 : decode cX5_layOutermost 41 = .ok (.ifnonnull 6, 3) := by decide +kernel
theorem dX5_layOutermost_44 : decode cX5_layOutermost 44 = .ok (.ldc 27, 2) := by decide +kernel
theorem dX5_layOutermost_46 : decode cX5_layOutermost 46 = .ok (.ireturn, 1) := by decide +kernel
theorem dX5_layOutermost_47 : decode cX5_layOutermost 47 = .ok (.aload_n 0, 1) := by decide +kernel
theorem dX5_layOutermost_48 : decode cX5_layOutermost 48 = .ok (.iload_n 2, 1) := by decide +kernel
theorem dX5_layOutermost_49 : decode cX5_layOutermost 49 = .ok (.invokevirtual 101, 3) := by decide +kernel
theorem dX5_layOutermost_52 : decode cX5_layOutermost 52 = .ok (.istore 5, 2) := by decide +kernel
theorem dX5_layOutermost_54 : decode cX5_layOutermost 54 = .ok (.aload 4, 2) := by decide +kernel
theorem dX5_layOutermost_56 : decode cX5_layOutermost 56 = .ok (.iload_n 2, 1) := by decide +kernel
theorem dX5_layOutermost_57 : decode cX5_layOutermost 57 = .ok (.iload 5, 2) := by decide +kernel
theorem dX5_layOutermost_59 : decode cX5_layOutermost 59 = .ok (.invokevirtual 118, 3) := by decide +kernel
theorem dX5_layOutermost_62 : decode cX5_layOutermost 62 = .ok (.iload 5, 2) := by decide +kernel
theorem dX5_layOutermost_64 : decode cX5_layOutermost 64 = .ok (.ireturn, 1) := by decide +kernel
theorem dX5_layBetween_0 : decode cX5_layBetween 0 = .ok (.aload_n 0, 1) := by decide +kernel
theorem dX5_layBetween_1 : decode cX5_layBetween 1 = .ok (.iload_n 1, 1) := by decide +kernel
theorem dX5_layBetween_2 : decode cX5_layBetween 2 = .ok (.invokevirtual 92, 3) := by decide +kernel
theorem dX5_layBetween_5 : decode cX5_layBetween 5 = .ok (.astore 4, 2) := by decide +kernel
theorem dX5_layBetween_7 : decode cX5_layBetween 7 = .ok (.aload_n 0, 1) := by decide +kernel
theorem dX5_layBetween_8 : decode cX5_layBetween 8 = .ok (.iload_n 2, 1) := by decide +kernel
theorem dX5_layBetween_9 : decode cX5_layBetween 9 = .ok (.invokevirtual 96, 3) := by decide +kernel
theorem dX5_layBetween_12 : decode cX5_layBetween 12 = .ok (.astore 5, 2) := by decide +kernel
theorem dX5_layBetween_14 : decode cX5_layBetween 14 = .ok (.aload 4, 2) := by decide +kernel
theorem dX5_layBetween_16 : decode cX5_layBetween 16 = .ok (.ifnull 21, 3) := by decide +kernel
theorem dX5_layBetween_19 : decode cX5_layBetween 19 = .ok (.aload 5, 2) := by decide +kernel
theorem dX5_layBetween_21 : decode cX5_layBetween 21 = .ok (.ifnull 16, 3) := by decide +kernel
theorem dX5_layBetween_24 : decode cX5_layBetween 24 = .ok (.iload_n 3, 1) := by decide +kernel
theorem dX5_layBetween_25 : decode cX5_layBetween 25 = .ok (.ifCond .lt 12, 3) := by decide +kernel
theorem dX5_layBetween_28 : decode cX5_layBetween 28 = .ok (.iload_n 3, 1) := by decide +kernel
theorem dX5_layBetween_29 : decode cX5_layBetween 29 = .ok (.aload_n 0, 1) := by decide +kernel
theorem dX5_layBetween_30 : decode cX5_layBetween 30 = .ok (.iload_n 2, 1) := by decide +kernel
theorem dX5_layBetween_31 : decode cX5_layBetween 31 = .ok (.invokevirtual 101, 3) := by decide +kernel
theorem dX5_layBetween_34 : decode cX5_layBetween 34 = .ok (.if_icmp .le 6, 3) := by decide +kernel
theorem dX5_layBetween_37 : decode cX5_layBetween 37 = .ok (.ldc 27, 2) := by decide +kernel
theorem dX5_layBetween_39 : decode cX5_layBetween 39 = .ok (.ireturn, 1) := by decide +kernel
theorem dX5_layBetween_40 : decode cX5_layBetween 40 = .ok (.aload 4, 2) := by decide +kernel
theorem dX5_layBetween_42 : decode cX5_layBetween 42 = .ok (.invokevirtual 48, 3) := by decide +kernel
theorem dX5_layBetween_45 : decode cX5_layBetween 45 = .ok (.ifCond .eq 6, 3) := by decide +kernel
theorem dX5_layBetween_48 : decode cX5_layBetween 48 = .ok (.ldc 100, 2) := by decide +kernel
theorem dX5_layBetween_50 : decode cX5_layBetween 50 = .ok (.ireturn, 1) := by decide +kernel
theorem dX5_layBetween_51 : decode cX5_layBetween 51 = .ok (.aload_n 0, 1) := by decide +kernel
theorem dX5_layBetween_52 : decode cX5_layBetween 52 = .ok (.iload_n 2, 1) := by decide +kernel
theorem dX5_layBetween_53 : decode cX5_layBetween 53 = .ok (.invokevirtual 101, 3) := by decide +kernel
theorem dX5_layBetween_56 : decode cX5_layBetween 56 = .ok (.aload 5, 2) := by decide +kernel
theorem dX5_layBetween_58 : decode cX5_layBetween 58 = .ok (.getfield 60, 3) := by decide +kernel
theorem dX5_layBetween_61 : decode cX5_layBetween 61 = .ok (.if_icmp .lt 6, 3) := by decide +kernel
theorem dX5_layBetween_64 : decode cX5_layBetween 64 = .ok (.ldc 32, 2) := by decide +kernel
theorem dX5_layBetween_66 : decode cX5_layBetween 66 = .ok (.ireturn, 1) := by decide +kernel
theorem dX5_layBetween_67 : decode cX5_layBetween 67 = .ok (.aload_n 0, 1) := by decide +kernel
theorem dX5_layBetween_68 : decode cX5_layBetween 68 = .ok (.aload 4, 2) := by decide +kernel
theorem dX5_layBetween_70 : decode cX5_layBetween 70 = .ok (.aload 5, 2) := by decide +kernel
theorem dX5_layBetween_72 : decode cX5_layBetween 72 = .ok (.iload_n 2, 1) := by decide +kernel
theorem dX5_layBetween_73 : decode cX5_layBetween 73 = .ok (.iload_n 3, 1) := by decide +kernel
theorem dX5_layBetween_74 : decode cX5_layBetween 74 = .ok (.invokevirtual 122, 3) := by decide +kernel
theorem dX5_layBetween_77 : decode cX5_layBetween 77 = .ok (.ifCond .ne 6, 3) := by decide +kernel
theorem dX5_layBetween_80 : decode cX5_layBetween 80 = .ok (.ldc 117, 2) := by decide +kernel
theorem dX5_layBetween_82 : decode cX5_layBetween 82 = .ok (.ireturn, 1) := by decide +kernel
theorem dX5_layBetween_83 : decode cX5_layBetween 83 = .ok (.aload_n 0, 1) := by decide +kernel
theorem dX5_layBetween_84 : decode cX5_layBetween 84 = .ok (.iload_n 2, 1) := by decide +kernel
theorem dX5_layBetween_85 : decode cX5_layBetween 85 = .ok (.iload_n 3, 1) := by decide +kernel
theorem dX5_layBetween_86 : decode cX5_layBetween 86 = .ok (.iconst 1, 1) := by decide +kernel
theorem dX5_layBetween_87 : decode cX5_layBetween 87 = .ok (.invokevirtual 126, 3) := by decide +kernel
theorem dX5_layBetween_90 : decode cX5_layBetween 90 = .ok (.istore 6, 2) := by decide +kernel
theorem dX5_layBetween_92 : decode cX5_layBetween 92 = .ok (.aload 4, 2) := by decide +kernel
theorem dX5_layBetween_94 : decode cX5_layBetween 94 = .ok (.iload_n 2, 1) := by decide +kernel
theorem dX5_layBetween_95 : decode cX5_layBetween 95 = .ok (.iload_n 3, 1) := by decide +kernel
theorem dX5_layBetween_96 : decode cX5_layBetween 96 = .ok (.invokevirtual 118, 3) := by decide +kernel
theorem dX5_layBetween_99 : decode cX5_layBetween 99 = .ok (.iload 6, 2) := by decide +kernel
theorem dX5_layBetween_101 : decode cX5_layBetween 101 = .ok (.ireturn, 1) := by decide +kernel
theorem dX5_fitsBetween_0 : decode cX5_fitsBetween 0 = .ok (.aload_n 0, 1) := by decide +kernel
theorem dX5_fitsBetween_1 : decode cX5_fitsBetween 1 = .ok (.aload_n 1, 1) := by decide +kernel
theorem dX5_fitsBetween_2 : decode cX5_fitsBetween 2 = .ok (.aload_n 2, 1) := by decide +kernel
theorem dX5_fitsBetween_3 : decode cX5_fitsBetween 3 = .ok (.iload 4, 2) := by decide +kernel
theorem dX5_fitsBetween_5 : decode cX5_fitsBetween 5 = .ok (.aload_n 0, 1) := by decide +kernel
theorem dX5_fitsBetween_6 : decode cX5_fitsBetween 6 = .ok (.iload_n 3, 1) := by decide +kernel
theorem dX5_fitsBetween_7 : decode cX5_fitsBetween 7 = .ok (.iload 4, 2) := by decide +kernel
theorem dX5_fitsBetween_9 : decode cX5_fitsBetween 9 = .ok (.iconst 1, 1) := by decide +kernel
theorem dX5_fitsBetween_10 : decode cX5_fitsBetween 10 = .ok (.isub, 1) := by decide +kernel
theorem dX5_fitsBetween_11 : decode cX5_fitsBetween 11 = .ok (.invokevirtual 105, 3) := by decide +kernel
theorem dX5_fitsBetween_14 : decode cX5_fitsBetween 14 = .ok (.invokevirtual 109, 3) := by decide +kernel
theorem dX5_fitsBetween_17 : decode cX5_fitsBetween 17 = .ok (.ifCond .eq 5, 3) := by decide +kernel
theorem dX5_fitsBetween_20 : decode cX5_fitsBetween 20 = .ok (.iconst 0, 1) := by decide +kernel
theorem dX5_fitsBetween_21 : decode cX5_fitsBetween 21 = .ok (.ireturn, 1) := by decide +kernel
theorem dX5_fitsBetween_22 : decode cX5_fitsBetween 22 = .ok (.aload_n 0, 1) := by decide +kernel
theorem dX5_fitsBetween_23 : decode cX5_fitsBetween 23 = .ok (.getfield 19, 3) := by decide +kernel
theorem dX5_fitsBetween_26 : decode cX5_fitsBetween 26 = .ok (.astore 5, 2) := by decide +kernel
theorem dX5_fitsBetween_28 : decode cX5_fitsBetween 28 = .ok (.aload 5, 2) := by decide +kernel
theorem dX5_fitsBetween_30 : decode cX5_fitsBetween 30 = .ok (.arraylength, 1) := by decide +kernel
theorem dX5_fitsBetween_31 : decode cX5_fitsBetween 31 = .ok (.istore 6, 2) := by decide +kernel
theorem dX5_fitsBetween_33 : decode cX5_fitsBetween 33 = .ok (.iconst 0, 1) := by decide +kernel
theorem dX5_fitsBetween_34 : decode cX5_fitsBetween 34 = .ok (.istore 7, 2) := by decide +kernel
theorem dX5_fitsBetween_36 : decode cX5_fitsBetween 36 = .ok (.iload 7, 2) := by decide +kernel
theorem dX5_fitsBetween_38 : decode cX5_fitsBetween 38 = .ok (.iload 6, 2) := by decide +kernel
theorem dX5_fitsBetween_40 : decode cX5_fitsBetween 40 = .ok (.if_icmp .ge 92, 3) := by decide +kernel
theorem dX5_fitsBetween_43 : decode cX5_fitsBetween 43 = .ok (.aload 5, 2) := by decide +kernel
theorem dX5_fitsBetween_45 : decode cX5_fitsBetween 45 = .ok (.iload 7, 2) := by decide +kernel
theorem dX5_fitsBetween_47 : decode cX5_fitsBetween 47 = .ok (.aaload, 1) := by decide +kernel
theorem dX5_fitsBetween_48 : decode cX5_fitsBetween 48 = .ok (.astore 8, 2) := by decide +kernel
theorem dX5_fitsBetween_50 : decode cX5_fitsBetween 50 = .ok (.aload 8, 2) := by decide +kernel
theorem dX5_fitsBetween_52 : decode cX5_fitsBetween 52 = .ok (.ifnull 74, 3) := by decide +kernel
theorem dX5_fitsBetween_55 : decode cX5_fitsBetween 55 = .ok (.aload 8, 2) := by decide +kernel
theorem dX5_fitsBetween_57 : decode cX5_fitsBetween 57 = .ok (.getfield 42, 3) := by decide +kernel
theorem dX5_fitsBetween_60 : decode cX5_fitsBetween 60 = .ok (.iload_n 3, 1) := by decide +kernel
theorem dX5_fitsBetween_61 : decode cX5_fitsBetween 61 = .ok (.if_icmp .ne 65, 3) := by decide +kernel
theorem dX5_fitsBetween_64 : decode cX5_fitsBetween 64 = .ok (.aload 8, 2) := by decide +kernel
theorem dX5_fitsBetween_66 : decode cX5_fitsBetween 66 = .ok (.getfield 45, 3) := by decide +kernel
theorem dX5_fitsBetween_69 : decode cX5_fitsBetween 69 = .ok (.iload 4, 2) := by decide +kernel
theorem dX5_fitsBetween_71 : decode cX5_fitsBetween 71 = .ok (.if_icmp .ge 6, 3) := by decide +kernel
theorem dX5_fitsBetween_74 : decode cX5_fitsBetween 74 = .ok (.goto 52, 3) := by decide +kernel
theorem dX5_fitsBetween_77 : decode cX5_fitsBetween 77 = .ok (.aload 8, 2) := by decide +kernel
theorem dX5_fitsBetween_79 : decode cX5_fitsBetween 79 = .ok (.getfield 45, 3) := by decide +kernel
theorem dX5_fitsBetween_82 : decode cX5_fitsBetween 82 = .ok (.iload 4, 2) := by decide +kernel
theorem dX5_fitsBetween_84 : decode cX5_fitsBetween 84 = .ok (.if_icmp .ne 7, 3) := by decide +kernel
theorem dX5_fitsBetween_87 : decode cX5_fitsBetween 87 = .ok (.aload_n 1, 1) := by decide +kernel
theorem dX5_fitsBetween_88 : decode cX5_fitsBetween 88 = .ok (.goto 15, 3) := by decide +kernel
theorem dX5_fitsBetween_91 : decode cX5_fitsBetween 91 = .ok (.aload_n 0, 1) := by decide +kernel
theorem dX5_fitsBetween_92 : decode cX5_fitsBetween 92 = .ok (.iload_n 3, 1) := by decide +kernel
theorem dX5_fitsBetween_93 : decode cX5_fitsBetween 93 = .ok (.aload 8, 2) := by decide +kernel
theorem dX5_fitsBetween_95 : decode cX5_fitsBetween 95 = .ok (.getfield 45, 3) := by decide +kernel
theorem dX5_fitsBetween_98 : decode cX5_fitsBetween 98 = .ok (.iconst 1, 1) := by decide +kernel
theorem dX5_fitsBetween_99 : decode cX5_fitsBetween 99 = .ok (.isub, 1) := by decide +kernel
theorem dX5_fitsBetween_100 : decode cX5_fitsBetween 100 = .ok (.invokevirtual 105, 3) := by decide +kernel
theorem dX5_fitsBetween_103 : decode cX5_fitsBetween 103 = .ok (.astore 9, 2) := by decide +kernel
theorem dX5_fitsBetween_105 : decode cX5_fitsBetween 105 = .ok (.aload_n 0, 1) := by decide +kernel
theorem dX5_fitsBetween_106 : decode cX5_fitsBetween 106 = .ok (.aload 8, 2) := by decide +kernel
theorem dX5_fitsBetween_108 : decode cX5_fitsBetween 108 = .ok (.aload_n 2, 1) := by decide +kernel
theorem dX5_fitsBetween_109 : decode cX5_fitsBetween 109 = .ok (.aload 8, 2) := by decide +kernel
theorem dX5_fitsBetween_111 : decode cX5_fitsBetween 111 = .ok (.getfield 45, 3) := by decide +kernel
theorem dX5_fitsBetween_114 : decode cX5_fitsBetween 114 = .ok (.iconst 1, 1) := by decide +kernel
theorem dX5_fitsBetween_115 : decode cX5_fitsBetween 115 = .ok (.iadd, 1) := by decide +kernel
theorem dX5_fitsBetween_116 : decode cX5_fitsBetween 116 = .ok (.aload 9, 2) := by decide +kernel
theorem dX5_fitsBetween_118 : decode cX5_fitsBetween 118 = .ok (.invokevirtual 109, 3) := by decide +kernel
theorem dX5_fitsBetween_121 : decode cX5_fitsBetween 121 = .ok (.ifCond .eq 5, 3) := by decide +kernel
theorem dX5_fitsBetween_124 : decode cX5_fitsBetween 124 = .ok (.iconst 0, 1) := by decide +kernel
theorem dX5_fitsBetween_125 : decode cX5_fitsBetween 125 = .ok (.ireturn, 1) := by decide +kernel
theorem dX5_fitsBetween_126 : decode cX5_fitsBetween 126 = .ok (.iinc 7 1, 3) := by decide +kernel
theorem dX5_fitsBetween_129 : decode cX5_fitsBetween 129 = .ok (.goto (-93), 3) := by decide +kernel
theorem dX5_fitsBetween_132 : decode cX5_fitsBetween 132 = .ok (.iconst 1, 1) := by decide +kernel
theorem dX5_fitsBetween_133 : decode cX5_fitsBetween 133 = .ok (.ireturn, 1) := by decide +kernel
theorem dX5_takeAway_0 : decode cX5_takeAway 0 = .ok (.aload_n 1, 1) := by decide +kernel
theorem dX5_takeAway_1 : decode cX5_takeAway 1 = .ok (.getfield 42, 3) := by decide +kernel
theorem dX5_takeAway_4 : decode cX5_takeAway 4 = .ok (.istore_n 2, 1) := by decide +kernel
theorem dX5_takeAway_5 : decode cX5_takeAway 5 = .ok (.aload_n 1, 1) := by decide +kernel
theorem dX5_takeAway_6 : decode cX5_takeAway 6 = .ok (.getfield 45, 3) := by decide +kernel
theorem dX5_takeAway_9 : decode cX5_takeAway 9 = .ok (.istore_n 3, 1) := by decide +kernel
theorem dX5_takeAway_10 : decode cX5_takeAway 10 = .ok (.aload_n 1, 1) := by decide +kernel
theorem dX5_takeAway_11 : decode cX5_takeAway 11 = .ok (.iconst (-1), 1) := by decide +kernel
theorem dX5_takeAway_12 : decode cX5_takeAway 12 = .ok (.iconst (-1), 1) := by decide +kernel
theorem dX5_takeAway_13 : decode cX5_takeAway 13 = .ok (.invokevirtual 118, 3) := by decide +kernel
theorem dX5_takeAway_16 : decode cX5_takeAway 16 = .ok (.aload_n 0, 1) := by decide +kernel
theorem dX5_takeAway_17 : decode cX5_takeAway 17 = .ok (.iload_n 2, 1) := by decide +kernel
theorem dX5_takeAway_18 : decode cX5_takeAway 18 = .ok (.iload_n 3, 1) := by decide +kernel
theorem dX5_takeAway_19 : decode cX5_takeAway 19 = .ok (.iconst 1, 1) := by decide +kernel
theorem dX5_takeAway_20 : decode cX5_takeAway 20 = .ok (.iadd, 1) := by decide +kernel
theorem dX5_takeAway_21 : decode cX5_takeAway 21 = .ok (.iconst (-1), 1) := by decide +kernel
theorem dX5_takeAway_22 : decode cX5_takeAway 22 = .ok (.invokevirtual 126, 3) := by decide +kernel
theorem dX5_takeAway_25 : decode cX5_takeAway 25 = .ok (.ireturn, 1) := by decide +kernel
theorem dX5_moveFrom_0 : decode cX5_moveFrom 0 = .ok (.iconst 0, 1) := by decide +kernel
theorem dX5_moveFrom_1 : decode cX5_moveFrom 1 = .ok (.istore 4, 2) := by decide +kernel
theorem dX5_moveFrom_3 : decode cX5_moveFrom 3 = .ok (.aload_n 0, 1) := by decide +kernel
theorem dX5_moveFrom_4 : decode cX5_moveFrom 4 = .ok (.getfield 19, 3) := by decide +kernel
theorem dX5_moveFrom_7 : decode cX5_moveFrom 7 = .ok (.astore 5, 2) := by decide +kernel
theorem dX5_moveFrom_9 : decode cX5_moveFrom 9 = .ok (.aload 5, 2) := by decide +kernel
theorem dX5_moveFrom_11 : decode cX5_moveFrom 11 = .ok (.arraylength, 1) := by decide +kernel
theorem dX5_moveFrom_12 : decode cX5_moveFrom 12 = .ok (.istore 6, 2) := by decide +kernel
theorem dX5_moveFrom_14 : decode cX5_moveFrom 14 = .ok (.iconst 0, 1) := by decide +kernel
theorem dX5_moveFrom_15 : decode cX5_moveFrom 15 = .ok (.istore 7, 2) := by decide +kernel
theorem dX5_moveFrom_17 : decode cX5_moveFrom 17 = .ok (.iload 7, 2) := by decide +kernel
theorem dX5_moveFrom_19 : decode cX5_moveFrom 19 = .ok (.iload 6, 2) := by decide +kernel
theorem dX5_moveFrom_21 : decode cX5_moveFrom 21 = .ok (.if_icmp .ge 48, 3) := by decide +kernel
theorem dX5_moveFrom_24 : decode cX5_moveFrom 24 = .ok (.aload 5, 2) := by decide +kernel
theorem dX5_moveFrom_26 : decode cX5_moveFrom 26 = .ok (.iload 7, 2) := by decide +kernel
theorem dX5_moveFrom_28 : decode cX5_moveFrom 28 = .ok (.aaload, 1) := by decide +kernel
theorem dX5_moveFrom_29 : decode cX5_moveFrom 29 = .ok (.astore 8, 2) := by decide +kernel
theorem dX5_moveFrom_31 : decode cX5_moveFrom 31 = .ok (.aload 8, 2) := by decide +kernel
