theorem dX5_moveFrom_33 : decode cX5_moveFrom 33 = .ok (.ifnull 30, 3) := by decide +kernel
theorem dX5_moveFrom_36 : decode cX5_moveFrom 36 = .ok (.aload 8, 2) := by decide +kernel
theorem dX5_moveFrom_38 : decode cX5_moveFrom 38 = .ok (.getfield 42, 3) := by decide +kernel
theorem dX5_moveFrom_41 : decode cX5_moveFrom 41 = .ok (.iload_n 1, 1) := by decide +kernel
theorem dX5_moveFrom_42 : decode cX5_moveFrom 42 = .ok (.if_icmp .ne 21, 3) := by decide +kernel
theorem dX5_moveFrom_45 : decode cX5_moveFrom 45 = .ok (.aload 8, 2) := by decide +kernel
theorem dX5_moveFrom_47 : decode cX5_moveFrom 47 = .ok (.getfield 45, 3) := by decide +kernel
theorem dX5_moveFrom_50 : decode cX5_moveFrom 50 = .ok (.iload_n 2, 1) := by decide +kernel
theorem dX5_moveFrom_51 : decode cX5_moveFrom 51 = .ok (.if_icmp .lt 12, 3) := by decide +kernel
theorem dX5_moveFrom_54 : decode cX5_moveFrom 54 = .ok (.aload 8, 2) := by decide +kernel
theorem dX5_moveFrom_56 : decode cX5_moveFrom 56 = .ok (.iload_n 3, 1) := by decide +kernel
theorem dX5_moveFrom_57 : decode cX5_moveFrom 57 = .ok (.invokevirtual 130, 3) := by decide +kernel
theorem dX5_moveFrom_60 : decode cX5_moveFrom 60 = .ok (.iinc 4 1, 3) := by decide +kernel
theorem dX5_moveFrom_63 : decode cX5_moveFrom 63 = .ok (.iinc 7 1, 3) := by decide +kernel
theorem dX5_moveFrom_66 : decode cX5_moveFrom 66 = .ok (.goto (-49), 3) := by decide +kernel
theorem dX5_moveFrom_69 : decode cX5_moveFrom 69 = .ok (.aload_n 0, 1) := by decide +kernel
theorem dX5_moveFrom_70 : decode cX5_moveFrom 70 = .ok (.dup, 1) := by decide +kernel
theorem dX5_moveFrom_71 : decode cX5_moveFrom 71 = .ok (.getfield 134, 3) := by decide +kernel
theorem dX5_moveFrom_74 : decode cX5_moveFrom 74 = .ok (.iload 4, 2) := by decide +kernel
theorem dX5_moveFrom_76 : decode cX5_moveFrom 76 = .ok (.iadd, 1) := by decide +kernel
theorem dX5_moveFrom_77 : decode cX5_moveFrom 77 = .ok (.putfield 134, 3) := by decide +kernel
theorem dX5_moveFrom_80 : decode cX5_moveFrom 80 = .ok (.iload 4, 2) := by decide +kernel
theorem dX5_moveFrom_82 : decode cX5_moveFrom 82 = .ok (.ireturn, 1) := by decide +kernel
theorem dX5_firstFault_0 : decode cX5_firstFault 0 = .ok (.aload_n 0, 1) := by decide +kernel
theorem dX5_firstFault_1 : decode cX5_firstFault 1 = .ok (.iload_n 1, 1) := by decide +kernel
theorem dX5_firstFault_2 : decode cX5_firstFault 2 = .ok (.invokevirtual 96, 3) := by decide +kernel
theorem dX5_firstFault_5 : decode cX5_firstFault 5 = .ok (.astore_n 2, 1) := by decide +kernel
theorem dX5_firstFault_6 : decode cX5_firstFault 6 = .ok (.aload_n 2, 1) := by decide +kernel
theorem dX5_firstFault_7 : decode cX5_firstFault 7 = .ok (.ifnonnull 6, 3) := by decide +kernel
theorem dX5_firstFault_10 : decode cX5_firstFault 10 = .ok (.ldc 27, 2) := by decide +kernel
theorem dX5_firstFault_12 : decode cX5_firstFault 12 = .ok (.ireturn, 1) := by decide +kernel
theorem dX5_firstFault_13 : decode cX5_firstFault 13 = .ok (.iconst 0, 1) := by decide +kernel
theorem dX5_firstFault_14 : decode cX5_firstFault 14 = .ok (.istore_n 3, 1) := by decide +kernel
theorem dX5_firstFault_15 : decode cX5_firstFault 15 = .ok (.iload_n 3, 1) := by decide +kernel
theorem dX5_firstFault_16 : decode cX5_firstFault 16 = .ok (.bipush 6, 2) := by decide +kernel
theorem dX5_firstFault_18 : decode cX5_firstFault 18 = .ok (.if_icmp .ge 43, 3) := by decide +kernel
theorem dX5_firstFault_21 : decode cX5_firstFault 21 = .ok (.aload_n 0, 1) := by decide +kernel
theorem dX5_firstFault_22 : decode cX5_firstFault 22 = .ok (.iload_n 1, 1) := by decide +kernel
theorem dX5_firstFault_23 : decode cX5_firstFault 23 = .ok (.iload_n 3, 1) := by decide +kernel
theorem dX5_firstFault_24 : decode cX5_firstFault 24 = .ok (.invokevirtual 105, 3) := by decide +kernel
theorem dX5_firstFault_27 : decode cX5_firstFault 27 = .ok (.astore 4, 2) := by decide +kernel
theorem dX5_firstFault_29 : decode cX5_firstFault 29 = .ok (.aload 4, 2) := by decide +kernel
theorem dX5_firstFault_31 : decode cX5_firstFault 31 = .ok (.ifnull 24, 3) := by decide +kernel
theorem dX5_firstFault_34 : decode cX5_firstFault 34 = .ok (.aload_n 0, 1) := by decide +kernel
theorem dX5_firstFault_35 : decode cX5_firstFault 35 = .ok (.aload 4, 2) := by decide +kernel
theorem dX5_firstFault_37 : decode cX5_firstFault 37 = .ok (.aload_n 2, 1) := by decide +kernel
theorem dX5_firstFault_38 : decode cX5_firstFault 38 = .ok (.iload_n 3, 1) := by decide +kernel
theorem dX5_firstFault_39 : decode cX5_firstFault 39 = .ok (.aload_n 0, 1) := by decide +kernel
theorem dX5_firstFault_40 : decode cX5_firstFault 40 = .ok (.iload_n 1, 1) := by decide +kernel
theorem dX5_firstFault_41 : decode cX5_firstFault 41 = .ok (.iload_n 3, 1) := by decide +kernel
theorem dX5_firstFault_42 : decode cX5_firstFault 42 = .ok (.iconst 1, 1) := by decide +kernel
theorem dX5_firstFault_43 : decode cX5_firstFault 43 = .ok (.isub, 1) := by decide +kernel
theorem dX5_firstFault_44 : decode cX5_firstFault 44 = .ok (.invokevirtual 105, 3) := by decide +kernel
theorem dX5_firstFault_47 : decode cX5_firstFault 47 = .ok (.invokevirtual 109, 3) := by decide +kernel
theorem dX5_firstFault_50 : decode cX5_firstFault 50 = .ok (.ifCond .eq 5, 3) := by decide +kernel
theorem dX5_firstFault_53 : decode cX5_firstFault 53 = .ok (.iload_n 3, 1) := by decide +kernel
theorem dX5_firstFault_54 : decode cX5_firstFault 54 = .ok (.ireturn, 1) := by decide +kernel
theorem dX5_firstFault_55 : decode cX5_firstFault 55 = .ok (.iinc 3 1, 3) := by decide +kernel
theorem dX5_firstFault_58 : decode cX5_firstFault 58 = .ok (.goto (-43), 3) := by decide +kernel
theorem dX5_firstFault_61 : decode cX5_firstFault 61 = .ok (.iconst (-1), 1) := by decide +kernel
theorem dX5_firstFault_62 : decode cX5_firstFault 62 = .ok (.ireturn, 1) := by decide +kernel
theorem dX5_countPairs_0 : decode cX5_countPairs 0 = .ok (.aload_n 0, 1) := by decide +kernel
theorem dX5_countPairs_1 : decode cX5_countPairs 1 = .ok (.iload_n 1, 1) := by decide +kernel
theorem dX5_countPairs_2 : decode cX5_countPairs 2 = .ok (.invokevirtual 96, 3) := by decide +kernel
theorem dX5_countPairs_5 : decode cX5_countPairs 5 = .ok (.ifnonnull 6, 3) := by decide +kernel
theorem dX5_countPairs_8 : decode cX5_countPairs 8 = .ok (.ldc 27, 2) := by decide +kernel
theorem dX5_countPairs_10 : decode cX5_countPairs 10 = .ok (.ireturn, 1) := by decide +kernel
theorem dX5_countPairs_11 : decode cX5_countPairs 11 = .ok (.iconst 0, 1) := by decide +kernel
theorem dX5_countPairs_12 : decode cX5_countPairs 12 = .ok (.istore_n 3, 1) := by decide +kernel
theorem dX5_countPairs_13 : decode cX5_countPairs 13 = .ok (.aload_n 0, 1) := by decide +kernel
theorem dX5_countPairs_14 : decode cX5_countPairs 14 = .ok (.getfield 19, 3) := by decide +kernel
theorem dX5_countPairs_17 : decode cX5_countPairs 17 = .ok (.astore 4, 2) := by decide +kernel
theorem dX5_countPairs_19 : decode cX5_countPairs 19 = .ok (.aload 4, 2) := by decide +kernel
theorem dX5_countPairs_21 : decode cX5_countPairs 21 = .ok (.arraylength, 1) := by decide +kernel
theorem dX5_countPairs_22 : decode cX5_countPairs 22 = .ok (.istore 5, 2) := by decide +kernel
theorem dX5_countPairs_24 : decode cX5_countPairs 24 = .ok (.iconst 0, 1) := by decide +kernel
theorem dX5_countPairs_25 : decode cX5_countPairs 25 = .ok (.istore 6, 2) := by decide +kernel
theorem dX5_countPairs_27 : decode cX5_countPairs 27 = .ok (.iload 6, 2) := by decide +kernel
theorem dX5_countPairs_29 : decode cX5_countPairs 29 = .ok (.iload 5, 2) := by decide +kernel
theorem dX5_countPairs_31 : decode cX5_countPairs 31 = .ok (.if_icmp .ge 40, 3) := by decide +kernel
theorem dX5_countPairs_34 : decode cX5_countPairs 34 = .ok (.aload 4, 2) := by decide +kernel
theorem dX5_countPairs_36 : decode cX5_countPairs 36 = .ok (.iload 6, 2) := by decide +kernel
theorem dX5_countPairs_38 : decode cX5_countPairs 38 = .ok (.aaload, 1) := by decide +kernel
theorem dX5_countPairs_39 : decode cX5_countPairs 39 = .ok (.astore 7, 2) := by decide +kernel
theorem dX5_countPairs_41 : decode cX5_countPairs 41 = .ok (.aload 7, 2) := by decide +kernel
theorem dX5_countPairs_43 : decode cX5_countPairs 43 = .ok (.ifnull 22, 3) := by decide +kernel
theorem dX5_countPairs_46 : decode cX5_countPairs 46 = .ok (.aload 7, 2) := by decide +kernel
theorem dX5_countPairs_48 : decode cX5_countPairs 48 = .ok (.getfield 42, 3) := by decide +kernel
theorem dX5_countPairs_51 : decode cX5_countPairs 51 = .ok (.iload_n 1, 1) := by decide +kernel
theorem dX5_countPairs_52 : decode cX5_countPairs 52 = .ok (.if_icmp .ne 13, 3) := by decide +kernel
theorem dX5_countPairs_55 : decode cX5_countPairs 55 = .ok (.iload_n 3, 1) := by decide +kernel
theorem dX5_countPairs_56 : decode cX5_countPairs 56 = .ok (.aload_n 0, 1) := by decide +kernel
theorem dX5_countPairs_57 : decode cX5_countPairs 57 = .ok (.aload 7, 2) := by decide +kernel
theorem dX5_countPairs_59 : decode cX5_countPairs 59 = .ok (.iload_n 2, 1) := by decide +kernel
theorem dX5_countPairs_60 : decode cX5_countPairs 60 = .ok (.invokevirtual 137, 3) := by decide +kernel
theorem dX5_countPairs_63 : decode cX5_countPairs 63 = .ok (.iadd, 1) := by decide +kernel
theorem dX5_countPairs_64 : decode cX5_countPairs 64 = .ok (.istore_n 3, 1) := by decide +kernel
theorem dX5_countPairs_65 : decode cX5_countPairs 65 = .ok (.iinc 6 1, 3) := by decide +kernel
theorem dX5_countPairs_68 : decode cX5_countPairs 68 = .ok (.goto (-41), 3) := by decide +kernel
theorem dX5_countPairs_71 : decode cX5_countPairs 71 = .ok (.iload_n 3, 1) := by decide +kernel
theorem dX5_countPairs_72 : decode cX5_countPairs 72 = .ok (.ireturn, 1) := by decide +kernel
theorem dX5_countMoving_0 : decode cX5_countMoving 0 = .ok (.iconst 0, 1) := by decide +kernel
theorem dX5_countMoving_1 : decode cX5_countMoving 1 = .ok (.istore_n 3, 1) := by decide +kernel
theorem dX5_countMoving_2 : decode cX5_countMoving 2 = .ok (.aload_n 0, 1) := by decide +kernel
theorem dX5_countMoving_3 : decode cX5_countMoving 3 = .ok (.getfield 19, 3) := by decide +kernel
theorem dX5_countMoving_6 : decode cX5_countMoving 6 = .ok (.astore 4, 2) := by decide +kernel
theorem dX5_countMoving_8 : decode cX5_countMoving 8 = .ok (.aload 4, 2) := by decide +kernel
theorem dX5_countMoving_10 : decode cX5_countMoving 10 = .ok (.arraylength, 1) := by decide +kernel
theorem dX5_countMoving_11 : decode cX5_countMoving 11 = .ok (.istore 5, 2) := by decide +kernel
theorem dX5_countMoving_13 : decode cX5_countMoving 13 = .ok (.iconst 0, 1) := by decide +kernel
theorem dX5_countMoving_14 : decode cX5_countMoving 14 = .ok (.istore 6, 2) := by decide +kernel
theorem dX5_countMoving_16 : decode cX5_countMoving 16 = .ok (.iload 6, 2) := by decide +kernel
theorem dX5_countMoving_18 : decode cX5_countMoving 18 = .ok (.iload 5, 2) := by decide +kernel
theorem dX5_countMoving_20 : decode cX5_countMoving 20 = .ok (.if_icmp .ge 58, 3) := by decide +kernel
theorem dX5_countMoving_23 : decode cX5_countMoving 23 = .ok (.aload 4, 2) := by decide +kernel
theorem dX5_countMoving_25 : decode cX5_countMoving 25 = .ok (.iload 6, 2) := by decide +kernel
theorem dX5_countMoving_27 : decode cX5_countMoving 27 = .ok (.aaload, 1) := by decide +kernel
theorem dX5_countMoving_28 : decode cX5_countMoving 28 = .ok (.astore 7, 2) := by decide +kernel
theorem dX5_countMoving_30 : decode cX5_countMoving 30 = .ok (.aload 7, 2) := by decide +kernel
theorem dX5_countMoving_32 : decode cX5_countMoving 32 = .ok (.ifnull 40, 3) := by decide +kernel
theorem dX5_countMoving_35 : decode cX5_countMoving 35 = .ok (.aload_n 1, 1) := by decide +kernel
theorem dX5_countMoving_36 : decode cX5_countMoving 36 = .ok (.aload 7, 2) := by decide +kernel
theorem dX5_countMoving_38 : decode cX5_countMoving 38 = .ok (.invokevirtual 141, 3) := by decide +kernel
theorem dX5_countMoving_41 : decode cX5_countMoving 41 = .ok (.ifCond .eq 31, 3) := by decide +kernel
theorem dX5_countMoving_44 : decode cX5_countMoving 44 = .ok (.iload_n 2, 1) := by decide +kernel
theorem dX5_countMoving_45 : decode cX5_countMoving 45 = .ok (.ifCond .eq 15, 3) := by decide +kernel
theorem dX5_countMoving_48 : decode cX5_countMoving 48 = .ok (.aload 7, 2) := by decide +kernel
theorem dX5_countMoving_50 : decode cX5_countMoving 50 = .ok (.aload_n 1, 1) := by decide +kernel
theorem dX5_countMoving_51 : decode cX5_countMoving 51 = .ok (.invokevirtual 145, 3) := by decide +kernel
theorem dX5_countMoving_54 : decode cX5_countMoving 54 = .ok (.ifCond .eq 18, 3) := by decide +kernel
theorem dX5_countMoving_57 : decode cX5_countMoving 57 = .ok (.goto 12, 3) := by decide +kernel
theorem dX5_countMoving_60 : decode cX5_countMoving 60 = .ok (.aload 7, 2) := by decide +kernel
theorem dX5_countMoving_62 : decode cX5_countMoving 62 = .ok (.aload_n 1, 1) := by decide +kernel
theorem dX5_countMoving_63 : decode cX5_countMoving 63 = .ok (.invokevirtual 148, 3) := by decide +kernel
theorem dX5_countMoving_66 : decode cX5_countMoving 66 = .ok (.ifCond .eq 6, 3) := by decide +kernel
theorem dX5_countMoving_69 : decode cX5_countMoving 69 = .ok (.iinc 3 1, 3) := by decide +kernel
theorem dX5_countMoving_72 : decode cX5_countMoving 72 = .ok (.iinc 6 1, 3) := by decide +kernel
theorem dX5_countMoving_75 : decode cX5_countMoving 75 = .ok (.goto (-59), 3) := by decide +kernel
theorem dX5_countMoving_78 : decode cX5_countMoving 78 = .ok (.iload_n 3, 1) := by decide +kernel
theorem dX5_countMoving_79 : decode cX5_countMoving 79 = .ok (.ireturn, 1) := by decide +kernel
theorem dX5_bestBerth_0 : decode cX5_bestBerth 0 = .ok (.aload_n 0, 1) := by decide +kernel
theorem dX5_bestBerth_1 : decode cX5_bestBerth 1 = .ok (.iload_n 1, 1) := by decide +kernel
theorem dX5_bestBerth_2 : decode cX5_bestBerth 2 = .ok (.invokevirtual 92, 3) := by decide +kernel
theorem dX5_bestBerth_5 : decode cX5_bestBerth 5 = .ok (.astore_n 2, 1) := by decide +kernel
theorem dX5_bestBerth_6 : decode cX5_bestBerth 6 = .ok (.aload_n 2, 1) := by decide +kernel
theorem dX5_bestBerth_7 : decode cX5_bestBerth 7 = .ok (.ifnonnull 6, 3) := by decide +kernel
theorem dX5_bestBerth_10 : decode cX5_bestBerth 10 = .ok (.ldc 27, 2) := by decide +kernel
theorem dX5_bestBerth_12 : decode cX5_bestBerth 12 = .ok (.ireturn, 1) := by decide +kernel
theorem dX5_bestBerth_13 : decode cX5_bestBerth 13 = .ok (.aload_n 2, 1) := by decide +kernel
theorem dX5_bestBerth_14 : decode cX5_bestBerth 14 = .ok (.invokevirtual 48, 3) := by decide +kernel
theorem dX5_bestBerth_17 : decode cX5_bestBerth 17 = .ok (.ifCond .eq 6, 3) := by decide +kernel
theorem dX5_bestBerth_20 : decode cX5_bestBerth 20 = .ok (.ldc 100, 2) := by decide +kernel
theorem dX5_bestBerth_22 : decode cX5_bestBerth 22 = .ok (.ireturn, 1) := by decide +kernel
theorem dX5_bestBerth_23 : decode cX5_bestBerth 23 = .ok (.ldc 151, 2) := by decide +kernel
theorem dX5_bestBerth_25 : decode cX5_bestBerth 25 = .ok (.istore_n 3, 1) := by decide +kernel
theorem dX5_bestBerth_26 : decode cX5_bestBerth 26 = .ok (.bipush 8, 2) := by decide +kernel
theorem dX5_bestBerth_28 : decode cX5_bestBerth 28 = .ok (.istore 4, 2) := by decide +kernel
theorem dX5_bestBerth_30 : decode cX5_bestBerth 30 = .ok (.iconst 0, 1) := by decide +kernel
theorem dX5_bestBerth_31 : decode cX5_bestBerth 31 = .ok (.istore 5, 2) := by decide +kernel
theorem dX5_bestBerth_33 : decode cX5_bestBerth 33 = .ok (.iload 5, 2) := by decide +kernel
theorem dX5_bestBerth_35 : decode cX5_bestBerth 35 = .ok (.aload_n 0, 1) := by decide +kernel
theorem dX5_bestBerth_36 : decode cX5_bestBerth 36 = .ok (.getfield 28, 3) := by decide +kernel
theorem dX5_bestBerth_39 : decode cX5_bestBerth 39 = .ok (.if_icmp .ge 42, 3) := by decide +kernel
theorem dX5_bestBerth_42 : decode cX5_bestBerth 42 = .ok (.aload_n 0, 1) := by decide +kernel
theorem dX5_bestBerth_43 : decode cX5_bestBerth 43 = .ok (.iload 5, 2) := by decide +kernel
theorem dX5_bestBerth_45 : decode cX5_bestBerth 45 = .ok (.aload_n 2, 1) := by decide +kernel
theorem dX5_bestBerth_46 : decode cX5_bestBerth 46 = .ok (.invokevirtual 152, 3) := by decide +kernel
theorem dX5_bestBerth_49 : decode cX5_bestBerth 49 = .ok (.istore 6, 2) := by decide +kernel
theorem dX5_bestBerth_51 : decode cX5_bestBerth 51 = .ok (.iload 6, 2) := by decide +kernel
theorem dX5_bestBerth_53 : decode cX5_bestBerth 53 = .ok (.iload 4, 2) := by decide +kernel
theorem dX5_bestBerth_55 : decode cX5_bestBerth 55 = .ok (.if_icmp .ge 20, 3) := by decide +kernel
theorem dX5_bestBerth_58 : decode cX5_bestBerth 58 = .ok (.aload_n 0, 1) := by decide +kernel
theorem dX5_bestBerth_59 : decode cX5_bestBerth 59 = .ok (.iload_n 1, 1) := by decide +kernel
theorem dX5_bestBerth_60 : decode cX5_bestBerth 60 = .ok (.iload 5, 2) := by decide +kernel
theorem dX5_bestBerth_62 : decode cX5_bestBerth 62 = .ok (.invokevirtual 113, 3) := by decide +kernel
theorem dX5_bestBerth_65 : decode cX5_bestBerth 65 = .ok (.ifCond .ne 10, 3) := by decide +kernel
theorem dX5_bestBerth_68 : decode cX5_bestBerth 68 = .ok (.iload 5, 2) := by decide +kernel
theorem dX5_bestBerth_70 : decode cX5_bestBerth 70 = .ok (.istore_n 3, 1) := by decide +kernel
theorem dX5_bestBerth_71 : decode cX5_bestBerth 71 = .ok (.iload 6, 2) := by decide +kernel
theorem dX5_bestBerth_73 : decode cX5_bestBerth 73 = .ok (.istore 4, 2) := by decide +kernel
theorem dX5_bestBerth_75 : decode cX5_bestBerth 75 = .ok (.iinc 5 1, 3) := by decide +kernel
theorem dX5_bestBerth_78 : decode cX5_bestBerth 78 = .ok (.goto (-45), 3) := by decide +kernel
theorem dX5_bestBerth_81 : decode cX5_bestBerth 81 = .ok (.iload_n 3, 1) := by decide +kernel
theorem dX5_bestBerth_82 : decode cX5_bestBerth 82 = .ok (.ireturn, 1) := by decide +kernel
theorem dX5_countMaybeAt_0 : decode cX5_countMaybeAt 0 = .ok (.iconst 0, 1) := by decide +kernel
theorem dX5_countMaybeAt_1 : decode cX5_countMaybeAt 1 = .ok (.istore_n 3, 1) := by decide +kernel
theorem dX5_countMaybeAt_2 : decode cX5_countMaybeAt 2 = .ok (.aload_n 0, 1) := by decide +kernel
theorem dX5_countMaybeAt_3 : decode cX5_countMaybeAt 3 = .ok (.getfield 19, 3) := by decide +kernel
theorem dX5_countMaybeAt_6 : decode cX5_countMaybeAt 6 = .ok (.astore 4, 2) := by decide +kernel
theorem dX5_countMaybeAt_8 : decode cX5_countMaybeAt 8 = .ok (.aload 4, 2) := by decide +kernel
theorem dX5_countMaybeAt_10 : decode cX5_countMaybeAt 10 = .ok (.arraylength, 1) := by decide +kernel
theorem dX5_countMaybeAt_11 : decode cX5_countMaybeAt 11 = .ok (.istore 5, 2) := by decide +kernel
theorem dX5_countMaybeAt_13 : decode cX5_countMaybeAt 13 = .ok (.iconst 0, 1) := by decide +kernel
theorem dX5_countMaybeAt_14 : decode cX5_countMaybeAt 14 = .ok (.istore 6, 2) := by decide +kernel
theorem dX5_countMaybeAt_16 : decode cX5_countMaybeAt 16 = .ok (.iload 6, 2) := by decide +kernel
theorem dX5_countMaybeAt_18 : decode cX5_countMaybeAt 18 = .ok (.iload 5, 2) := by decide +kernel
theorem dX5_countMaybeAt_20 : decode cX5_countMaybeAt 20 = .ok (.if_icmp .ge 42, 3) := by decide +kernel
theorem dX5_countMaybeAt_23 : decode cX5_countMaybeAt 23 = .ok (.aload 4, 2) := by decide +kernel
theorem dX5_countMaybeAt_25 : decode cX5_countMaybeAt 25 = .ok (.iload 6, 2) := by decide +kernel
theorem dX5_countMaybeAt_27 : decode cX5_countMaybeAt 27 = .ok (.aaload, 1) := by decide +kernel
theorem dX5_countMaybeAt_28 : decode cX5_countMaybeAt 28 = .ok (.astore 7, 2) := by decide +kernel
theorem dX5_countMaybeAt_30 : decode cX5_countMaybeAt 30 = .ok (.aload 7, 2) := by decide +kernel
theorem dX5_countMaybeAt_32 : decode cX5_countMaybeAt 32 = .ok (.ifnull 24, 3) := by decide +kernel
theorem dX5_countMaybeAt_35 : decode cX5_countMaybeAt 35 = .ok (.aload 7, 2) := by decide +kernel
theorem dX5_countMaybeAt_37 : decode cX5_countMaybeAt 37 = .ok (.getfield 42, 3) := by decide +kernel
theorem dX5_countMaybeAt_40 : decode cX5_countMaybeAt 40 = .ok (.iload_n 1, 1) := by decide +kernel
theorem dX5_countMaybeAt_41 : decode cX5_countMaybeAt 41 = .ok (.if_icmp .ne 15, 3) := by decide +kernel
theorem dX5_countMaybeAt_44 : decode cX5_countMaybeAt 44 = .ok (.aload 7, 2) := by decide +kernel
theorem dX5_countMaybeAt_46 : decode cX5_countMaybeAt 46 = .ok (.aload_n 2, 1) := by decide +kernel
theorem dX5_countMaybeAt_47 : decode cX5_countMaybeAt 47 = .ok (.invokevirtual 148, 3) := by decide +kernel
theorem dX5_countMaybeAt_50 : decode cX5_countMaybeAt 50 = .ok (.ifCond .eq 6, 3) := by decide +kernel
theorem dX5_countMaybeAt_53 : decode cX5_countMaybeAt 53 = .ok (.iinc 3 1, 3) := by decide +kernel
theorem dX5_countMaybeAt_56 : decode cX5_countMaybeAt 56 = .ok (.iinc 6 1, 3) := by decide +kernel
theorem dX5_countMaybeAt_59 : decode cX5_countMaybeAt 59 = .ok (.goto (-43), 3) := by decide +kernel
theorem dX5_countMaybeAt_62 : decode cX5_countMaybeAt 62 = .ok (.iload_n 3, 1) := by decide +kernel
theorem dX5_countMaybeAt_63 : decode cX5_countMaybeAt 63 = .ok (.ireturn, 1) := by decide +kernel
theorem dX5_movedIfLeaving_0 : decode cX5_movedIfLeaving 0 = .ok (.aload_n 1, 1) := by decide +kernel
theorem dX5_movedIfLeaving_1 : decode cX5_movedIfLeaving 1 = .ok (.iload_n 2, 1) := by decide +kernel
theorem dX5_movedIfLeaving_2 : decode cX5_movedIfLeaving 2 = .ok (.invokevirtual 156, 3) := by decide +kernel
theorem dX5_movedIfLeaving_5 : decode cX5_movedIfLeaving 5 = .ok (.ifCond .ne 5, 3) := by decide +kernel
theorem dX5_movedIfLeaving_8 : decode cX5_movedIfLeaving 8 = .ok (.iconst (-1), 1) := by decide +kernel
theorem dX5_movedIfLeaving_9 : decode cX5_movedIfLeaving 9 = .ok (.ireturn, 1) := by decide +kernel
theorem dX5_movedIfLeaving_10 : decode cX5_movedIfLeaving 10 = .ok (.iconst 0, 1) := by decide +kernel
theorem dX5_movedIfLeaving_11 : decode cX5_movedIfLeaving 11 = .ok (.istore_n 3, 1) := by decide +kernel
theorem dX5_movedIfLeaving_12 : decode cX5_movedIfLeaving 12 = .ok (.aload_n 0, 1) := by decide +kernel
theorem dX5_movedIfLeaving_13 : decode cX5_movedIfLeaving 13 = .ok (.getfield 19, 3) := by decide +kernel
theorem dX5_movedIfLeaving_16 : decode cX5_movedIfLeaving 16 = .ok (.astore 4, 2) := by decide +kernel
theorem dX5_movedIfLeaving_18 : decode cX5_movedIfLeaving 18 = .ok (.aload 4, 2) := by decide +kernel
theorem dX5_movedIfLeaving_20 : decode cX5_movedIfLeaving 20 = .ok (.arraylength, 1) := by decide +kernel
theorem dX5_movedIfLeaving_21 : decode cX5_movedIfLeaving 21 = .ok (.istore 5, 2) := by decide +kernel
theorem dX5_movedIfLeaving_23 : decode cX5_movedIfLeaving 23 = .ok (.iconst 0, 1) := by decide +kernel
theorem dX5_movedIfLeaving_24 : decode cX5_movedIfLeaving 24 = .ok (.istore 6, 2) := by decide +kernel
theorem dX5_movedIfLeaving_26 : decode cX5_movedIfLeaving 26 = .ok (.iload 6, 2) := by decide +kernel
theorem dX5_movedIfLeaving_28 : decode cX5_movedIfLeaving 28 = .ok (.iload 5, 2) := by decide +kernel
theorem dX5_movedIfLeaving_30 : decode cX5_movedIfLeaving 30 = .ok (.if_icmp .ge 44, 3) := by decide +kernel
theorem dX5_movedIfLeaving_33 : decode cX5_movedIfLeaving 33 = .ok (.aload 4, 2) := by decide +kernel
theorem dX5_movedIfLeaving_35 : decode cX5_movedIfLeaving 35 = .ok (.iload 6, 2) := by decide +kernel
theorem dX5_movedIfLeaving_37 : decode cX5_movedIfLeaving 37 = .ok (.aaload, 1) := by decide +kernel
theorem dX5_movedIfLeaving_38 : decode cX5_movedIfLeaving 38 = .ok (.astore 7, 2) := by decide +kernel
theorem dX5_movedIfLeaving_40 : decode cX5_movedIfLeaving 40 = .ok (.aload 7, 2) := by decide +kernel
theorem dX5_movedIfLeaving_42 : decode cX5_movedIfLeaving 42 = .ok (.ifnull 26, 3) := by decide +kernel
theorem dX5_movedIfLeaving_45 : decode cX5_movedIfLeaving 45 = .ok (.aload 7, 2) := by decide +kernel
theorem dX5_movedIfLeaving_47 : decode cX5_movedIfLeaving 47 = .ok (.aload_n 1, 1) := by decide +kernel
theorem dX5_movedIfLeaving_48 : decode cX5_movedIfLeaving 48 = .ok (.invokevirtual 141, 3) := by decide +kernel
theorem dX5_movedIfLeaving_51 : decode cX5_movedIfLeaving 51 = .ok (.ifCond .eq 17, 3) := by decide +kernel
theorem dX5_movedIfLeaving_54 : decode cX5_movedIfLeaving 54 = .ok (.aload 7, 2) := by decide +kernel
theorem dX5_movedIfLeaving_56 : decode cX5_movedIfLeaving 56 = .ok (.iload_n 2, 1) := by decide +kernel
theorem dX5_movedIfLeaving_57 : decode cX5_movedIfLeaving 57 = .ok (.invokevirtual 156, 3) := by decide +kernel
theorem dX5_movedIfLeaving_60 : decode cX5_movedIfLeaving 60 = .ok (.ifCond .ne 5, 3) := by decide +kernel
theorem dX5_movedIfLeaving_63 : decode cX5_movedIfLeaving 63 = .ok (.iconst (-1), 1) := by decide +kernel
theorem dX5_movedIfLeaving_64 : decode cX5_movedIfLeaving 64 = .ok (.ireturn, 1) := by decide +kernel
theorem dX5_movedIfLeaving_65 : decode cX5_movedIfLeaving 65 = .ok (.iinc 3 1, 3) := by decide +kernel
theorem dX5_movedIfLeaving_68 : decode cX5_movedIfLeaving 68 = .ok (.iinc 6 1, 3) := by decide +kernel
theorem dX5_movedIfLeaving_71 : decode cX5_movedIfLeaving 71 = .ok (.goto (-45), 3) := by decide +kernel
theorem dX5_movedIfLeaving_74 : decode cX5_movedIfLeaving 74 = .ok (.iload_n 3, 1) := by decide +kernel
theorem dX5_movedIfLeaving_75 : decode cX5_movedIfLeaving 75 = .ok (.ireturn, 1) := by decide +kernel
theorem dX6_init_0 : decode cX6_init 0 = .ok (.aload_n 0, 1) := by decide +kernel
theorem dX6_init_1 : decode cX6_init 1 = .ok (.invokespecial 3, 3) := by decide +kernel
theorem dX6_init_4 : decode cX6_init 4 = .ok (.aload_n 0, 1) := by decide +kernel
theorem dX6_init_5 : decode cX6_init 5 = .ok (.bipush 8, 2) := by decide +kernel
theorem dX6_init_7 : decode cX6_init 7 = .ok (.newarray .int, 2) := by decide +kernel
theorem dX6_init_9 : decode cX6_init 9 = .ok (.putfield 11, 3) := by decide +kernel
theorem dX6_init_12 : decode cX6_init 12 = .ok (.return_, 1) := by decide +kernel
theorem dX6_isMissing_0 : decode cX6_isMissing 0 = .ok (.aload_n 0, 1) := by decide +kernel
theorem dX6_isMissing_1 : decode cX6_isMissing 1 = .ok (.getfield 15, 3) := by decide +kernel
theorem dX6_isMissing_4 : decode cX6_isMissing 4 = .ok (.ifCond .ne 7, 3) := by decide +kernel
theorem dX6_isMissing_7 : decode cX6_isMissing 7 = .ok (.iconst 1, 1) := by decide +kernel
theorem dX6_isMissing_8 : decode cX6_isMissing 8 = .ok (.goto 4, 3) := by decide +kernel
theorem dX6_isMissing_11 : decode cX6_isMissing 11 = .ok (.iconst 0, 1) := by decide +kernel
theorem dX6_isMissing_12 : decode cX6_isMissing 12 = .ok (.ireturn, 1) := by decide +kernel
theorem dX6_begin_0 : decode cX6_begin 0 = .ok (.iload_n 1, 1) := by decide +kernel
theorem dX6_begin_1 : decode cX6_begin 1 = .ok (.ifCond .eq 24, 3) := by decide +kernel
theorem dX6_begin_4 : decode cX6_begin 4 = .ok (.iload_n 1, 1) := by decide +kernel
theorem dX6_begin_5 : decode cX6_begin 5 = .ok (.bipush 8, 2) := by decide +kernel
theorem dX6_begin_7 : decode cX6_begin 7 = .ok (.if_icmp .eq 18, 3) := by decide +kernel
theorem dX6_begin_10 : decode cX6_begin 10 = .ok (.iload_n 1, 1) := by decide +kernel
theorem dX6_begin_11 : decode cX6_begin 11 = .ok (.bipush 16, 2) := by decide +kernel
theorem dX6_begin_13 : decode cX6_begin 13 = .ok (.if_icmp .eq 12, 3) := by decide +kernel
theorem dX6_begin_16 : decode cX6_begin 16 = .ok (.iload_n 1, 1) := by decide +kernel
theorem dX6_begin_17 : decode cX6_begin 17 = .ok (.bipush 32, 2) := by decide +kernel
theorem dX6_begin_19 : decode cX6_begin 19 = .ok (.if_icmp .eq 6, 3) := by decide +kernel
theorem dX6_begin_22 : decode cX6_begin 22 = .ok (.ldc 19, 2) := by decide +kernel
theorem dX6_begin_24 : decode cX6_begin 24 = .ok (.ireturn, 1) := by decide +kernel
theorem dX6_begin_25 : decode cX6_begin 25 = .ok (.iload_n 2, 1) := by decide +kernel
theorem dX6_begin_26 : decode cX6_begin 26 = .ok (.ifCond .ge 6, 3) := by decide +kernel
theorem dX6_begin_29 : decode cX6_begin 29 = .ok (.ldc 20, 2) := by decide +kernel
theorem dX6_begin_31 : decode cX6_begin 31 = .ok (.ireturn, 1) := by decide +kernel
theorem dX6_begin_32 : decode cX6_begin 32 = .ok (.iload_n 2, 1) := by decide +kernel
theorem dX6_begin_33 : decode cX6_begin 33 = .ok (.aload_n 0, 1) := by decide +kernel
theorem dX6_begin_34 : decode cX6_begin 34 = .ok (.getfield 11, 3) := by decide +kernel
theorem dX6_begin_37 : decode cX6_begin 37 = .ok (.arraylength, 1) := by decide +kernel
theorem dX6_begin_38 : decode cX6_begin 38 = .ok (.if_icmp .le 6, 3) := by decide +kernel
theorem dX6_begin_41 : decode cX6_begin 41 = .ok (.ldc 19, 2) := by decide +kernel
theorem dX6_begin_43 : decode cX6_begin 43 = .ok (.ireturn, 1) := by decide +kernel
theorem dX6_begin_44 : decode cX6_begin 44 = .ok (.aload_n 0, 1) := by decide +kernel
theorem dX6_begin_45 : decode cX6_begin 45 = .ok (.iload_n 1, 1) := by decide +kernel
theorem dX6_begin_46 : decode cX6_begin 46 = .ok (.putfield 15, 3) := by decide +kernel
theorem dX6_begin_49 : decode cX6_begin 49 = .ok (.aload_n 0, 1) := by decide +kernel
theorem dX6_begin_50 : decode cX6_begin 50 = .ok (.iload_n 1, 1) := by decide +kernel
theorem dX6_begin_51 : decode cX6_begin 51 = .ok (.ifCond .ne 7, 3) := by decide +kernel
theorem dX6_begin_54 : decode cX6_begin 54 = .ok (.iconst 0, 1) := by decide +kernel
theorem dX6_begin_55 : decode cX6_begin 55 = .ok (.goto 4, 3) := by decide +kernel
theorem dX6_begin_58 : decode cX6_begin 58 = .ok (.iload_n 2, 1) := by decide +kernel
theorem dX6_begin_59 : decode cX6_begin 59 = .ok (.putfield 21, 3) := by decide +kernel
theorem dX6_begin_62 : decode cX6_begin 62 = .ok (.aload_n 0, 1) := by decide +kernel
theorem dX6_begin_63 : decode cX6_begin 63 = .ok (.getfield 11, 3) := by decide +kernel
theorem dX6_begin_66 : decode cX6_begin 66 = .ok (.iconst 0, 1) := by decide +kernel
theorem dX6_begin_67 : decode cX6_begin 67 = .ok (.invokestatic 24, 3) := by decide +kernel
theorem dX6_begin_70 : decode cX6_begin 70 = .ok (.aload_n 0, 1) := by decide +kernel
theorem dX6_begin_71 : decode cX6_begin 71 = .ok (.getfield 21, 3) := by decide +kernel
theorem dX6_begin_74 : decode cX6_begin 74 = .ok (.ireturn, 1) := by decide +kernel
theorem dX6_hasNumbers_0 : decode cX6_hasNumbers 0 = .ok (.iload_n 1, 1) := by decide +kernel
theorem dX6_hasNumbers_1 : decode cX6_hasNumbers 1 = .ok (.ifCond .lt 29, 3) := by decide +kernel
theorem dX6_hasNumbers_4 : decode cX6_hasNumbers 4 = .ok (.iload_n 2, 1) := by decide +kernel
theorem dX6_hasNumbers_5 : decode cX6_hasNumbers 5 = .ok (.ifCond .lt 25, 3) := by decide +kernel
theorem dX6_hasNumbers_8 : decode cX6_hasNumbers 8 = .ok (.iload_n 1, 1) := by decide +kernel
theorem dX6_hasNumbers_9 : decode cX6_hasNumbers 9 = .ok (.aload_n 0, 1) := by decide +kernel
theorem dX6_hasNumbers_10 : decode cX6_hasNumbers 10 = .ok (.getfield 21, 3) := by decide +kernel
theorem dX6_hasNumbers_13 : decode cX6_hasNumbers 13 = .ok (.if_icmp .gt 17, 3) := by decide +kernel
theorem dX6_hasNumbers_16 : decode cX6_hasNumbers 16 = .ok (.iload_n 2, 1) := by decide +kernel
theorem dX6_hasNumbers_17 : decode cX6_hasNumbers 17 = .ok (.aload_n 0, 1) := by decide +kernel
theorem dX6_hasNumbers_18 : decode cX6_hasNumbers 18 = .ok (.getfield 21, 3) := by decide +kernel
theorem dX6_hasNumbers_21 : decode cX6_hasNumbers 21 = .ok (.iload_n 1, 1) := by decide +kernel
theorem dX6_hasNumbers_22 : decode cX6_hasNumbers 22 = .ok (.isub, 1) := by decide +kernel
theorem dX6_hasNumbers_23 : decode cX6_hasNumbers 23 = .ok (.if_icmp .gt 7, 3) := by decide +kernel
theorem dX6_hasNumbers_26 : decode cX6_hasNumbers 26 = .ok (.iconst 1, 1) := by decide +kernel
theorem dX6_hasNumbers_27 : decode cX6_hasNumbers 27 = .ok (.goto 4, 3) := by decide +kernel
theorem dX6_hasNumbers_30 : decode cX6_hasNumbers 30 = .ok (.iconst 0, 1) := by decide +kernel
theorem dX6_hasNumbers_31 : decode cX6_hasNumbers 31 = .ok (.ireturn, 1) := by decide +kernel
theorem dX6_numberAt_0 : decode cX6_numberAt 0 = .ok (.iload_n 1, 1) := by decide +kernel
theorem dX6_numberAt_1 : decode cX6_numberAt 1 = .ok (.ifCond .lt 29, 3) := by decide +kernel
theorem dX6_numberAt_4 : decode cX6_numberAt 4 = .ok (.iload_n 1, 1) := by decide +kernel
theorem dX6_numberAt_5 : decode cX6_numberAt 5 = .ok (.aload_n 0, 1) := by decide +kernel
theorem dX6_numberAt_6 : decode cX6_numberAt 6 = .ok (.getfield 21, 3) := by decide +kernel
theorem dX6_numberAt_9 : decode cX6_numberAt 9 = .ok (.if_icmp .ge 21, 3) := by decide +kernel
theorem dX6_numberAt_12 : decode cX6_numberAt 12 = .ok (.iload_n 1, 1) := by decide +kernel
theorem dX6_numberAt_13 : decode cX6_numberAt 13 = .ok (.aload_n 0, 1) := by decide +kernel
theorem dX6_numberAt_14 : decode cX6_numberAt 14 = .ok (.getfield 11, 3) := by decide +kernel
theorem dX6_numberAt_17 : decode cX6_numberAt 17 = .ok (.arraylength, 1) := by decide +kernel
theorem dX6_numberAt_18 : decode cX6_numberAt 18 = .ok (.if_icmp .ge 12, 3) := by decide +kernel
theorem dX6_numberAt_21 : decode cX6_numberAt 21 = .ok (.aload_n 0, 1) := by decide +kernel
theorem dX6_numberAt_22 : decode cX6_numberAt 22 = .ok (.getfield 11, 3) := by decide +kernel
theorem dX6_numberAt_25 : decode cX6_numberAt 25 = .ok (.iload_n 1, 1) := by decide +kernel
theorem dX6_numberAt_26 : decode cX6_numberAt 26 = .ok (.iaload, 1) := by decide +kernel
theorem dX6_numberAt_27 : decode cX6_numberAt 27 = .ok (.goto 4, 3) := by decide +kernel
theorem dX6_numberAt_30 : decode cX6_numberAt 30 = .ok (.iconst (-1), 1) := by decide +kernel
theorem dX6_numberAt_31 : decode cX6_numberAt 31 = .ok (.ireturn, 1) := by decide +kernel
theorem dX6_replace_0 : decode cX6_replace 0 = .ok (.aload_n 0, 1) := by decide +kernel
theorem dX6_replace_1 : decode cX6_replace 1 = .ok (.iload_n 1, 1) := by decide +kernel
theorem dX6_replace_2 : decode cX6_replace 2 = .ok (.invokevirtual 30, 3) := by decide +kernel
theorem dX6_replace_5 : decode cX6_replace 5 = .ok (.istore_n 3, 1) := by decide +kernel
theorem dX6_replace_6 : decode cX6_replace 6 = .ok (.iload_n 1, 1) := by decide +kernel
theorem dX6_replace_7 : decode cX6_replace 7 = .ok (.ifCond .lt 23, 3) := by decide +kernel
theorem dX6_replace_10 : decode cX6_replace 10 = .ok (.iload_n 1, 1) := by decide +kernel
theorem dX6_replace_11 : decode cX6_replace 11 = .ok (.aload_n 0, 1) := by decide +kernel
theorem dX6_replace_12 : decode cX6_replace 12 = .ok (.getfield 11, 3) := by decide +kernel
theorem dX6_replace_15 : decode cX6_replace 15 = .ok (.arraylength, 1) := by decide +kernel
theorem dX6_replace_16 : decode cX6_replace 16 = .ok (.if_icmp .ge 14, 3) := by decide +kernel
theorem dX6_replace_19 : decode cX6_replace 19 = .ok (.aload_n 0, 1) := by decide +kernel
theorem dX6_replace_20 : decode cX6_replace 20 = .ok (.getfield 11, 3) := by decide +kernel
theorem dX6_replace_23 : decode cX6_replace 23 = .ok (.iload_n 1, 1) := by decide +kernel
theorem dX6_replace_24 : decode cX6_replace 24 = .ok (.aload_n 0, 1) := by decide +kernel
theorem dX6_replace_25 : decode cX6_replace 25 = .ok (.iload_n 2, 1) := by decide +kernel
theorem dX6_replace_26 : decode cX6_replace 26 = .ok (.invokevirtual 34, 3) := by decide +kernel
theorem dX6_replace_29 : decode cX6_replace 29 = .ok (.iastore, 1) := by decide +kernel
theorem dX6_replace_30 : decode cX6_replace 30 = .ok (.iload_n 3, 1) := by decide +kernel
theorem dX6_replace_31 : decode cX6_replace 31 = .ok (.ireturn, 1) := by decide +kernel
theorem dX6_cutToWidth_0 : decode cX6_cutToWidth 0 = .ok (.aload_n 0, 1) := by decide +kernel
theorem dX6_cutToWidth_1 : decode cX6_cutToWidth 1 = .ok (.getfield 15, 3) := by decide +kernel
theorem dX6_cutToWidth_4 : decode cX6_cutToWidth 4 = .ok (.lookupswitch 34 #[(8, 28), (16, 31)], 28) := by decide +kernel
theorem dX6_cutToWidth_32 : decode cX6_cutToWidth 32 = .ok (.iload_n 1, 1) := by decide +kernel
theorem dX6_cutToWidth_33 : decode cX6_cutToWidth 33 = .ok (.i2b, 1) := by decide +kernel
theorem dX6_cutToWidth_34 : decode cX6_cutToWidth 34 = .ok (.ireturn, 1) := by decide +kernel
theorem dX6_cutToWidth_35 : decode cX6_cutToWidth 35 = .ok (.iload_n 1, 1) := by decide +kernel
theorem dX6_cutToWidth_36 : decode cX6_cutToWidth 36 = .ok (.i2s, 1) := by decide +kernel
theorem dX6_cutToWidth_37 : decode cX6_cutToWidth 37 = .ok (.ireturn, 1) := by decide +kernel
theorem dX6_cutToWidth_38 : decode cX6_cutToWidth 38 = .ok (.iload_n 1, 1) := by decide +kernel
theorem dX6_cutToWidth_39 : decode cX6_cutToWidth 39 = .ok (.ireturn, 1) := by decide +kernel
theorem dX7_init_0 : decode cX7_init 0 = .ok (.aload_n 0, 1) := by decide +kernel
theorem dX7_init_1 : decode cX7_init 1 = .ok (.invokespecial 1, 3) := by decide +kernel
theorem dX7_init_4 : decode cX7_init 4 = .ok (.aload_n 0, 1) := by decide +kernel
theorem dX7_init_5 : decode cX7_init 5 = .ok (.new 7, 3) := by decide +kernel
theorem dX7_init_8 : decode cX7_init 8 = .ok (.dup, 1) := by decide +kernel
theorem dX7_init_9 : decode cX7_init 9 = .ok (.invokespecial 9, 3) := by decide +kernel
theorem dX7_init_12 : decode cX7_init 12 = .ok (.putfield 10, 3) := by decide +kernel
theorem dX7_init_15 : decode cX7_init 15 = .ok (.aload_n 0, 1) := by decide +kernel
theorem dX7_init_16 : decode cX7_init 16 = .ok (.new 16, 3) := by decide +kernel
theorem dX7_init_19 : decode cX7_init 19 = .ok (.dup, 1) := by decide +kernel
theorem dX7_init_20 : decode cX7_init 20 = .ok (.invokespecial 18, 3) := by decide +kernel
theorem dX7_init_23 : decode cX7_init 23 = .ok (.putfield 19, 3) := by decide +kernel
theorem dX7_init_26 : decode cX7_init 26 = .ok (.aload_n 0, 1) := by decide +kernel
theorem dX7_init_27 : decode cX7_init 27 = .ok (.new 23, 3) := by decide +kernel
theorem dX7_init_30 : decode cX7_init 30 = .ok (.dup, 1) := by decide +kernel
theorem dX7_init_31 : decode cX7_init 31 = .ok (.invokespecial 25, 3) := by decide +kernel
theorem dX7_init_34 : decode cX7_init 34 = .ok (.putfield 26, 3) := by decide +kernel
theorem dX7_init_37 : decode cX7_init 37 = .ok (.aload_n 0, 1) := by decide +kernel
theorem dX7_init_38 : decode cX7_init 38 = .ok (.new 30, 3) := by decide +kernel
theorem dX7_init_41 : decode cX7_init 41 = .ok (.dup, 1) := by decide +kernel
theorem dX7_init_42 : decode cX7_init 42 = .ok (.invokespecial 32, 3) := by decide +kernel
theorem dX7_init_45 : decode cX7_init 45 = .ok (.putfield 33, 3) := by decide +kernel
theorem dX7_init_48 : decode cX7_init 48 = .ok (.aload_n 0, 1) := by decide +kernel
theorem dX7_init_49 : decode cX7_init 49 = .ok (.iconst 4, 1) := by decide +kernel
theorem dX7_init_50 : decode cX7_init 50 = .ok (.anewarray 37, 3) := by decide +kernel
theorem dX7_init_53 : decode cX7_init 53 = .ok (.putfield 39, 3) := by decide +kernel
theorem dX7_init_56 : decode cX7_init 56 = .ok (.iconst 0, 1) := by decide +kernel
theorem dX7_init_57 : decode cX7_init 57 = .ok (.istore_n 1, 1) := by decide +kernel
theorem dX7_init_58 : decode cX7_init 58 = .ok (.iload_n 1, 1) := by decide +kernel
theorem dX7_init_59 : decode cX7_init 59 = .ok (.aload_n 0, 1) := by decide +kernel
theorem dX7_init_60 : decode cX7_init 60 = .ok (.getfield 39, 3) := by decide +kernel
theorem dX7_init_63 : decode cX7_init 63 = .ok (.arraylength, 1) := by decide +kernel
theorem dX7_init_64 : decode cX7_init 64 = .ok (.if_icmp .ge 22, 3) := by decide +kernel
theorem dX7_init_67 : decode cX7_init 67 = .ok (.aload_n 0, 1) := by decide +kernel
theorem dX7_init_68 : decode cX7_init 68 = .ok (.getfield 39, 3) := by decide +kernel
theorem dX7_init_71 : decode cX7_init 71 = .ok (.iload_n 1, 1) := by decide +kernel
theorem dX7_init_72 : decode cX7_init 72 = .ok (.new 37, 3) := by decide +kernel
theorem dX7_init_75 : decode cX7_init 75 = .ok (.dup, 1) := by decide +kernel
theorem dX7_init_76 : decode cX7_init 76 = .ok (.invokespecial 43, 3) := by decide +kernel
theorem dX7_init_79 : decode cX7_init 79 = .ok (.aastore, 1) := by decide +kernel
theorem dX7_init_80 : decode cX7_init 80 = .ok (.iinc 1 1, 3) := by decide +kernel
theorem dX7_init_83 : decode cX7_init 83 = .ok (.goto (-25), 3) := by decide +kernel
theorem dX7_init_86 : decode cX7_init 86 = .ok (.return_, 1) := by decide +kernel
theorem dX7_berth_0 : decode cX7_berth 0 = .ok (.aload_n 0, 1) := by decide +kernel
theorem dX7_berth_1 : decode cX7_berth 1 = .ok (.aload_n 0, 1) := by decide +kernel
theorem dX7_berth_2 : decode cX7_berth 2 = .ok (.getfield 10, 3) := by decide +kernel
theorem dX7_berth_5 : decode cX7_berth 5 = .ok (.iload_n 1, 1) := by decide +kernel
theorem dX7_berth_6 : decode cX7_berth 6 = .ok (.iload_n 2, 1) := by decide +kernel
theorem dX7_berth_7 : decode cX7_berth 7 = .ok (.iload_n 3, 1) := by decide +kernel
theorem dX7_berth_8 : decode cX7_berth 8 = .ok (.iload 4, 2) := by decide +kernel
theorem dX7_berth_10 : decode cX7_berth 10 = .ok (.invokevirtual 44, 3) := by decide +kernel
theorem dX7_berth_13 : decode cX7_berth 13 = .ok (.invokevirtual 48, 3) := by decide +kernel
theorem dX7_berth_16 : decode cX7_berth 16 = .ok (.ireturn, 1) := by decide +kernel
theorem dX7_boat_0 : decode cX7_boat 0 = .ok (.aload_n 0, 1) := by decide +kernel
theorem dX7_boat_1 : decode cX7_boat 1 = .ok (.aload_n 0, 1) := by decide +kernel
theorem dX7_boat_2 : decode cX7_boat 2 = .ok (.getfield 10, 3) := by decide +kernel
theorem dX7_boat_5 : decode cX7_boat 5 = .ok (.iload_n 1, 1) := by decide +kernel
theorem dX7_boat_6 : decode cX7_boat 6 = .ok (.iload_n 2, 1) := by decide +kernel
theorem dX7_boat_7 : decode cX7_boat 7 = .ok (.iload_n 3, 1) := by decide +kernel
theorem dX7_boat_8 : decode cX7_boat 8 = .ok (.iload 4, 2) := by decide +kernel
theorem dX7_boat_10 : decode cX7_boat 10 = .ok (.invokevirtual 52, 3) := by decide +kernel
theorem dX7_boat_13 : decode cX7_boat 13 = .ok (.invokevirtual 48, 3) := by decide +kernel
theorem dX7_boat_16 : decode cX7_boat 16 = .ok (.ireturn, 1) := by decide +kernel
theorem dX7_leaves_0 : decode cX7_leaves 0 = .ok (.aload_n 0, 1) := by decide +kernel
theorem dX7_leaves_1 : decode cX7_leaves 1 = .ok (.getfield 10, 3) := by decide +kernel
theorem dX7_leaves_4 : decode cX7_leaves 4 = .ok (.iload_n 1, 1) := by decide +kernel
theorem dX7_leaves_5 : decode cX7_leaves 5 = .ok (.invokevirtual 56, 3) := by decide +kernel
theorem dX7_leaves_8 : decode cX7_leaves 8 = .ok (.astore 4, 2) := by decide +kernel
theorem dX7_leaves_10 : decode cX7_leaves 10 = .ok (.aload 4, 2) := by decide +kernel
theorem dX7_leaves_12 : decode cX7_leaves 12 = .ok (.ifnull 18, 3) := by decide +kernel
theorem dX7_leaves_15 : decode cX7_leaves 15 = .ok (.iload_n 2, 1) := by decide +kernel
theorem dX7_leaves_16 : decode cX7_leaves 16 = .ok (.ifCond .lt 14, 3) := by decide +kernel
theorem dX7_leaves_19 : decode cX7_leaves 19 = .ok (.iload_n 3, 1) := by decide +kernel
theorem dX7_leaves_20 : decode cX7_leaves 20 = .ok (.bipush 23, 2) := by decide +kernel
theorem dX7_leaves_22 : decode cX7_leaves 22 = .ok (.if_icmp .gt 8, 3) := by decide +kernel
theorem dX7_leaves_25 : decode cX7_leaves 25 = .ok (.iload_n 2, 1) := by decide +kernel
theorem dX7_leaves_26 : decode cX7_leaves 26 = .ok (.iload_n 3, 1) := by decide +kernel
theorem dX7_leaves_27 : decode cX7_leaves 27 = .ok (.if_icmp .le 10, 3) := by decide +kernel
theorem dX7_leaves_30 : decode cX7_leaves 30 = .ok (.aload_n 0, 1) := by decide +kernel
theorem dX7_leaves_31 : decode cX7_leaves 31 = .ok (.ldc 60, 2) := by decide +kernel
theorem dX7_leaves_33 : decode cX7_leaves 33 = .ok (.invokevirtual 48, 3) := by decide +kernel
theorem dX7_leaves_36 : decode cX7_leaves 36 = .ok (.ireturn, 1) := by decide +kernel
theorem dX7_leaves_37 : decode cX7_leaves 37 = .ok (.aload 4, 2) := by decide +kernel
theorem dX7_leaves_39 : decode cX7_leaves 39 = .ok (.iload_n 2, 1) := by decide +kernel
theorem dX7_leaves_40 : decode cX7_leaves 40 = .ok (.putfield 61, 3) := by decide +kernel
theorem dX7_leaves_43 : decode cX7_leaves 43 = .ok (.aload 4, 2) := by decide +kernel
theorem dX7_leaves_45 : decode cX7_leaves 45 = .ok (.iload_n 3, 1) := by decide +kernel
theorem dX7_leaves_46 : decode cX7_leaves 46 = .ok (.putfield 67, 3) := by decide +kernel
theorem dX7_leaves_49 : decode cX7_leaves 49 = .ok (.iconst 1, 1) := by decide +kernel
theorem dX7_leaves_50 : decode cX7_leaves 50 = .ok (.ireturn, 1) := by decide +kernel
theorem dX7_aboard_0 : decode cX7_aboard 0 = .ok (.aload_n 0, 1) := by decide +kernel
theorem dX7_aboard_1 : decode cX7_aboard 1 = .ok (.getfield 10, 3) := by decide +kernel
theorem dX7_aboard_4 : decode cX7_aboard 4 = .ok (.iload_n 1, 1) := by decide +kernel
theorem dX7_aboard_5 : decode cX7_aboard 5 = .ok (.invokevirtual 56, 3) := by decide +kernel
theorem dX7_aboard_8 : decode cX7_aboard 8 = .ok (.astore_n 3, 1) := by decide +kernel
theorem dX7_aboard_9 : decode cX7_aboard 9 = .ok (.aload_n 3, 1) := by decide +kernel
theorem dX7_aboard_10 : decode cX7_aboard 10 = .ok (.ifnull 10, 3) := by decide +kernel
theorem dX7_aboard_13 : decode cX7_aboard 13 = .ok (.iload_n 2, 1) := by decide +kernel
theorem dX7_aboard_14 : decode cX7_aboard 14 = .ok (.invokestatic 70, 3) := by decide +kernel
theorem dX7_aboard_17 : decode cX7_aboard 17 = .ok (.ifCond .ne 10, 3) := by decide +kernel
theorem dX7_aboard_20 : decode cX7_aboard 20 = .ok (.aload_n 0, 1) := by decide +kernel
theorem dX7_aboard_21 : decode cX7_aboard 21 = .ok (.ldc 60, 2) := by decide +kernel
theorem dX7_aboard_23 : decode cX7_aboard 23 = .ok (.invokevirtual 48, 3) := by decide +kernel
theorem dX7_aboard_26 : decode cX7_aboard 26 = .ok (.ireturn, 1) := by decide +kernel
theorem dX7_aboard_27 : decode cX7_aboard 27 = .ok (.aload_n 3, 1) := by decide +kernel
theorem dX7_aboard_28 : decode cX7_aboard 28 = .ok (.getfield 74, 3) := by decide +kernel
theorem dX7_aboard_31 : decode cX7_aboard 31 = .ok (.istore 4, 2) := by decide +kernel
theorem dX7_aboard_33 : decode cX7_aboard 33 = .ok (.aload_n 3, 1) := by decide +kernel
theorem dX7_aboard_34 : decode cX7_aboard 34 = .ok (.iload_n 2, 1) := by decide +kernel
theorem dX7_aboard_35 : decode cX7_aboard 35 = .ok (.putfield 74, 3) := by decide +kernel
theorem dX7_aboard_38 : decode cX7_aboard 38 = .ok (.iload 4, 2) := by decide +kernel
theorem dX7_aboard_40 : decode cX7_aboard 40 = .ok (.ireturn, 1) := by decide +kernel
theorem dX7_over_0 : decode cX7_over 0 = .ok (.iload_n 1, 1) := by decide +kernel
theorem dX7_over_1 : decode cX7_over 1 = .ok (.iconst 0, 1) := by decide +kernel
theorem dX7_over_2 : decode cX7_over 2 = .ok (.bipush 20, 2) := by decide +kernel
theorem dX7_over_4 : decode cX7_over 4 = .ok (.invokestatic 77, 3) := by decide +kernel
theorem dX7_over_7 : decode cX7_over 7 = .ok (.ifCond .ne 10, 3) := by decide +kernel
theorem dX7_over_10 : decode cX7_over 10 = .ok (.aload_n 0, 1) := by decide +kernel
theorem dX7_over_11 : decode cX7_over 11 = .ok (.ldc 60, 2) := by decide +kernel
theorem dX7_over_13 : decode cX7_over 13 = .ok (.invokevirtual 48, 3) := by decide +kernel
theorem dX7_over_16 : decode cX7_over 16 = .ok (.ireturn, 1) := by decide +kernel
theorem dX7_over_17 : decode cX7_over 17 = .ok (.aload_n 0, 1) := by decide +kernel
theorem dX7_over_18 : decode cX7_over 18 = .ok (.getfield 10, 3) := by decide +kernel
theorem dX7_over_21 : decode cX7_over 21 = .ok (.getfield 81, 3) := by decide +kernel
theorem dX7_over_24 : decode cX7_over 24 = .ok (.istore_n 2, 1) := by decide +kernel
theorem dX7_over_25 : decode cX7_over 25 = .ok (.aload_n 0, 1) := by decide +kernel
theorem dX7_over_26 : decode cX7_over 26 = .ok (.getfield 10, 3) := by decide +kernel
theorem dX7_over_29 : decode cX7_over 29 = .ok (.iload_n 1, 1) := by decide +kernel
theorem dX7_over_30 : decode cX7_over 30 = .ok (.putfield 81, 3) := by decide +kernel
theorem dX7_over_33 : decode cX7_over 33 = .ok (.iload_n 2, 1) := by decide +kernel
theorem dX7_over_34 : decode cX7_over 34 = .ok (.ireturn, 1) := by decide +kernel
theorem dX7_as_0 : decode cX7_as 0 = .ok (.aload_n 0, 1) := by decide +kernel
theorem dX7_as_1 : decode cX7_as 1 = .ok (.getfield 10, 3) := by decide +kernel
theorem dX7_as_4 : decode cX7_as 4 = .ok (.iload_n 1, 1) := by decide +kernel
theorem dX7_as_5 : decode cX7_as 5 = .ok (.invokevirtual 56, 3) := by decide +kernel
theorem dX7_as_8 : decode cX7_as 8 = .ok (.astore_n 3, 1) := by decide +kernel
theorem dX7_as_9 : decode cX7_as 9 = .ok (.aload_n 3, 1) := by decide +kernel
theorem dX7_as_10 : decode cX7_as 10 = .ok (.ifnull 12, 3) := by decide +kernel
theorem dX7_as_13 : decode cX7_as 13 = .ok (.iload_n 2, 1) := by decide +kernel
theorem dX7_as_14 : decode cX7_as 14 = .ok (.iconst 0, 1) := by decide +kernel
theorem dX7_as_15 : decode cX7_as 15 = .ok (.iconst 3, 1) := by decide +kernel
theorem dX7_as_16 : decode cX7_as 16 = .ok (.invokestatic 77, 3) := by decide +kernel
theorem dX7_as_19 : decode cX7_as 19 = .ok (.ifCond .ne 10, 3) := by decide +kernel
theorem dX7_as_22 : decode cX7_as 22 = .ok (.aload_n 0, 1) := by decide +kernel
theorem dX7_as_23 : decode cX7_as 23 = .ok (.ldc 60, 2) := by decide +kernel
theorem dX7_as_25 : decode cX7_as 25 = .ok (.invokevirtual 48, 3) := by decide +kernel
theorem dX7_as_28 : decode cX7_as 28 = .ok (.ireturn, 1) := by decide +kernel
theorem dX7_as_29 : decode cX7_as 29 = .ok (.aload_n 3, 1) := by decide +kernel
theorem dX7_as_30 : decode cX7_as 30 = .ok (.iload_n 2, 1) := by decide +kernel
theorem dX7_as_31 : decode cX7_as 31 = .ok (.invokevirtual 84, 3) := by decide +kernel
theorem dX7_as_34 : decode cX7_as 34 = .ok (.ifCond .eq 10, 3) := by decide +kernel
theorem dX7_as_37 : decode cX7_as 37 = .ok (.aload_n 3, 1) := by decide +kernel
theorem dX7_as_38 : decode cX7_as 38 = .ok (.getfield 87, 3) := by decide +kernel
theorem dX7_as_41 : decode cX7_as 41 = .ok (.goto 9, 3) := by decide +kernel
theorem dX7_as_44 : decode cX7_as 44 = .ok (.aload_n 0, 1) := by decide +kernel
theorem dX7_as_45 : decode cX7_as 45 = .ok (.ldc 90, 2) := by decide +kernel
theorem dX7_as_47 : decode cX7_as 47 = .ok (.invokevirtual 48, 3) := by decide +kernel
theorem dX7_as_50 : decode cX7_as 50 = .ok (.ireturn, 1) := by decide +kernel
theorem dX7_of_0 : decode cX7_of 0 = .ok (.aload_n 0, 1) := by decide +kernel
theorem dX7_of_1 : decode cX7_of 1 = .ok (.getfield 10, 3) := by decide +kernel
theorem dX7_of_4 : decode cX7_of 4 = .ok (.iload_n 1, 1) := by decide +kernel
theorem dX7_of_5 : decode cX7_of 5 = .ok (.invokevirtual 56, 3) := by decide +kernel
theorem dX7_of_8 : decode cX7_of 8 = .ok (.astore_n 3, 1) := by decide +kernel
theorem dX7_of_9 : decode cX7_of 9 = .ok (.aload_n 0, 1) := by decide +kernel
theorem dX7_of_10 : decode cX7_of 10 = .ok (.aload_n 3, 1) := by decide +kernel
theorem dX7_of_11 : decode cX7_of 11 = .ok (.ifnonnull 8, 3) := by decide +kernel
theorem dX7_of_14 : decode cX7_of 14 = .ok (.ldc 60, 2) := by decide +kernel
theorem dX7_of_16 : decode cX7_of 16 = .ok (.goto 8, 3) := by decide +kernel
theorem dX7_of_19 : decode cX7_of 19 = .ok (.aload_n 3, 1) := by decide +kernel
theorem dX7_of_20 : decode cX7_of 20 = .ok (.iload_n 2, 1) := by decide +kernel
theorem dX7_of_21 : decode cX7_of 21 = .ok (.invokevirtual 91, 3) := by decide +kernel
theorem dX7_of_24 : decode cX7_of 24 = .ok (.invokevirtual 48, 3) := by decide +kernel
theorem dX7_of_27 : decode cX7_of 27 = .ok (.ireturn, 1) := by decide +kernel
theorem dX7_at_0 : decode cX7_at 0 = .ok (.aload_n 0, 1) := by decide +kernel
theorem dX7_at_1 : decode cX7_at 1 = .ok (.getfield 10, 3) := by decide +kernel
theorem dX7_at_4 : decode cX7_at 4 = .ok (.iload_n 1, 1) := by decide +kernel
theorem dX7_at_5 : decode cX7_at 5 = .ok (.invokevirtual 94, 3) := by decide +kernel
theorem dX7_at_8 : decode cX7_at 8 = .ok (.ifnull 12, 3) := by decide +kernel
theorem dX7_at_11 : decode cX7_at 11 = .ok (.iload_n 2, 1) := by decide +kernel
theorem dX7_at_12 : decode cX7_at 12 = .ok (.iconst 0, 1) := by decide +kernel
theorem dX7_at_13 : decode cX7_at 13 = .ok (.iconst 5, 1) := by decide +kernel
theorem dX7_at_14 : decode cX7_at 14 = .ok (.invokestatic 77, 3) := by decide +kernel
theorem dX7_at_17 : decode cX7_at 17 = .ok (.ifCond .ne 10, 3) := by decide +kernel
theorem dX7_at_20 : decode cX7_at 20 = .ok (.aload_n 0, 1) := by decide +kernel
theorem dX7_at_21 : decode cX7_at 21 = .ok (.ldc 60, 2) := by decide +kernel
theorem dX7_at_23 : decode cX7_at 23 = .ok (.invokevirtual 48, 3) := by decide +kernel
theorem dX7_at_26 : decode cX7_at 26 = .ok (.ireturn, 1) := by decide +kernel
theorem dX7_at_27 : decode cX7_at 27 = .ok (.aload_n 0, 1) := by decide +kernel
theorem dX7_at_28 : decode cX7_at 28 = .ok (.getfield 10, 3) := by decide +kernel
theorem dX7_at_31 : decode cX7_at 31 = .ok (.iload_n 1, 1) := by decide +kernel
theorem dX7_at_32 : decode cX7_at 32 = .ok (.iload_n 2, 1) := by decide +kernel
theorem dX7_at_33 : decode cX7_at 33 = .ok (.invokevirtual 98, 3) := by decide +kernel
theorem dX7_at_36 : decode cX7_at 36 = .ok (.astore_n 3, 1) := by decide +kernel
theorem dX7_at_37 : decode cX7_at 37 = .ok (.aload_n 3, 1) := by decide +kernel
theorem dX7_at_38 : decode cX7_at 38 = .ok (.ifnonnull 7, 3) := by decide +kernel
theorem dX7_at_41 : decode cX7_at 41 = .ok (.iconst (-1), 1) := by decide +kernel
theorem dX7_at_42 : decode cX7_at 42 = .ok (.goto 7, 3) := by decide +kernel
theorem dX7_at_45 : decode cX7_at 45 = .ok (.aload_n 3, 1) := by decide +kernel
theorem dX7_at_46 : decode cX7_at 46 = .ok (.getfield 87, 3) := by decide +kernel
theorem dX7_at_49 : decode cX7_at 49 = .ok (.ireturn, 1) := by decide +kernel
theorem dX7_may_0 : decode cX7_may 0 = .ok (.aload_n 0, 1) := by decide +kernel
theorem dX7_may_1 : decode cX7_may 1 = .ok (.aload_n 0, 1) := by decide +kernel
theorem dX7_may_2 : decode cX7_may 2 = .ok (.getfield 10, 3) := by decide +kernel
theorem dX7_may_5 : decode cX7_may 5 = .ok (.iload_n 1, 1) := by decide +kernel
theorem dX7_may_6 : decode cX7_may 6 = .ok (.iload_n 2, 1) := by decide +kernel
theorem dX7_may_7 : decode cX7_may 7 = .ok (.invokevirtual 102, 3) := by decide +kernel
theorem dX7_may_10 : decode cX7_may 10 = .ok (.invokevirtual 48, 3) := by decide +kernel
theorem dX7_may_13 : decode cX7_may 13 = .ok (.ireturn, 1) := by decide +kernel
theorem dX7_comes_0 : decode cX7_comes 0 = .ok (.aload_n 0, 1) := by decide +kernel
theorem dX7_comes_1 : decode cX7_comes 1 = .ok (.aload_n 0, 1) := by decide +kernel
theorem dX7_comes_2 : decode cX7_comes 2 = .ok (.getfield 10, 3) := by decide +kernel
theorem dX7_comes_5 : decode cX7_comes 5 = .ok (.iload_n 1, 1) := by decide +kernel
theorem dX7_comes_6 : decode cX7_comes 6 = .ok (.iload_n 2, 1) := by decide +kernel
theorem dX7_comes_7 : decode cX7_comes 7 = .ok (.invokevirtual 106, 3) := by decide +kernel
theorem dX7_comes_10 : decode cX7_comes 10 = .ok (.invokevirtual 48, 3) := by decide +kernel
theorem dX7_comes_13 : decode cX7_comes 13 = .ok (.ireturn, 1) := by decide +kernel
theorem dX7_between_0 : decode cX7_between 0 = .ok (.aload_n 0, 1) := by decide +kernel
theorem dX7_between_1 : decode cX7_between 1 = .ok (.aload_n 0, 1) := by decide +kernel
theorem dX7_between_2 : decode cX7_between 2 = .ok (.getfield 10, 3) := by decide +kernel
theorem dX7_between_5 : decode cX7_between 5 = .ok (.iload_n 1, 1) := by decide +kernel
theorem dX7_between_6 : decode cX7_between 6 = .ok (.iload_n 2, 1) := by decide +kernel
theorem dX7_between_7 : decode cX7_between 7 = .ok (.iload_n 3, 1) := by decide +kernel
theorem dX7_between_8 : decode cX7_between 8 = .ok (.invokevirtual 109, 3) := by decide +kernel
theorem dX7_between_11 : decode cX7_between 11 = .ok (.invokevirtual 48, 3) := by decide +kernel
theorem dX7_between_14 : decode cX7_between 14 = .ok (.ireturn, 1) := by decide +kernel
theorem dX7_goes_0 : decode cX7_goes 0 = .ok (.aload_n 0, 1) := by decide +kernel
theorem dX7_goes_1 : decode cX7_goes 1 = .ok (.getfield 10, 3) := by decide +kernel
theorem dX7_goes_4 : decode cX7_goes 4 = .ok (.iload_n 1, 1) := by decide +kernel
theorem dX7_goes_5 : decode cX7_goes 5 = .ok (.invokevirtual 56, 3) := by decide +kernel
theorem dX7_goes_8 : decode cX7_goes 8 = .ok (.astore_n 2, 1) := by decide +kernel
theorem dX7_goes_9 : decode cX7_goes 9 = .ok (.aload_n 2, 1) := by decide +kernel
theorem dX7_goes_10 : decode cX7_goes 10 = .ok (.ifnonnull 10, 3) := by decide +kernel
theorem dX7_goes_13 : decode cX7_goes 13 = .ok (.aload_n 0, 1) := by decide +kernel
theorem dX7_goes_14 : decode cX7_goes 14 = .ok (.ldc 60, 2) := by decide +kernel
theorem dX7_goes_16 : decode cX7_goes 16 = .ok (.invokevirtual 48, 3) := by decide +kernel
theorem dX7_goes_19 : decode cX7_goes 19 = .ok (.ireturn, 1) := by decide +kernel
theorem dX7_goes_20 : decode cX7_goes 20 = .ok (.aload_n 2, 1) := by decide +kernel
theorem dX7_goes_21 : decode cX7_goes 21 = .ok (.invokevirtual 113, 3) := by decide +kernel
theorem dX7_goes_24 : decode cX7_goes 24 = .ok (.ifCond .eq 14, 3) := by decide +kernel
theorem dX7_goes_27 : decode cX7_goes 27 = .ok (.aload_n 0, 1) := by decide +kernel
theorem dX7_goes_28 : decode cX7_goes 28 = .ok (.getfield 10, 3) := by decide +kernel
theorem dX7_goes_31 : decode cX7_goes 31 = .ok (.aload_n 2, 1) := by decide +kernel
theorem dX7_goes_32 : decode cX7_goes 32 = .ok (.invokevirtual 117, 3) := by decide +kernel
theorem dX7_goes_35 : decode cX7_goes 35 = .ok (.goto 9, 3) := by decide +kernel
theorem dX7_goes_38 : decode cX7_goes 38 = .ok (.aload_n 0, 1) := by decide +kernel
theorem dX7_goes_39 : decode cX7_goes 39 = .ok (.ldc 121, 2) := by decide +kernel
theorem dX7_goes_41 : decode cX7_goes 41 = .ok (.invokevirtual 48, 3) := by decide +kernel
theorem dX7_goes_44 : decode cX7_goes 44 = .ok (.ireturn, 1) := by decide +kernel
theorem dX7_fault_0 : decode cX7_fault 0 = .ok (.aload_n 0, 1) := by decide +kernel
theorem dX7_fault_1 : decode cX7_fault 1 = .ok (.aload_n 0, 1) := by decide +kernel
theorem dX7_fault_2 : decode cX7_fault 2 = .ok (.getfield 10, 3) := by decide +kernel
theorem dX7_fault_5 : decode cX7_fault 5 = .ok (.iload_n 1, 1) := by decide +kernel
theorem dX7_fault_6 : decode cX7_fault 6 = .ok (.invokevirtual 122, 3) := by decide +kernel
theorem dX7_fault_9 : decode cX7_fault 9 = .ok (.invokevirtual 48, 3) := by decide +kernel
theorem dX7_fault_12 : decode cX7_fault 12 = .ok (.ireturn, 1) := by decide +kernel
theorem dX7_pairs_0 : decode cX7_pairs 0 = .ok (.aload_n 0, 1) := by decide +kernel
theorem dX7_pairs_1 : decode cX7_pairs 1 = .ok (.aload_n 0, 1) := by decide +kernel
theorem dX7_pairs_2 : decode cX7_pairs 2 = .ok (.getfield 10, 3) := by decide +kernel
theorem dX7_pairs_5 : decode cX7_pairs 5 = .ok (.iload_n 1, 1) := by decide +kernel
theorem dX7_pairs_6 : decode cX7_pairs 6 = .ok (.iload_n 2, 1) := by decide +kernel
theorem dX7_pairs_7 : decode cX7_pairs 7 = .ok (.invokevirtual 125, 3) := by decide +kernel
theorem dX7_pairs_10 : decode cX7_pairs 10 = .ok (.invokevirtual 48, 3) := by decide +kernel
theorem dX7_pairs_13 : decode cX7_pairs 13 = .ok (.ireturn, 1) := by decide +kernel
theorem dX7_offer_0 : decode cX7_offer 0 = .ok (.aload_n 0, 1) := by decide +kernel
theorem dX7_offer_1 : decode cX7_offer 1 = .ok (.aload_n 0, 1) := by decide +kernel
theorem dX7_offer_2 : decode cX7_offer 2 = .ok (.getfield 10, 3) := by decide +kernel
theorem dX7_offer_5 : decode cX7_offer 5 = .ok (.iload_n 1, 1) := by decide +kernel
theorem dX7_offer_6 : decode cX7_offer 6 = .ok (.invokevirtual 129, 3) := by decide +kernel
theorem dX7_offer_9 : decode cX7_offer 9 = .ok (.invokevirtual 48, 3) := by decide +kernel
theorem dX7_offer_12 : decode cX7_offer 12 = .ok (.ireturn, 1) := by decide +kernel
theorem dX7_plan_0 : decode cX7_plan 0 = .ok (.aload_n 0, 1) := by decide +kernel
theorem dX7_plan_1 : decode cX7_plan 1 = .ok (.getfield 26, 3) := by decide +kernel
theorem dX7_plan_4 : decode cX7_plan 4 = .ok (.aload_n 0, 1) := by decide +kernel
theorem dX7_plan_5 : decode cX7_plan 5 = .ok (.getfield 10, 3) := by decide +kernel
theorem dX7_plan_8 : decode cX7_plan 8 = .ok (.iload_n 1, 1) := by decide +kernel
theorem dX7_plan_9 : decode cX7_plan 9 = .ok (.invokevirtual 132, 3) := by decide +kernel
theorem dX7_plan_12 : decode cX7_plan 12 = .ok (.istore_n 2, 1) := by decide +kernel
theorem dX7_plan_13 : decode cX7_plan 13 = .ok (.aload_n 0, 1) := by decide +kernel
theorem dX7_plan_14 : decode cX7_plan 14 = .ok (.iload_n 2, 1) := by decide +kernel
theorem dX7_plan_15 : decode cX7_plan 15 = .ok (.ifCond .eq 7, 3) := by decide +kernel
theorem dX7_plan_18 : decode cX7_plan 18 = .ok (.iload_n 2, 1) := by decide +kernel
theorem dX7_plan_19 : decode cX7_plan 19 = .ok (.goto 15, 3) := by decide +kernel
theorem dX7_plan_22 : decode cX7_plan 22 = .ok (.aload_n 0, 1) := by decide +kernel
theorem dX7_plan_23 : decode cX7_plan 23 = .ok (.getfield 26, 3) := by decide +kernel
theorem dX7_plan_26 : decode cX7_plan 26 = .ok (.aload_n 0, 1) := by decide +kernel
theorem dX7_plan_27 : decode cX7_plan 27 = .ok (.getfield 10, 3) := by decide +kernel
theorem dX7_plan_30 : decode cX7_plan 30 = .ok (.iload_n 1, 1) := by decide +kernel
theorem dX7_plan_31 : decode cX7_plan 31 = .ok (.invokevirtual 136, 3) := by decide +kernel
theorem dX7_plan_34 : decode cX7_plan 34 = .ok (.invokevirtual 48, 3) := by decide +kernel
theorem dX7_plan_37 : decode cX7_plan 37 = .ok (.ireturn, 1) := by decide +kernel
theorem dX7_lies_0 : decode cX7_lies 0 = .ok (.aload_n 0, 1) := by decide +kernel
theorem dX7_lies_1 : decode cX7_lies 1 = .ok (.getfield 26, 3) := by decide +kernel
theorem dX7_lies_4 : decode cX7_lies 4 = .ok (.aload_n 0, 1) := by decide +kernel
theorem dX7_lies_5 : decode cX7_lies 5 = .ok (.getfield 10, 3) := by decide +kernel
theorem dX7_lies_8 : decode cX7_lies 8 = .ok (.iload_n 1, 1) := by decide +kernel
theorem dX7_lies_9 : decode cX7_lies 9 = .ok (.invokevirtual 132, 3) := by decide +kernel
theorem dX7_lies_12 : decode cX7_lies 12 = .ok (.istore 4, 2) := by decide +kernel
theorem dX7_lies_14 : decode cX7_lies 14 = .ok (.iload 4, 2) := by decide +kernel
theorem dX7_lies_16 : decode cX7_lies 16 = .ok (.ifCond .eq 10, 3) := by decide +kernel
theorem dX7_lies_19 : decode cX7_lies 19 = .ok (.aload_n 0, 1) := by decide +kernel
theorem dX7_lies_20 : decode cX7_lies 20 = .ok (.iload 4, 2) := by decide +kernel
theorem dX7_lies_22 : decode cX7_lies 22 = .ok (.invokevirtual 48, 3) := by decide +kernel
theorem dX7_lies_25 : decode cX7_lies 25 = .ok (.ireturn, 1) := by decide +kernel
theorem dX7_lies_26 : decode cX7_lies 26 = .ok (.iload_n 1, 1) := by decide +kernel
theorem dX7_lies_27 : decode cX7_lies 27 = .ok (.iload_n 2, 1) := by decide +kernel
theorem dX7_lies_28 : decode cX7_lies 28 = .ok (.invokestatic 139, 3) := by decide +kernel
theorem dX7_lies_31 : decode cX7_lies 31 = .ok (.ifCond .ne 10, 3) := by decide +kernel
theorem dX7_lies_34 : decode cX7_lies 34 = .ok (.aload_n 0, 1) := by decide +kernel
theorem dX7_lies_35 : decode cX7_lies 35 = .ok (.ldc 90, 2) := by decide +kernel
theorem dX7_lies_37 : decode cX7_lies 37 = .ok (.invokevirtual 48, 3) := by decide +kernel
theorem dX7_lies_40 : decode cX7_lies 40 = .ok (.ireturn, 1) := by decide +kernel
theorem dX7_lies_41 : decode cX7_lies 41 = .ok (.aload_n 0, 1) := by decide +kernel
theorem dX7_lies_42 : decode cX7_lies 42 = .ok (.getfield 26, 3) := by decide +kernel
theorem dX7_lies_45 : decode cX7_lies 45 = .ok (.aload_n 0, 1) := by decide +kernel
theorem dX7_lies_46 : decode cX7_lies 46 = .ok (.getfield 10, 3) := by decide +kernel
theorem dX7_lies_49 : decode cX7_lies 49 = .ok (.iload_n 1, 1) := by decide +kernel
theorem dX7_lies_50 : decode cX7_lies 50 = .ok (.invokevirtual 136, 3) := by decide +kernel
theorem dX7_lies_53 : decode cX7_lies 53 = .ok (.ldc 143, 2) := by decide +kernel
theorem dX7_lies_55 : decode cX7_lies 55 = .ok (.if_icmp .ne 10, 3) := by decide +kernel
theorem dX7_lies_58 : decode cX7_lies 58 = .ok (.aload_n 0, 1) := by decide +kernel
theorem dX7_lies_59 : decode cX7_lies 59 = .ok (.ldc 143, 2) := by decide +kernel
theorem dX7_lies_61 : decode cX7_lies 61 = .ok (.invokevirtual 48, 3) := by decide +kernel
theorem dX7_lies_64 : decode cX7_lies 64 = .ok (.ireturn, 1) := by decide +kernel
theorem dX7_lies_65 : decode cX7_lies 65 = .ok (.iload_n 3, 1) := by decide +kernel
theorem dX7_lies_66 : decode cX7_lies 66 = .ok (.ifCond .eq 15, 3) := by decide +kernel
theorem dX7_lies_69 : decode cX7_lies 69 = .ok (.aload_n 0, 1) := by decide +kernel
theorem dX7_lies_70 : decode cX7_lies 70 = .ok (.getfield 26, 3) := by decide +kernel
theorem dX7_lies_73 : decode cX7_lies 73 = .ok (.iload_n 1, 1) := by decide +kernel
theorem dX7_lies_74 : decode cX7_lies 74 = .ok (.iload_n 2, 1) := by decide +kernel
theorem dX7_lies_75 : decode cX7_lies 75 = .ok (.invokevirtual 144, 3) := by decide +kernel
theorem dX7_lies_78 : decode cX7_lies 78 = .ok (.goto 12, 3) := by decide +kernel
theorem dX7_lies_81 : decode cX7_lies 81 = .ok (.aload_n 0, 1) := by decide +kernel
theorem dX7_lies_82 : decode cX7_lies 82 = .ok (.getfield 26, 3) := by decide +kernel
theorem dX7_lies_85 : decode cX7_lies 85 = .ok (.iload_n 1, 1) := by decide +kernel
theorem dX7_lies_86 : decode cX7_lies 86 = .ok (.iload_n 2, 1) := by decide +kernel
theorem dX7_lies_87 : decode cX7_lies 87 = .ok (.invokevirtual 147, 3) := by decide +kernel
theorem dX7_lies_90 : decode cX7_lies 90 = .ok (.ireturn, 1) := by decide +kernel
theorem dX7_lay_0 : decode cX7_lay 0 = .ok (.aload_n 0, 1) := by decide +kernel
theorem dX7_lay_1 : decode cX7_lay 1 = .ok (.getfield 26, 3) := by decide +kernel
theorem dX7_lay_4 : decode cX7_lay 4 = .ok (.aload_n 0, 1) := by decide +kernel
theorem dX7_lay_5 : decode cX7_lay 5 = .ok (.getfield 10, 3) := by decide +kernel
theorem dX7_lay_8 : decode cX7_lay 8 = .ok (.iload_n 1, 1) := by decide +kernel
theorem dX7_lay_9 : decode cX7_lay 9 = .ok (.invokevirtual 132, 3) := by decide +kernel
theorem dX7_lay_12 : decode cX7_lay 12 = .ok (.istore_n 2, 1) := by decide +kernel
theorem dX7_lay_13 : decode cX7_lay 13 = .ok (.iload_n 2, 1) := by decide +kernel
theorem dX7_lay_14 : decode cX7_lay 14 = .ok (.ifCond .eq 9, 3) := by decide +kernel
theorem dX7_lay_17 : decode cX7_lay 17 = .ok (.aload_n 0, 1) := by decide +kernel
theorem dX7_lay_18 : decode cX7_lay 18 = .ok (.iload_n 2, 1) := by decide +kernel
theorem dX7_lay_19 : decode cX7_lay 19 = .ok (.invokevirtual 48, 3) := by decide +kernel
theorem dX7_lay_22 : decode cX7_lay 22 = .ok (.ireturn, 1) := by decide +kernel
theorem dX7_lay_23 : decode cX7_lay 23 = .ok (.aload_n 0, 1) := by decide +kernel
theorem dX7_lay_24 : decode cX7_lay 24 = .ok (.getfield 26, 3) := by decide +kernel
theorem dX7_lay_27 : decode cX7_lay 27 = .ok (.aload_n 0, 1) := by decide +kernel
theorem dX7_lay_28 : decode cX7_lay 28 = .ok (.getfield 10, 3) := by decide +kernel
theorem dX7_lay_31 : decode cX7_lay 31 = .ok (.iload_n 1, 1) := by decide +kernel
theorem dX7_lay_32 : decode cX7_lay 32 = .ok (.invokevirtual 136, 3) := by decide +kernel
theorem dX7_lay_35 : decode cX7_lay 35 = .ok (.ldc 143, 2) := by decide +kernel
theorem dX7_lay_37 : decode cX7_lay 37 = .ok (.if_icmp .ne 10, 3) := by decide +kernel
theorem dX7_lay_40 : decode cX7_lay 40 = .ok (.aload_n 0, 1) := by decide +kernel
theorem dX7_lay_41 : decode cX7_lay 41 = .ok (.ldc 143, 2) := by decide +kernel
theorem dX7_lay_43 : decode cX7_lay 43 = .ok (.invokevirtual 48, 3) := by decide +kernel
theorem dX7_lay_46 : decode cX7_lay 46 = .ok (.ireturn, 1) := by decide +kernel
theorem dX7_lay_47 : decode cX7_lay 47 = .ok (.aload_n 0, 1) := by decide +kernel
theorem dX7_lay_48 : decode cX7_lay 48 = .ok (.iload_n 1, 1) := by decide +kernel
theorem dX7_lay_49 : decode cX7_lay 49 = .ok (.invokevirtual 150, 3) := by decide +kernel
theorem dX7_lay_52 : decode cX7_lay 52 = .ok (.ireturn, 1) := by decide +kernel
theorem dX7_layAnew_0 : decode cX7_layAnew 0 = .ok (.iconst 0, 1) := by decide +kernel
theorem dX7_layAnew_1 : decode cX7_layAnew 1 = .ok (.istore_n 2, 1) := by decide +kernel
theorem dX7_layAnew_2 : decode cX7_layAnew 2 = .ok (.iconst 0, 1) := by decide +kernel
theorem dX7_layAnew_3 : decode cX7_layAnew 3 = .ok (.istore_n 3, 1) := by decide +kernel
theorem dX7_layAnew_4 : decode cX7_layAnew 4 = .ok (.iload_n 3, 1) := by decide +kernel
theorem dX7_layAnew_5 : decode cX7_layAnew 5 = .ok (.bipush 8, 2) := by decide +kernel
theorem dX7_layAnew_7 : decode cX7_layAnew 7 = .ok (.if_icmp .ge 114, 3) := by decide +kernel
theorem dX7_layAnew_10 : decode cX7_layAnew 10 = .ok (.aload_n 0, 1) := by decide +kernel
theorem dX7_layAnew_11 : decode cX7_layAnew 11 = .ok (.getfield 10, 3) := by decide +kernel
theorem dX7_layAnew_14 : decode cX7_layAnew 14 = .ok (.iload_n 3, 1) := by decide +kernel
theorem dX7_layAnew_15 : decode cX7_layAnew 15 = .ok (.invokevirtual 56, 3) := by decide +kernel
theorem dX7_layAnew_18 : decode cX7_layAnew 18 = .ok (.astore 4, 2) := by decide +kernel
theorem dX7_layAnew_20 : decode cX7_layAnew 20 = .ok (.aload 4, 2) := by decide +kernel
theorem dX7_layAnew_22 : decode cX7_layAnew 22 = .ok (.ifnonnull 6, 3) := by decide +kernel
theorem dX7_layAnew_25 : decode cX7_layAnew 25 = .ok (.goto 96, 3) := by decide +kernel
theorem dX7_layAnew_28 : decode cX7_layAnew 28 = .ok (.iload_n 1, 1) := by decide +kernel
theorem dX7_layAnew_29 : decode cX7_layAnew 29 = .ok (.iload_n 3, 1) := by decide +kernel
theorem dX7_layAnew_30 : decode cX7_layAnew 30 = .ok (.invokestatic 139, 3) := by decide +kernel
theorem dX7_layAnew_33 : decode cX7_layAnew 33 = .ok (.istore 5, 2) := by decide +kernel
theorem dX7_layAnew_35 : decode cX7_layAnew 35 = .ok (.iload 5, 2) := by decide +kernel
theorem dX7_layAnew_37 : decode cX7_layAnew 37 = .ok (.ifCond .eq 15, 3) := by decide +kernel
theorem dX7_layAnew_40 : decode cX7_layAnew 40 = .ok (.aload_n 0, 1) := by decide +kernel
theorem dX7_layAnew_41 : decode cX7_layAnew 41 = .ok (.getfield 26, 3) := by decide +kernel
theorem dX7_layAnew_44 : decode cX7_layAnew 44 = .ok (.iload_n 1, 1) := by decide +kernel
theorem dX7_layAnew_45 : decode cX7_layAnew 45 = .ok (.iload_n 3, 1) := by decide +kernel
theorem dX7_layAnew_46 : decode cX7_layAnew 46 = .ok (.invokevirtual 147, 3) := by decide +kernel
theorem dX7_layAnew_49 : decode cX7_layAnew 49 = .ok (.goto 4, 3) := by decide +kernel
theorem dX7_layAnew_52 : decode cX7_layAnew 52 = .ok (.iconst (-1), 1) := by decide +kernel
theorem dX7_layAnew_53 : decode cX7_layAnew 53 = .ok (.istore 6, 2) := by decide +kernel
theorem dX7_layAnew_55 : decode cX7_layAnew 55 = .ok (.iload 5, 2) := by decide +kernel
theorem dX7_layAnew_57 : decode cX7_layAnew 57 = .ok (.ifCond .eq 15, 3) := by decide +kernel
theorem dX7_layAnew_60 : decode cX7_layAnew 60 = .ok (.aload_n 0, 1) := by decide +kernel
theorem dX7_layAnew_61 : decode cX7_layAnew 61 = .ok (.getfield 26, 3) := by decide +kernel
theorem dX7_layAnew_64 : decode cX7_layAnew 64 = .ok (.iload_n 1, 1) := by decide +kernel
theorem dX7_layAnew_65 : decode cX7_layAnew 65 = .ok (.iload_n 3, 1) := by decide +kernel
theorem dX7_layAnew_66 : decode cX7_layAnew 66 = .ok (.invokevirtual 144, 3) := by decide +kernel
theorem dX7_layAnew_69 : decode cX7_layAnew 69 = .ok (.goto 4, 3) := by decide +kernel
theorem dX7_layAnew_72 : decode cX7_layAnew 72 = .ok (.iconst (-1), 1) := by decide +kernel
theorem dX7_layAnew_73 : decode cX7_layAnew 73 = .ok (.istore 7, 2) := by decide +kernel
theorem dX7_layAnew_75 : decode cX7_layAnew 75 = .ok (.aload 4, 2) := by decide +kernel
theorem dX7_layAnew_77 : decode cX7_layAnew 77 = .ok (.invokevirtual 113, 3) := by decide +kernel
theorem dX7_layAnew_80 : decode cX7_layAnew 80 = .ok (.ifCond .eq 26, 3) := by decide +kernel
theorem dX7_layAnew_83 : decode cX7_layAnew 83 = .ok (.aload 4, 2) := by decide +kernel
theorem dX7_layAnew_85 : decode cX7_layAnew 85 = .ok (.getfield 153, 3) := by decide +kernel
theorem dX7_layAnew_88 : decode cX7_layAnew 88 = .ok (.iload 6, 2) := by decide +kernel
theorem dX7_layAnew_90 : decode cX7_layAnew 90 = .ok (.if_icmp .ne 13, 3) := by decide +kernel
theorem dX7_layAnew_93 : decode cX7_layAnew 93 = .ok (.aload 4, 2) := by decide +kernel
theorem dX7_layAnew_95 : decode cX7_layAnew 95 = .ok (.getfield 156, 3) := by decide +kernel
theorem dX7_layAnew_98 : decode cX7_layAnew 98 = .ok (.iload 7, 2) := by decide +kernel
theorem dX7_layAnew_100 : decode cX7_layAnew 100 = .ok (.if_icmp .eq 6, 3) := by decide +kernel
theorem dX7_layAnew_103 : decode cX7_layAnew 103 = .ok (.iinc 2 1, 3) := by decide +kernel
theorem dX7_layAnew_106 : decode cX7_layAnew 106 = .ok (.aload 4, 2) := by decide +kernel
theorem dX7_layAnew_108 : decode cX7_layAnew 108 = .ok (.iload 6, 2) := by decide +kernel
theorem dX7_layAnew_110 : decode cX7_layAnew 110 = .ok (.iload 7, 2) := by decide +kernel
theorem dX7_layAnew_112 : decode cX7_layAnew 112 = .ok (.invokevirtual 159, 3) := by decide +kernel
theorem dX7_layAnew_115 : decode cX7_layAnew 115 = .ok (.iinc 3 1, 3) := by decide +kernel
theorem dX7_layAnew_118 : decode cX7_layAnew 118 = .ok (.goto (-114), 3) := by decide +kernel
theorem dX7_layAnew_121 : decode cX7_layAnew 121 = .ok (.iload_n 2, 1) := by decide +kernel
theorem dX7_layAnew_122 : decode cX7_layAnew 122 = .ok (.ireturn, 1) := by decide +kernel
theorem dX7_tide_0 : decode cX7_tide 0 = .ok (.iload_n 1, 1) := by decide +kernel
theorem dX7_tide_1 : decode cX7_tide 1 = .ok (.invokestatic 70, 3) := by decide +kernel
theorem dX7_tide_4 : decode cX7_tide 4 = .ok (.ifCond .ne 10, 3) := by decide +kernel
theorem dX7_tide_7 : decode cX7_tide 7 = .ok (.aload_n 0, 1) := by decide +kernel
theorem dX7_tide_8 : decode cX7_tide 8 = .ok (.ldc 60, 2) := by decide +kernel
theorem dX7_tide_10 : decode cX7_tide 10 = .ok (.invokevirtual 48, 3) := by decide +kernel
theorem dX7_tide_13 : decode cX7_tide 13 = .ok (.ireturn, 1) := by decide +kernel
theorem dX7_tide_14 : decode cX7_tide 14 = .ok (.aload_n 0, 1) := by decide +kernel
theorem dX7_tide_15 : decode cX7_tide 15 = .ok (.getfield 19, 3) := by decide +kernel
theorem dX7_tide_18 : decode cX7_tide 18 = .ok (.getfield 163, 3) := by decide +kernel
theorem dX7_tide_21 : decode cX7_tide 21 = .ok (.istore_n 2, 1) := by decide +kernel
theorem dX7_tide_22 : decode cX7_tide 22 = .ok (.aload_n 0, 1) := by decide +kernel
theorem dX7_tide_23 : decode cX7_tide 23 = .ok (.getfield 19, 3) := by decide +kernel
theorem dX7_tide_26 : decode cX7_tide 26 = .ok (.iload_n 1, 1) := by decide +kernel
theorem dX7_tide_27 : decode cX7_tide 27 = .ok (.putfield 163, 3) := by decide +kernel
theorem dX7_tide_30 : decode cX7_tide 30 = .ok (.iload_n 2, 1) := by decide +kernel
theorem dX7_tide_31 : decode cX7_tide 31 = .ok (.ireturn, 1) := by decide +kernel
theorem dX7_run_0 : decode cX7_run 0 = .ok (.iload_n 1, 1) := by decide +kernel
theorem dX7_run_1 : decode cX7_run 1 = .ok (.iconst 1, 1) := by decide +kernel
theorem dX7_run_2 : decode cX7_run 2 = .ok (.bipush 24, 2) := by decide +kernel
theorem dX7_run_4 : decode cX7_run 4 = .ok (.invokestatic 77, 3) := by decide +kernel
theorem dX7_run_7 : decode cX7_run 7 = .ok (.ifCond .ne 10, 3) := by decide +kernel
theorem dX7_run_10 : decode cX7_run 10 = .ok (.aload_n 0, 1) := by decide +kernel
theorem dX7_run_11 : decode cX7_run 11 = .ok (.ldc 60, 2) := by decide +kernel
theorem dX7_run_13 : decode cX7_run 13 = .ok (.invokevirtual 48, 3) := by decide +kernel
theorem dX7_run_16 : decode cX7_run 16 = .ok (.ireturn, 1) := by decide +kernel
theorem dX7_run_17 : decode cX7_run 17 = .ok (.iconst 0, 1) := by decide +kernel
theorem dX7_run_18 : decode cX7_run 18 = .ok (.istore_n 2, 1) := by decide +kernel
theorem dX7_run_19 : decode cX7_run 19 = .ok (.iconst 0, 1) := by decide +kernel
theorem dX7_run_20 : decode cX7_run 20 = .ok (.istore_n 3, 1) := by decide +kernel
theorem dX7_run_21 : decode cX7_run 21 = .ok (.iload_n 3, 1) := by decide +kernel
theorem dX7_run_22 : decode cX7_run 22 = .ok (.iload_n 1, 1) := by decide +kernel
theorem dX7_run_23 : decode cX7_run 23 = .ok (.if_icmp .ge 23, 3) := by decide +kernel
theorem dX7_run_26 : decode cX7_run 26 = .ok (.iload_n 2, 1) := by decide +kernel
theorem dX7_run_27 : decode cX7_run 27 = .ok (.aload_n 0, 1) := by decide +kernel
theorem dX7_run_28 : decode cX7_run 28 = .ok (.getfield 19, 3) := by decide +kernel
theorem dX7_run_31 : decode cX7_run 31 = .ok (.aload_n 0, 1) := by decide +kernel
theorem dX7_run_32 : decode cX7_run 32 = .ok (.getfield 10, 3) := by decide +kernel
theorem dX7_run_35 : decode cX7_run 35 = .ok (.invokevirtual 166, 3) := by decide +kernel
theorem dX7_run_38 : decode cX7_run 38 = .ok (.iadd, 1) := by decide +kernel
theorem dX7_run_39 : decode cX7_run 39 = .ok (.istore_n 2, 1) := by decide +kernel
theorem dX7_run_40 : decode cX7_run 40 = .ok (.iinc 3 1, 3) := by decide +kernel
theorem dX7_run_43 : decode cX7_run 43 = .ok (.goto (-22), 3) := by decide +kernel
theorem dX7_run_46 : decode cX7_run 46 = .ok (.iload_n 2, 1) := by decide +kernel
theorem dX7_run_47 : decode cX7_run 47 = .ok (.ireturn, 1) := by decide +kernel
theorem dX7_could_0 : decode cX7_could 0 = .ok (.aload_n 0, 1) := by decide +kernel
theorem dX7_could_1 : decode cX7_could 1 = .ok (.getfield 10, 3) := by decide +kernel
theorem dX7_could_4 : decode cX7_could 4 = .ok (.iload_n 1, 1) := by decide +kernel
theorem dX7_could_5 : decode cX7_could 5 = .ok (.invokevirtual 56, 3) := by decide +kernel
theorem dX7_could_8 : decode cX7_could 8 = .ok (.astore_n 2, 1) := by decide +kernel
theorem dX7_could_9 : decode cX7_could 9 = .ok (.aload_n 2, 1) := by decide +kernel
theorem dX7_could_10 : decode cX7_could 10 = .ok (.ifnonnull 10, 3) := by decide +kernel
theorem dX7_could_13 : decode cX7_could 13 = .ok (.aload_n 0, 1) := by decide +kernel
theorem dX7_could_14 : decode cX7_could 14 = .ok (.ldc 60, 2) := by decide +kernel
theorem dX7_could_16 : decode cX7_could 16 = .ok (.invokevirtual 48, 3) := by decide +kernel
theorem dX7_could_19 : decode cX7_could 19 = .ok (.ireturn, 1) := by decide +kernel
theorem dX7_could_20 : decode cX7_could 20 = .ok (.aload_n 2, 1) := by decide +kernel
theorem dX7_could_21 : decode cX7_could 21 = .ok (.invokevirtual 113, 3) := by decide +kernel
theorem dX7_could_24 : decode cX7_could 24 = .ok (.ifCond .eq 21, 3) := by decide +kernel
theorem dX7_could_27 : decode cX7_could 27 = .ok (.aload_n 0, 1) := by decide +kernel
theorem dX7_could_28 : decode cX7_could 28 = .ok (.getfield 10, 3) := by decide +kernel
theorem dX7_could_31 : decode cX7_could 31 = .ok (.aload_n 2, 1) := by decide +kernel
theorem dX7_could_32 : decode cX7_could 32 = .ok (.aload_n 0, 1) := by decide +kernel
theorem dX7_could_33 : decode cX7_could 33 = .ok (.getfield 19, 3) := by decide +kernel
theorem dX7_could_36 : decode cX7_could 36 = .ok (.getfield 170, 3) := by decide +kernel
theorem dX7_could_39 : decode cX7_could 39 = .ok (.invokevirtual 173, 3) := by decide +kernel
theorem dX7_could_42 : decode cX7_could 42 = .ok (.goto 9, 3) := by decide +kernel
theorem dX7_could_45 : decode cX7_could 45 = .ok (.aload_n 0, 1) := by decide +kernel
theorem dX7_could_46 : decode cX7_could 46 = .ok (.ldc 121, 2) := by decide +kernel
theorem dX7_could_48 : decode cX7_could 48 = .ok (.invokevirtual 48, 3) := by decide +kernel
theorem dX7_could_51 : decode cX7_could 51 = .ok (.ireturn, 1) := by decide +kernel
theorem dX7_feed_0 : decode cX7_feed 0 = .ok (.aload_n 0, 1) := by decide +kernel
theorem dX7_feed_1 : decode cX7_feed 1 = .ok (.aload_n 0, 1) := by decide +kernel
theorem dX7_feed_2 : decode cX7_feed 2 = .ok (.getfield 33, 3) := by decide +kernel
theorem dX7_feed_5 : decode cX7_feed 5 = .ok (.lload_n 1, 1) := by decide +kernel
theorem dX7_feed_6 : decode cX7_feed 6 = .ok (.iload_n 3, 1) := by decide +kernel
theorem dX7_feed_7 : decode cX7_feed 7 = .ok (.invokevirtual 177, 3) := by decide +kernel
theorem dX7_feed_10 : decode cX7_feed 10 = .ok (.invokevirtual 48, 3) := by decide +kernel
theorem dX7_feed_13 : decode cX7_feed 13 = .ok (.ireturn, 1) := by decide +kernel
theorem dX7_text_0 : decode cX7_text 0 = .ok (.aload_n 0, 1) := by decide +kernel
theorem dX7_text_1 : decode cX7_text 1 = .ok (.aload_n 0, 1) := by decide +kernel
theorem dX7_text_2 : decode cX7_text 2 = .ok (.getfield 33, 3) := by decide +kernel
theorem dX7_text_5 : decode cX7_text 5 = .ok (.invokevirtual 181, 3) := by decide +kernel
theorem dX7_text_8 : decode cX7_text 8 = .ok (.invokevirtual 48, 3) := by decide +kernel
theorem dX7_text_11 : decode cX7_text 11 = .ok (.ireturn, 1) := by decide +kernel
theorem dX7_due_0 : decode cX7_due 0 = .ok (.aload_n 0, 1) := by decide +kernel
theorem dX7_due_1 : decode cX7_due 1 = .ok (.getfield 10, 3) := by decide +kernel
theorem dX7_due_4 : decode cX7_due 4 = .ok (.iload_n 1, 1) := by decide +kernel
theorem dX7_due_5 : decode cX7_due 5 = .ok (.invokevirtual 56, 3) := by decide +kernel
theorem dX7_due_8 : decode cX7_due 8 = .ok (.astore_n 3, 1) := by decide +kernel
theorem dX7_due_9 : decode cX7_due 9 = .ok (.aload_n 3, 1) := by decide +kernel
theorem dX7_due_10 : decode cX7_due 10 = .ok (.ifnull 13, 3) := by decide +kernel
theorem dX7_due_13 : decode cX7_due 13 = .ok (.iload_n 2, 1) := by decide +kernel
theorem dX7_due_14 : decode cX7_due 14 = .ok (.iconst 0, 1) := by decide +kernel
theorem dX7_due_15 : decode cX7_due 15 = .ok (.bipush 99, 2) := by decide +kernel
theorem dX7_due_17 : decode cX7_due 17 = .ok (.invokestatic 77, 3) := by decide +kernel
theorem dX7_due_20 : decode cX7_due 20 = .ok (.ifCond .ne 10, 3) := by decide +kernel
theorem dX7_due_23 : decode cX7_due 23 = .ok (.aload_n 0, 1) := by decide +kernel
theorem dX7_due_24 : decode cX7_due 24 = .ok (.ldc 60, 2) := by decide +kernel
theorem dX7_due_26 : decode cX7_due 26 = .ok (.invokevirtual 48, 3) := by decide +kernel
theorem dX7_due_29 : decode cX7_due 29 = .ok (.ireturn, 1) := by decide +kernel
theorem dX7_due_30 : decode cX7_due 30 = .ok (.aload_n 0, 1) := by decide +kernel
theorem dX7_due_31 : decode cX7_due 31 = .ok (.getfield 33, 3) := by decide +kernel
theorem dX7_due_34 : decode cX7_due 34 = .ok (.aload_n 3, 1) := by decide +kernel
theorem dX7_due_35 : decode cX7_due 35 = .ok (.invokevirtual 185, 3) := by decide +kernel
theorem dX7_due_38 : decode cX7_due 38 = .ok (.istore 4, 2) := by decide +kernel
theorem dX7_due_40 : decode cX7_due 40 = .ok (.iload 4, 2) := by decide +kernel
theorem dX7_due_42 : decode cX7_due 42 = .ok (.ldc 143, 2) := by decide +kernel
theorem dX7_due_44 : decode cX7_due 44 = .ok (.if_icmp .ne 12, 3) := by decide +kernel
theorem dX7_due_47 : decode cX7_due 47 = .ok (.aload_n 0, 1) := by decide +kernel
theorem dX7_due_48 : decode cX7_due 48 = .ok (.ldc 143, 2) := by decide +kernel
theorem dX7_due_50 : decode cX7_due 50 = .ok (.invokevirtual 48, 3) := by decide +kernel
theorem dX7_due_53 : decode cX7_due 53 = .ok (.goto 12, 3) := by decide +kernel
theorem dX7_due_56 : decode cX7_due 56 = .ok (.iload 4, 2) := by decide +kernel
theorem dX7_due_58 : decode cX7_due 58 = .ok (.aload_n 3, 1) := by decide +kernel
theorem dX7_due_59 : decode cX7_due 59 = .ok (.getfield 188, 3) := by decide +kernel
theorem dX7_due_62 : decode cX7_due 62 = .ok (.imul, 1) := by decide +kernel
theorem dX7_due_63 : decode cX7_due 63 = .ok (.iload_n 2, 1) := by decide +kernel
theorem dX7_due_64 : decode cX7_due 64 = .ok (.imul, 1) := by decide +kernel
theorem dX7_due_65 : decode cX7_due 65 = .ok (.ireturn, 1) := by decide +kernel
theorem dX7_sheet_0 : decode cX7_sheet 0 = .ok (.aload_n 0, 1) := by decide +kernel
theorem dX7_sheet_1 : decode cX7_sheet 1 = .ok (.iload_n 1, 1) := by decide +kernel
theorem dX7_sheet_2 : decode cX7_sheet 2 = .ok (.invokevirtual 191, 3) := by decide +kernel
theorem dX7_sheet_5 : decode cX7_sheet 5 = .ok (.astore 4, 2) := by decide +kernel
theorem dX7_sheet_7 : decode cX7_sheet 7 = .ok (.aload_n 0, 1) := by decide +kernel
theorem dX7_sheet_8 : decode cX7_sheet 8 = .ok (.aload 4, 2) := by decide +kernel
theorem dX7_sheet_10 : decode cX7_sheet 10 = .ok (.ifnonnull 8, 3) := by decide +kernel
theorem dX7_sheet_13 : decode cX7_sheet 13 = .ok (.ldc 60, 2) := by decide +kernel
theorem dX7_sheet_15 : decode cX7_sheet 15 = .ok (.goto 10, 3) := by decide +kernel
theorem dX7_sheet_18 : decode cX7_sheet 18 = .ok (.aload 4, 2) := by decide +kernel
theorem dX7_sheet_20 : decode cX7_sheet 20 = .ok (.iload_n 2, 1) := by decide +kernel
theorem dX7_sheet_21 : decode cX7_sheet 21 = .ok (.iload_n 3, 1) := by decide +kernel
theorem dX7_sheet_22 : decode cX7_sheet 22 = .ok (.invokevirtual 195, 3) := by decide +kernel
theorem dX7_sheet_25 : decode cX7_sheet 25 = .ok (.invokevirtual 48, 3) := by decide +kernel
theorem dX7_sheet_28 : decode cX7_sheet 28 = .ok (.ireturn, 1) := by decide +kernel
theorem dX7_write_0 : decode cX7_write 0 = .ok (.aload_n 0, 1) := by decide +kernel
theorem dX7_write_1 : decode cX7_write 1 = .ok (.iload_n 1, 1) := by decide +kernel
theorem dX7_write_2 : decode cX7_write 2 = .ok (.invokevirtual 191, 3) := by decide +kernel
theorem dX7_write_5 : decode cX7_write 5 = .ok (.astore 4, 2) := by decide +kernel
theorem dX7_write_7 : decode cX7_write 7 = .ok (.aload 4, 2) := by decide +kernel
theorem dX7_write_9 : decode cX7_write 9 = .ok (.ifnonnull 10, 3) := by decide +kernel
theorem dX7_write_12 : decode cX7_write 12 = .ok (.aload_n 0, 1) := by decide +kernel
theorem dX7_write_13 : decode cX7_write 13 = .ok (.ldc 60, 2) := by decide +kernel
theorem dX7_write_15 : decode cX7_write 15 = .ok (.invokevirtual 48, 3) := by decide +kernel
theorem dX7_write_18 : decode cX7_write 18 = .ok (.ireturn, 1) := by decide +kernel
theorem dX7_write_19 : decode cX7_write 19 = .ok (.aload 4, 2) := by decide +kernel
theorem dX7_write_21 : decode cX7_write 21 = .ok (.invokevirtual 198, 3) := by decide +kernel
theorem dX7_write_24 : decode cX7_write 24 = .ok (.ifCond .eq 10, 3) := by decide +kernel
theorem dX7_write_27 : decode cX7_write 27 = .ok (.aload_n 0, 1) := by decide +kernel
theorem dX7_write_28 : decode cX7_write 28 = .ok (.ldc 201, 2) := by decide +kernel
theorem dX7_write_30 : decode cX7_write 30 = .ok (.invokevirtual 48, 3) := by decide +kernel
theorem dX7_write_33 : decode cX7_write 33 = .ok (.ireturn, 1) := by decide +kernel
theorem dX7_write_34 : decode cX7_write 34 = .ok (.aload 4, 2) := by decide +kernel
theorem dX7_write_36 : decode cX7_write 36 = .ok (.iload_n 2, 1) := by decide +kernel
theorem dX7_write_37 : decode cX7_write 37 = .ok (.iconst 1, 1) := by decide +kernel
theorem dX7_write_38 : decode cX7_write 38 = .ok (.invokevirtual 202, 3) := by decide +kernel
theorem dX7_write_41 : decode cX7_write 41 = .ok (.ifCond .eq 13, 3) := by decide +kernel
theorem dX7_write_44 : decode cX7_write 44 = .ok (.aload 4, 2) := by decide +kernel
theorem dX7_write_46 : decode cX7_write 46 = .ok (.iload_n 2, 1) := by decide +kernel
theorem dX7_write_47 : decode cX7_write 47 = .ok (.iload_n 3, 1) := by decide +kernel
theorem dX7_write_48 : decode cX7_write 48 = .ok (.invokevirtual 205, 3) := by decide +kernel
theorem dX7_write_51 : decode cX7_write 51 = .ok (.goto 9, 3) := by decide +kernel
theorem dX7_write_54 : decode cX7_write 54 = .ok (.aload_n 0, 1) := by decide +kernel
theorem dX7_write_55 : decode cX7_write 55 = .ok (.ldc 60, 2) := by decide +kernel
theorem dX7_write_57 : decode cX7_write 57 = .ok (.invokevirtual 48, 3) := by decide +kernel
theorem dX7_write_60 : decode cX7_write 60 = .ok (.ireturn, 1) := by decide +kernel
theorem dX7_copy_0 : decode cX7_copy 0 = .ok (.aload_n 0, 1) := by decide +kernel
theorem dX7_copy_1 : decode cX7_copy 1 = .ok (.iload_n 1, 1) := by decide +kernel
theorem dX7_copy_2 : decode cX7_copy 2 = .ok (.invokevirtual 191, 3) := by decide +kernel
theorem dX7_copy_5 : decode cX7_copy 5 = .ok (.astore 6, 2) := by decide +kernel
theorem dX7_copy_7 : decode cX7_copy 7 = .ok (.aload_n 0, 1) := by decide +kernel
theorem dX7_copy_8 : decode cX7_copy 8 = .ok (.iload_n 3, 1) := by decide +kernel
theorem dX7_copy_9 : decode cX7_copy 9 = .ok (.invokevirtual 191, 3) := by decide +kernel
theorem dX7_copy_12 : decode cX7_copy 12 = .ok (.astore 7, 2) := by decide +kernel
theorem dX7_copy_14 : decode cX7_copy 14 = .ok (.aload 6, 2) := by decide +kernel
theorem dX7_copy_16 : decode cX7_copy 16 = .ok (.ifnull 8, 3) := by decide +kernel
theorem dX7_copy_19 : decode cX7_copy 19 = .ok (.aload 7, 2) := by decide +kernel
theorem dX7_copy_21 : decode cX7_copy 21 = .ok (.ifnonnull 10, 3) := by decide +kernel
theorem dX7_copy_24 : decode cX7_copy 24 = .ok (.aload_n 0, 1) := by decide +kernel
theorem dX7_copy_25 : decode cX7_copy 25 = .ok (.ldc 60, 2) := by decide +kernel
theorem dX7_copy_27 : decode cX7_copy 27 = .ok (.invokevirtual 48, 3) := by decide +kernel
theorem dX7_copy_30 : decode cX7_copy 30 = .ok (.ireturn, 1) := by decide +kernel
theorem dX7_copy_31 : decode cX7_copy 31 = .ok (.aload 6, 2) := by decide +kernel
theorem dX7_copy_33 : decode cX7_copy 33 = .ok (.invokevirtual 198, 3) := by decide +kernel
theorem dX7_copy_36 : decode cX7_copy 36 = .ok (.ifCond .ne 11, 3) := by decide +kernel
theorem dX7_copy_39 : decode cX7_copy 39 = .ok (.aload 7, 2) := by decide +kernel
theorem dX7_copy_41 : decode cX7_copy 41 = .ok (.invokevirtual 198, 3) := by decide +kernel
theorem dX7_copy_44 : decode cX7_copy 44 = .ok (.ifCond .eq 10, 3) := by decide +kernel
theorem dX7_copy_47 : decode cX7_copy 47 = .ok (.aload_n 0, 1) := by decide +kernel
theorem dX7_copy_48 : decode cX7_copy 48 = .ok (.ldc 201, 2) := by decide +kernel
theorem dX7_copy_50 : decode cX7_copy 50 = .ok (.invokevirtual 48, 3) := by decide +kernel
theorem dX7_copy_53 : decode cX7_copy 53 = .ok (.ireturn, 1) := by decide +kernel
theorem dX7_copy_54 : decode cX7_copy 54 = .ok (.aload 6, 2) := by decide +kernel
theorem dX7_copy_56 : decode cX7_copy 56 = .ok (.getfield 208, 3) := by decide +kernel
theorem dX7_copy_59 : decode cX7_copy 59 = .ok (.aload 7, 2) := by decide +kernel
theorem dX7_copy_61 : decode cX7_copy 61 = .ok (.getfield 208, 3) := by decide +kernel
theorem dX7_copy_64 : decode cX7_copy 64 = .ok (.if_icmp .eq 10, 3) := by decide +kernel
theorem dX7_copy_67 : decode cX7_copy 67 = .ok (.aload_n 0, 1) := by decide +kernel
theorem dX7_copy_68 : decode cX7_copy 68 = .ok (.ldc 90, 2) := by decide +kernel
theorem dX7_copy_70 : decode cX7_copy 70 = .ok (.invokevirtual 48, 3) := by decide +kernel
theorem dX7_copy_73 : decode cX7_copy 73 = .ok (.ireturn, 1) := by decide +kernel
theorem dX7_copy_74 : decode cX7_copy 74 = .ok (.aload 6, 2) := by decide +kernel
theorem dX7_copy_76 : decode cX7_copy 76 = .ok (.iload_n 2, 1) := by decide +kernel
theorem dX7_copy_77 : decode cX7_copy 77 = .ok (.iload 5, 2) := by decide +kernel
theorem dX7_copy_79 : decode cX7_copy 79 = .ok (.invokevirtual 202, 3) := by decide +kernel
theorem dX7_copy_82 : decode cX7_copy 82 = .ok (.ifCond .eq 15, 3) := by decide +kernel
theorem dX7_copy_85 : decode cX7_copy 85 = .ok (.aload 7, 2) := by decide +kernel
theorem dX7_copy_87 : decode cX7_copy 87 = .ok (.iload 4, 2) := by decide +kernel
theorem dX7_copy_89 : decode cX7_copy 89 = .ok (.iload 5, 2) := by decide +kernel
theorem dX7_copy_91 : decode cX7_copy 91 = .ok (.invokevirtual 202, 3) := by decide +kernel
theorem dX7_copy_94 : decode cX7_copy 94 = .ok (.ifCond .ne 10, 3) := by decide +kernel
theorem dX7_copy_97 : decode cX7_copy 97 = .ok (.aload_n 0, 1) := by decide +kernel
theorem dX7_copy_98 : decode cX7_copy 98 = .ok (.ldc 60, 2) := by decide +kernel
theorem dX7_copy_100 : decode cX7_copy 100 = .ok (.invokevirtual 48, 3) := by decide +kernel
theorem dX7_copy_103 : decode cX7_copy 103 = .ok (.ireturn, 1) := by decide +kernel
theorem dX7_copy_104 : decode cX7_copy 104 = .ok (.aload 6, 2) := by decide +kernel
theorem dX7_copy_106 : decode cX7_copy 106 = .ok (.getfield 211, 3) := by decide +kernel
theorem dX7_copy_109 : decode cX7_copy 109 = .ok (.iload_n 2, 1) := by decide +kernel
theorem dX7_copy_110 : decode cX7_copy 110 = .ok (.aload 7, 2) := by decide +kernel
theorem dX7_copy_112 : decode cX7_copy 112 = .ok (.getfield 211, 3) := by decide +kernel
theorem dX7_copy_115 : decode cX7_copy 115 = .ok (.iload 4, 2) := by decide +kernel
theorem dX7_copy_117 : decode cX7_copy 117 = .ok (.iload 5, 2) := by decide +kernel
theorem dX7_copy_119 : decode cX7_copy 119 = .ok (.invokestatic 215, 3) := by decide +kernel
theorem dX7_copy_122 : decode cX7_copy 122 = .ok (.iload 5, 2) := by decide +kernel
theorem dX7_copy_124 : decode cX7_copy 124 = .ok (.ireturn, 1) := by decide +kernel
theorem dX7_read_0 : decode cX7_read 0 = .ok (.aload_n 0, 1) := by decide +kernel
theorem dX7_read_1 : decode cX7_read 1 = .ok (.iload_n 1, 1) := by decide +kernel
theorem dX7_read_2 : decode cX7_read 2 = .ok (.invokevirtual 191, 3) := by decide +kernel
theorem dX7_read_5 : decode cX7_read 5 = .ok (.astore_n 3, 1) := by decide +kernel
theorem dX7_read_6 : decode cX7_read 6 = .ok (.aload_n 3, 1) := by decide +kernel
theorem dX7_read_7 : decode cX7_read 7 = .ok (.ifnull 14, 3) := by decide +kernel
theorem dX7_read_10 : decode cX7_read 10 = .ok (.aload_n 0, 1) := by decide +kernel
theorem dX7_read_11 : decode cX7_read 11 = .ok (.getfield 10, 3) := by decide +kernel
theorem dX7_read_14 : decode cX7_read 14 = .ok (.iload_n 2, 1) := by decide +kernel
theorem dX7_read_15 : decode cX7_read 15 = .ok (.invokevirtual 94, 3) := by decide +kernel
theorem dX7_read_18 : decode cX7_read 18 = .ok (.ifnonnull 10, 3) := by decide +kernel
theorem dX7_read_21 : decode cX7_read 21 = .ok (.aload_n 0, 1) := by decide +kernel
theorem dX7_read_22 : decode cX7_read 22 = .ok (.ldc 60, 2) := by decide +kernel
theorem dX7_read_24 : decode cX7_read 24 = .ok (.invokevirtual 48, 3) := by decide +kernel
theorem dX7_read_27 : decode cX7_read 27 = .ok (.ireturn, 1) := by decide +kernel
theorem dX7_read_28 : decode cX7_read 28 = .ok (.aload_n 3, 1) := by decide +kernel
theorem dX7_read_29 : decode cX7_read 29 = .ok (.invokevirtual 198, 3) := by decide +kernel
theorem dX7_read_32 : decode cX7_read 32 = .ok (.ifCond .eq 10, 3) := by decide +kernel
theorem dX7_read_35 : decode cX7_read 35 = .ok (.aload_n 0, 1) := by decide +kernel
theorem dX7_read_36 : decode cX7_read 36 = .ok (.ldc 201, 2) := by decide +kernel
theorem dX7_read_38 : decode cX7_read 38 = .ok (.invokevirtual 48, 3) := by decide +kernel
theorem dX7_read_41 : decode cX7_read 41 = .ok (.ireturn, 1) := by decide +kernel
theorem dX7_read_42 : decode cX7_read 42 = .ok (.iconst 0, 1) := by decide +kernel
theorem dX7_read_43 : decode cX7_read 43 = .ok (.istore 4, 2) := by decide +kernel
theorem dX7_read_45 : decode cX7_read 45 = .ok (.iload 4, 2) := by decide +kernel
theorem dX7_read_47 : decode cX7_read 47 = .ok (.aload_n 3, 1) := by decide +kernel
theorem dX7_read_48 : decode cX7_read 48 = .ok (.getfield 221, 3) := by decide +kernel
theorem dX7_read_51 : decode cX7_read 51 = .ok (.if_icmp .ge 26, 3) := by decide +kernel
theorem dX7_read_54 : decode cX7_read 54 = .ok (.aload_n 0, 1) := by decide +kernel
theorem dX7_read_55 : decode cX7_read 55 = .ok (.getfield 10, 3) := by decide +kernel
theorem dX7_read_58 : decode cX7_read 58 = .ok (.aload_n 3, 1) := by decide +kernel
theorem dX7_read_59 : decode cX7_read 59 = .ok (.iload 4, 2) := by decide +kernel
theorem dX7_read_61 : decode cX7_read 61 = .ok (.invokevirtual 224, 3) := by decide +kernel
theorem dX7_read_64 : decode cX7_read 64 = .ok (.iload_n 2, 1) := by decide +kernel
theorem dX7_read_65 : decode cX7_read 65 = .ok (.invokevirtual 106, 3) := by decide +kernel
theorem dX7_read_68 : decode cX7_read 68 = .ok (.ifCond .lt 9, 3) := by decide +kernel
theorem dX7_read_71 : decode cX7_read 71 = .ok (.iinc 4 1, 3) := by decide +kernel
theorem dX7_read_74 : decode cX7_read 74 = .ok (.goto (-29), 3) := by decide +kernel
theorem dX7_read_77 : decode cX7_read 77 = .ok (.iload 4, 2) := by decide +kernel
theorem dX7_read_79 : decode cX7_read 79 = .ok (.ireturn, 1) := by decide +kernel
theorem dX7_told_0 : decode cX7_told 0 = .ok (.iload_n 1, 1) := by decide +kernel
theorem dX7_told_1 : decode cX7_told 1 = .ok (.tableswitch 108 0 7 #[47, 55, 63, 71, 79, 87, 95, 103], 47) := by decide +kernel
theorem dX7_told_48 : decode cX7_told 48 = .ok (.aload_n 0, 1) := by decide +kernel
theorem dX7_told_49 : decode cX7_told 49 = .ok (.getfield 10, 3) := by decide +kernel
theorem dX7_told_52 : decode cX7_told 52 = .ok (.getfield 227, 3) := by decide +kernel
theorem dX7_told_55 : decode cX7_told 55 = .ok (.ireturn, 1) := by decide +kernel
theorem dX7_told_56 : decode cX7_told 56 = .ok (.aload_n 0, 1) := by decide +kernel
theorem dX7_told_57 : decode cX7_told 57 = .ok (.getfield 10, 3) := by decide +kernel
theorem dX7_told_60 : decode cX7_told 60 = .ok (.getfield 230, 3) := by decide +kernel
theorem dX7_told_63 : decode cX7_told 63 = .ok (.ireturn, 1) := by decide +kernel
theorem dX7_told_64 : decode cX7_told 64 = .ok (.aload_n 0, 1) := by decide +kernel
theorem dX7_told_65 : decode cX7_told 65 = .ok (.getfield 10, 3) := by decide +kernel
theorem dX7_told_68 : decode cX7_told 68 = .ok (.invokevirtual 233, 3) := by decide +kernel
theorem dX7_told_71 : decode cX7_told 71 = .ok (.ireturn, 1) := by decide +kernel
theorem dX7_told_72 : decode cX7_told 72 = .ok (.aload_n 0, 1) := by decide +kernel
theorem dX7_told_73 : decode cX7_told 73 = .ok (.getfield 19, 3) := by decide +kernel
theorem dX7_told_76 : decode cX7_told 76 = .ok (.getfield 170, 3) := by decide +kernel
theorem dX7_told_79 : decode cX7_told 79 = .ok (.ireturn, 1) := by decide +kernel
theorem dX7_told_80 : decode cX7_told 80 = .ok (.aload_n 0, 1) := by decide +kernel
theorem dX7_told_81 : decode cX7_told 81 = .ok (.getfield 33, 3) := by decide +kernel
theorem dX7_told_84 : decode cX7_told 84 = .ok (.getfield 236, 3) := by decide +kernel
theorem dX7_told_87 : decode cX7_told 87 = .ok (.ireturn, 1) := by decide +kernel
theorem dX7_told_88 : decode cX7_told 88 = .ok (.aload_n 0, 1) := by decide +kernel
theorem dX7_told_89 : decode cX7_told 89 = .ok (.getfield 33, 3) := by decide +kernel
theorem dX7_told_92 : decode cX7_told 92 = .ok (.getfield 239, 3) := by decide +kernel
theorem dX7_told_95 : decode cX7_told 95 = .ok (.ireturn, 1) := by decide +kernel
theorem dX7_told_96 : decode cX7_told 96 = .ok (.aload_n 0, 1) := by decide +kernel
theorem dX7_told_97 : decode cX7_told 97 = .ok (.getfield 10, 3) := by decide +kernel
theorem dX7_told_100 : decode cX7_told 100 = .ok (.getfield 242, 3) := by decide +kernel
theorem dX7_told_103 : decode cX7_told 103 = .ok (.ireturn, 1) := by decide +kernel
theorem dX7_told_104 : decode cX7_told 104 = .ok (.aload_n 0, 1) := by decide +kernel
theorem dX7_told_105 : decode cX7_told 105 = .ok (.getfield 245, 3) := by decide +kernel
theorem dX7_told_108 : decode cX7_told 108 = .ok (.ireturn, 1) := by decide +kernel
theorem dX7_told_109 : decode cX7_told 109 = .ok (.aload_n 0, 1) := by decide +kernel
theorem dX7_told_110 : decode cX7_told 110 = .ok (.ldc 60, 2) := by decide +kernel
theorem dX7_told_112 : decode cX7_told 112 = .ok (.invokevirtual 48, 3) := by decide +kernel
theorem dX7_told_115 : decode cX7_told 115 = .ok (.ireturn, 1) := by decide +kernel
theorem dX7_counted_0 : decode cX7_counted 0 = .ok (.iload_n 1, 1) := by decide +kernel
theorem dX7_counted_1 : decode cX7_counted 1 = .ok (.ldc 248, 2) := by decide +kernel
theorem dX7_counted_3 : decode cX7_counted 3 = .ok (.if_icmp .ge 13, 3) := by decide +kernel
theorem dX7_counted_6 : decode cX7_counted 6 = .ok (.aload_n 0, 1) := by decide +kernel
theorem dX7_counted_7 : decode cX7_counted 7 = .ok (.dup, 1) := by decide +kernel
theorem dX7_counted_8 : decode cX7_counted 8 = .ok (.getfield 245, 3) := by decide +kernel
theorem dX7_counted_11 : decode cX7_counted 11 = .ok (.iconst 1, 1) := by decide +kernel
theorem dX7_counted_12 : decode cX7_counted 12 = .ok (.iadd, 1) := by decide +kernel
theorem dX7_counted_13 : decode cX7_counted 13 = .ok (.putfield 245, 3) := by decide +kernel
theorem dX7_counted_16 : decode cX7_counted 16 = .ok (.iload_n 1, 1) := by decide +kernel
theorem dX7_counted_17 : decode cX7_counted 17 = .ok (.ireturn, 1) := by decide +kernel
theorem dX7_sheetOf_0 : decode cX7_sheetOf 0 = .ok (.iload_n 1, 1) := by decide +kernel
theorem dX7_sheetOf_1 : decode cX7_sheetOf 1 = .ok (.ifCond .lt 21, 3) := by decide +kernel
theorem dX7_sheetOf_4 : decode cX7_sheetOf 4 = .ok (.iload_n 1, 1) := by decide +kernel
theorem dX7_sheetOf_5 : decode cX7_sheetOf 5 = .ok (.aload_n 0, 1) := by decide +kernel
theorem dX7_sheetOf_6 : decode cX7_sheetOf 6 = .ok (.getfield 39, 3) := by decide +kernel
theorem dX7_sheetOf_9 : decode cX7_sheetOf 9 = .ok (.arraylength, 1) := by decide +kernel
theorem dX7_sheetOf_10 : decode cX7_sheetOf 10 = .ok (.if_icmp .ge 12, 3) := by decide +kernel
theorem dX7_sheetOf_13 : decode cX7_sheetOf 13 = .ok (.aload_n 0, 1) := by decide +kernel
theorem dX7_sheetOf_14 : decode cX7_sheetOf 14 = .ok (.getfield 39, 3) := by decide +kernel
theorem dX7_sheetOf_17 : decode cX7_sheetOf 17 = .ok (.iload_n 1, 1) := by decide +kernel
theorem dX7_sheetOf_18 : decode cX7_sheetOf 18 = .ok (.aaload, 1) := by decide +kernel
theorem dX7_sheetOf_19 : decode cX7_sheetOf 19 = .ok (.goto 4, 3) := by decide +kernel
theorem dX7_sheetOf_22 : decode cX7_sheetOf 22 = .ok (.aconst_null, 1) := by decide +kernel
theorem dX7_sheetOf_23 : decode cX7_sheetOf 23 = .ok (.areturn, 1) := by decide +kernel
theorem dX7_isWithin_0 : decode cX7_isWithin 0 = .ok (.iload_n 0, 1) := by decide +kernel
theorem dX7_isWithin_1 : decode cX7_isWithin 1 = .ok (.iload_n 1, 1) := by decide +kernel
theorem dX7_isWithin_2 : decode cX7_isWithin 2 = .ok (.if_icmp .lt 12, 3) := by decide +kernel
theorem dX7_isWithin_5 : decode cX7_isWithin 5 = .ok (.iload_n 0, 1) := by decide +kernel
theorem dX7_isWithin_6 : decode cX7_isWithin 6 = .ok (.iload_n 2, 1) := by decide +kernel
theorem dX7_isWithin_7 : decode cX7_isWithin 7 = .ok (.if_icmp .gt 7, 3) := by decide +kernel
theorem dX7_isWithin_10 : decode cX7_isWithin 10 = .ok (.iconst 1, 1) := by decide +kernel
theorem dX7_isWithin_11 : decode cX7_isWithin 11 = .ok (.goto 4, 3) := by decide +kernel
theorem dX7_isWithin_14 : decode cX7_isWithin 14 = .ok (.iconst 0, 1) := by decide +kernel
theorem dX7_isWithin_15 : decode cX7_isWithin 15 = .ok (.ireturn, 1) := by decide +kernel
theorem dX7_areHours_0 : decode cX7_areHours 0 = .ok (.iload_n 0, 1) := by decide +kernel
theorem dX7_areHours_1 : decode cX7_areHours 1 = .ok (.ldc 249, 2) := by decide +kernel
theorem dX7_areHours_3 : decode cX7_areHours 3 = .ok (.iand, 1) := by decide +kernel
theorem dX7_areHours_4 : decode cX7_areHours 4 = .ok (.ifCond .ne 7, 3) := by decide +kernel
theorem dX7_areHours_7 : decode cX7_areHours 7 = .ok (.iconst 1, 1) := by decide +kernel
theorem dX7_areHours_8 : decode cX7_areHours 8 = .ok (.goto 4, 3) := by decide +kernel
theorem dX7_areHours_11 : decode cX7_areHours 11 = .ok (.iconst 0, 1) := by decide +kernel
theorem dX7_areHours_12 : decode cX7_areHours 12 = .ok (.ireturn, 1) := by decide +kernel
theorem dX7_isInSet_0 : decode cX7_isInSet 0 = .ok (.iload_n 1, 1) := by decide +kernel
theorem dX7_isInSet_1 : decode cX7_isInSet 1 = .ok (.iconst 0, 1) := by decide +kernel
theorem dX7_isInSet_2 : decode cX7_isInSet 2 = .ok (.bipush 7, 2) := by decide +kernel
theorem dX7_isInSet_4 : decode cX7_isInSet 4 = .ok (.invokestatic 77, 3) := by decide +kernel
theorem dX7_isInSet_7 : decode cX7_isInSet 7 = .ok (.ifCond .eq 15, 3) := by decide +kernel
theorem dX7_isInSet_10 : decode cX7_isInSet 10 = .ok (.iload_n 0, 1) := by decide +kernel
theorem dX7_isInSet_11 : decode cX7_isInSet 11 = .ok (.iload_n 1, 1) := by decide +kernel
theorem dX7_isInSet_12 : decode cX7_isInSet 12 = .ok (.ishr, 1) := by decide +kernel
theorem dX7_isInSet_13 : decode cX7_isInSet 13 = .ok (.iconst 1, 1) := by decide +kernel
theorem dX7_isInSet_14 : decode cX7_isInSet 14 = .ok (.iand, 1) := by decide +kernel
theorem dX7_isInSet_15 : decode cX7_isInSet 15 = .ok (.ifCond .eq 7, 3) := by decide +kernel
theorem dX7_isInSet_18 : decode cX7_isInSet 18 = .ok (.iconst 1, 1) := by decide +kernel
theorem dX7_isInSet_19 : decode cX7_isInSet 19 = .ok (.goto 4, 3) := by decide +kernel
theorem dX7_isInSet_22 : decode cX7_isInSet 22 = .ok (.iconst 0, 1) := by decide +kernel
theorem dX7_isInSet_23 : decode cX7_isInSet 23 = .ok (.ireturn, 1) := by decide +kernel
theorem dX8_init_0 : decode cX8_init 0 = .ok (.aload_n 0, 1) := by decide +kernel
theorem dX8_init_1 : decode cX8_init 1 = .ok (.invokespecial 1, 3) := by decide +kernel
theorem dX8_init_4 : decode cX8_init 4 = .ok (.aload_n 0, 1) := by decide +kernel
theorem dX8_init_5 : decode cX8_init 5 = .ok (.iconst 4, 1) := by decide +kernel
theorem dX8_init_6 : decode cX8_init 6 = .ok (.newarray .int, 2) := by decide +kernel
theorem dX8_init_8 : decode cX8_init 8 = .ok (.putfield 9, 3) := by decide +kernel
theorem dX8_init_11 : decode cX8_init 11 = .ok (.aload_n 0, 1) := by decide +kernel
theorem dX8_init_12 : decode cX8_init 12 = .ok (.iconst 4, 1) := by decide +kernel
theorem dX8_init_13 : decode cX8_init 13 = .ok (.newarray .int, 2) := by decide +kernel
theorem dX8_init_15 : decode cX8_init 15 = .ok (.putfield 13, 3) := by decide +kernel
theorem dX8_init_18 : decode cX8_init 18 = .ok (.aload_n 0, 1) := by decide +kernel
theorem dX8_init_19 : decode cX8_init 19 = .ok (.iconst 4, 1) := by decide +kernel
theorem dX8_init_20 : decode cX8_init 20 = .ok (.newarray .int, 2) := by decide +kernel
theorem dX8_init_22 : decode cX8_init 22 = .ok (.putfield 16, 3) := by decide +kernel
theorem dX8_init_25 : decode cX8_init 25 = .ok (.aload_n 0, 1) := by decide +kernel
theorem dX8_init_26 : decode cX8_init 26 = .ok (.iconst 4, 1) := by decide +kernel
theorem dX8_init_27 : decode cX8_init 27 = .ok (.newarray .int, 2) := by decide +kernel
theorem dX8_init_29 : decode cX8_init 29 = .ok (.putfield 19, 3) := by decide +kernel
theorem dX8_init_32 : decode cX8_init 32 = .ok (.aload_n 0, 1) := by decide +kernel
theorem dX8_init_33 : decode cX8_init 33 = .ok (.bipush 8, 2) := by decide +kernel
theorem dX8_init_35 : decode cX8_init 35 = .ok (.newarray .int, 2) := by decide +kernel
theorem dX8_init_37 : decode cX8_init 37 = .ok (.putfield 22, 3) := by decide +kernel
theorem dX8_init_40 : decode cX8_init 40 = .ok (.aload_n 0, 1) := by decide +kernel
theorem dX8_init_41 : decode cX8_init 41 = .ok (.bipush 8, 2) := by decide +kernel
theorem dX8_init_43 : decode cX8_init 43 = .ok (.newarray .int, 2) := by decide +kernel
theorem dX8_init_45 : decode cX8_init 45 = .ok (.putfield 25, 3) := by decide +kernel
theorem dX8_init_48 : decode cX8_init 48 = .ok (.aload_n 0, 1) := by decide +kernel
theorem dX8_init_49 : decode cX8_init 49 = .ok (.bipush 8, 2) := by decide +kernel
theorem dX8_init_51 : decode cX8_init 51 = .ok (.newarray .int, 2) := by decide +kernel
theorem dX8_init_53 : decode cX8_init 53 = .ok (.putfield 28, 3) := by decide +kernel
theorem dX8_init_56 : decode cX8_init 56 = .ok (.aload_n 0, 1) := by decide +kernel
theorem dX8_init_57 : decode cX8_init 57 = .ok (.bipush 8, 2) := by decide +kernel
theorem dX8_init_59 : decode cX8_init 59 = .ok (.newarray .boolean, 2) := by decide +kernel
theorem dX8_init_61 : decode cX8_init 61 = .ok (.putfield 31, 3) := by decide +kernel
theorem dX8_init_64 : decode cX8_init 64 = .ok (.aload_n 0, 1) := by decide +kernel
theorem dX8_init_65 : decode cX8_init 65 = .ok (.bipush 8, 2) := by decide +kernel
theorem dX8_init_67 : decode cX8_init 67 = .ok (.newarray .int, 2) := by decide +kernel
theorem dX8_init_69 : decode cX8_init 69 = .ok (.putfield 35, 3) := by decide +kernel
theorem dX8_init_72 : decode cX8_init 72 = .ok (.aload_n 0, 1) := by decide +kernel
theorem dX8_init_73 : decode cX8_init 73 = .ok (.bipush 8, 2) := by decide +kernel
theorem dX8_init_75 : decode cX8_init 75 = .ok (.newarray .int, 2) := by decide +kernel
theorem dX8_init_77 : decode cX8_init 77 = .ok (.putfield 38, 3) := by decide +kernel
theorem dX8_init_80 : decode cX8_init 80 = .ok (.aload_n 0, 1) := by decide +kernel
theorem dX8_init_81 : decode cX8_init 81 = .ok (.bipush 8, 2) := by decide +kernel
theorem dX8_init_83 : decode cX8_init 83 = .ok (.newarray .int, 2) := by decide +kernel
theorem dX8_init_85 : decode cX8_init 85 = .ok (.putfield 41, 3) := by decide +kernel
theorem dX8_init_88 : decode cX8_init 88 = .ok (.aload_n 0, 1) := by decide +kernel
theorem dX8_init_89 : decode cX8_init 89 = .ok (.bipush 8, 2) := by decide +kernel
theorem dX8_init_91 : decode cX8_init 91 = .ok (.newarray .int, 2) := by decide +kernel
theorem dX8_init_93 : decode cX8_init 93 = .ok (.putfield 44, 3) := by decide +kernel
theorem dX8_init_96 : decode cX8_init 96 = .ok (.aload_n 0, 1) := by decide +kernel
theorem dX8_init_97 : decode cX8_init 97 = .ok (.bipush 8, 2) := by decide +kernel
theorem dX8_init_99 : decode cX8_init 99 = .ok (.newarray .int, 2) := by decide +kernel
theorem dX8_init_101 : decode cX8_init 101 = .ok (.putfield 47, 3) := by decide +kernel
theorem dX8_init_104 : decode cX8_init 104 = .ok (.aload_n 0, 1) := by decide +kernel
theorem dX8_init_105 : decode cX8_init 105 = .ok (.iconst 4, 1) := by decide +kernel
theorem dX8_init_106 : decode cX8_init 106 = .ok (.newarray .int, 2) := by decide +kernel
theorem dX8_init_108 : decode cX8_init 108 = .ok (.putfield 50, 3) := by decide +kernel
theorem dX8_init_111 : decode cX8_init 111 = .ok (.aload_n 0, 1) := by decide +kernel
theorem dX8_init_112 : decode cX8_init 112 = .ok (.bipush 24, 2) := by decide +kernel
theorem dX8_init_114 : decode cX8_init 114 = .ok (.newarray .int, 2) := by decide +kernel
theorem dX8_init_116 : decode cX8_init 116 = .ok (.putfield 53, 3) := by decide +kernel
theorem dX8_init_119 : decode cX8_init 119 = .ok (.aload_n 0, 1) := by decide +kernel
theorem dX8_init_120 : decode cX8_init 120 = .ok (.ldc 56, 2) := by decide +kernel
theorem dX8_init_122 : decode cX8_init 122 = .ok (.putfield 57, 3) := by decide +kernel
theorem dX8_init_125 : decode cX8_init 125 = .ok (.aload_n 0, 1) := by decide +kernel
theorem dX8_init_126 : decode cX8_init 126 = .ok (.bipush 8, 2) := by decide +kernel
theorem dX8_init_128 : decode cX8_init 128 = .ok (.newarray .int, 2) := by decide +kernel
theorem dX8_init_130 : decode cX8_init 130 = .ok (.putfield 61, 3) := by decide +kernel
theorem dX8_init_133 : decode cX8_init 133 = .ok (.aload_n 0, 1) := by decide +kernel
theorem dX8_init_134 : decode cX8_init 134 = .ok (.bipush 8, 2) := by decide +kernel
theorem dX8_init_136 : decode cX8_init 136 = .ok (.newarray .int, 2) := by decide +kernel
theorem dX8_init_138 : decode cX8_init 138 = .ok (.putfield 64, 3) := by decide +kernel
theorem dX8_init_141 : decode cX8_init 141 = .ok (.aload_n 0, 1) := by decide +kernel
theorem dX8_init_142 : decode cX8_init 142 = .ok (.bipush 8, 2) := by decide +kernel
theorem dX8_init_144 : decode cX8_init 144 = .ok (.newarray .int, 2) := by decide +kernel
theorem dX8_init_146 : decode cX8_init 146 = .ok (.putfield 67, 3) := by decide +kernel
theorem dX8_init_149 : decode cX8_init 149 = .ok (.aload_n 0, 1) := by decide +kernel
theorem dX8_init_150 : decode cX8_init 150 = .ok (.bipush 80, 2) := by decide +kernel
theorem dX8_init_152 : decode cX8_init 152 = .ok (.newarray .int, 2) := by decide +kernel
theorem dX8_init_154 : decode cX8_init 154 = .ok (.putfield 70, 3) := by decide +kernel
theorem dX8_init_157 : decode cX8_init 157 = .ok (.aload_n 0, 1) := by decide +kernel
theorem dX8_init_158 : decode cX8_init 158 = .ok (.iconst 4, 1) := by decide +kernel
theorem dX8_init_159 : decode cX8_init 159 = .ok (.newarray .int, 2) := by decide +kernel
theorem dX8_init_161 : decode cX8_init 161 = .ok (.putfield 73, 3) := by decide +kernel
theorem dX8_init_164 : decode cX8_init 164 = .ok (.aload_n 0, 1) := by decide +kernel
theorem dX8_init_165 : decode cX8_init 165 = .ok (.iconst 4, 1) := by decide +kernel
theorem dX8_init_166 : decode cX8_init 166 = .ok (.newarray .int, 2) := by decide +kernel
theorem dX8_init_168 : decode cX8_init 168 = .ok (.putfield 76, 3) := by decide +kernel
theorem dX8_init_171 : decode cX8_init 171 = .ok (.aload_n 0, 1) := by decide +kernel
theorem dX8_init_172 : decode cX8_init 172 = .ok (.bipush 32, 2) := by decide +kernel
theorem dX8_init_174 : decode cX8_init 174 = .ok (.newarray .int, 2) := by decide +kernel
theorem dX8_init_176 : decode cX8_init 176 = .ok (.putfield 79, 3) := by decide +kernel
theorem dX8_init_179 : decode cX8_init 179 = .ok (.aload_n 0, 1) := by decide +kernel
theorem dX8_init_180 : decode cX8_init 180 = .ok (.bipush 6, 2) := by decide +kernel
theorem dX8_init_182 : decode cX8_init 182 = .ok (.newarray .int, 2) := by decide +kernel
theorem dX8_init_184 : decode cX8_init 184 = .ok (.putfield 82, 3) := by decide +kernel
theorem dX8_init_187 : decode cX8_init 187 = .ok (.aload_n 0, 1) := by decide +kernel
theorem dX8_init_188 : decode cX8_init 188 = .ok (.bipush 10, 2) := by decide +kernel
theorem dX8_init_190 : decode cX8_init 190 = .ok (.newarray .int, 2) := by decide +kernel
theorem dX8_init_192 : decode cX8_init 192 = .ok (.putfield 85, 3) := by decide +kernel
theorem dX8_init_195 : decode cX8_init 195 = .ok (.aload_n 0, 1) := by decide +kernel
theorem dX8_init_196 : decode cX8_init 196 = .ok (.bipush 11, 2) := by decide +kernel
theorem dX8_init_198 : decode cX8_init 198 = .ok (.newarray .int, 2) := by decide +kernel
theorem dX8_init_200 : decode cX8_init 200 = .ok (.putfield 88, 3) := by decide +kernel
theorem dX8_init_203 : decode cX8_init 203 = .ok (.aload_n 0, 1) := by decide +kernel
theorem dX8_init_204 : decode cX8_init 204 = .ok (.bipush 11, 2) := by decide +kernel
theorem dX8_init_206 : decode cX8_init 206 = .ok (.newarray .int, 2) := by decide +kernel
theorem dX8_init_208 : decode cX8_init 208 = .ok (.putfield 91, 3) := by decide +kernel
theorem dX8_init_211 : decode cX8_init 211 = .ok (.aload_n 0, 1) := by decide +kernel
theorem dX8_init_212 : decode cX8_init 212 = .ok (.bipush 11, 2) := by decide +kernel
theorem dX8_init_214 : decode cX8_init 214 = .ok (.newarray .int, 2) := by decide +kernel
theorem dX8_init_216 : decode cX8_init 216 = .ok (.putfield 94, 3) := by decide +kernel
theorem dX8_init_219 : decode cX8_init 219 = .ok (.aload_n 0, 1) := by decide +kernel
theorem dX8_init_220 : decode cX8_init 220 = .ok (.bipush 11, 2) := by decide +kernel
theorem dX8_init_222 : decode cX8_init 222 = .ok (.newarray .int, 2) := by decide +kernel
theorem dX8_init_224 : decode cX8_init 224 = .ok (.putfield 97, 3) := by decide +kernel
theorem dX8_init_227 : decode cX8_init 227 = .ok (.aload_n 0, 1) := by decide +kernel
theorem dX8_init_228 : decode cX8_init 228 = .ok (.bipush 6, 2) := by decide +kernel
theorem dX8_init_230 : decode cX8_init 230 = .ok (.newarray .int, 2) := by decide +kernel
theorem dX8_init_232 : decode cX8_init 232 = .ok (.putfield 100, 3) := by decide +kernel
theorem dX8_init_235 : decode cX8_init 235 = .ok (.aload_n 0, 1) := by decide +kernel
theorem dX8_init_236 : decode cX8_init 236 = .ok (.bipush 6, 2) := by decide +kernel
theorem dX8_init_238 : decode cX8_init 238 = .ok (.newarray .int, 2) := by decide +kernel
theorem dX8_init_240 : decode cX8_init 240 = .ok (.putfield 103, 3) := by decide +kernel
theorem dX8_init_243 : decode cX8_init 243 = .ok (.aload_n 0, 1) := by decide +kernel
theorem dX8_init_244 : decode cX8_init 244 = .ok (.bipush 8, 2) := by decide +kernel
theorem dX8_init_246 : decode cX8_init 246 = .ok (.newarray .int, 2) := by decide +kernel
theorem dX8_init_248 : decode cX8_init 248 = .ok (.putfield 106, 3) := by decide +kernel
theorem dX8_init_251 : decode cX8_init 251 = .ok (.aload_n 0, 1) := by decide +kernel
theorem dX8_init_252 : decode cX8_init 252 = .ok (.bipush 8, 2) := by decide +kernel
theorem dX8_init_254 : decode cX8_init 254 = .ok (.newarray .int, 2) := by decide +kernel
theorem dX8_init_256 : decode cX8_init 256 = .ok (.putfield 109, 3) := by decide +kernel
theorem dX8_init_259 : decode cX8_init 259 = .ok (.return_, 1) := by decide +kernel
theorem dX8_finding_0 : decode cX8_finding 0 = .ok (.aload_n 0, 1) := by decide +kernel
theorem dX8_finding_1 : decode cX8_finding 1 = .ok (.dup, 1) := by decide +kernel
theorem dX8_finding_2 : decode cX8_finding 2 = .ok (.getfield 112, 3) := by decide +kernel
theorem dX8_finding_5 : decode cX8_finding 5 = .ok (.iconst 1, 1) := by decide +kernel
theorem dX8_finding_6 : decode cX8_finding 6 = .ok (.iadd, 1) := by decide +kernel
theorem dX8_finding_7 : decode cX8_finding 7 = .ok (.putfield 112, 3) := by decide +kernel
theorem dX8_finding_10 : decode cX8_finding 10 = .ok (.iload_n 1, 1) := by decide +kernel
theorem dX8_finding_11 : decode cX8_finding 11 = .ok (.ireturn, 1) := by decide +kernel
theorem dX8_within_0 : decode cX8_within 0 = .ok (.iload_n 0, 1) := by decide +kernel
theorem dX8_within_1 : decode cX8_within 1 = .ok (.iload_n 1, 1) := by decide +kernel
theorem dX8_within_2 : decode cX8_within 2 = .ok (.if_icmp .lt 12, 3) := by decide +kernel
theorem dX8_within_5 : decode cX8_within 5 = .ok (.iload_n 0, 1) := by decide +kernel
theorem dX8_within_6 : decode cX8_within 6 = .ok (.iload_n 2, 1) := by decide +kernel
theorem dX8_within_7 : decode cX8_within 7 = .ok (.if_icmp .gt 7, 3) := by decide +kernel
theorem dX8_within_10 : decode cX8_within 10 = .ok (.iconst 1, 1) := by decide +kernel
theorem dX8_within_11 : decode cX8_within 11 = .ok (.goto 4, 3) := by decide +kernel
theorem dX8_within_14 : decode cX8_within 14 = .ok (.iconst 0, 1) := by decide +kernel
theorem dX8_within_15 : decode cX8_within 15 = .ok (.ireturn, 1) := by decide +kernel
theorem dX8_isBerth_0 : decode cX8_isBerth 0 = .ok (.iload_n 1, 1) := by decide +kernel
theorem dX8_isBerth_1 : decode cX8_isBerth 1 = .ok (.iconst 0, 1) := by decide +kernel
theorem dX8_isBerth_2 : decode cX8_isBerth 2 = .ok (.aload_n 0, 1) := by decide +kernel
theorem dX8_isBerth_3 : decode cX8_isBerth 3 = .ok (.getfield 115, 3) := by decide +kernel
theorem dX8_isBerth_6 : decode cX8_isBerth 6 = .ok (.iconst 1, 1) := by decide +kernel
theorem dX8_isBerth_7 : decode cX8_isBerth 7 = .ok (.isub, 1) := by decide +kernel
theorem dX8_isBerth_8 : decode cX8_isBerth 8 = .ok (.invokestatic 118, 3) := by decide +kernel
theorem dX8_isBerth_11 : decode cX8_isBerth 11 = .ok (.ireturn, 1) := by decide +kernel
theorem dX8_isBoat_0 : decode cX8_isBoat 0 = .ok (.iload_n 1, 1) := by decide +kernel
theorem dX8_isBoat_1 : decode cX8_isBoat 1 = .ok (.iconst 0, 1) := by decide +kernel
theorem dX8_isBoat_2 : decode cX8_isBoat 2 = .ok (.aload_n 0, 1) := by decide +kernel
theorem dX8_isBoat_3 : decode cX8_isBoat 3 = .ok (.getfield 122, 3) := by decide +kernel
theorem dX8_isBoat_6 : decode cX8_isBoat 6 = .ok (.iconst 1, 1) := by decide +kernel
theorem dX8_isBoat_7 : decode cX8_isBoat 7 = .ok (.isub, 1) := by decide +kernel
theorem dX8_isBoat_8 : decode cX8_isBoat 8 = .ok (.invokestatic 118, 3) := by decide +kernel
theorem dX8_isBoat_11 : decode cX8_isBoat 11 = .ok (.ireturn, 1) := by decide +kernel
theorem dX8_isHour_0 : decode cX8_isHour 0 = .ok (.iload_n 0, 1) := by decide +kernel
theorem dX8_isHour_1 : decode cX8_isHour 1 = .ok (.iconst 0, 1) := by decide +kernel
theorem dX8_isHour_2 : decode cX8_isHour 2 = .ok (.bipush 23, 2) := by decide +kernel
theorem dX8_isHour_4 : decode cX8_isHour 4 = .ok (.invokestatic 118, 3) := by decide +kernel
theorem dX8_isHour_7 : decode cX8_isHour 7 = .ok (.ireturn, 1) := by decide +kernel
theorem dX8_berth_0 : decode cX8_berth 0 = .ok (.iload_n 1, 1) := by decide +kernel
theorem dX8_berth_1 : decode cX8_berth 1 = .ok (.iconst 0, 1) := by decide +kernel
theorem dX8_berth_2 : decode cX8_berth 2 = .ok (.bipush 90, 2) := by decide +kernel
theorem dX8_berth_4 : decode cX8_berth 4 = .ok (.invokestatic 118, 3) := by decide +kernel
theorem dX8_berth_7 : decode cX8_berth 7 = .ok (.ifCond .eq 34, 3) := by decide +kernel
theorem dX8_berth_10 : decode cX8_berth 10 = .ok (.iload_n 2, 1) := by decide +kernel
theorem dX8_berth_11 : decode cX8_berth 11 = .ok (.iconst 0, 1) := by decide +kernel
theorem dX8_berth_12 : decode cX8_berth 12 = .ok (.bipush 9, 2) := by decide +kernel
theorem dX8_berth_14 : decode cX8_berth 14 = .ok (.invokestatic 118, 3) := by decide +kernel
theorem dX8_berth_17 : decode cX8_berth 17 = .ok (.ifCond .eq 24, 3) := by decide +kernel
theorem dX8_berth_20 : decode cX8_berth 20 = .ok (.iload_n 3, 1) := by decide +kernel
theorem dX8_berth_21 : decode cX8_berth 21 = .ok (.iconst 1, 1) := by decide +kernel
theorem dX8_berth_22 : decode cX8_berth 22 = .ok (.bipush 6, 2) := by decide +kernel
theorem dX8_berth_24 : decode cX8_berth 24 = .ok (.invokestatic 118, 3) := by decide +kernel
theorem dX8_berth_27 : decode cX8_berth 27 = .ok (.ifCond .eq 14, 3) := by decide +kernel
theorem dX8_berth_30 : decode cX8_berth 30 = .ok (.iload 4, 2) := by decide +kernel
theorem dX8_berth_32 : decode cX8_berth 32 = .ok (.iconst 0, 1) := by decide +kernel
theorem dX8_berth_33 : decode cX8_berth 33 = .ok (.bipush 6, 2) := by decide +kernel
theorem dX8_berth_35 : decode cX8_berth 35 = .ok (.invokestatic 118, 3) := by decide +kernel
theorem dX8_berth_38 : decode cX8_berth 38 = .ok (.ifCond .ne 10, 3) := by decide +kernel
theorem dX8_berth_41 : decode cX8_berth 41 = .ok (.aload_n 0, 1) := by decide +kernel
theorem dX8_berth_42 : decode cX8_berth 42 = .ok (.ldc 125, 2) := by decide +kernel
theorem dX8_berth_44 : decode cX8_berth 44 = .ok (.invokevirtual 126, 3) := by decide +kernel
theorem dX8_berth_47 : decode cX8_berth 47 = .ok (.ireturn, 1) := by decide +kernel
theorem dX8_berth_48 : decode cX8_berth 48 = .ok (.aload_n 0, 1) := by decide +kernel
theorem dX8_berth_49 : decode cX8_berth 49 = .ok (.getfield 115, 3) := by decide +kernel
theorem dX8_berth_52 : decode cX8_berth 52 = .ok (.iconst 4, 1) := by decide +kernel
theorem dX8_berth_53 : decode cX8_berth 53 = .ok (.if_icmp .ne 10, 3) := by decide +kernel
theorem dX8_berth_56 : decode cX8_berth 56 = .ok (.aload_n 0, 1) := by decide +kernel
theorem dX8_berth_57 : decode cX8_berth 57 = .ok (.ldc 130, 2) := by decide +kernel
theorem dX8_berth_59 : decode cX8_berth 59 = .ok (.invokevirtual 126, 3) := by decide +kernel
theorem dX8_berth_62 : decode cX8_berth 62 = .ok (.ireturn, 1) := by decide +kernel
theorem dX8_berth_63 : decode cX8_berth 63 = .ok (.aload_n 0, 1) := by decide +kernel
theorem dX8_berth_64 : decode cX8_berth 64 = .ok (.getfield 9, 3) := by decide +kernel
theorem dX8_berth_67 : decode cX8_berth 67 = .ok (.aload_n 0, 1) := by decide +kernel
theorem dX8_berth_68 : decode cX8_berth 68 = .ok (.getfield 115, 3) := by decide +kernel
theorem dX8_berth_71 : decode cX8_berth 71 = .ok (.iload_n 1, 1) := by decide +kernel
theorem dX8_berth_72 : decode cX8_berth 72 = .ok (.iastore, 1) := by decide +kernel
theorem dX8_berth_73 : decode cX8_berth 73 = .ok (.aload_n 0, 1) := by decide +kernel
theorem dX8_berth_74 : decode cX8_berth 74 = .ok (.getfield 13, 3) := by decide +kernel
theorem dX8_berth_77 : decode cX8_berth 77 = .ok (.aload_n 0, 1) := by decide +kernel
theorem dX8_berth_78 : decode cX8_berth 78 = .ok (.getfield 115, 3) := by decide +kernel
theorem dX8_berth_81 : decode cX8_berth 81 = .ok (.iload_n 2, 1) := by decide +kernel
theorem dX8_berth_82 : decode cX8_berth 82 = .ok (.iastore, 1) := by decide +kernel
theorem dX8_berth_83 : decode cX8_berth 83 = .ok (.aload_n 0, 1) := by decide +kernel
theorem dX8_berth_84 : decode cX8_berth 84 = .ok (.getfield 16, 3) := by decide +kernel
theorem dX8_berth_87 : decode cX8_berth 87 = .ok (.aload_n 0, 1) := by decide +kernel
theorem dX8_berth_88 : decode cX8_berth 88 = .ok (.getfield 115, 3) := by decide +kernel
theorem dX8_berth_91 : decode cX8_berth 91 = .ok (.iload_n 3, 1) := by decide +kernel
theorem dX8_berth_92 : decode cX8_berth 92 = .ok (.iastore, 1) := by decide +kernel
theorem dX8_berth_93 : decode cX8_berth 93 = .ok (.aload_n 0, 1) := by decide +kernel
theorem dX8_berth_94 : decode cX8_berth 94 = .ok (.getfield 19, 3) := by decide +kernel
theorem dX8_berth_97 : decode cX8_berth 97 = .ok (.aload_n 0, 1) := by decide +kernel
theorem dX8_berth_98 : decode cX8_berth 98 = .ok (.getfield 115, 3) := by decide +kernel
theorem dX8_berth_101 : decode cX8_berth 101 = .ok (.iload 4, 2) := by decide +kernel
theorem dX8_berth_103 : decode cX8_berth 103 = .ok (.iastore, 1) := by decide +kernel
theorem dX8_berth_104 : decode cX8_berth 104 = .ok (.aload_n 0, 1) := by decide +kernel
theorem dX8_berth_105 : decode cX8_berth 105 = .ok (.dup, 1) := by decide +kernel
theorem dX8_berth_106 : decode cX8_berth 106 = .ok (.getfield 115, 3) := by decide +kernel
theorem dX8_berth_109 : decode cX8_berth 109 = .ok (.iconst 1, 1) := by decide +kernel
theorem dX8_berth_110 : decode cX8_berth 110 = .ok (.iadd, 1) := by decide +kernel
theorem dX8_berth_111 : decode cX8_berth 111 = .ok (.putfield 115, 3) := by decide +kernel
theorem dX8_berth_114 : decode cX8_berth 114 = .ok (.aload_n 0, 1) := by decide +kernel
theorem dX8_berth_115 : decode cX8_berth 115 = .ok (.getfield 115, 3) := by decide +kernel
theorem dX8_berth_118 : decode cX8_berth 118 = .ok (.iconst 1, 1) := by decide +kernel
theorem dX8_berth_119 : decode cX8_berth 119 = .ok (.isub, 1) := by decide +kernel
theorem dX8_berth_120 : decode cX8_berth 120 = .ok (.ireturn, 1) := by decide +kernel
theorem dX8_boat_0 : decode cX8_boat 0 = .ok (.iload_n 1, 1) := by decide +kernel
theorem dX8_boat_1 : decode cX8_boat 1 = .ok (.iconst 0, 1) := by decide +kernel
theorem dX8_boat_2 : decode cX8_boat 2 = .ok (.iconst 3, 1) := by decide +kernel
theorem dX8_boat_3 : decode cX8_boat 3 = .ok (.invokestatic 118, 3) := by decide +kernel
theorem dX8_boat_6 : decode cX8_boat 6 = .ok (.ifCond .eq 23, 3) := by decide +kernel
theorem dX8_boat_9 : decode cX8_boat 9 = .ok (.iload_n 2, 1) := by decide +kernel
theorem dX8_boat_10 : decode cX8_boat 10 = .ok (.iconst 1, 1) := by decide +kernel
theorem dX8_boat_11 : decode cX8_boat 11 = .ok (.bipush 40, 2) := by decide +kernel
theorem dX8_boat_13 : decode cX8_boat 13 = .ok (.invokestatic 118, 3) := by decide +kernel
theorem dX8_boat_16 : decode cX8_boat 16 = .ok (.ifCond .eq 13, 3) := by decide +kernel
theorem dX8_boat_19 : decode cX8_boat 19 = .ok (.iload_n 3, 1) := by decide +kernel
theorem dX8_boat_20 : decode cX8_boat 20 = .ok (.iconst 0, 1) := by decide +kernel
theorem dX8_boat_21 : decode cX8_boat 21 = .ok (.bipush 99, 2) := by decide +kernel
theorem dX8_boat_23 : decode cX8_boat 23 = .ok (.invokestatic 118, 3) := by decide +kernel
theorem dX8_boat_26 : decode cX8_boat 26 = .ok (.ifCond .ne 10, 3) := by decide +kernel
theorem dX8_boat_29 : decode cX8_boat 29 = .ok (.aload_n 0, 1) := by decide +kernel
theorem dX8_boat_30 : decode cX8_boat 30 = .ok (.ldc 125, 2) := by decide +kernel
theorem dX8_boat_32 : decode cX8_boat 32 = .ok (.invokevirtual 126, 3) := by decide +kernel
theorem dX8_boat_35 : decode cX8_boat 35 = .ok (.ireturn, 1) := by decide +kernel
theorem dX8_boat_36 : decode cX8_boat 36 = .ok (.aload_n 0, 1) := by decide +kernel
theorem dX8_boat_37 : decode cX8_boat 37 = .ok (.getfield 122, 3) := by decide +kernel
theorem dX8_boat_40 : decode cX8_boat 40 = .ok (.bipush 8, 2) := by decide +kernel
theorem dX8_boat_42 : decode cX8_boat 42 = .ok (.if_icmp .ne 10, 3) := by decide +kernel
theorem dX8_boat_45 : decode cX8_boat 45 = .ok (.aload_n 0, 1) := by decide +kernel
theorem dX8_boat_46 : decode cX8_boat 46 = .ok (.ldc 130, 2) := by decide +kernel
theorem dX8_boat_48 : decode cX8_boat 48 = .ok (.invokevirtual 126, 3) := by decide +kernel
theorem dX8_boat_51 : decode cX8_boat 51 = .ok (.ireturn, 1) := by decide +kernel
theorem dX8_boat_52 : decode cX8_boat 52 = .ok (.aload_n 0, 1) := by decide +kernel
theorem dX8_boat_53 : decode cX8_boat 53 = .ok (.getfield 22, 3) := by decide +kernel
theorem dX8_boat_56 : decode cX8_boat 56 = .ok (.aload_n 0, 1) := by decide +kernel
theorem dX8_boat_57 : decode cX8_boat 57 = .ok (.getfield 122, 3) := by decide +kernel
theorem dX8_boat_60 : decode cX8_boat 60 = .ok (.iload_n 1, 1) := by decide +kernel
theorem dX8_boat_61 : decode cX8_boat 61 = .ok (.iastore, 1) := by decide +kernel
theorem dX8_boat_62 : decode cX8_boat 62 = .ok (.aload_n 0, 1) := by decide +kernel
theorem dX8_boat_63 : decode cX8_boat 63 = .ok (.getfield 25, 3) := by decide +kernel
theorem dX8_boat_66 : decode cX8_boat 66 = .ok (.aload_n 0, 1) := by decide +kernel
theorem dX8_boat_67 : decode cX8_boat 67 = .ok (.getfield 122, 3) := by decide +kernel
theorem dX8_boat_70 : decode cX8_boat 70 = .ok (.iload_n 2, 1) := by decide +kernel
theorem dX8_boat_71 : decode cX8_boat 71 = .ok (.iastore, 1) := by decide +kernel
theorem dX8_boat_72 : decode cX8_boat 72 = .ok (.aload_n 0, 1) := by decide +kernel
theorem dX8_boat_73 : decode cX8_boat 73 = .ok (.getfield 28, 3) := by decide +kernel
theorem dX8_boat_76 : decode cX8_boat 76 = .ok (.aload_n 0, 1) := by decide +kernel
theorem dX8_boat_77 : decode cX8_boat 77 = .ok (.getfield 122, 3) := by decide +kernel
theorem dX8_boat_80 : decode cX8_boat 80 = .ok (.iload_n 3, 1) := by decide +kernel
theorem dX8_boat_81 : decode cX8_boat 81 = .ok (.iastore, 1) := by decide +kernel
theorem dX8_boat_82 : decode cX8_boat 82 = .ok (.aload_n 0, 1) := by decide +kernel
theorem dX8_boat_83 : decode cX8_boat 83 = .ok (.getfield 31, 3) := by decide +kernel
theorem dX8_boat_86 : decode cX8_boat 86 = .ok (.aload_n 0, 1) := by decide +kernel
theorem dX8_boat_87 : decode cX8_boat 87 = .ok (.getfield 122, 3) := by decide +kernel
theorem dX8_boat_90 : decode cX8_boat 90 = .ok (.iload 4, 2) := by decide +kernel
theorem dX8_boat_92 : decode cX8_boat 92 = .ok (.bastore, 1) := by decide +kernel
theorem dX8_boat_93 : decode cX8_boat 93 = .ok (.aload_n 0, 1) := by decide +kernel
theorem dX8_boat_94 : decode cX8_boat 94 = .ok (.getfield 38, 3) := by decide +kernel
theorem dX8_boat_97 : decode cX8_boat 97 = .ok (.aload_n 0, 1) := by decide +kernel
theorem dX8_boat_98 : decode cX8_boat 98 = .ok (.getfield 122, 3) := by decide +kernel
theorem dX8_boat_101 : decode cX8_boat 101 = .ok (.bipush 23, 2) := by decide +kernel
theorem dX8_boat_103 : decode cX8_boat 103 = .ok (.iastore, 1) := by decide +kernel
theorem dX8_boat_104 : decode cX8_boat 104 = .ok (.aload_n 0, 1) := by decide +kernel
theorem dX8_boat_105 : decode cX8_boat 105 = .ok (.getfield 41, 3) := by decide +kernel
theorem dX8_boat_108 : decode cX8_boat 108 = .ok (.aload_n 0, 1) := by decide +kernel
theorem dX8_boat_109 : decode cX8_boat 109 = .ok (.getfield 122, 3) := by decide +kernel
theorem dX8_boat_112 : decode cX8_boat 112 = .ok (.ldc 56, 2) := by decide +kernel
theorem dX8_boat_114 : decode cX8_boat 114 = .ok (.iastore, 1) := by decide +kernel
theorem dX8_boat_115 : decode cX8_boat 115 = .ok (.aload_n 0, 1) := by decide +kernel
theorem dX8_boat_116 : decode cX8_boat 116 = .ok (.dup, 1) := by decide +kernel
theorem dX8_boat_117 : decode cX8_boat 117 = .ok (.getfield 122, 3) := by decide +kernel
theorem dX8_boat_120 : decode cX8_boat 120 = .ok (.iconst 1, 1) := by decide +kernel
theorem dX8_boat_121 : decode cX8_boat 121 = .ok (.iadd, 1) := by decide +kernel
theorem dX8_boat_122 : decode cX8_boat 122 = .ok (.putfield 122, 3) := by decide +kernel
theorem dX8_boat_125 : decode cX8_boat 125 = .ok (.aload_n 0, 1) := by decide +kernel
theorem dX8_boat_126 : decode cX8_boat 126 = .ok (.getfield 122, 3) := by decide +kernel
theorem dX8_boat_129 : decode cX8_boat 129 = .ok (.iconst 1, 1) := by decide +kernel
theorem dX8_boat_130 : decode cX8_boat 130 = .ok (.isub, 1) := by decide +kernel
theorem dX8_boat_131 : decode cX8_boat 131 = .ok (.ireturn, 1) := by decide +kernel
theorem dX8_leaves_0 : decode cX8_leaves 0 = .ok (.aload_n 0, 1) := by decide +kernel
theorem dX8_leaves_1 : decode cX8_leaves 1 = .ok (.iload_n 1, 1) := by decide +kernel
theorem dX8_leaves_2 : decode cX8_leaves 2 = .ok (.invokevirtual 131, 3) := by decide +kernel
theorem dX8_leaves_5 : decode cX8_leaves 5 = .ok (.ifCond .eq 22, 3) := by decide +kernel
theorem dX8_leaves_8 : decode cX8_leaves 8 = .ok (.iload_n 2, 1) := by decide +kernel
theorem dX8_leaves_9 : decode cX8_leaves 9 = .ok (.invokestatic 135, 3) := by decide +kernel
theorem dX8_leaves_12 : decode cX8_leaves 12 = .ok (.ifCond .eq 15, 3) := by decide +kernel
theorem dX8_leaves_15 : decode cX8_leaves 15 = .ok (.iload_n 3, 1) := by decide +kernel
theorem dX8_leaves_16 : decode cX8_leaves 16 = .ok (.invokestatic 135, 3) := by decide +kernel
theorem dX8_leaves_19 : decode cX8_leaves 19 = .ok (.ifCond .eq 8, 3) := by decide +kernel
theorem dX8_leaves_22 : decode cX8_leaves 22 = .ok (.iload_n 2, 1) := by decide +kernel
theorem dX8_leaves_23 : decode cX8_leaves 23 = .ok (.iload_n 3, 1) := by decide +kernel
theorem dX8_leaves_24 : decode cX8_leaves 24 = .ok (.if_icmp .le 10, 3) := by decide +kernel
theorem dX8_leaves_27 : decode cX8_leaves 27 = .ok (.aload_n 0, 1) := by decide +kernel
theorem dX8_leaves_28 : decode cX8_leaves 28 = .ok (.ldc 125, 2) := by decide +kernel
theorem dX8_leaves_30 : decode cX8_leaves 30 = .ok (.invokevirtual 126, 3) := by decide +kernel
theorem dX8_leaves_33 : decode cX8_leaves 33 = .ok (.ireturn, 1) := by decide +kernel
theorem dX8_leaves_34 : decode cX8_leaves 34 = .ok (.aload_n 0, 1) := by decide +kernel
theorem dX8_leaves_35 : decode cX8_leaves 35 = .ok (.getfield 35, 3) := by decide +kernel
theorem dX8_leaves_38 : decode cX8_leaves 38 = .ok (.iload_n 1, 1) := by decide +kernel
theorem dX8_leaves_39 : decode cX8_leaves 39 = .ok (.iload_n 2, 1) := by decide +kernel
theorem dX8_leaves_40 : decode cX8_leaves 40 = .ok (.iastore, 1) := by decide +kernel
theorem dX8_leaves_41 : decode cX8_leaves 41 = .ok (.aload_n 0, 1) := by decide +kernel
theorem dX8_leaves_42 : decode cX8_leaves 42 = .ok (.getfield 38, 3) := by decide +kernel
theorem dX8_leaves_45 : decode cX8_leaves 45 = .ok (.iload_n 1, 1) := by decide +kernel
theorem dX8_leaves_46 : decode cX8_leaves 46 = .ok (.iload_n 3, 1) := by decide +kernel
theorem dX8_leaves_47 : decode cX8_leaves 47 = .ok (.iastore, 1) := by decide +kernel
theorem dX8_leaves_48 : decode cX8_leaves 48 = .ok (.iconst 1, 1) := by decide +kernel
theorem dX8_leaves_49 : decode cX8_leaves 49 = .ok (.ireturn, 1) := by decide +kernel
theorem dX8_aboard_0 : decode cX8_aboard 0 = .ok (.aload_n 0, 1) := by decide +kernel
theorem dX8_aboard_1 : decode cX8_aboard 1 = .ok (.iload_n 1, 1) := by decide +kernel
theorem dX8_aboard_2 : decode cX8_aboard 2 = .ok (.invokevirtual 131, 3) := by decide +kernel
theorem dX8_aboard_5 : decode cX8_aboard 5 = .ok (.ifCond .eq 13, 3) := by decide +kernel
theorem dX8_aboard_8 : decode cX8_aboard 8 = .ok (.iload_n 2, 1) := by decide +kernel
theorem dX8_aboard_9 : decode cX8_aboard 9 = .ok (.iconst 0, 1) := by decide +kernel
theorem dX8_aboard_10 : decode cX8_aboard 10 = .ok (.ldc 56, 2) := by decide +kernel
theorem dX8_aboard_12 : decode cX8_aboard 12 = .ok (.invokestatic 118, 3) := by decide +kernel
theorem dX8_aboard_15 : decode cX8_aboard 15 = .ok (.ifCond .ne 10, 3) := by decide +kernel
theorem dX8_aboard_18 : decode cX8_aboard 18 = .ok (.aload_n 0, 1) := by decide +kernel
theorem dX8_aboard_19 : decode cX8_aboard 19 = .ok (.ldc 125, 2) := by decide +kernel
theorem dX8_aboard_21 : decode cX8_aboard 21 = .ok (.invokevirtual 126, 3) := by decide +kernel
theorem dX8_aboard_24 : decode cX8_aboard 24 = .ok (.ireturn, 1) := by decide +kernel
theorem dX8_aboard_25 : decode cX8_aboard 25 = .ok (.aload_n 0, 1) := by decide +kernel
theorem dX8_aboard_26 : decode cX8_aboard 26 = .ok (.getfield 41, 3) := by decide +kernel
theorem dX8_aboard_29 : decode cX8_aboard 29 = .ok (.iload_n 1, 1) := by decide +kernel
theorem dX8_aboard_30 : decode cX8_aboard 30 = .ok (.iaload, 1) := by decide +kernel
theorem dX8_aboard_31 : decode cX8_aboard 31 = .ok (.istore_n 3, 1) := by decide +kernel
theorem dX8_aboard_32 : decode cX8_aboard 32 = .ok (.aload_n 0, 1) := by decide +kernel
theorem dX8_aboard_33 : decode cX8_aboard 33 = .ok (.getfield 41, 3) := by decide +kernel
theorem dX8_aboard_36 : decode cX8_aboard 36 = .ok (.iload_n 1, 1) := by decide +kernel
theorem dX8_aboard_37 : decode cX8_aboard 37 = .ok (.iload_n 2, 1) := by decide +kernel
theorem dX8_aboard_38 : decode cX8_aboard 38 = .ok (.iastore, 1) := by decide +kernel
theorem dX8_aboard_39 : decode cX8_aboard 39 = .ok (.iload_n 3, 1) := by decide +kernel
theorem dX8_aboard_40 : decode cX8_aboard 40 = .ok (.ireturn, 1) := by decide +kernel
theorem dX8_over_0 : decode cX8_over 0 = .ok (.iload_n 1, 1) := by decide +kernel
theorem dX8_over_1 : decode cX8_over 1 = .ok (.iconst 0, 1) := by decide +kernel
theorem dX8_over_2 : decode cX8_over 2 = .ok (.bipush 20, 2) := by decide +kernel
theorem dX8_over_4 : decode cX8_over 4 = .ok (.invokestatic 118, 3) := by decide +kernel
theorem dX8_over_7 : decode cX8_over 7 = .ok (.ifCond .ne 10, 3) := by decide +kernel
theorem dX8_over_10 : decode cX8_over 10 = .ok (.aload_n 0, 1) := by decide +kernel
theorem dX8_over_11 : decode cX8_over 11 = .ok (.ldc 125, 2) := by decide +kernel
theorem dX8_over_13 : decode cX8_over 13 = .ok (.invokevirtual 126, 3) := by decide +kernel
theorem dX8_over_16 : decode cX8_over 16 = .ok (.ireturn, 1) := by decide +kernel
theorem dX8_over_17 : decode cX8_over 17 = .ok (.aload_n 0, 1) := by decide +kernel
theorem dX8_over_18 : decode cX8_over 18 = .ok (.getfield 138, 3) := by decide +kernel
theorem dX8_over_21 : decode cX8_over 21 = .ok (.istore_n 2, 1) := by decide +kernel
theorem dX8_over_22 : decode cX8_over 22 = .ok (.aload_n 0, 1) := by decide +kernel
theorem dX8_over_23 : decode cX8_over 23 = .ok (.iload_n 1, 1) := by decide +kernel
theorem dX8_over_24 : decode cX8_over 24 = .ok (.putfield 138, 3) := by decide +kernel
theorem dX8_over_27 : decode cX8_over 27 = .ok (.iload_n 2, 1) := by decide +kernel
theorem dX8_over_28 : decode cX8_over 28 = .ok (.ireturn, 1) := by decide +kernel
theorem dX8_isUnder_0 : decode cX8_isUnder 0 = .ok (.iload_n 1, 1) := by decide +kernel
theorem dX8_isUnder_1 : decode cX8_isUnder 1 = .ok (.ifCond .eq 18, 3) := by decide +kernel
theorem dX8_isUnder_4 : decode cX8_isUnder 4 = .ok (.iload_n 0, 1) := by decide +kernel
theorem dX8_isUnder_5 : decode cX8_isUnder 5 = .ok (.iload_n 1, 1) := by decide +kernel
theorem dX8_isUnder_6 : decode cX8_isUnder 6 = .ok (.if_icmp .eq 13, 3) := by decide +kernel
theorem dX8_isUnder_9 : decode cX8_isUnder 9 = .ok (.iload_n 1, 1) := by decide +kernel
theorem dX8_isUnder_10 : decode cX8_isUnder 10 = .ok (.iconst 2, 1) := by decide +kernel
theorem dX8_isUnder_11 : decode cX8_isUnder 11 = .ok (.if_icmp .ne 12, 3) := by decide +kernel
theorem dX8_isUnder_14 : decode cX8_isUnder 14 = .ok (.iload_n 0, 1) := by decide +kernel
theorem dX8_isUnder_15 : decode cX8_isUnder 15 = .ok (.iconst 3, 1) := by decide +kernel
theorem dX8_isUnder_16 : decode cX8_isUnder 16 = .ok (.if_icmp .ne 7, 3) := by decide +kernel
theorem dX8_isUnder_19 : decode cX8_isUnder 19 = .ok (.iconst 1, 1) := by decide +kernel
theorem dX8_isUnder_20 : decode cX8_isUnder 20 = .ok (.goto 4, 3) := by decide +kernel
theorem dX8_isUnder_23 : decode cX8_isUnder 23 = .ok (.iconst 0, 1) := by decide +kernel
theorem dX8_isUnder_24 : decode cX8_isUnder 24 = .ok (.ireturn, 1) := by decide +kernel
theorem dX8_as_0 : decode cX8_as 0 = .ok (.aload_n 0, 1) := by decide +kernel
theorem dX8_as_1 : decode cX8_as 1 = .ok (.iload_n 1, 1) := by decide +kernel
theorem dX8_as_2 : decode cX8_as 2 = .ok (.invokevirtual 131, 3) := by decide +kernel
theorem dX8_as_5 : decode cX8_as 5 = .ok (.ifCond .eq 12, 3) := by decide +kernel
theorem dX8_as_8 : decode cX8_as 8 = .ok (.iload_n 2, 1) := by decide +kernel
theorem dX8_as_9 : decode cX8_as 9 = .ok (.iconst 0, 1) := by decide +kernel
theorem dX8_as_10 : decode cX8_as 10 = .ok (.iconst 3, 1) := by decide +kernel
theorem dX8_as_11 : decode cX8_as 11 = .ok (.invokestatic 118, 3) := by decide +kernel
theorem dX8_as_14 : decode cX8_as 14 = .ok (.ifCond .ne 10, 3) := by decide +kernel
theorem dX8_as_17 : decode cX8_as 17 = .ok (.aload_n 0, 1) := by decide +kernel
theorem dX8_as_18 : decode cX8_as 18 = .ok (.ldc 125, 2) := by decide +kernel
theorem dX8_as_20 : decode cX8_as 20 = .ok (.invokevirtual 126, 3) := by decide +kernel
theorem dX8_as_23 : decode cX8_as 23 = .ok (.ireturn, 1) := by decide +kernel
theorem dX8_as_24 : decode cX8_as 24 = .ok (.aload_n 0, 1) := by decide +kernel
theorem dX8_as_25 : decode cX8_as 25 = .ok (.getfield 22, 3) := by decide +kernel
theorem dX8_as_28 : decode cX8_as 28 = .ok (.iload_n 1, 1) := by decide +kernel
theorem dX8_as_29 : decode cX8_as 29 = .ok (.iaload, 1) := by decide +kernel
theorem dX8_as_30 : decode cX8_as 30 = .ok (.iload_n 2, 1) := by decide +kernel
theorem dX8_as_31 : decode cX8_as 31 = .ok (.invokestatic 141, 3) := by decide +kernel
theorem dX8_as_34 : decode cX8_as 34 = .ok (.ifCond .eq 7, 3) := by decide +kernel
theorem dX8_as_37 : decode cX8_as 37 = .ok (.iload_n 1, 1) := by decide +kernel
theorem dX8_as_38 : decode cX8_as 38 = .ok (.goto 9, 3) := by decide +kernel
theorem dX8_as_41 : decode cX8_as 41 = .ok (.aload_n 0, 1) := by decide +kernel
theorem dX8_as_42 : decode cX8_as 42 = .ok (.ldc 145, 2) := by decide +kernel
theorem dX8_as_44 : decode cX8_as 44 = .ok (.invokevirtual 126, 3) := by decide +kernel
theorem dX8_as_47 : decode cX8_as 47 = .ok (.ireturn, 1) := by decide +kernel
theorem dX8_spotOf_0 : decode cX8_spotOf 0 = .ok (.iconst 0, 1) := by decide +kernel
theorem dX8_spotOf_1 : decode cX8_spotOf 1 = .ok (.istore_n 2, 1) := by decide +kernel
theorem dX8_spotOf_2 : decode cX8_spotOf 2 = .ok (.iload_n 2, 1) := by decide +kernel
theorem dX8_spotOf_3 : decode cX8_spotOf 3 = .ok (.aload_n 0, 1) := by decide +kernel
theorem dX8_spotOf_4 : decode cX8_spotOf 4 = .ok (.getfield 115, 3) := by decide +kernel
theorem dX8_spotOf_7 : decode cX8_spotOf 7 = .ok (.if_icmp .ge 49, 3) := by decide +kernel
theorem dX8_spotOf_10 : decode cX8_spotOf 10 = .ok (.iconst 0, 1) := by decide +kernel
theorem dX8_spotOf_11 : decode cX8_spotOf 11 = .ok (.istore_n 3, 1) := by decide +kernel
theorem dX8_spotOf_12 : decode cX8_spotOf 12 = .ok (.iload_n 3, 1) := by decide +kernel
theorem dX8_spotOf_13 : decode cX8_spotOf 13 = .ok (.aload_n 0, 1) := by decide +kernel
theorem dX8_spotOf_14 : decode cX8_spotOf 14 = .ok (.getfield 50, 3) := by decide +kernel
