theorem dX0_init_0 : decode cX0_init 0 = .ok (.aload_n 0, 1) := by decide +kernel
theorem dX0_init_1 : decode cX0_init 1 = .ok (.invokespecial 3, 3) := by decide +kernel
theorem dX0_init_4 : decode cX0_init 4 = .ok (.aload_n 0, 1) := by decide +kernel
theorem dX0_init_5 : decode cX0_init 5 = .ok (.bipush 8, 2) := by decide +kernel
theorem dX0_init_7 : decode cX0_init 7 = .ok (.newarray .long, 2) := by decide +kernel
theorem dX0_init_9 : decode cX0_init 9 = .ok (.putfield 9, 3) := by decide +kernel
theorem dX0_init_12 : decode cX0_init 12 = .ok (.aload_n 0, 1) := by decide +kernel
theorem dX0_init_13 : decode cX0_init 13 = .ok (.iconst (-1), 1) := by decide +kernel
theorem dX0_init_14 : decode cX0_init 14 = .ok (.putfield 15, 3) := by decide +kernel
theorem dX0_init_17 : decode cX0_init 17 = .ok (.return_, 1) := by decide +kernel
theorem dX0_startOver_0 : decode cX0_startOver 0 = .ok (.aload_n 0, 1) := by decide +kernel
theorem dX0_startOver_1 : decode cX0_startOver 1 = .ok (.iload_n 1, 1) := by decide +kernel
theorem dX0_startOver_2 : decode cX0_startOver 2 = .ok (.putfield 19, 3) := by decide +kernel
theorem dX0_startOver_5 : decode cX0_startOver 5 = .ok (.aload_n 0, 1) := by decide +kernel
theorem dX0_startOver_6 : decode cX0_startOver 6 = .ok (.iload_n 2, 1) := by decide +kernel
theorem dX0_startOver_7 : decode cX0_startOver 7 = .ok (.putfield 15, 3) := by decide +kernel
theorem dX0_startOver_10 : decode cX0_startOver 10 = .ok (.aload_n 0, 1) := by decide +kernel
theorem dX0_startOver_11 : decode cX0_startOver 11 = .ok (.lload_n 3, 1) := by decide +kernel
theorem dX0_startOver_12 : decode cX0_startOver 12 = .ok (.putfield 22, 3) := by decide +kernel
theorem dX0_startOver_15 : decode cX0_startOver 15 = .ok (.aload_n 0, 1) := by decide +kernel
theorem dX0_startOver_16 : decode cX0_startOver 16 = .ok (.iconst 0, 1) := by decide +kernel
theorem dX0_startOver_17 : decode cX0_startOver 17 = .ok (.putfield 26, 3) := by decide +kernel
theorem dX0_startOver_20 : decode cX0_startOver 20 = .ok (.aload_n 0, 1) := by decide +kernel
theorem dX0_startOver_21 : decode cX0_startOver 21 = .ok (.iconst 0, 1) := by decide +kernel
theorem dX0_startOver_22 : decode cX0_startOver 22 = .ok (.putfield 29, 3) := by decide +kernel
theorem dX0_startOver_25 : decode cX0_startOver 25 = .ok (.aload_n 0, 1) := by decide +kernel
theorem dX0_startOver_26 : decode cX0_startOver 26 = .ok (.iconst 1, 1) := by decide +kernel
theorem dX0_startOver_27 : decode cX0_startOver 27 = .ok (.putfield 32, 3) := by decide +kernel
theorem dX0_startOver_30 : decode cX0_startOver 30 = .ok (.aload_n 0, 1) := by decide +kernel
theorem dX0_startOver_31 : decode cX0_startOver 31 = .ok (.getfield 9, 3) := by decide +kernel
theorem dX0_startOver_34 : decode cX0_startOver 34 = .ok (.lconst 0, 1) := by decide +kernel
theorem dX0_startOver_35 : decode cX0_startOver 35 = .ok (.invokestatic 36, 3) := by decide +kernel
theorem dX0_startOver_38 : decode cX0_startOver 38 = .ok (.return_, 1) := by decide +kernel
theorem dX0_become_0 : decode cX0_become 0 = .ok (.aload_n 0, 1) := by decide +kernel
theorem dX0_become_1 : decode cX0_become 1 = .ok (.aload_n 1, 1) := by decide +kernel
theorem dX0_become_2 : decode cX0_become 2 = .ok (.getfield 19, 3) := by decide +kernel
theorem dX0_become_5 : decode cX0_become 5 = .ok (.putfield 19, 3) := by decide +kernel
theorem dX0_become_8 : decode cX0_become 8 = .ok (.aload_n 0, 1) := by decide +kernel
theorem dX0_become_9 : decode cX0_become 9 = .ok (.aload_n 1, 1) := by decide +kernel
theorem dX0_become_10 : decode cX0_become 10 = .ok (.getfield 15, 3) := by decide +kernel
theorem dX0_become_13 : decode cX0_become 13 = .ok (.putfield 15, 3) := by decide +kernel
theorem dX0_become_16 : decode cX0_become 16 = .ok (.aload_n 0, 1) := by decide +kernel
theorem dX0_become_17 : decode cX0_become 17 = .ok (.aload_n 1, 1) := by decide +kernel
theorem dX0_become_18 : decode cX0_become 18 = .ok (.getfield 22, 3) := by decide +kernel
theorem dX0_become_21 : decode cX0_become 21 = .ok (.putfield 22, 3) := by decide +kernel
theorem dX0_become_24 : decode cX0_become 24 = .ok (.aload_n 0, 1) := by decide +kernel
theorem dX0_become_25 : decode cX0_become 25 = .ok (.aload_n 1, 1) := by decide +kernel
theorem dX0_become_26 : decode cX0_become 26 = .ok (.getfield 26, 3) := by decide +kernel
theorem dX0_become_29 : decode cX0_become 29 = .ok (.putfield 26, 3) := by decide +kernel
theorem dX0_become_32 : decode cX0_become 32 = .ok (.aload_n 0, 1) := by decide +kernel
theorem dX0_become_33 : decode cX0_become 33 = .ok (.aload_n 1, 1) := by decide +kernel
theorem dX0_become_34 : decode cX0_become 34 = .ok (.getfield 29, 3) := by decide +kernel
theorem dX0_become_37 : decode cX0_become 37 = .ok (.putfield 29, 3) := by decide +kernel
theorem dX0_become_40 : decode cX0_become 40 = .ok (.aload_n 1, 1) := by decide +kernel
theorem dX0_become_41 : decode cX0_become 41 = .ok (.getfield 9, 3) := by decide +kernel
theorem dX0_become_44 : decode cX0_become 44 = .ok (.iconst 0, 1) := by decide +kernel
theorem dX0_become_45 : decode cX0_become 45 = .ok (.aload_n 0, 1) := by decide +kernel
theorem dX0_become_46 : decode cX0_become 46 = .ok (.getfield 9, 3) := by decide +kernel
theorem dX0_become_49 : decode cX0_become 49 = .ok (.iconst 0, 1) := by decide +kernel
theorem dX0_become_50 : decode cX0_become 50 = .ok (.bipush 8, 2) := by decide +kernel
theorem dX0_become_52 : decode cX0_become 52 = .ok (.invokestatic 42, 3) := by decide +kernel
theorem dX0_become_55 : decode cX0_become 55 = .ok (.return_, 1) := by decide +kernel
theorem dX1_init_0 : decode cX1_init 0 = .ok (.aload_n 0, 1) := by decide +kernel
theorem dX1_init_1 : decode cX1_init 1 = .ok (.invokespecial 3, 3) := by decide +kernel
theorem dX1_init_4 : decode cX1_init 4 = .ok (.aload_n 0, 1) := by decide +kernel
theorem dX1_init_5 : decode cX1_init 5 = .ok (.iload_n 1, 1) := by decide +kernel
theorem dX1_init_6 : decode cX1_init 6 = .ok (.putfield 9, 3) := by decide +kernel
theorem dX1_init_9 : decode cX1_init 9 = .ok (.aload_n 0, 1) := by decide +kernel
theorem dX1_init_10 : decode cX1_init 10 = .ok (.aload_n 2, 1) := by decide +kernel
theorem dX1_init_11 : decode cX1_init 11 = .ok (.putfield 15, 3) := by decide +kernel
theorem dX1_init_14 : decode cX1_init 14 = .ok (.aload_n 0, 1) := by decide +kernel
theorem dX1_init_15 : decode cX1_init 15 = .ok (.aload_n 3, 1) := by decide +kernel
theorem dX1_init_16 : decode cX1_init 16 = .ok (.putfield 19, 3) := by decide +kernel
theorem dX1_init_19 : decode cX1_init 19 = .ok (.aload_n 0, 1) := by decide +kernel
theorem dX1_init_20 : decode cX1_init 20 = .ok (.new 22, 3) := by decide +kernel
theorem dX1_init_23 : decode cX1_init 23 = .ok (.dup, 1) := by decide +kernel
theorem dX1_init_24 : decode cX1_init 24 = .ok (.invokespecial 24, 3) := by decide +kernel
theorem dX1_init_27 : decode cX1_init 27 = .ok (.putfield 25, 3) := by decide +kernel
theorem dX1_init_30 : decode cX1_init 30 = .ok (.aload_n 0, 1) := by decide +kernel
theorem dX1_init_31 : decode cX1_init 31 = .ok (.bipush 8, 2) := by decide +kernel
theorem dX1_init_33 : decode cX1_init 33 = .ok (.newarray .int, 2) := by decide +kernel
theorem dX1_init_35 : decode cX1_init 35 = .ok (.putfield 29, 3) := by decide +kernel
theorem dX1_init_38 : decode cX1_init 38 = .ok (.aload_n 0, 1) := by decide +kernel
theorem dX1_init_39 : decode cX1_init 39 = .ok (.getfield 29, 3) := by decide +kernel
theorem dX1_init_42 : decode cX1_init 42 = .ok (.iconst (-1), 1) := by decide +kernel
theorem dX1_init_43 : decode cX1_init 43 = .ok (.invokestatic 33, 3) := by decide +kernel
theorem dX1_init_46 : decode cX1_init 46 = .ok (.aload_n 0, 1) := by decide +kernel
theorem dX1_init_47 : decode cX1_init 47 = .ok (.iconst 4, 1) := by decide +kernel
theorem dX1_init_48 : decode cX1_init 48 = .ok (.newarray .int, 2) := by decide +kernel
theorem dX1_init_50 : decode cX1_init 50 = .ok (.putfield 39, 3) := by decide +kernel
theorem dX1_init_53 : decode cX1_init 53 = .ok (.aload_n 0, 1) := by decide +kernel
theorem dX1_init_54 : decode cX1_init 54 = .ok (.iload_n 1, 1) := by decide +kernel
theorem dX1_init_55 : decode cX1_init 55 = .ok (.iconst 4, 1) := by decide +kernel
theorem dX1_init_56 : decode cX1_init 56 = .ok (.if_icmp .ne 8, 3) := by decide +kernel
theorem dX1_init_59 : decode cX1_init 59 = .ok (.bipush 32, 2) := by decide +kernel
theorem dX1_init_61 : decode cX1_init 61 = .ok (.goto 4, 3) := by decide +kernel
theorem dX1_init_64 : decode cX1_init 64 = .ok (.iconst 0, 1) := by decide +kernel
theorem dX1_init_65 : decode cX1_init 65 = .ok (.anewarray 22, 3) := by decide +kernel
theorem dX1_init_68 : decode cX1_init 68 = .ok (.putfield 42, 3) := by decide +kernel
theorem dX1_init_71 : decode cX1_init 71 = .ok (.iconst 0, 1) := by decide +kernel
theorem dX1_init_72 : decode cX1_init 72 = .ok (.istore 4, 2) := by decide +kernel
theorem dX1_init_74 : decode cX1_init 74 = .ok (.iload 4, 2) := by decide +kernel
theorem dX1_init_76 : decode cX1_init 76 = .ok (.aload_n 0, 1) := by decide +kernel
theorem dX1_init_77 : decode cX1_init 77 = .ok (.getfield 42, 3) := by decide +kernel
theorem dX1_init_80 : decode cX1_init 80 = .ok (.arraylength, 1) := by decide +kernel
theorem dX1_init_81 : decode cX1_init 81 = .ok (.if_icmp .ge 23, 3) := by decide +kernel
theorem dX1_init_84 : decode cX1_init 84 = .ok (.aload_n 0, 1) := by decide +kernel
theorem dX1_init_85 : decode cX1_init 85 = .ok (.getfield 42, 3) := by decide +kernel
theorem dX1_init_88 : decode cX1_init 88 = .ok (.iload 4, 2) := by decide +kernel
theorem dX1_init_90 : decode cX1_init 90 = .ok (.new 22, 3) := by decide +kernel
theorem dX1_init_93 : decode cX1_init 93 = .ok (.dup, 1) := by decide +kernel
theorem dX1_init_94 : decode cX1_init 94 = .ok (.invokespecial 24, 3) := by decide +kernel
theorem dX1_init_97 : decode cX1_init 97 = .ok (.aastore, 1) := by decide +kernel
theorem dX1_init_98 : decode cX1_init 98 = .ok (.iinc 4 1, 3) := by decide +kernel
theorem dX1_init_101 : decode cX1_init 101 = .ok (.goto (-27), 3) := by decide +kernel
theorem dX1_init_104 : decode cX1_init 104 = .ok (.aload_n 0, 1) := by decide +kernel
theorem dX1_init_105 : decode cX1_init 105 = .ok (.iconst (-1), 1) := by decide +kernel
theorem dX1_init_106 : decode cX1_init 106 = .ok (.putfield 46, 3) := by decide +kernel
theorem dX1_init_109 : decode cX1_init 109 = .ok (.aload_n 0, 1) := by decide +kernel
theorem dX1_init_110 : decode cX1_init 110 = .ok (.iconst (-1), 1) := by decide +kernel
theorem dX1_init_111 : decode cX1_init 111 = .ok (.putfield 49, 3) := by decide +kernel
theorem dX1_init_114 : decode cX1_init 114 = .ok (.return_, 1) := by decide +kernel
theorem dX1_mayName_0 : decode cX1_mayName 0 = .ok (.aload_n 0, 1) := by decide +kernel
theorem dX1_mayName_1 : decode cX1_mayName 1 = .ok (.getfield 9, 3) := by decide +kernel
theorem dX1_mayName_4 : decode cX1_mayName 4 = .ok (.bipush 6, 2) := by decide +kernel
theorem dX1_mayName_6 : decode cX1_mayName 6 = .ok (.if_icmp .eq 12, 3) := by decide +kernel
theorem dX1_mayName_9 : decode cX1_mayName 9 = .ok (.aload_n 0, 1) := by decide +kernel
theorem dX1_mayName_10 : decode cX1_mayName 10 = .ok (.getfield 9, 3) := by decide +kernel
theorem dX1_mayName_13 : decode cX1_mayName 13 = .ok (.bipush 7, 2) := by decide +kernel
theorem dX1_mayName_15 : decode cX1_mayName 15 = .ok (.if_icmp .ne 7, 3) := by decide +kernel
theorem dX1_mayName_18 : decode cX1_mayName 18 = .ok (.iconst 1, 1) := by decide +kernel
theorem dX1_mayName_19 : decode cX1_mayName 19 = .ok (.goto 4, 3) := by decide +kernel
theorem dX1_mayName_22 : decode cX1_mayName 22 = .ok (.iconst 0, 1) := by decide +kernel
theorem dX1_mayName_23 : decode cX1_mayName 23 = .ok (.ireturn, 1) := by decide +kernel
theorem dX1_isNaming_0 : decode cX1_isNaming 0 = .ok (.iload_n 1, 1) := by decide +kernel
theorem dX1_isNaming_1 : decode cX1_isNaming 1 = .ok (.ifCond .lt 24, 3) := by decide +kernel
theorem dX1_isNaming_4 : decode cX1_isNaming 4 = .ok (.iload_n 1, 1) := by decide +kernel
theorem dX1_isNaming_5 : decode cX1_isNaming 5 = .ok (.bipush 16, 2) := by decide +kernel
theorem dX1_isNaming_7 : decode cX1_isNaming 7 = .ok (.if_icmp .ge 18, 3) := by decide +kernel
theorem dX1_isNaming_10 : decode cX1_isNaming 10 = .ok (.aload_n 0, 1) := by decide +kernel
theorem dX1_isNaming_11 : decode cX1_isNaming 11 = .ok (.getfield 52, 3) := by decide +kernel
theorem dX1_isNaming_14 : decode cX1_isNaming 14 = .ok (.iload_n 1, 1) := by decide +kernel
theorem dX1_isNaming_15 : decode cX1_isNaming 15 = .ok (.ishr, 1) := by decide +kernel
theorem dX1_isNaming_16 : decode cX1_isNaming 16 = .ok (.iconst 1, 1) := by decide +kernel
theorem dX1_isNaming_17 : decode cX1_isNaming 17 = .ok (.iand, 1) := by decide +kernel
theorem dX1_isNaming_18 : decode cX1_isNaming 18 = .ok (.ifCond .eq 7, 3) := by decide +kernel
theorem dX1_isNaming_21 : decode cX1_isNaming 21 = .ok (.iconst 1, 1) := by decide +kernel
theorem dX1_isNaming_22 : decode cX1_isNaming 22 = .ok (.goto 4, 3) := by decide +kernel
theorem dX1_isNaming_25 : decode cX1_isNaming 25 = .ok (.iconst 0, 1) := by decide +kernel
theorem dX1_isNaming_26 : decode cX1_isNaming 26 = .ok (.ireturn, 1) := by decide +kernel
theorem dX1_addName_0 : decode cX1_addName 0 = .ok (.aload_n 0, 1) := by decide +kernel
theorem dX1_addName_1 : decode cX1_addName 1 = .ok (.getfield 55, 3) := by decide +kernel
theorem dX1_addName_4 : decode cX1_addName 4 = .ok (.iconst 4, 1) := by decide +kernel
theorem dX1_addName_5 : decode cX1_addName 5 = .ok (.if_icmp .ge 35, 3) := by decide +kernel
theorem dX1_addName_8 : decode cX1_addName 8 = .ok (.aload_n 0, 1) := by decide +kernel
theorem dX1_addName_9 : decode cX1_addName 9 = .ok (.getfield 39, 3) := by decide +kernel
theorem dX1_addName_12 : decode cX1_addName 12 = .ok (.aload_n 0, 1) := by decide +kernel
theorem dX1_addName_13 : decode cX1_addName 13 = .ok (.getfield 55, 3) := by decide +kernel
theorem dX1_addName_16 : decode cX1_addName 16 = .ok (.iload_n 1, 1) := by decide +kernel
theorem dX1_addName_17 : decode cX1_addName 17 = .ok (.iastore, 1) := by decide +kernel
theorem dX1_addName_18 : decode cX1_addName 18 = .ok (.aload_n 0, 1) := by decide +kernel
theorem dX1_addName_19 : decode cX1_addName 19 = .ok (.dup, 1) := by decide +kernel
theorem dX1_addName_20 : decode cX1_addName 20 = .ok (.getfield 55, 3) := by decide +kernel
theorem dX1_addName_23 : decode cX1_addName 23 = .ok (.iconst 1, 1) := by decide +kernel
theorem dX1_addName_24 : decode cX1_addName 24 = .ok (.iadd, 1) := by decide +kernel
theorem dX1_addName_25 : decode cX1_addName 25 = .ok (.putfield 55, 3) := by decide +kernel
theorem dX1_addName_28 : decode cX1_addName 28 = .ok (.aload_n 0, 1) := by decide +kernel
theorem dX1_addName_29 : decode cX1_addName 29 = .ok (.dup, 1) := by decide +kernel
theorem dX1_addName_30 : decode cX1_addName 30 = .ok (.getfield 52, 3) := by decide +kernel
theorem dX1_addName_33 : decode cX1_addName 33 = .ok (.iconst 1, 1) := by decide +kernel
theorem dX1_addName_34 : decode cX1_addName 34 = .ok (.iload_n 1, 1) := by decide +kernel
theorem dX1_addName_35 : decode cX1_addName 35 = .ok (.ishl, 1) := by decide +kernel
theorem dX1_addName_36 : decode cX1_addName 36 = .ok (.ior, 1) := by decide +kernel
theorem dX1_addName_37 : decode cX1_addName 37 = .ok (.putfield 52, 3) := by decide +kernel
theorem dX1_addName_40 : decode cX1_addName 40 = .ok (.return_, 1) := by decide +kernel
theorem dX1_placeIn_0 : decode cX1_placeIn 0 = .ok (.iload_n 1, 1) := by decide +kernel
theorem dX1_placeIn_1 : decode cX1_placeIn 1 = .ok (.ifCond .lt 18, 3) := by decide +kernel
theorem dX1_placeIn_4 : decode cX1_placeIn 4 = .ok (.iload_n 1, 1) := by decide +kernel
theorem dX1_placeIn_5 : decode cX1_placeIn 5 = .ok (.bipush 8, 2) := by decide +kernel
theorem dX1_placeIn_7 : decode cX1_placeIn 7 = .ok (.if_icmp .ge 12, 3) := by decide +kernel
theorem dX1_placeIn_10 : decode cX1_placeIn 10 = .ok (.aload_n 0, 1) := by decide +kernel
theorem dX1_placeIn_11 : decode cX1_placeIn 11 = .ok (.getfield 29, 3) := by decide +kernel
theorem dX1_placeIn_14 : decode cX1_placeIn 14 = .ok (.iload_n 1, 1) := by decide +kernel
theorem dX1_placeIn_15 : decode cX1_placeIn 15 = .ok (.iaload, 1) := by decide +kernel
theorem dX1_placeIn_16 : decode cX1_placeIn 16 = .ok (.goto 4, 3) := by decide +kernel
theorem dX1_placeIn_19 : decode cX1_placeIn 19 = .ok (.iconst (-1), 1) := by decide +kernel
theorem dX1_placeIn_20 : decode cX1_placeIn 20 = .ok (.ireturn, 1) := by decide +kernel
theorem dX1_standIn_0 : decode cX1_standIn 0 = .ok (.iload_n 1, 1) := by decide +kernel
theorem dX1_standIn_1 : decode cX1_standIn 1 = .ok (.ifCond .lt 26, 3) := by decide +kernel
theorem dX1_standIn_4 : decode cX1_standIn 4 = .ok (.iload_n 1, 1) := by decide +kernel
theorem dX1_standIn_5 : decode cX1_standIn 5 = .ok (.bipush 8, 2) := by decide +kernel
theorem dX1_standIn_7 : decode cX1_standIn 7 = .ok (.if_icmp .ge 20, 3) := by decide +kernel
theorem dX1_standIn_10 : decode cX1_standIn 10 = .ok (.aload_n 0, 1) := by decide +kernel
theorem dX1_standIn_11 : decode cX1_standIn 11 = .ok (.getfield 29, 3) := by decide +kernel
theorem dX1_standIn_14 : decode cX1_standIn 14 = .ok (.iload_n 1, 1) := by decide +kernel
theorem dX1_standIn_15 : decode cX1_standIn 15 = .ok (.iconst 0, 1) := by decide +kernel
theorem dX1_standIn_16 : decode cX1_standIn 16 = .ok (.iastore, 1) := by decide +kernel
theorem dX1_standIn_17 : decode cX1_standIn 17 = .ok (.aload_n 0, 1) := by decide +kernel
theorem dX1_standIn_18 : decode cX1_standIn 18 = .ok (.dup, 1) := by decide +kernel
theorem dX1_standIn_19 : decode cX1_standIn 19 = .ok (.getfield 58, 3) := by decide +kernel
theorem dX1_standIn_22 : decode cX1_standIn 22 = .ok (.iconst 1, 1) := by decide +kernel
theorem dX1_standIn_23 : decode cX1_standIn 23 = .ok (.iadd, 1) := by decide +kernel
theorem dX1_standIn_24 : decode cX1_standIn 24 = .ok (.putfield 58, 3) := by decide +kernel
theorem dX1_standIn_27 : decode cX1_standIn 27 = .ok (.return_, 1) := by decide +kernel
theorem dX1_stepOn_0 : decode cX1_stepOn 0 = .ok (.iload_n 1, 1) := by decide +kernel
theorem dX1_stepOn_1 : decode cX1_stepOn 1 = .ok (.ifCond .lt 19, 3) := by decide +kernel
theorem dX1_stepOn_4 : decode cX1_stepOn 4 = .ok (.iload_n 1, 1) := by decide +kernel
theorem dX1_stepOn_5 : decode cX1_stepOn 5 = .ok (.bipush 8, 2) := by decide +kernel
theorem dX1_stepOn_7 : decode cX1_stepOn 7 = .ok (.if_icmp .ge 13, 3) := by decide +kernel
theorem dX1_stepOn_10 : decode cX1_stepOn 10 = .ok (.aload_n 0, 1) := by decide +kernel
theorem dX1_stepOn_11 : decode cX1_stepOn 11 = .ok (.getfield 29, 3) := by decide +kernel
theorem dX1_stepOn_14 : decode cX1_stepOn 14 = .ok (.iload_n 1, 1) := by decide +kernel
theorem dX1_stepOn_15 : decode cX1_stepOn 15 = .ok (.dup2, 1) := by decide +kernel
theorem dX1_stepOn_16 : decode cX1_stepOn 16 = .ok (.iaload, 1) := by decide +kernel
theorem dX1_stepOn_17 : decode cX1_stepOn 17 = .ok (.iconst 1, 1) := by decide +kernel
theorem dX1_stepOn_18 : decode cX1_stepOn 18 = .ok (.iadd, 1) := by decide +kernel
theorem dX1_stepOn_19 : decode cX1_stepOn 19 = .ok (.iastore, 1) := by decide +kernel
theorem dX1_stepOn_20 : decode cX1_stepOn 20 = .ok (.return_, 1) := by decide +kernel
theorem dX1_heldPlace_0 : decode cX1_heldPlace 0 = .ok (.aload_n 0, 1) := by decide +kernel
theorem dX1_heldPlace_1 : decode cX1_heldPlace 1 = .ok (.getfield 9, 3) := by decide +kernel
theorem dX1_heldPlace_4 : decode cX1_heldPlace 4 = .ok (.iconst 3, 1) := by decide +kernel
theorem dX1_heldPlace_5 : decode cX1_heldPlace 5 = .ok (.if_icmp .eq 22, 3) := by decide +kernel
theorem dX1_heldPlace_8 : decode cX1_heldPlace 8 = .ok (.iload_n 1, 1) := by decide +kernel
theorem dX1_heldPlace_9 : decode cX1_heldPlace 9 = .ok (.ifCond .lt 18, 3) := by decide +kernel
theorem dX1_heldPlace_12 : decode cX1_heldPlace 12 = .ok (.iload_n 1, 1) := by decide +kernel
theorem dX1_heldPlace_13 : decode cX1_heldPlace 13 = .ok (.bipush 8, 2) := by decide +kernel
theorem dX1_heldPlace_15 : decode cX1_heldPlace 15 = .ok (.if_icmp .ge 12, 3) := by decide +kernel
theorem dX1_heldPlace_18 : decode cX1_heldPlace 18 = .ok (.aload_n 0, 1) := by decide +kernel
theorem dX1_heldPlace_19 : decode cX1_heldPlace 19 = .ok (.getfield 29, 3) := by decide +kernel
theorem dX1_heldPlace_22 : decode cX1_heldPlace 22 = .ok (.iload_n 1, 1) := by decide +kernel
theorem dX1_heldPlace_23 : decode cX1_heldPlace 23 = .ok (.iaload, 1) := by decide +kernel
theorem dX1_heldPlace_24 : decode cX1_heldPlace 24 = .ok (.goto 4, 3) := by decide +kernel
theorem dX1_heldPlace_27 : decode cX1_heldPlace 27 = .ok (.iconst (-1), 1) := by decide +kernel
theorem dX1_heldPlace_28 : decode cX1_heldPlace 28 = .ok (.ireturn, 1) := by decide +kernel
theorem dX1_placeToRead_0 : decode cX1_placeToRead 0 = .ok (.aload_n 0, 1) := by decide +kernel
theorem dX1_placeToRead_1 : decode cX1_placeToRead 1 = .ok (.aload_n 0, 1) := by decide +kernel
theorem dX1_placeToRead_2 : decode cX1_placeToRead 2 = .ok (.getfield 15, 3) := by decide +kernel
theorem dX1_placeToRead_5 : decode cX1_placeToRead 5 = .ok (.getfield 61, 3) := by decide +kernel
theorem dX1_placeToRead_8 : decode cX1_placeToRead 8 = .ok (.invokevirtual 66, 3) := by decide +kernel
theorem dX1_placeToRead_11 : decode cX1_placeToRead 11 = .ok (.istore_n 1, 1) := by decide +kernel
theorem dX1_placeToRead_12 : decode cX1_placeToRead 12 = .ok (.aload_n 0, 1) := by decide +kernel
theorem dX1_placeToRead_13 : decode cX1_placeToRead 13 = .ok (.getfield 9, 3) := by decide +kernel
theorem dX1_placeToRead_16 : decode cX1_placeToRead 16 = .ok (.iconst 3, 1) := by decide +kernel
theorem dX1_placeToRead_17 : decode cX1_placeToRead 17 = .ok (.if_icmp .eq 5, 3) := by decide +kernel
theorem dX1_placeToRead_20 : decode cX1_placeToRead 20 = .ok (.iload_n 1, 1) := by decide +kernel
theorem dX1_placeToRead_21 : decode cX1_placeToRead 21 = .ok (.ireturn, 1) := by decide +kernel
theorem dX1_placeToRead_22 : decode cX1_placeToRead 22 = .ok (.iload_n 1, 1) := by decide +kernel
theorem dX1_placeToRead_23 : decode cX1_placeToRead 23 = .ok (.aload_n 0, 1) := by decide +kernel
theorem dX1_placeToRead_24 : decode cX1_placeToRead 24 = .ok (.getfield 15, 3) := by decide +kernel
theorem dX1_placeToRead_27 : decode cX1_placeToRead 27 = .ok (.getfield 70, 3) := by decide +kernel
theorem dX1_placeToRead_30 : decode cX1_placeToRead 30 = .ok (.ifCond .eq 13, 3) := by decide +kernel
theorem dX1_placeToRead_33 : decode cX1_placeToRead 33 = .ok (.aload_n 0, 1) := by decide +kernel
theorem dX1_placeToRead_34 : decode cX1_placeToRead 34 = .ok (.getfield 15, 3) := by decide +kernel
theorem dX1_placeToRead_37 : decode cX1_placeToRead 37 = .ok (.getfield 74, 3) := by decide +kernel
theorem dX1_placeToRead_40 : decode cX1_placeToRead 40 = .ok (.goto 18, 3) := by decide +kernel
theorem dX1_placeToRead_43 : decode cX1_placeToRead 43 = .ok (.aload_n 0, 1) := by decide +kernel
theorem dX1_placeToRead_44 : decode cX1_placeToRead 44 = .ok (.getfield 15, 3) := by decide +kernel
theorem dX1_placeToRead_47 : decode cX1_placeToRead 47 = .ok (.getfield 74, 3) := by decide +kernel
theorem dX1_placeToRead_50 : decode cX1_placeToRead 50 = .ok (.aload_n 0, 1) := by decide +kernel
theorem dX1_placeToRead_51 : decode cX1_placeToRead 51 = .ok (.getfield 15, 3) := by decide +kernel
theorem dX1_placeToRead_54 : decode cX1_placeToRead 54 = .ok (.getfield 77, 3) := by decide +kernel
theorem dX1_placeToRead_57 : decode cX1_placeToRead 57 = .ok (.isub, 1) := by decide +kernel
theorem dX1_placeToRead_58 : decode cX1_placeToRead 58 = .ok (.invokestatic 80, 3) := by decide +kernel
theorem dX1_placeToRead_61 : decode cX1_placeToRead 61 = .ok (.ireturn, 1) := by decide +kernel
theorem dX1_skipMissed_0 : decode cX1_skipMissed 0 = .ok (.aload_n 0, 1) := by decide +kernel
theorem dX1_skipMissed_1 : decode cX1_skipMissed 1 = .ok (.aload_n 0, 1) := by decide +kernel
theorem dX1_skipMissed_2 : decode cX1_skipMissed 2 = .ok (.getfield 15, 3) := by decide +kernel
theorem dX1_skipMissed_5 : decode cX1_skipMissed 5 = .ok (.getfield 61, 3) := by decide +kernel
theorem dX1_skipMissed_8 : decode cX1_skipMissed 8 = .ok (.invokevirtual 66, 3) := by decide +kernel
theorem dX1_skipMissed_11 : decode cX1_skipMissed 11 = .ok (.istore_n 1, 1) := by decide +kernel
theorem dX1_skipMissed_12 : decode cX1_skipMissed 12 = .ok (.aload_n 0, 1) := by decide +kernel
theorem dX1_skipMissed_13 : decode cX1_skipMissed 13 = .ok (.invokevirtual 86, 3) := by decide +kernel
theorem dX1_skipMissed_16 : decode cX1_skipMissed 16 = .ok (.istore_n 2, 1) := by decide +kernel
theorem dX1_skipMissed_17 : decode cX1_skipMissed 17 = .ok (.iload_n 1, 1) := by decide +kernel
theorem dX1_skipMissed_18 : decode cX1_skipMissed 18 = .ok (.ifCond .lt 45, 3) := by decide +kernel
theorem dX1_skipMissed_21 : decode cX1_skipMissed 21 = .ok (.iload_n 2, 1) := by decide +kernel
theorem dX1_skipMissed_22 : decode cX1_skipMissed 22 = .ok (.iload_n 1, 1) := by decide +kernel
theorem dX1_skipMissed_23 : decode cX1_skipMissed 23 = .ok (.if_icmp .le 40, 3) := by decide +kernel
theorem dX1_skipMissed_26 : decode cX1_skipMissed 26 = .ok (.aload_n 0, 1) := by decide +kernel
theorem dX1_skipMissed_27 : decode cX1_skipMissed 27 = .ok (.dup, 1) := by decide +kernel
theorem dX1_skipMissed_28 : decode cX1_skipMissed 28 = .ok (.getfield 90, 3) := by decide +kernel
theorem dX1_skipMissed_31 : decode cX1_skipMissed 31 = .ok (.iload_n 2, 1) := by decide +kernel
theorem dX1_skipMissed_32 : decode cX1_skipMissed 32 = .ok (.iload_n 1, 1) := by decide +kernel
theorem dX1_skipMissed_33 : decode cX1_skipMissed 33 = .ok (.isub, 1) := by decide +kernel
theorem dX1_skipMissed_34 : decode cX1_skipMissed 34 = .ok (.iadd, 1) := by decide +kernel
theorem dX1_skipMissed_35 : decode cX1_skipMissed 35 = .ok (.putfield 90, 3) := by decide +kernel
theorem dX1_skipMissed_38 : decode cX1_skipMissed 38 = .ok (.aload_n 0, 1) := by decide +kernel
theorem dX1_skipMissed_39 : decode cX1_skipMissed 39 = .ok (.iload_n 1, 1) := by decide +kernel
theorem dX1_skipMissed_40 : decode cX1_skipMissed 40 = .ok (.putfield 46, 3) := by decide +kernel
theorem dX1_skipMissed_43 : decode cX1_skipMissed 43 = .ok (.aload_n 0, 1) := by decide +kernel
theorem dX1_skipMissed_44 : decode cX1_skipMissed 44 = .ok (.iload_n 2, 1) := by decide +kernel
theorem dX1_skipMissed_45 : decode cX1_skipMissed 45 = .ok (.iconst 1, 1) := by decide +kernel
theorem dX1_skipMissed_46 : decode cX1_skipMissed 46 = .ok (.isub, 1) := by decide +kernel
theorem dX1_skipMissed_47 : decode cX1_skipMissed 47 = .ok (.putfield 49, 3) := by decide +kernel
theorem dX1_skipMissed_50 : decode cX1_skipMissed 50 = .ok (.aload_n 0, 1) := by decide +kernel
theorem dX1_skipMissed_51 : decode cX1_skipMissed 51 = .ok (.getfield 29, 3) := by decide +kernel
theorem dX1_skipMissed_54 : decode cX1_skipMissed 54 = .ok (.aload_n 0, 1) := by decide +kernel
theorem dX1_skipMissed_55 : decode cX1_skipMissed 55 = .ok (.getfield 15, 3) := by decide +kernel
theorem dX1_skipMissed_58 : decode cX1_skipMissed 58 = .ok (.getfield 61, 3) := by decide +kernel
theorem dX1_skipMissed_61 : decode cX1_skipMissed 61 = .ok (.iload_n 2, 1) := by decide +kernel
theorem dX1_skipMissed_62 : decode cX1_skipMissed 62 = .ok (.iastore, 1) := by decide +kernel
theorem dX1_skipMissed_63 : decode cX1_skipMissed 63 = .ok (.return_, 1) := by decide +kernel
theorem dX1_keep_0 : decode cX1_keep 0 = .ok (.aload_n 1, 1) := by decide +kernel
theorem dX1_keep_1 : decode cX1_keep 1 = .ok (.ifnonnull 5, 3) := by decide +kernel
theorem dX1_keep_4 : decode cX1_keep 4 = .ok (.iconst 0, 1) := by decide +kernel
theorem dX1_keep_5 : decode cX1_keep 5 = .ok (.ireturn, 1) := by decide +kernel
theorem dX1_keep_6 : decode cX1_keep 6 = .ok (.aload_n 0, 1) := by decide +kernel
theorem dX1_keep_7 : decode cX1_keep 7 = .ok (.getfield 25, 3) := by decide +kernel
theorem dX1_keep_10 : decode cX1_keep 10 = .ok (.aload_n 1, 1) := by decide +kernel
theorem dX1_keep_11 : decode cX1_keep 11 = .ok (.invokevirtual 93, 3) := by decide +kernel
theorem dX1_keep_14 : decode cX1_keep 14 = .ok (.aload_n 0, 1) := by decide +kernel
theorem dX1_keep_15 : decode cX1_keep 15 = .ok (.dup, 1) := by decide +kernel
theorem dX1_keep_16 : decode cX1_keep 16 = .ok (.getfield 97, 3) := by decide +kernel
theorem dX1_keep_19 : decode cX1_keep 19 = .ok (.iconst 1, 1) := by decide +kernel
theorem dX1_keep_20 : decode cX1_keep 20 = .ok (.iadd, 1) := by decide +kernel
theorem dX1_keep_21 : decode cX1_keep 21 = .ok (.putfield 97, 3) := by decide +kernel
theorem dX1_keep_24 : decode cX1_keep 24 = .ok (.iconst 1, 1) := by decide +kernel
theorem dX1_keep_25 : decode cX1_keep 25 = .ok (.ireturn, 1) := by decide +kernel
theorem dX1_foldIn_0 : decode cX1_foldIn 0 = .ok (.iconst 0, 1) := by decide +kernel
theorem dX1_foldIn_1 : decode cX1_foldIn 1 = .ok (.istore_n 2, 1) := by decide +kernel
theorem dX1_foldIn_2 : decode cX1_foldIn 2 = .ok (.iload_n 2, 1) := by decide +kernel
theorem dX1_foldIn_3 : decode cX1_foldIn 3 = .ok (.aload_n 0, 1) := by decide +kernel
theorem dX1_foldIn_4 : decode cX1_foldIn 4 = .ok (.getfield 100, 3) := by decide +kernel
theorem dX1_foldIn_7 : decode cX1_foldIn 7 = .ok (.if_icmp .ge 61, 3) := by decide +kernel
theorem dX1_foldIn_10 : decode cX1_foldIn 10 = .ok (.iload_n 2, 1) := by decide +kernel
theorem dX1_foldIn_11 : decode cX1_foldIn 11 = .ok (.aload_n 0, 1) := by decide +kernel
theorem dX1_foldIn_12 : decode cX1_foldIn 12 = .ok (.getfield 42, 3) := by decide +kernel
theorem dX1_foldIn_15 : decode cX1_foldIn 15 = .ok (.arraylength, 1) := by decide +kernel
theorem dX1_foldIn_16 : decode cX1_foldIn 16 = .ok (.if_icmp .ge 52, 3) := by decide +kernel
theorem dX1_foldIn_19 : decode cX1_foldIn 19 = .ok (.aload_n 0, 1) := by decide +kernel
theorem dX1_foldIn_20 : decode cX1_foldIn 20 = .ok (.getfield 42, 3) := by decide +kernel
theorem dX1_foldIn_23 : decode cX1_foldIn 23 = .ok (.iload_n 2, 1) := by decide +kernel
theorem dX1_foldIn_24 : decode cX1_foldIn 24 = .ok (.aaload, 1) := by decide +kernel
theorem dX1_foldIn_25 : decode cX1_foldIn 25 = .ok (.getfield 103, 3) := by decide +kernel
theorem dX1_foldIn_28 : decode cX1_foldIn 28 = .ok (.aload_n 1, 1) := by decide +kernel
theorem dX1_foldIn_29 : decode cX1_foldIn 29 = .ok (.getfield 103, 3) := by decide +kernel
theorem dX1_foldIn_32 : decode cX1_foldIn 32 = .ok (.if_icmp .ne 30, 3) := by decide +kernel
theorem dX1_foldIn_35 : decode cX1_foldIn 35 = .ok (.aload_n 0, 1) := by decide +kernel
theorem dX1_foldIn_36 : decode cX1_foldIn 36 = .ok (.getfield 42, 3) := by decide +kernel
theorem dX1_foldIn_39 : decode cX1_foldIn 39 = .ok (.iload_n 2, 1) := by decide +kernel
theorem dX1_foldIn_40 : decode cX1_foldIn 40 = .ok (.aaload, 1) := by decide +kernel
theorem dX1_foldIn_41 : decode cX1_foldIn 41 = .ok (.getfield 106, 3) := by decide +kernel
theorem dX1_foldIn_44 : decode cX1_foldIn 44 = .ok (.aload_n 1, 1) := by decide +kernel
theorem dX1_foldIn_45 : decode cX1_foldIn 45 = .ok (.getfield 106, 3) := by decide +kernel
theorem dX1_foldIn_48 : decode cX1_foldIn 48 = .ok (.if_icmp .ge 13, 3) := by decide +kernel
theorem dX1_foldIn_51 : decode cX1_foldIn 51 = .ok (.aload_n 0, 1) := by decide +kernel
theorem dX1_foldIn_52 : decode cX1_foldIn 52 = .ok (.getfield 42, 3) := by decide +kernel
theorem dX1_foldIn_55 : decode cX1_foldIn 55 = .ok (.iload_n 2, 1) := by decide +kernel
theorem dX1_foldIn_56 : decode cX1_foldIn 56 = .ok (.aaload, 1) := by decide +kernel
theorem dX1_foldIn_57 : decode cX1_foldIn 57 = .ok (.aload_n 1, 1) := by decide +kernel
theorem dX1_foldIn_58 : decode cX1_foldIn 58 = .ok (.invokevirtual 93, 3) := by decide +kernel
theorem dX1_foldIn_61 : decode cX1_foldIn 61 = .ok (.return_, 1) := by decide +kernel
theorem dX1_foldIn_62 : decode cX1_foldIn 62 = .ok (.iinc 2 1, 3) := by decide +kernel
theorem dX1_foldIn_65 : decode cX1_foldIn 65 = .ok (.goto (-63), 3) := by decide +kernel
theorem dX1_foldIn_68 : decode cX1_foldIn 68 = .ok (.aload_n 0, 1) := by decide +kernel
theorem dX1_foldIn_69 : decode cX1_foldIn 69 = .ok (.getfield 100, 3) := by decide +kernel
theorem dX1_foldIn_72 : decode cX1_foldIn 72 = .ok (.aload_n 0, 1) := by decide +kernel
theorem dX1_foldIn_73 : decode cX1_foldIn 73 = .ok (.getfield 42, 3) := by decide +kernel
theorem dX1_foldIn_76 : decode cX1_foldIn 76 = .ok (.arraylength, 1) := by decide +kernel
theorem dX1_foldIn_77 : decode cX1_foldIn 77 = .ok (.if_icmp .ge 26, 3) := by decide +kernel
theorem dX1_foldIn_80 : decode cX1_foldIn 80 = .ok (.aload_n 0, 1) := by decide +kernel
theorem dX1_foldIn_81 : decode cX1_foldIn 81 = .ok (.getfield 42, 3) := by decide +kernel
theorem dX1_foldIn_84 : decode cX1_foldIn 84 = .ok (.aload_n 0, 1) := by decide +kernel
theorem dX1_foldIn_85 : decode cX1_foldIn 85 = .ok (.getfield 100, 3) := by decide +kernel
theorem dX1_foldIn_88 : decode cX1_foldIn 88 = .ok (.aaload, 1) := by decide +kernel
theorem dX1_foldIn_89 : decode cX1_foldIn 89 = .ok (.aload_n 1, 1) := by decide +kernel
theorem dX1_foldIn_90 : decode cX1_foldIn 90 = .ok (.invokevirtual 93, 3) := by decide +kernel
theorem dX1_foldIn_93 : decode cX1_foldIn 93 = .ok (.aload_n 0, 1) := by decide +kernel
theorem dX1_foldIn_94 : decode cX1_foldIn 94 = .ok (.dup, 1) := by decide +kernel
theorem dX1_foldIn_95 : decode cX1_foldIn 95 = .ok (.getfield 100, 3) := by decide +kernel
theorem dX1_foldIn_98 : decode cX1_foldIn 98 = .ok (.iconst 1, 1) := by decide +kernel
theorem dX1_foldIn_99 : decode cX1_foldIn 99 = .ok (.iadd, 1) := by decide +kernel
theorem dX1_foldIn_100 : decode cX1_foldIn 100 = .ok (.putfield 100, 3) := by decide +kernel
theorem dX1_foldIn_103 : decode cX1_foldIn 103 = .ok (.return_, 1) := by decide +kernel
theorem dX1_takeEntry_0 : decode cX1_takeEntry 0 = .ok (.aload_n 0, 1) := by decide +kernel
theorem dX1_takeEntry_1 : decode cX1_takeEntry 1 = .ok (.getfield 100, 3) := by decide +kernel
theorem dX1_takeEntry_4 : decode cX1_takeEntry 4 = .ok (.iconst 1, 1) := by decide +kernel
theorem dX1_takeEntry_5 : decode cX1_takeEntry 5 = .ok (.if_icmp .lt 15, 3) := by decide +kernel
theorem dX1_takeEntry_8 : decode cX1_takeEntry 8 = .ok (.aload_n 0, 1) := by decide +kernel
theorem dX1_takeEntry_9 : decode cX1_takeEntry 9 = .ok (.getfield 100, 3) := by decide +kernel
theorem dX1_takeEntry_12 : decode cX1_takeEntry 12 = .ok (.aload_n 0, 1) := by decide +kernel
theorem dX1_takeEntry_13 : decode cX1_takeEntry 13 = .ok (.getfield 42, 3) := by decide +kernel
theorem dX1_takeEntry_16 : decode cX1_takeEntry 16 = .ok (.arraylength, 1) := by decide +kernel
theorem dX1_takeEntry_17 : decode cX1_takeEntry 17 = .ok (.if_icmp .le 5, 3) := by decide +kernel
theorem dX1_takeEntry_20 : decode cX1_takeEntry 20 = .ok (.iconst 0, 1) := by decide +kernel
theorem dX1_takeEntry_21 : decode cX1_takeEntry 21 = .ok (.ireturn, 1) := by decide +kernel
theorem dX1_takeEntry_22 : decode cX1_takeEntry 22 = .ok (.aload_n 0, 1) := by decide +kernel
theorem dX1_takeEntry_23 : decode cX1_takeEntry 23 = .ok (.getfield 42, 3) := by decide +kernel
theorem dX1_takeEntry_26 : decode cX1_takeEntry 26 = .ok (.iconst 0, 1) := by decide +kernel
theorem dX1_takeEntry_27 : decode cX1_takeEntry 27 = .ok (.aaload, 1) := by decide +kernel
theorem dX1_takeEntry_28 : decode cX1_takeEntry 28 = .ok (.astore_n 1, 1) := by decide +kernel
theorem dX1_takeEntry_29 : decode cX1_takeEntry 29 = .ok (.iconst 1, 1) := by decide +kernel
theorem dX1_takeEntry_30 : decode cX1_takeEntry 30 = .ok (.istore_n 2, 1) := by decide +kernel
theorem dX1_takeEntry_31 : decode cX1_takeEntry 31 = .ok (.iload_n 2, 1) := by decide +kernel
theorem dX1_takeEntry_32 : decode cX1_takeEntry 32 = .ok (.aload_n 0, 1) := by decide +kernel
theorem dX1_takeEntry_33 : decode cX1_takeEntry 33 = .ok (.getfield 100, 3) := by decide +kernel
theorem dX1_takeEntry_36 : decode cX1_takeEntry 36 = .ok (.if_icmp .ge 23, 3) := by decide +kernel
theorem dX1_takeEntry_39 : decode cX1_takeEntry 39 = .ok (.aload_n 0, 1) := by decide +kernel
theorem dX1_takeEntry_40 : decode cX1_takeEntry 40 = .ok (.getfield 42, 3) := by decide +kernel
theorem dX1_takeEntry_43 : decode cX1_takeEntry 43 = .ok (.iload_n 2, 1) := by decide +kernel
theorem dX1_takeEntry_44 : decode cX1_takeEntry 44 = .ok (.iconst 1, 1) := by decide +kernel
theorem dX1_takeEntry_45 : decode cX1_takeEntry 45 = .ok (.isub, 1) := by decide +kernel
theorem dX1_takeEntry_46 : decode cX1_takeEntry 46 = .ok (.aload_n 0, 1) := by decide +kernel
theorem dX1_takeEntry_47 : decode cX1_takeEntry 47 = .ok (.getfield 42, 3) := by decide +kernel
theorem dX1_takeEntry_50 : decode cX1_takeEntry 50 = .ok (.iload_n 2, 1) := by decide +kernel
theorem dX1_takeEntry_51 : decode cX1_takeEntry 51 = .ok (.aaload, 1) := by decide +kernel
theorem dX1_takeEntry_52 : decode cX1_takeEntry 52 = .ok (.aastore, 1) := by decide +kernel
theorem dX1_takeEntry_53 : decode cX1_takeEntry 53 = .ok (.iinc 2 1, 3) := by decide +kernel
theorem dX1_takeEntry_56 : decode cX1_takeEntry 56 = .ok (.goto (-25), 3) := by decide +kernel
theorem dX1_takeEntry_59 : decode cX1_takeEntry 59 = .ok (.aload_n 0, 1) := by decide +kernel
theorem dX1_takeEntry_60 : decode cX1_takeEntry 60 = .ok (.dup, 1) := by decide +kernel
theorem dX1_takeEntry_61 : decode cX1_takeEntry 61 = .ok (.getfield 100, 3) := by decide +kernel
theorem dX1_takeEntry_64 : decode cX1_takeEntry 64 = .ok (.iconst 1, 1) := by decide +kernel
theorem dX1_takeEntry_65 : decode cX1_takeEntry 65 = .ok (.isub, 1) := by decide +kernel
theorem dX1_takeEntry_66 : decode cX1_takeEntry 66 = .ok (.putfield 100, 3) := by decide +kernel
theorem dX1_takeEntry_69 : decode cX1_takeEntry 69 = .ok (.aload_n 0, 1) := by decide +kernel
theorem dX1_takeEntry_70 : decode cX1_takeEntry 70 = .ok (.getfield 42, 3) := by decide +kernel
theorem dX1_takeEntry_73 : decode cX1_takeEntry 73 = .ok (.aload_n 0, 1) := by decide +kernel
theorem dX1_takeEntry_74 : decode cX1_takeEntry 74 = .ok (.getfield 100, 3) := by decide +kernel
theorem dX1_takeEntry_77 : decode cX1_takeEntry 77 = .ok (.aload_n 1, 1) := by decide +kernel
theorem dX1_takeEntry_78 : decode cX1_takeEntry 78 = .ok (.aastore, 1) := by decide +kernel
theorem dX1_takeEntry_79 : decode cX1_takeEntry 79 = .ok (.aload_n 0, 1) := by decide +kernel
theorem dX1_takeEntry_80 : decode cX1_takeEntry 80 = .ok (.aload_n 1, 1) := by decide +kernel
theorem dX1_takeEntry_81 : decode cX1_takeEntry 81 = .ok (.invokevirtual 107, 3) := by decide +kernel
theorem dX1_takeEntry_84 : decode cX1_takeEntry 84 = .ok (.ireturn, 1) := by decide +kernel
theorem dX2_init_0 : decode cX2_init 0 = .ok (.aload_n 0, 1) := by decide +kernel
theorem dX2_init_1 : decode cX2_init 1 = .ok (.invokespecial 1, 3) := by decide +kernel
theorem dX2_init_4 : decode cX2_init 4 = .ok (.aload_n 0, 1) := by decide +kernel
theorem dX2_init_5 : decode cX2_init 5 = .ok (.iload_n 1, 1) := by decide +kernel
theorem dX2_init_6 : decode cX2_init 6 = .ok (.putfield 7, 3) := by decide +kernel
theorem dX2_init_9 : decode cX2_init 9 = .ok (.aload_n 0, 1) := by decide +kernel
theorem dX2_init_10 : decode cX2_init 10 = .ok (.iload_n 2, 1) := by decide +kernel
theorem dX2_init_11 : decode cX2_init 11 = .ok (.putfield 13, 3) := by decide +kernel
theorem dX2_init_14 : decode cX2_init 14 = .ok (.aload_n 0, 1) := by decide +kernel
theorem dX2_init_15 : decode cX2_init 15 = .ok (.iload_n 2, 1) := by decide +kernel
theorem dX2_init_16 : decode cX2_init 16 = .ok (.anewarray 16, 3) := by decide +kernel
theorem dX2_init_19 : decode cX2_init 19 = .ok (.putfield 18, 3) := by decide +kernel
theorem dX2_init_22 : decode cX2_init 22 = .ok (.iconst 0, 1) := by decide +kernel
theorem dX2_init_23 : decode cX2_init 23 = .ok (.istore_n 3, 1) := by decide +kernel
theorem dX2_init_24 : decode cX2_init 24 = .ok (.iload_n 3, 1) := by decide +kernel
theorem dX2_init_25 : decode cX2_init 25 = .ok (.iload_n 2, 1) := by decide +kernel
theorem dX2_init_26 : decode cX2_init 26 = .ok (.if_icmp .ge 22, 3) := by decide +kernel
theorem dX2_init_29 : decode cX2_init 29 = .ok (.aload_n 0, 1) := by decide +kernel
theorem dX2_init_30 : decode cX2_init 30 = .ok (.getfield 18, 3) := by decide +kernel
theorem dX2_init_33 : decode cX2_init 33 = .ok (.iload_n 3, 1) := by decide +kernel
theorem dX2_init_34 : decode cX2_init 34 = .ok (.new 16, 3) := by decide +kernel
theorem dX2_init_37 : decode cX2_init 37 = .ok (.dup, 1) := by decide +kernel
theorem dX2_init_38 : decode cX2_init 38 = .ok (.invokespecial 22, 3) := by decide +kernel
theorem dX2_init_41 : decode cX2_init 41 = .ok (.aastore, 1) := by decide +kernel
theorem dX2_init_42 : decode cX2_init 42 = .ok (.iinc 3 1, 3) := by decide +kernel
theorem dX2_init_45 : decode cX2_init 45 = .ok (.goto (-21), 3) := by decide +kernel
theorem dX2_init_48 : decode cX2_init 48 = .ok (.return_, 1) := by decide +kernel
theorem dX2_isLive_0 : decode cX2_isLive 0 = .ok (.aload_n 0, 1) := by decide +kernel
theorem dX2_isLive_1 : decode cX2_isLive 1 = .ok (.getfield 23, 3) := by decide +kernel
theorem dX2_isLive_4 : decode cX2_isLive 4 = .ok (.ifCond .ne 14, 3) := by decide +kernel
theorem dX2_isLive_7 : decode cX2_isLive 7 = .ok (.aload_n 0, 1) := by decide +kernel
theorem dX2_isLive_8 : decode cX2_isLive 8 = .ok (.getfield 27, 3) := by decide +kernel
theorem dX2_isLive_11 : decode cX2_isLive 11 = .ok (.ifCond .ne 7, 3) := by decide +kernel
theorem dX2_isLive_14 : decode cX2_isLive 14 = .ok (.iconst 1, 1) := by decide +kernel
theorem dX2_isLive_15 : decode cX2_isLive 15 = .ok (.goto 4, 3) := by decide +kernel
theorem dX2_isLive_18 : decode cX2_isLive 18 = .ok (.iconst 0, 1) := by decide +kernel
theorem dX2_isLive_19 : decode cX2_isLive 19 = .ok (.ireturn, 1) := by decide +kernel
theorem dX2_slotOf_0 : decode cX2_slotOf 0 = .ok (.aload_n 0, 1) := by decide +kernel
theorem dX2_slotOf_1 : decode cX2_slotOf 1 = .ok (.getfield 23, 3) := by decide +kernel
theorem dX2_slotOf_4 : decode cX2_slotOf 4 = .ok (.ifCond .ne 32, 3) := by decide +kernel
theorem dX2_slotOf_7 : decode cX2_slotOf 7 = .ok (.iload_n 1, 1) := by decide +kernel
theorem dX2_slotOf_8 : decode cX2_slotOf 8 = .ok (.ifCond .lt 28, 3) := by decide +kernel
theorem dX2_slotOf_11 : decode cX2_slotOf 11 = .ok (.iload_n 1, 1) := by decide +kernel
theorem dX2_slotOf_12 : decode cX2_slotOf 12 = .ok (.aload_n 0, 1) := by decide +kernel
theorem dX2_slotOf_13 : decode cX2_slotOf 13 = .ok (.getfield 30, 3) := by decide +kernel
theorem dX2_slotOf_16 : decode cX2_slotOf 16 = .ok (.if_icmp .ge 20, 3) := by decide +kernel
theorem dX2_slotOf_19 : decode cX2_slotOf 19 = .ok (.iload_n 1, 1) := by decide +kernel
theorem dX2_slotOf_20 : decode cX2_slotOf 20 = .ok (.aload_n 0, 1) := by decide +kernel
theorem dX2_slotOf_21 : decode cX2_slotOf 21 = .ok (.getfield 30, 3) := by decide +kernel
theorem dX2_slotOf_24 : decode cX2_slotOf 24 = .ok (.aload_n 0, 1) := by decide +kernel
theorem dX2_slotOf_25 : decode cX2_slotOf 25 = .ok (.getfield 13, 3) := by decide +kernel
theorem dX2_slotOf_28 : decode cX2_slotOf 28 = .ok (.isub, 1) := by decide +kernel
theorem dX2_slotOf_29 : decode cX2_slotOf 29 = .ok (.if_icmp .lt 7, 3) := by decide +kernel
theorem dX2_slotOf_32 : decode cX2_slotOf 32 = .ok (.iconst 1, 1) := by decide +kernel
theorem dX2_slotOf_33 : decode cX2_slotOf 33 = .ok (.goto 4, 3) := by decide +kernel
theorem dX2_slotOf_36 : decode cX2_slotOf 36 = .ok (.iconst 0, 1) := by decide +kernel
theorem dX2_slotOf_37 : decode cX2_slotOf 37 = .ok (.istore_n 2, 1) := by decide +kernel
theorem dX2_slotOf_38 : decode cX2_slotOf 38 = .ok (.iload_n 2, 1) := by decide +kernel
theorem dX2_slotOf_39 : decode cX2_slotOf 39 = .ok (.ifCond .eq 19, 3) := by decide +kernel
theorem dX2_slotOf_42 : decode cX2_slotOf 42 = .ok (.aload_n 0, 1) := by decide +kernel
theorem dX2_slotOf_43 : decode cX2_slotOf 43 = .ok (.getfield 18, 3) := by decide +kernel
theorem dX2_slotOf_46 : decode cX2_slotOf 46 = .ok (.iload_n 1, 1) := by decide +kernel
theorem dX2_slotOf_47 : decode cX2_slotOf 47 = .ok (.aload_n 0, 1) := by decide +kernel
theorem dX2_slotOf_48 : decode cX2_slotOf 48 = .ok (.getfield 13, 3) := by decide +kernel
theorem dX2_slotOf_51 : decode cX2_slotOf 51 = .ok (.iconst 1, 1) := by decide +kernel
theorem dX2_slotOf_52 : decode cX2_slotOf 52 = .ok (.isub, 1) := by decide +kernel
theorem dX2_slotOf_53 : decode cX2_slotOf 53 = .ok (.iand, 1) := by decide +kernel
theorem dX2_slotOf_54 : decode cX2_slotOf 54 = .ok (.aaload, 1) := by decide +kernel
theorem dX2_slotOf_55 : decode cX2_slotOf 55 = .ok (.goto 4, 3) := by decide +kernel
theorem dX2_slotOf_58 : decode cX2_slotOf 58 = .ok (.aconst_null, 1) := by decide +kernel
theorem dX2_slotOf_59 : decode cX2_slotOf 59 = .ok (.areturn, 1) := by decide +kernel
theorem dX2_openSlot_0 : decode cX2_openSlot 0 = .ok (.aload_n 0, 1) := by decide +kernel
theorem dX2_openSlot_1 : decode cX2_openSlot 1 = .ok (.iload_n 1, 1) := by decide +kernel
theorem dX2_openSlot_2 : decode cX2_openSlot 2 = .ok (.invokevirtual 33, 3) := by decide +kernel
theorem dX2_openSlot_5 : decode cX2_openSlot 5 = .ok (.astore_n 2, 1) := by decide +kernel
theorem dX2_openSlot_6 : decode cX2_openSlot 6 = .ok (.aload_n 2, 1) := by decide +kernel
theorem dX2_openSlot_7 : decode cX2_openSlot 7 = .ok (.ifnull 14, 3) := by decide +kernel
theorem dX2_openSlot_10 : decode cX2_openSlot 10 = .ok (.aload_n 2, 1) := by decide +kernel
theorem dX2_openSlot_11 : decode cX2_openSlot 11 = .ok (.getfield 37, 3) := by decide +kernel
theorem dX2_openSlot_14 : decode cX2_openSlot 14 = .ok (.ifCond .eq 7, 3) := by decide +kernel
theorem dX2_openSlot_17 : decode cX2_openSlot 17 = .ok (.aload_n 2, 1) := by decide +kernel
theorem dX2_openSlot_18 : decode cX2_openSlot 18 = .ok (.goto 4, 3) := by decide +kernel
theorem dX2_openSlot_21 : decode cX2_openSlot 21 = .ok (.aconst_null, 1) := by decide +kernel
theorem dX2_openSlot_22 : decode cX2_openSlot 22 = .ok (.areturn, 1) := by decide +kernel
theorem dX2_isPublished_0 : decode cX2_isPublished 0 = .ok (.aload_n 0, 1) := by decide +kernel
theorem dX2_isPublished_1 : decode cX2_isPublished 1 = .ok (.iload_n 1, 1) := by decide +kernel
theorem dX2_isPublished_2 : decode cX2_isPublished 2 = .ok (.invokevirtual 33, 3) := by decide +kernel
theorem dX2_isPublished_5 : decode cX2_isPublished 5 = .ok (.astore_n 2, 1) := by decide +kernel
theorem dX2_isPublished_6 : decode cX2_isPublished 6 = .ok (.aload_n 2, 1) := by decide +kernel
theorem dX2_isPublished_7 : decode cX2_isPublished 7 = .ok (.ifnull 14, 3) := by decide +kernel
theorem dX2_isPublished_10 : decode cX2_isPublished 10 = .ok (.aload_n 2, 1) := by decide +kernel
theorem dX2_isPublished_11 : decode cX2_isPublished 11 = .ok (.getfield 37, 3) := by decide +kernel
theorem dX2_isPublished_14 : decode cX2_isPublished 14 = .ok (.ifCond .ne 7, 3) := by decide +kernel
theorem dX2_isPublished_17 : decode cX2_isPublished 17 = .ok (.iconst 1, 1) := by decide +kernel
theorem dX2_isPublished_18 : decode cX2_isPublished 18 = .ok (.goto 4, 3) := by decide +kernel
theorem dX2_isPublished_21 : decode cX2_isPublished 21 = .ok (.iconst 0, 1) := by decide +kernel
theorem dX2_isPublished_22 : decode cX2_isPublished 22 = .ok (.ireturn, 1) := by decide +kernel
theorem dX2_countOpen_0 : decode cX2_countOpen 0 = .ok (.iconst 0, 1) := by decide +kernel
theorem dX2_countOpen_1 : decode cX2_countOpen 1 = .ok (.istore_n 1, 1) := by decide +kernel
theorem dX2_countOpen_2 : decode cX2_countOpen 2 = .ok (.iconst 0, 1) := by decide +kernel
theorem dX2_countOpen_3 : decode cX2_countOpen 3 = .ok (.istore_n 2, 1) := by decide +kernel
theorem dX2_countOpen_4 : decode cX2_countOpen 4 = .ok (.iload_n 2, 1) := by decide +kernel
theorem dX2_countOpen_5 : decode cX2_countOpen 5 = .ok (.aload_n 0, 1) := by decide +kernel
theorem dX2_countOpen_6 : decode cX2_countOpen 6 = .ok (.getfield 18, 3) := by decide +kernel
theorem dX2_countOpen_9 : decode cX2_countOpen 9 = .ok (.arraylength, 1) := by decide +kernel
theorem dX2_countOpen_10 : decode cX2_countOpen 10 = .ok (.if_icmp .ge 24, 3) := by decide +kernel
theorem dX2_countOpen_13 : decode cX2_countOpen 13 = .ok (.aload_n 0, 1) := by decide +kernel
theorem dX2_countOpen_14 : decode cX2_countOpen 14 = .ok (.getfield 18, 3) := by decide +kernel
theorem dX2_countOpen_17 : decode cX2_countOpen 17 = .ok (.iload_n 2, 1) := by decide +kernel
theorem dX2_countOpen_18 : decode cX2_countOpen 18 = .ok (.aaload, 1) := by decide +kernel
theorem dX2_countOpen_19 : decode cX2_countOpen 19 = .ok (.getfield 37, 3) := by decide +kernel
theorem dX2_countOpen_22 : decode cX2_countOpen 22 = .ok (.ifCond .eq 6, 3) := by decide +kernel
theorem dX2_countOpen_25 : decode cX2_countOpen 25 = .ok (.iinc 1 1, 3) := by decide +kernel
theorem dX2_countOpen_28 : decode cX2_countOpen 28 = .ok (.iinc 2 1, 3) := by decide +kernel
theorem dX2_countOpen_31 : decode cX2_countOpen 31 = .ok (.goto (-27), 3) := by decide +kernel
theorem dX2_countOpen_34 : decode cX2_countOpen 34 = .ok (.iload_n 1, 1) := by decide +kernel
theorem dX2_countOpen_35 : decode cX2_countOpen 35 = .ok (.ireturn, 1) := by decide +kernel
theorem dX2_newestPublished_0 : decode cX2_newestPublished 0 = .ok (.iconst 1, 1) := by decide +kernel
theorem dX2_newestPublished_1 : decode cX2_newestPublished 1 = .ok (.istore_n 1, 1) := by decide +kernel
theorem dX2_newestPublished_2 : decode cX2_newestPublished 2 = .ok (.iload_n 1, 1) := by decide +kernel
theorem dX2_newestPublished_3 : decode cX2_newestPublished 3 = .ok (.aload_n 0, 1) := by decide +kernel
theorem dX2_newestPublished_4 : decode cX2_newestPublished 4 = .ok (.getfield 13, 3) := by decide +kernel
theorem dX2_newestPublished_7 : decode cX2_newestPublished 7 = .ok (.if_icmp .gt 29, 3) := by decide +kernel
theorem dX2_newestPublished_10 : decode cX2_newestPublished 10 = .ok (.aload_n 0, 1) := by decide +kernel
theorem dX2_newestPublished_11 : decode cX2_newestPublished 11 = .ok (.aload_n 0, 1) := by decide +kernel
theorem dX2_newestPublished_12 : decode cX2_newestPublished 12 = .ok (.getfield 30, 3) := by decide +kernel
theorem dX2_newestPublished_15 : decode cX2_newestPublished 15 = .ok (.iload_n 1, 1) := by decide +kernel
theorem dX2_newestPublished_16 : decode cX2_newestPublished 16 = .ok (.isub, 1) := by decide +kernel
theorem dX2_newestPublished_17 : decode cX2_newestPublished 17 = .ok (.invokevirtual 40, 3) := by decide +kernel
theorem dX2_newestPublished_20 : decode cX2_newestPublished 20 = .ok (.ifCond .eq 10, 3) := by decide +kernel
theorem dX2_newestPublished_23 : decode cX2_newestPublished 23 = .ok (.aload_n 0, 1) := by decide +kernel
theorem dX2_newestPublished_24 : decode cX2_newestPublished 24 = .ok (.getfield 30, 3) := by decide +kernel
theorem dX2_newestPublished_27 : decode cX2_newestPublished 27 = .ok (.iload_n 1, 1) := by decide +kernel
theorem dX2_newestPublished_28 : decode cX2_newestPublished 28 = .ok (.isub, 1) := by decide +kernel
theorem dX2_newestPublished_29 : decode cX2_newestPublished 29 = .ok (.ireturn, 1) := by decide +kernel
theorem dX2_newestPublished_30 : decode cX2_newestPublished 30 = .ok (.iinc 1 1, 3) := by decide +kernel
theorem dX2_newestPublished_33 : decode cX2_newestPublished 33 = .ok (.goto (-31), 3) := by decide +kernel
theorem dX2_newestPublished_36 : decode cX2_newestPublished 36 = .ok (.iconst (-1), 1) := by decide +kernel
theorem dX2_newestPublished_37 : decode cX2_newestPublished 37 = .ok (.ireturn, 1) := by decide +kernel
theorem dX2_newClaim_0 : decode cX2_newClaim 0 = .ok (.aload_n 0, 1) := by decide +kernel
theorem dX2_newClaim_1 : decode cX2_newClaim 1 = .ok (.getfield 18, 3) := by decide +kernel
theorem dX2_newClaim_4 : decode cX2_newClaim 4 = .ok (.aload_n 0, 1) := by decide +kernel
theorem dX2_newClaim_5 : decode cX2_newClaim 5 = .ok (.getfield 30, 3) := by decide +kernel
theorem dX2_newClaim_8 : decode cX2_newClaim 8 = .ok (.aload_n 0, 1) := by decide +kernel
theorem dX2_newClaim_9 : decode cX2_newClaim 9 = .ok (.getfield 13, 3) := by decide +kernel
theorem dX2_newClaim_12 : decode cX2_newClaim 12 = .ok (.iconst 1, 1) := by decide +kernel
theorem dX2_newClaim_13 : decode cX2_newClaim 13 = .ok (.isub, 1) := by decide +kernel
theorem dX2_newClaim_14 : decode cX2_newClaim 14 = .ok (.iand, 1) := by decide +kernel
theorem dX2_newClaim_15 : decode cX2_newClaim 15 = .ok (.aaload, 1) := by decide +kernel
theorem dX2_newClaim_16 : decode cX2_newClaim 16 = .ok (.astore_n 3, 1) := by decide +kernel
theorem dX2_newClaim_17 : decode cX2_newClaim 17 = .ok (.aload_n 3, 1) := by decide +kernel
theorem dX2_newClaim_18 : decode cX2_newClaim 18 = .ok (.aload_n 0, 1) := by decide +kernel
theorem dX2_newClaim_19 : decode cX2_newClaim 19 = .ok (.getfield 7, 3) := by decide +kernel
theorem dX2_newClaim_22 : decode cX2_newClaim 22 = .ok (.aload_n 0, 1) := by decide +kernel
theorem dX2_newClaim_23 : decode cX2_newClaim 23 = .ok (.getfield 30, 3) := by decide +kernel
theorem dX2_newClaim_26 : decode cX2_newClaim 26 = .ok (.lload_n 1, 1) := by decide +kernel
theorem dX2_newClaim_27 : decode cX2_newClaim 27 = .ok (.invokevirtual 44, 3) := by decide +kernel
theorem dX2_newClaim_30 : decode cX2_newClaim 30 = .ok (.aload_n 0, 1) := by decide +kernel
theorem dX2_newClaim_31 : decode cX2_newClaim 31 = .ok (.dup, 1) := by decide +kernel
theorem dX2_newClaim_32 : decode cX2_newClaim 32 = .ok (.getfield 30, 3) := by decide +kernel
theorem dX2_newClaim_35 : decode cX2_newClaim 35 = .ok (.iconst 1, 1) := by decide +kernel
theorem dX2_newClaim_36 : decode cX2_newClaim 36 = .ok (.iadd, 1) := by decide +kernel
theorem dX2_newClaim_37 : decode cX2_newClaim 37 = .ok (.putfield 30, 3) := by decide +kernel
theorem dX2_newClaim_40 : decode cX2_newClaim 40 = .ok (.aload_n 0, 1) := by decide +kernel
theorem dX2_newClaim_41 : decode cX2_newClaim 41 = .ok (.lload_n 1, 1) := by decide +kernel
theorem dX2_newClaim_42 : decode cX2_newClaim 42 = .ok (.putfield 48, 3) := by decide +kernel
theorem dX2_newClaim_45 : decode cX2_newClaim 45 = .ok (.aload_n 3, 1) := by decide +kernel
theorem dX2_newClaim_46 : decode cX2_newClaim 46 = .ok (.areturn, 1) := by decide +kernel
theorem dX3_init_0 : decode cX3_init 0 = .ok (.aload_n 0, 1) := by decide +kernel
theorem dX3_init_1 : decode cX3_init 1 = .ok (.invokespecial 1, 3) := by decide +kernel
theorem dX3_init_4 : decode cX3_init 4 = .ok (.aload_n 0, 1) := by decide +kernel
theorem dX3_init_5 : decode cX3_init 5 = .ok (.bipush 8, 2) := by decide +kernel
theorem dX3_init_7 : decode cX3_init 7 = .ok (.anewarray 9, 3) := by decide +kernel
theorem dX3_init_10 : decode cX3_init 10 = .ok (.putfield 11, 3) := by decide +kernel
theorem dX3_init_13 : decode cX3_init 13 = .ok (.aload_n 0, 1) := by decide +kernel
theorem dX3_init_14 : decode cX3_init 14 = .ok (.bipush 16, 2) := by decide +kernel
theorem dX3_init_16 : decode cX3_init 16 = .ok (.anewarray 15, 3) := by decide +kernel
theorem dX3_init_19 : decode cX3_init 19 = .ok (.putfield 17, 3) := by decide +kernel
theorem dX3_init_22 : decode cX3_init 22 = .ok (.aload_n 0, 1) := by decide +kernel
theorem dX3_init_23 : decode cX3_init 23 = .ok (.bipush 7, 2) := by decide +kernel
theorem dX3_init_25 : decode cX3_init 25 = .ok (.newarray .int, 2) := by decide +kernel
theorem dX3_init_27 : decode cX3_init 27 = .ok (.putfield 21, 3) := by decide +kernel
theorem dX3_init_30 : decode cX3_init 30 = .ok (.aload_n 0, 1) := by decide +kernel
theorem dX3_init_31 : decode cX3_init 31 = .ok (.bipush 16, 2) := by decide +kernel
theorem dX3_init_33 : decode cX3_init 33 = .ok (.newarray .int, 2) := by decide +kernel
theorem dX3_init_35 : decode cX3_init 35 = .ok (.putfield 25, 3) := by decide +kernel
theorem dX3_init_38 : decode cX3_init 38 = .ok (.aload_n 0, 1) := by decide +kernel
theorem dX3_init_39 : decode cX3_init 39 = .ok (.iconst (-1), 1) := by decide +kernel
theorem dX3_init_40 : decode cX3_init 40 = .ok (.putfield 28, 3) := by decide +kernel
theorem dX3_init_43 : decode cX3_init 43 = .ok (.return_, 1) := by decide +kernel
theorem dX3_ring_0 : decode cX3_ring 0 = .ok (.iload_n 1, 1) := by decide +kernel
theorem dX3_ring_1 : decode cX3_ring 1 = .ok (.ifCond .ge 9, 3) := by decide +kernel
theorem dX3_ring_4 : decode cX3_ring 4 = .ok (.aload_n 0, 1) := by decide +kernel
theorem dX3_ring_5 : decode cX3_ring 5 = .ok (.iconst 3, 1) := by decide +kernel
theorem dX3_ring_6 : decode cX3_ring 6 = .ok (.invokevirtual 32, 3) := by decide +kernel
theorem dX3_ring_9 : decode cX3_ring 9 = .ok (.ireturn, 1) := by decide +kernel
theorem dX3_ring_10 : decode cX3_ring 10 = .ok (.iload_n 1, 1) := by decide +kernel
theorem dX3_ring_11 : decode cX3_ring 11 = .ok (.ifCond .eq 17, 3) := by decide +kernel
theorem dX3_ring_14 : decode cX3_ring 14 = .ok (.iload_n 1, 1) := by decide +kernel
theorem dX3_ring_15 : decode cX3_ring 15 = .ok (.bipush 64, 2) := by decide +kernel
theorem dX3_ring_17 : decode cX3_ring 17 = .ok (.if_icmp .gt 11, 3) := by decide +kernel
theorem dX3_ring_20 : decode cX3_ring 20 = .ok (.iload_n 1, 1) := by decide +kernel
theorem dX3_ring_21 : decode cX3_ring 21 = .ok (.invokestatic 36, 3) := by decide +kernel
theorem dX3_ring_24 : decode cX3_ring 24 = .ok (.iconst 1, 1) := by decide +kernel
theorem dX3_ring_25 : decode cX3_ring 25 = .ok (.if_icmp .eq 5, 3) := by decide +kernel
theorem dX3_ring_28 : decode cX3_ring 28 = .ok (.iconst (-1), 1) := by decide +kernel
theorem dX3_ring_29 : decode cX3_ring 29 = .ok (.ireturn, 1) := by decide +kernel
theorem dX3_ring_30 : decode cX3_ring 30 = .ok (.aload_n 0, 1) := by decide +kernel
theorem dX3_ring_31 : decode cX3_ring 31 = .ok (.getfield 41, 3) := by decide +kernel
theorem dX3_ring_34 : decode cX3_ring 34 = .ok (.ifCond .eq 6, 3) := by decide +kernel
theorem dX3_ring_37 : decode cX3_ring 37 = .ok (.bipush (-2), 2) := by decide +kernel
theorem dX3_ring_39 : decode cX3_ring 39 = .ok (.ireturn, 1) := by decide +kernel
theorem dX3_ring_40 : decode cX3_ring 40 = .ok (.aload_n 0, 1) := by decide +kernel
theorem dX3_ring_41 : decode cX3_ring 41 = .ok (.getfield 45, 3) := by decide +kernel
theorem dX3_ring_44 : decode cX3_ring 44 = .ok (.bipush 8, 2) := by decide +kernel
theorem dX3_ring_46 : decode cX3_ring 46 = .ok (.if_icmp .lt 6, 3) := by decide +kernel
theorem dX3_ring_49 : decode cX3_ring 49 = .ok (.bipush (-4), 2) := by decide +kernel
theorem dX3_ring_51 : decode cX3_ring 51 = .ok (.ireturn, 1) := by decide +kernel
theorem dX3_ring_52 : decode cX3_ring 52 = .ok (.aload_n 0, 1) := by decide +kernel
theorem dX3_ring_53 : decode cX3_ring 53 = .ok (.getfield 45, 3) := by decide +kernel
theorem dX3_ring_56 : decode cX3_ring 56 = .ok (.istore_n 2, 1) := by decide +kernel
theorem dX3_ring_57 : decode cX3_ring 57 = .ok (.aload_n 0, 1) := by decide +kernel
theorem dX3_ring_58 : decode cX3_ring 58 = .ok (.getfield 11, 3) := by decide +kernel
theorem dX3_ring_61 : decode cX3_ring 61 = .ok (.iload_n 2, 1) := by decide +kernel
theorem dX3_ring_62 : decode cX3_ring 62 = .ok (.new 9, 3) := by decide +kernel
theorem dX3_ring_65 : decode cX3_ring 65 = .ok (.dup, 1) := by decide +kernel
theorem dX3_ring_66 : decode cX3_ring 66 = .ok (.iload_n 2, 1) := by decide +kernel
theorem dX3_ring_67 : decode cX3_ring 67 = .ok (.iload_n 1, 1) := by decide +kernel
theorem dX3_ring_68 : decode cX3_ring 68 = .ok (.invokespecial 48, 3) := by decide +kernel
theorem dX3_ring_71 : decode cX3_ring 71 = .ok (.aastore, 1) := by decide +kernel
theorem dX3_ring_72 : decode cX3_ring 72 = .ok (.aload_n 0, 1) := by decide +kernel
theorem dX3_ring_73 : decode cX3_ring 73 = .ok (.dup, 1) := by decide +kernel
theorem dX3_ring_74 : decode cX3_ring 74 = .ok (.getfield 45, 3) := by decide +kernel
theorem dX3_ring_77 : decode cX3_ring 77 = .ok (.iconst 1, 1) := by decide +kernel
theorem dX3_ring_78 : decode cX3_ring 78 = .ok (.iadd, 1) := by decide +kernel
theorem dX3_ring_79 : decode cX3_ring 79 = .ok (.putfield 45, 3) := by decide +kernel
theorem dX3_ring_82 : decode cX3_ring 82 = .ok (.aload_n 0, 1) := by decide +kernel
theorem dX3_ring_83 : decode cX3_ring 83 = .ok (.dup, 1) := by decide +kernel
theorem dX3_ring_84 : decode cX3_ring 84 = .ok (.getfield 51, 3) := by decide +kernel
theorem dX3_ring_87 : decode cX3_ring 87 = .ok (.iconst 1, 1) := by decide +kernel
theorem dX3_ring_88 : decode cX3_ring 88 = .ok (.iload_n 1, 1) := by decide +kernel
theorem dX3_ring_89 : decode cX3_ring 89 = .ok (.iadd, 1) := by decide +kernel
theorem dX3_ring_90 : decode cX3_ring 90 = .ok (.iadd, 1) := by decide +kernel
theorem dX3_ring_91 : decode cX3_ring 91 = .ok (.putfield 51, 3) := by decide +kernel
theorem dX3_ring_94 : decode cX3_ring 94 = .ok (.iload_n 2, 1) := by decide +kernel
theorem dX3_ring_95 : decode cX3_ring 95 = .ok (.ireturn, 1) := by decide +kernel
theorem dX3_reader_0 : decode cX3_reader 0 = .ok (.aload_n 0, 1) := by decide +kernel
theorem dX3_reader_1 : decode cX3_reader 1 = .ok (.iload_n 2, 1) := by decide +kernel
theorem dX3_reader_2 : decode cX3_reader 2 = .ok (.invokevirtual 54, 3) := by decide +kernel
theorem dX3_reader_5 : decode cX3_reader 5 = .ok (.astore 4, 2) := by decide +kernel
theorem dX3_reader_7 : decode cX3_reader 7 = .ok (.iload_n 1, 1) := by decide +kernel
theorem dX3_reader_8 : decode cX3_reader 8 = .ok (.iconst 1, 1) := by decide +kernel
theorem dX3_reader_9 : decode cX3_reader 9 = .ok (.if_icmp .lt 24, 3) := by decide +kernel
theorem dX3_reader_12 : decode cX3_reader 12 = .ok (.iload_n 1, 1) := by decide +kernel
theorem dX3_reader_13 : decode cX3_reader 13 = .ok (.bipush 7, 2) := by decide +kernel
theorem dX3_reader_15 : decode cX3_reader 15 = .ok (.if_icmp .gt 18, 3) := by decide +kernel
theorem dX3_reader_18 : decode cX3_reader 18 = .ok (.aload 4, 2) := by decide +kernel
theorem dX3_reader_20 : decode cX3_reader 20 = .ok (.ifnull 13, 3) := by decide +kernel
theorem dX3_reader_23 : decode cX3_reader 23 = .ok (.aload_n 0, 1) := by decide +kernel
theorem dX3_reader_24 : decode cX3_reader 24 = .ok (.iload_n 1, 1) := by decide +kernel
theorem dX3_reader_25 : decode cX3_reader 25 = .ok (.iload_n 2, 1) := by decide +kernel
theorem dX3_reader_26 : decode cX3_reader 26 = .ok (.iload_n 3, 1) := by decide +kernel
theorem dX3_reader_27 : decode cX3_reader 27 = .ok (.invokevirtual 58, 3) := by decide +kernel
theorem dX3_reader_30 : decode cX3_reader 30 = .ok (.ifCond .ne 5, 3) := by decide +kernel
theorem dX3_reader_33 : decode cX3_reader 33 = .ok (.iconst (-1), 1) := by decide +kernel
theorem dX3_reader_34 : decode cX3_reader 34 = .ok (.ireturn, 1) := by decide +kernel
theorem dX3_reader_35 : decode cX3_reader 35 = .ok (.aload_n 0, 1) := by decide +kernel
theorem dX3_reader_36 : decode cX3_reader 36 = .ok (.getfield 41, 3) := by decide +kernel
theorem dX3_reader_39 : decode cX3_reader 39 = .ok (.ifCond .eq 6, 3) := by decide +kernel
theorem dX3_reader_42 : decode cX3_reader 42 = .ok (.bipush (-2), 2) := by decide +kernel
theorem dX3_reader_44 : decode cX3_reader 44 = .ok (.ireturn, 1) := by decide +kernel
theorem dX3_reader_45 : decode cX3_reader 45 = .ok (.iload_n 1, 1) := by decide +kernel
theorem dX3_reader_46 : decode cX3_reader 46 = .ok (.bipush 6, 2) := by decide +kernel
theorem dX3_reader_48 : decode cX3_reader 48 = .ok (.if_icmp .ne 15, 3) := by decide +kernel
theorem dX3_reader_51 : decode cX3_reader 51 = .ok (.aload_n 0, 1) := by decide +kernel
theorem dX3_reader_52 : decode cX3_reader 52 = .ok (.iload_n 3, 1) := by decide +kernel
theorem dX3_reader_53 : decode cX3_reader 53 = .ok (.iload_n 2, 1) := by decide +kernel
theorem dX3_reader_54 : decode cX3_reader 54 = .ok (.invokevirtual 62, 3) := by decide +kernel
theorem dX3_reader_57 : decode cX3_reader 57 = .ok (.ifCond .ge 6, 3) := by decide +kernel
theorem dX3_reader_60 : decode cX3_reader 60 = .ok (.bipush (-3), 2) := by decide +kernel
theorem dX3_reader_62 : decode cX3_reader 62 = .ok (.ireturn, 1) := by decide +kernel
theorem dX3_reader_63 : decode cX3_reader 63 = .ok (.aload_n 0, 1) := by decide +kernel
theorem dX3_reader_64 : decode cX3_reader 64 = .ok (.getfield 66, 3) := by decide +kernel
theorem dX3_reader_67 : decode cX3_reader 67 = .ok (.bipush 16, 2) := by decide +kernel
theorem dX3_reader_69 : decode cX3_reader 69 = .ok (.if_icmp .lt 6, 3) := by decide +kernel
theorem dX3_reader_72 : decode cX3_reader 72 = .ok (.bipush (-4), 2) := by decide +kernel
theorem dX3_reader_74 : decode cX3_reader 74 = .ok (.ireturn, 1) := by decide +kernel
theorem dX3_reader_75 : decode cX3_reader 75 = .ok (.aload_n 0, 1) := by decide +kernel
theorem dX3_reader_76 : decode cX3_reader 76 = .ok (.getfield 66, 3) := by decide +kernel
theorem dX3_reader_79 : decode cX3_reader 79 = .ok (.istore 5, 2) := by decide +kernel
theorem dX3_reader_81 : decode cX3_reader 81 = .ok (.aload_n 0, 1) := by decide +kernel
theorem dX3_reader_82 : decode cX3_reader 82 = .ok (.getfield 17, 3) := by decide +kernel
theorem dX3_reader_85 : decode cX3_reader 85 = .ok (.iload 5, 2) := by decide +kernel
theorem dX3_reader_87 : decode cX3_reader 87 = .ok (.aload_n 0, 1) := by decide +kernel
theorem dX3_reader_88 : decode cX3_reader 88 = .ok (.iload_n 1, 1) := by decide +kernel
theorem dX3_reader_89 : decode cX3_reader 89 = .ok (.aload 4, 2) := by decide +kernel
theorem dX3_reader_91 : decode cX3_reader 91 = .ok (.iload_n 3, 1) := by decide +kernel
theorem dX3_reader_92 : decode cX3_reader 92 = .ok (.invokevirtual 69, 3) := by decide +kernel
theorem dX3_reader_95 : decode cX3_reader 95 = .ok (.aastore, 1) := by decide +kernel
theorem dX3_reader_96 : decode cX3_reader 96 = .ok (.aload_n 0, 1) := by decide +kernel
theorem dX3_reader_97 : decode cX3_reader 97 = .ok (.dup, 1) := by decide +kernel
theorem dX3_reader_98 : decode cX3_reader 98 = .ok (.getfield 66, 3) := by decide +kernel
theorem dX3_reader_101 : decode cX3_reader 101 = .ok (.iconst 1, 1) := by decide +kernel
theorem dX3_reader_102 : decode cX3_reader 102 = .ok (.iadd, 1) := by decide +kernel
theorem dX3_reader_103 : decode cX3_reader 103 = .ok (.putfield 66, 3) := by decide +kernel
theorem dX3_reader_106 : decode cX3_reader 106 = .ok (.aload_n 0, 1) := by decide +kernel
theorem dX3_reader_107 : decode cX3_reader 107 = .ok (.dup, 1) := by decide +kernel
theorem dX3_reader_108 : decode cX3_reader 108 = .ok (.getfield 51, 3) := by decide +kernel
theorem dX3_reader_111 : decode cX3_reader 111 = .ok (.iload_n 1, 1) := by decide +kernel
theorem dX3_reader_112 : decode cX3_reader 112 = .ok (.iconst 4, 1) := by decide +kernel
theorem dX3_reader_113 : decode cX3_reader 113 = .ok (.if_icmp .ne 8, 3) := by decide +kernel
theorem dX3_reader_116 : decode cX3_reader 116 = .ok (.bipush 33, 2) := by decide +kernel
theorem dX3_reader_118 : decode cX3_reader 118 = .ok (.goto 4, 3) := by decide +kernel
theorem dX3_reader_121 : decode cX3_reader 121 = .ok (.iconst 1, 1) := by decide +kernel
theorem dX3_reader_122 : decode cX3_reader 122 = .ok (.iadd, 1) := by decide +kernel
theorem dX3_reader_123 : decode cX3_reader 123 = .ok (.putfield 51, 3) := by decide +kernel
theorem dX3_reader_126 : decode cX3_reader 126 = .ok (.iload 5, 2) := by decide +kernel
theorem dX3_reader_128 : decode cX3_reader 128 = .ok (.ireturn, 1) := by decide +kernel
theorem dX3_join_0 : decode cX3_join 0 = .ok (.aload_n 0, 1) := by decide +kernel
theorem dX3_join_1 : decode cX3_join 1 = .ok (.iload_n 1, 1) := by decide +kernel
theorem dX3_join_2 : decode cX3_join 2 = .ok (.invokevirtual 73, 3) := by decide +kernel
theorem dX3_join_5 : decode cX3_join 5 = .ok (.astore_n 3, 1) := by decide +kernel
theorem dX3_join_6 : decode cX3_join 6 = .ok (.aload_n 3, 1) := by decide +kernel
theorem dX3_join_7 : decode cX3_join 7 = .ok (.ifnull 11, 3) := by decide +kernel
theorem dX3_join_10 : decode cX3_join 10 = .ok (.aload_n 0, 1) := by decide +kernel
theorem dX3_join_11 : decode cX3_join 11 = .ok (.iload_n 2, 1) := by decide +kernel
theorem dX3_join_12 : decode cX3_join 12 = .ok (.invokevirtual 54, 3) := by decide +kernel
theorem dX3_join_15 : decode cX3_join 15 = .ok (.ifnonnull 5, 3) := by decide +kernel
theorem dX3_join_18 : decode cX3_join 18 = .ok (.iconst (-1), 1) := by decide +kernel
theorem dX3_join_19 : decode cX3_join 19 = .ok (.ireturn, 1) := by decide +kernel
theorem dX3_join_20 : decode cX3_join 20 = .ok (.aload_n 0, 1) := by decide +kernel
theorem dX3_join_21 : decode cX3_join 21 = .ok (.getfield 41, 3) := by decide +kernel
theorem dX3_join_24 : decode cX3_join 24 = .ok (.ifCond .eq 6, 3) := by decide +kernel
theorem dX3_join_27 : decode cX3_join 27 = .ok (.bipush (-2), 2) := by decide +kernel
theorem dX3_join_29 : decode cX3_join 29 = .ok (.ireturn, 1) := by decide +kernel
theorem dX3_join_30 : decode cX3_join 30 = .ok (.aload_n 3, 1) := by decide +kernel
theorem dX3_join_31 : decode cX3_join 31 = .ok (.getfield 77, 3) := by decide +kernel
theorem dX3_join_34 : decode cX3_join 34 = .ok (.iconst 5, 1) := by decide +kernel
theorem dX3_join_35 : decode cX3_join 35 = .ok (.if_icmp .eq 6, 3) := by decide +kernel
theorem dX3_join_38 : decode cX3_join 38 = .ok (.bipush (-3), 2) := by decide +kernel
theorem dX3_join_40 : decode cX3_join 40 = .ok (.ireturn, 1) := by decide +kernel
theorem dX3_join_41 : decode cX3_join 41 = .ok (.aload_n 3, 1) := by decide +kernel
theorem dX3_join_42 : decode cX3_join 42 = .ok (.iload_n 2, 1) := by decide +kernel
theorem dX3_join_43 : decode cX3_join 43 = .ok (.invokevirtual 80, 3) := by decide +kernel
theorem dX3_join_46 : decode cX3_join 46 = .ok (.ifCond .lt 6, 3) := by decide +kernel
theorem dX3_join_49 : decode cX3_join 49 = .ok (.bipush (-5), 2) := by decide +kernel
theorem dX3_join_51 : decode cX3_join 51 = .ok (.ireturn, 1) := by decide +kernel
theorem dX3_join_52 : decode cX3_join 52 = .ok (.aload_n 3, 1) := by decide +kernel
theorem dX3_join_53 : decode cX3_join 53 = .ok (.getfield 83, 3) := by decide +kernel
theorem dX3_join_56 : decode cX3_join 56 = .ok (.iconst 4, 1) := by decide +kernel
theorem dX3_join_57 : decode cX3_join 57 = .ok (.if_icmp .lt 6, 3) := by decide +kernel
theorem dX3_join_60 : decode cX3_join 60 = .ok (.bipush (-4), 2) := by decide +kernel
theorem dX3_join_62 : decode cX3_join 62 = .ok (.ireturn, 1) := by decide +kernel
theorem dX3_join_63 : decode cX3_join 63 = .ok (.aload_n 3, 1) := by decide +kernel
theorem dX3_join_64 : decode cX3_join 64 = .ok (.iload_n 2, 1) := by decide +kernel
theorem dX3_join_65 : decode cX3_join 65 = .ok (.invokevirtual 86, 3) := by decide +kernel
theorem dX3_join_68 : decode cX3_join 68 = .ok (.iconst 1, 1) := by decide +kernel
theorem dX3_join_69 : decode cX3_join 69 = .ok (.ireturn, 1) := by decide +kernel
theorem dX3_name_0 : decode cX3_name 0 = .ok (.aload_n 0, 1) := by decide +kernel
theorem dX3_name_1 : decode cX3_name 1 = .ok (.iload_n 1, 1) := by decide +kernel
theorem dX3_name_2 : decode cX3_name 2 = .ok (.invokevirtual 73, 3) := by decide +kernel
theorem dX3_name_5 : decode cX3_name 5 = .ok (.astore_n 3, 1) := by decide +kernel
theorem dX3_name_6 : decode cX3_name 6 = .ok (.aload_n 3, 1) := by decide +kernel
theorem dX3_name_7 : decode cX3_name 7 = .ok (.ifnull 11, 3) := by decide +kernel
theorem dX3_name_10 : decode cX3_name 10 = .ok (.aload_n 0, 1) := by decide +kernel
theorem dX3_name_11 : decode cX3_name 11 = .ok (.iload_n 2, 1) := by decide +kernel
theorem dX3_name_12 : decode cX3_name 12 = .ok (.invokevirtual 73, 3) := by decide +kernel
theorem dX3_name_15 : decode cX3_name 15 = .ok (.ifnonnull 5, 3) := by decide +kernel
theorem dX3_name_18 : decode cX3_name 18 = .ok (.iconst (-1), 1) := by decide +kernel
theorem dX3_name_19 : decode cX3_name 19 = .ok (.ireturn, 1) := by decide +kernel
theorem dX3_name_20 : decode cX3_name 20 = .ok (.aload_n 0, 1) := by decide +kernel
theorem dX3_name_21 : decode cX3_name 21 = .ok (.getfield 41, 3) := by decide +kernel
theorem dX3_name_24 : decode cX3_name 24 = .ok (.ifCond .eq 6, 3) := by decide +kernel
theorem dX3_name_27 : decode cX3_name 27 = .ok (.bipush (-2), 2) := by decide +kernel
theorem dX3_name_29 : decode cX3_name 29 = .ok (.ireturn, 1) := by decide +kernel
theorem dX3_name_30 : decode cX3_name 30 = .ok (.aload_n 3, 1) := by decide +kernel
theorem dX3_name_31 : decode cX3_name 31 = .ok (.invokevirtual 90, 3) := by decide +kernel
theorem dX3_name_34 : decode cX3_name 34 = .ok (.ifCond .eq 18, 3) := by decide +kernel
theorem dX3_name_37 : decode cX3_name 37 = .ok (.aload_n 0, 1) := by decide +kernel
theorem dX3_name_38 : decode cX3_name 38 = .ok (.iload_n 2, 1) := by decide +kernel
theorem dX3_name_39 : decode cX3_name 39 = .ok (.aload_n 3, 1) := by decide +kernel
theorem dX3_name_40 : decode cX3_name 40 = .ok (.getfield 94, 3) := by decide +kernel
theorem dX3_name_43 : decode cX3_name 43 = .ok (.getfield 98, 3) := by decide +kernel
theorem dX3_name_46 : decode cX3_name 46 = .ok (.invokevirtual 62, 3) := by decide +kernel
theorem dX3_name_49 : decode cX3_name 49 = .ok (.ifCond .ge 6, 3) := by decide +kernel
theorem dX3_name_52 : decode cX3_name 52 = .ok (.bipush (-3), 2) := by decide +kernel
theorem dX3_name_54 : decode cX3_name 54 = .ok (.ireturn, 1) := by decide +kernel
theorem dX3_name_55 : decode cX3_name 55 = .ok (.iload_n 1, 1) := by decide +kernel
theorem dX3_name_56 : decode cX3_name 56 = .ok (.iload_n 2, 1) := by decide +kernel
theorem dX3_name_57 : decode cX3_name 57 = .ok (.if_icmp .eq 11, 3) := by decide +kernel
theorem dX3_name_60 : decode cX3_name 60 = .ok (.aload_n 3, 1) := by decide +kernel
theorem dX3_name_61 : decode cX3_name 61 = .ok (.iload_n 2, 1) := by decide +kernel
theorem dX3_name_62 : decode cX3_name 62 = .ok (.invokevirtual 101, 3) := by decide +kernel
theorem dX3_name_65 : decode cX3_name 65 = .ok (.ifCond .eq 6, 3) := by decide +kernel
theorem dX3_name_68 : decode cX3_name 68 = .ok (.bipush (-5), 2) := by decide +kernel
theorem dX3_name_70 : decode cX3_name 70 = .ok (.ireturn, 1) := by decide +kernel
theorem dX3_name_71 : decode cX3_name 71 = .ok (.aload_n 3, 1) := by decide +kernel
theorem dX3_name_72 : decode cX3_name 72 = .ok (.getfield 105, 3) := by decide +kernel
theorem dX3_name_75 : decode cX3_name 75 = .ok (.iconst 4, 1) := by decide +kernel
theorem dX3_name_76 : decode cX3_name 76 = .ok (.if_icmp .lt 6, 3) := by decide +kernel
theorem dX3_name_79 : decode cX3_name 79 = .ok (.bipush (-4), 2) := by decide +kernel
theorem dX3_name_81 : decode cX3_name 81 = .ok (.ireturn, 1) := by decide +kernel
theorem dX3_name_82 : decode cX3_name 82 = .ok (.aload_n 0, 1) := by decide +kernel
theorem dX3_name_83 : decode cX3_name 83 = .ok (.iload_n 2, 1) := by decide +kernel
theorem dX3_name_84 : decode cX3_name 84 = .ok (.iload_n 1, 1) := by decide +kernel
theorem dX3_name_85 : decode cX3_name 85 = .ok (.invokevirtual 108, 3) := by decide +kernel
theorem dX3_name_88 : decode cX3_name 88 = .ok (.ifCond .eq 12, 3) := by decide +kernel
theorem dX3_name_91 : decode cX3_name 91 = .ok (.aload_n 0, 1) := by decide +kernel
theorem dX3_name_92 : decode cX3_name 92 = .ok (.iload_n 1, 1) := by decide +kernel
theorem dX3_name_93 : decode cX3_name 93 = .ok (.iload_n 2, 1) := by decide +kernel
theorem dX3_name_94 : decode cX3_name 94 = .ok (.invokevirtual 112, 3) := by decide +kernel
theorem dX3_name_97 : decode cX3_name 97 = .ok (.bipush (-6), 2) := by decide +kernel
theorem dX3_name_99 : decode cX3_name 99 = .ok (.ireturn, 1) := by decide +kernel
theorem dX3_name_100 : decode cX3_name 100 = .ok (.aload_n 3, 1) := by decide +kernel
theorem dX3_name_101 : decode cX3_name 101 = .ok (.iload_n 2, 1) := by decide +kernel
theorem dX3_name_102 : decode cX3_name 102 = .ok (.invokevirtual 115, 3) := by decide +kernel
theorem dX3_name_105 : decode cX3_name 105 = .ok (.iconst 1, 1) := by decide +kernel
theorem dX3_name_106 : decode cX3_name 106 = .ok (.ireturn, 1) := by decide +kernel
theorem dX3_circle_0 : decode cX3_circle 0 = .ok (.iload_n 1, 1) := by decide +kernel
theorem dX3_circle_1 : decode cX3_circle 1 = .ok (.ifCond .lt 29, 3) := by decide +kernel
theorem dX3_circle_4 : decode cX3_circle 4 = .ok (.iload_n 1, 1) := by decide +kernel
theorem dX3_circle_5 : decode cX3_circle 5 = .ok (.aload_n 0, 1) := by decide +kernel
theorem dX3_circle_6 : decode cX3_circle 6 = .ok (.getfield 118, 3) := by decide +kernel
theorem dX3_circle_9 : decode cX3_circle 9 = .ok (.if_icmp .ge 21, 3) := by decide +kernel
theorem dX3_circle_12 : decode cX3_circle 12 = .ok (.iload_n 1, 1) := by decide +kernel
theorem dX3_circle_13 : decode cX3_circle 13 = .ok (.aload_n 0, 1) := by decide +kernel
theorem dX3_circle_14 : decode cX3_circle 14 = .ok (.getfield 25, 3) := by decide +kernel
theorem dX3_circle_17 : decode cX3_circle 17 = .ok (.arraylength, 1) := by decide +kernel
theorem dX3_circle_18 : decode cX3_circle 18 = .ok (.if_icmp .ge 12, 3) := by decide +kernel
theorem dX3_circle_21 : decode cX3_circle 21 = .ok (.aload_n 0, 1) := by decide +kernel
theorem dX3_circle_22 : decode cX3_circle 22 = .ok (.getfield 25, 3) := by decide +kernel
theorem dX3_circle_25 : decode cX3_circle 25 = .ok (.iload_n 1, 1) := by decide +kernel
theorem dX3_circle_26 : decode cX3_circle 26 = .ok (.iaload, 1) := by decide +kernel
theorem dX3_circle_27 : decode cX3_circle 27 = .ok (.goto 4, 3) := by decide +kernel
theorem dX3_circle_30 : decode cX3_circle 30 = .ok (.iconst (-1), 1) := by decide +kernel
theorem dX3_circle_31 : decode cX3_circle 31 = .ok (.ireturn, 1) := by decide +kernel
theorem dX3_begin_0 : decode cX3_begin 0 = .ok (.aload_n 0, 1) := by decide +kernel
theorem dX3_begin_1 : decode cX3_begin 1 = .ok (.getfield 41, 3) := by decide +kernel
theorem dX3_begin_4 : decode cX3_begin 4 = .ok (.ifCond .eq 6, 3) := by decide +kernel
theorem dX3_begin_7 : decode cX3_begin 7 = .ok (.bipush (-2), 2) := by decide +kernel
theorem dX3_begin_9 : decode cX3_begin 9 = .ok (.ireturn, 1) := by decide +kernel
theorem dX3_begin_10 : decode cX3_begin 10 = .ok (.aload_n 0, 1) := by decide +kernel
theorem dX3_begin_11 : decode cX3_begin 11 = .ok (.iconst 1, 1) := by decide +kernel
theorem dX3_begin_12 : decode cX3_begin 12 = .ok (.putfield 41, 3) := by decide +kernel
theorem dX3_begin_15 : decode cX3_begin 15 = .ok (.iconst 1, 1) := by decide +kernel
theorem dX3_begin_16 : decode cX3_begin 16 = .ok (.ireturn, 1) := by decide +kernel
theorem dX3_made_0 : decode cX3_made 0 = .ok (.aload_n 0, 1) := by decide +kernel
theorem dX3_made_1 : decode cX3_made 1 = .ok (.getfield 51, 3) := by decide +kernel
theorem dX3_made_4 : decode cX3_made 4 = .ok (.ireturn, 1) := by decide +kernel
theorem dX3_claim_0 : decode cX3_claim 0 = .ok (.aload_n 0, 1) := by decide +kernel
theorem dX3_claim_1 : decode cX3_claim 1 = .ok (.aload_n 0, 1) := by decide +kernel
theorem dX3_claim_2 : decode cX3_claim 2 = .ok (.iload_n 1, 1) := by decide +kernel
theorem dX3_claim_3 : decode cX3_claim 3 = .ok (.invokevirtual 54, 3) := by decide +kernel
theorem dX3_claim_6 : decode cX3_claim 6 = .ok (.lload_n 2, 1) := by decide +kernel
theorem dX3_claim_7 : decode cX3_claim 7 = .ok (.iconst 1, 1) := by decide +kernel
theorem dX3_claim_8 : decode cX3_claim 8 = .ok (.invokevirtual 121, 3) := by decide +kernel
theorem dX3_claim_11 : decode cX3_claim 11 = .ok (.ireturn, 1) := by decide +kernel
theorem dX3_batch_0 : decode cX3_batch 0 = .ok (.aload_n 0, 1) := by decide +kernel
theorem dX3_batch_1 : decode cX3_batch 1 = .ok (.aload_n 0, 1) := by decide +kernel
theorem dX3_batch_2 : decode cX3_batch 2 = .ok (.iload_n 1, 1) := by decide +kernel
theorem dX3_batch_3 : decode cX3_batch 3 = .ok (.invokevirtual 54, 3) := by decide +kernel
theorem dX3_batch_6 : decode cX3_batch 6 = .ok (.lload_n 2, 1) := by decide +kernel
theorem dX3_batch_7 : decode cX3_batch 7 = .ok (.iload 4, 2) := by decide +kernel
theorem dX3_batch_9 : decode cX3_batch 9 = .ok (.invokevirtual 121, 3) := by decide +kernel
theorem dX3_batch_12 : decode cX3_batch 12 = .ok (.ireturn, 1) := by decide +kernel
theorem dX3_by_0 : decode cX3_by 0 = .ok (.aload_n 0, 1) := by decide +kernel
theorem dX3_by_1 : decode cX3_by 1 = .ok (.getfield 28, 3) := by decide +kernel
theorem dX3_by_4 : decode cX3_by 4 = .ok (.ireturn, 1) := by decide +kernel
theorem dX3_again_0 : decode cX3_again 0 = .ok (.aload_n 0, 1) := by decide +kernel
theorem dX3_again_1 : decode cX3_again 1 = .ok (.getfield 125, 3) := by decide +kernel
theorem dX3_again_4 : decode cX3_again 4 = .ok (.ifCond .ne 12, 3) := by decide +kernel
theorem dX3_again_7 : decode cX3_again 7 = .ok (.aload_n 0, 1) := by decide +kernel
theorem dX3_again_8 : decode cX3_again 8 = .ok (.bipush 6, 2) := by decide +kernel
theorem dX3_again_10 : decode cX3_again 10 = .ok (.invokevirtual 32, 3) := by decide +kernel
theorem dX3_again_13 : decode cX3_again 13 = .ok (.goto 7, 3) := by decide +kernel
theorem dX3_again_16 : decode cX3_again 16 = .ok (.aload_n 0, 1) := by decide +kernel
theorem dX3_again_17 : decode cX3_again 17 = .ok (.getfield 125, 3) := by decide +kernel
theorem dX3_again_20 : decode cX3_again 20 = .ok (.ireturn, 1) := by decide +kernel
theorem dX3_fill_0 : decode cX3_fill 0 = .ok (.aload_n 0, 1) := by decide +kernel
theorem dX3_fill_1 : decode cX3_fill 1 = .ok (.iload_n 1, 1) := by decide +kernel
theorem dX3_fill_2 : decode cX3_fill 2 = .ok (.invokevirtual 54, 3) := by decide +kernel
theorem dX3_fill_5 : decode cX3_fill 5 = .ok (.astore 6, 2) := by decide +kernel
theorem dX3_fill_7 : decode cX3_fill 7 = .ok (.aload 6, 2) := by decide +kernel
theorem dX3_fill_9 : decode cX3_fill 9 = .ok (.ifnonnull 5, 3) := by decide +kernel
theorem dX3_fill_12 : decode cX3_fill 12 = .ok (.iconst (-1), 1) := by decide +kernel
theorem dX3_fill_13 : decode cX3_fill 13 = .ok (.ireturn, 1) := by decide +kernel
theorem dX3_fill_14 : decode cX3_fill 14 = .ok (.aload_n 0, 1) := by decide +kernel
theorem dX3_fill_15 : decode cX3_fill 15 = .ok (.getfield 41, 3) := by decide +kernel
theorem dX3_fill_18 : decode cX3_fill 18 = .ok (.ifCond .ne 6, 3) := by decide +kernel
theorem dX3_fill_21 : decode cX3_fill 21 = .ok (.bipush (-2), 2) := by decide +kernel
theorem dX3_fill_23 : decode cX3_fill 23 = .ok (.ireturn, 1) := by decide +kernel
theorem dX3_fill_24 : decode cX3_fill 24 = .ok (.aload 6, 2) := by decide +kernel
theorem dX3_fill_26 : decode cX3_fill 26 = .ok (.getfield 128, 3) := by decide +kernel
theorem dX3_fill_29 : decode cX3_fill 29 = .ok (.ifCond .eq 9, 3) := by decide +kernel
theorem dX3_fill_32 : decode cX3_fill 32 = .ok (.aload_n 0, 1) := by decide +kernel
theorem dX3_fill_33 : decode cX3_fill 33 = .ok (.iconst 1, 1) := by decide +kernel
theorem dX3_fill_34 : decode cX3_fill 34 = .ok (.invokevirtual 32, 3) := by decide +kernel
theorem dX3_fill_37 : decode cX3_fill 37 = .ok (.ireturn, 1) := by decide +kernel
theorem dX3_fill_38 : decode cX3_fill 38 = .ok (.aload 6, 2) := by decide +kernel
theorem dX3_fill_40 : decode cX3_fill 40 = .ok (.iload_n 2, 1) := by decide +kernel
theorem dX3_fill_41 : decode cX3_fill 41 = .ok (.invokevirtual 131, 3) := by decide +kernel
theorem dX3_fill_44 : decode cX3_fill 44 = .ok (.astore 7, 2) := by decide +kernel
theorem dX3_fill_46 : decode cX3_fill 46 = .ok (.aload 7, 2) := by decide +kernel
theorem dX3_fill_48 : decode cX3_fill 48 = .ok (.ifnonnull 6, 3) := by decide +kernel
theorem dX3_fill_51 : decode cX3_fill 51 = .ok (.bipush (-11), 2) := by decide +kernel
theorem dX3_fill_53 : decode cX3_fill 53 = .ok (.ireturn, 1) := by decide +kernel
theorem dX3_fill_54 : decode cX3_fill 54 = .ok (.iload_n 3, 1) := by decide +kernel
theorem dX3_fill_55 : decode cX3_fill 55 = .ok (.ifCond .lt 9, 3) := by decide +kernel
theorem dX3_fill_58 : decode cX3_fill 58 = .ok (.iload_n 3, 1) := by decide +kernel
theorem dX3_fill_59 : decode cX3_fill 59 = .ok (.bipush 8, 2) := by decide +kernel
theorem dX3_fill_61 : decode cX3_fill 61 = .ok (.if_icmp .lt 9, 3) := by decide +kernel
theorem dX3_fill_64 : decode cX3_fill 64 = .ok (.aload_n 0, 1) := by decide +kernel
theorem dX3_fill_65 : decode cX3_fill 65 = .ok (.iconst 2, 1) := by decide +kernel
theorem dX3_fill_66 : decode cX3_fill 66 = .ok (.invokevirtual 32, 3) := by decide +kernel
theorem dX3_fill_69 : decode cX3_fill 69 = .ok (.ireturn, 1) := by decide +kernel
theorem dX3_fill_70 : decode cX3_fill 70 = .ok (.aload 7, 2) := by decide +kernel
theorem dX3_fill_72 : decode cX3_fill 72 = .ok (.getfield 135, 3) := by decide +kernel
theorem dX3_fill_75 : decode cX3_fill 75 = .ok (.iload_n 3, 1) := by decide +kernel
theorem dX3_fill_76 : decode cX3_fill 76 = .ok (.lload 4, 2) := by decide +kernel
theorem dX3_fill_78 : decode cX3_fill 78 = .ok (.lastore, 1) := by decide +kernel
theorem dX3_fill_79 : decode cX3_fill 79 = .ok (.iconst 1, 1) := by decide +kernel
theorem dX3_fill_80 : decode cX3_fill 80 = .ok (.ireturn, 1) := by decide +kernel
theorem dX3_copy_0 : decode cX3_copy 0 = .ok (.aload_n 0, 1) := by decide +kernel
theorem dX3_copy_1 : decode cX3_copy 1 = .ok (.iload_n 1, 1) := by decide +kernel
theorem dX3_copy_2 : decode cX3_copy 2 = .ok (.invokevirtual 54, 3) := by decide +kernel
theorem dX3_copy_5 : decode cX3_copy 5 = .ok (.astore 6, 2) := by decide +kernel
theorem dX3_copy_7 : decode cX3_copy 7 = .ok (.aload_n 0, 1) := by decide +kernel
theorem dX3_copy_8 : decode cX3_copy 8 = .ok (.iload_n 3, 1) := by decide +kernel
theorem dX3_copy_9 : decode cX3_copy 9 = .ok (.invokevirtual 73, 3) := by decide +kernel
theorem dX3_copy_12 : decode cX3_copy 12 = .ok (.astore 7, 2) := by decide +kernel
theorem dX3_copy_14 : decode cX3_copy 14 = .ok (.aload 6, 2) := by decide +kernel
theorem dX3_copy_16 : decode cX3_copy 16 = .ok (.ifnull 8, 3) := by decide +kernel
theorem dX3_copy_19 : decode cX3_copy 19 = .ok (.aload 7, 2) := by decide +kernel
theorem dX3_copy_21 : decode cX3_copy 21 = .ok (.ifnonnull 5, 3) := by decide +kernel
theorem dX3_copy_24 : decode cX3_copy 24 = .ok (.iconst (-1), 1) := by decide +kernel
theorem dX3_copy_25 : decode cX3_copy 25 = .ok (.ireturn, 1) := by decide +kernel
theorem dX3_copy_26 : decode cX3_copy 26 = .ok (.aload_n 0, 1) := by decide +kernel
theorem dX3_copy_27 : decode cX3_copy 27 = .ok (.getfield 41, 3) := by decide +kernel
theorem dX3_copy_30 : decode cX3_copy 30 = .ok (.ifCond .ne 6, 3) := by decide +kernel
theorem dX3_copy_33 : decode cX3_copy 33 = .ok (.bipush (-2), 2) := by decide +kernel
theorem dX3_copy_35 : decode cX3_copy 35 = .ok (.ireturn, 1) := by decide +kernel
theorem dX3_copy_36 : decode cX3_copy 36 = .ok (.aload 6, 2) := by decide +kernel
theorem dX3_copy_38 : decode cX3_copy 38 = .ok (.getfield 128, 3) := by decide +kernel
theorem dX3_copy_41 : decode cX3_copy 41 = .ok (.ifCond .eq 9, 3) := by decide +kernel
theorem dX3_copy_44 : decode cX3_copy 44 = .ok (.aload_n 0, 1) := by decide +kernel
theorem dX3_copy_45 : decode cX3_copy 45 = .ok (.iconst 1, 1) := by decide +kernel
theorem dX3_copy_46 : decode cX3_copy 46 = .ok (.invokevirtual 32, 3) := by decide +kernel
theorem dX3_copy_49 : decode cX3_copy 49 = .ok (.ireturn, 1) := by decide +kernel
theorem dX3_copy_50 : decode cX3_copy 50 = .ok (.aload 6, 2) := by decide +kernel
theorem dX3_copy_52 : decode cX3_copy 52 = .ok (.iload_n 2, 1) := by decide +kernel
theorem dX3_copy_53 : decode cX3_copy 53 = .ok (.invokevirtual 131, 3) := by decide +kernel
theorem dX3_copy_56 : decode cX3_copy 56 = .ok (.astore 8, 2) := by decide +kernel
theorem dX3_copy_58 : decode cX3_copy 58 = .ok (.aload 8, 2) := by decide +kernel
theorem dX3_copy_60 : decode cX3_copy 60 = .ok (.ifnonnull 6, 3) := by decide +kernel
theorem dX3_copy_63 : decode cX3_copy 63 = .ok (.bipush (-11), 2) := by decide +kernel
theorem dX3_copy_65 : decode cX3_copy 65 = .ok (.ireturn, 1) := by decide +kernel
theorem dX3_copy_66 : decode cX3_copy 66 = .ok (.iload 4, 2) := by decide +kernel
theorem dX3_copy_68 : decode cX3_copy 68 = .ok (.ifCond .lt 25, 3) := by decide +kernel
theorem dX3_copy_71 : decode cX3_copy 71 = .ok (.iload 4, 2) := by decide +kernel
theorem dX3_copy_73 : decode cX3_copy 73 = .ok (.bipush 8, 2) := by decide +kernel
theorem dX3_copy_75 : decode cX3_copy 75 = .ok (.if_icmp .gt 18, 3) := by decide +kernel
theorem dX3_copy_78 : decode cX3_copy 78 = .ok (.iload 5, 2) := by decide +kernel
theorem dX3_copy_80 : decode cX3_copy 80 = .ok (.ifCond .lt 13, 3) := by decide +kernel
theorem dX3_copy_83 : decode cX3_copy 83 = .ok (.iload 5, 2) := by decide +kernel
theorem dX3_copy_85 : decode cX3_copy 85 = .ok (.bipush 8, 2) := by decide +kernel
theorem dX3_copy_87 : decode cX3_copy 87 = .ok (.iload 4, 2) := by decide +kernel
theorem dX3_copy_89 : decode cX3_copy 89 = .ok (.isub, 1) := by decide +kernel
theorem dX3_copy_90 : decode cX3_copy 90 = .ok (.if_icmp .le 9, 3) := by decide +kernel
theorem dX3_copy_93 : decode cX3_copy 93 = .ok (.aload_n 0, 1) := by decide +kernel
theorem dX3_copy_94 : decode cX3_copy 94 = .ok (.iconst 5, 1) := by decide +kernel
theorem dX3_copy_95 : decode cX3_copy 95 = .ok (.invokevirtual 32, 3) := by decide +kernel
theorem dX3_copy_98 : decode cX3_copy 98 = .ok (.ireturn, 1) := by decide +kernel
theorem dX3_copy_99 : decode cX3_copy 99 = .ok (.aload 7, 2) := by decide +kernel
theorem dX3_copy_101 : decode cX3_copy 101 = .ok (.getfield 141, 3) := by decide +kernel
theorem dX3_copy_104 : decode cX3_copy 104 = .ok (.getfield 135, 3) := by decide +kernel
theorem dX3_copy_107 : decode cX3_copy 107 = .ok (.iload 4, 2) := by decide +kernel
theorem dX3_copy_109 : decode cX3_copy 109 = .ok (.aload 8, 2) := by decide +kernel
theorem dX3_copy_111 : decode cX3_copy 111 = .ok (.getfield 135, 3) := by decide +kernel
theorem dX3_copy_114 : decode cX3_copy 114 = .ok (.iconst 0, 1) := by decide +kernel
theorem dX3_copy_115 : decode cX3_copy 115 = .ok (.iload 5, 2) := by decide +kernel
theorem dX3_copy_117 : decode cX3_copy 117 = .ok (.invokestatic 145, 3) := by decide +kernel
theorem dX3_copy_120 : decode cX3_copy 120 = .ok (.iconst 1, 1) := by decide +kernel
theorem dX3_copy_121 : decode cX3_copy 121 = .ok (.ireturn, 1) := by decide +kernel
theorem dX3_publish_0 : decode cX3_publish 0 = .ok (.aload_n 0, 1) := by decide +kernel
theorem dX3_publish_1 : decode cX3_publish 1 = .ok (.iload_n 1, 1) := by decide +kernel
theorem dX3_publish_2 : decode cX3_publish 2 = .ok (.invokevirtual 54, 3) := by decide +kernel
theorem dX3_publish_5 : decode cX3_publish 5 = .ok (.astore 5, 2) := by decide +kernel
theorem dX3_publish_7 : decode cX3_publish 7 = .ok (.aload 5, 2) := by decide +kernel
theorem dX3_publish_9 : decode cX3_publish 9 = .ok (.ifnull 25, 3) := by decide +kernel
theorem dX3_publish_12 : decode cX3_publish 12 = .ok (.iload_n 3, 1) := by decide +kernel
theorem dX3_publish_13 : decode cX3_publish 13 = .ok (.ifCond .lt 21, 3) := by decide +kernel
theorem dX3_publish_16 : decode cX3_publish 16 = .ok (.iload_n 3, 1) := by decide +kernel
theorem dX3_publish_17 : decode cX3_publish 17 = .ok (.bipush 32, 2) := by decide +kernel
theorem dX3_publish_19 : decode cX3_publish 19 = .ok (.if_icmp .ge 15, 3) := by decide +kernel
theorem dX3_publish_22 : decode cX3_publish 22 = .ok (.iload 4, 2) := by decide +kernel
theorem dX3_publish_24 : decode cX3_publish 24 = .ok (.ifCond .lt 10, 3) := by decide +kernel
theorem dX3_publish_27 : decode cX3_publish 27 = .ok (.iload 4, 2) := by decide +kernel
theorem dX3_publish_29 : decode cX3_publish 29 = .ok (.bipush 8, 2) := by decide +kernel
theorem dX3_publish_31 : decode cX3_publish 31 = .ok (.if_icmp .le 5, 3) := by decide +kernel
theorem dX3_publish_34 : decode cX3_publish 34 = .ok (.iconst (-1), 1) := by decide +kernel
theorem dX3_publish_35 : decode cX3_publish 35 = .ok (.ireturn, 1) := by decide +kernel
theorem dX3_publish_36 : decode cX3_publish 36 = .ok (.aload_n 0, 1) := by decide +kernel
theorem dX3_publish_37 : decode cX3_publish 37 = .ok (.getfield 41, 3) := by decide +kernel
theorem dX3_publish_40 : decode cX3_publish 40 = .ok (.ifCond .ne 6, 3) := by decide +kernel
theorem dX3_publish_43 : decode cX3_publish 43 = .ok (.bipush (-2), 2) := by decide +kernel
theorem dX3_publish_45 : decode cX3_publish 45 = .ok (.ireturn, 1) := by decide +kernel
theorem dX3_publish_46 : decode cX3_publish 46 = .ok (.aload 5, 2) := by decide +kernel
theorem dX3_publish_48 : decode cX3_publish 48 = .ok (.getfield 128, 3) := by decide +kernel
theorem dX3_publish_51 : decode cX3_publish 51 = .ok (.ifCond .eq 6, 3) := by decide +kernel
theorem dX3_publish_54 : decode cX3_publish 54 = .ok (.bipush (-7), 2) := by decide +kernel
theorem dX3_publish_56 : decode cX3_publish 56 = .ok (.ireturn, 1) := by decide +kernel
theorem dX3_publish_57 : decode cX3_publish 57 = .ok (.aload 5, 2) := by decide +kernel
theorem dX3_publish_59 : decode cX3_publish 59 = .ok (.iload_n 2, 1) := by decide +kernel
theorem dX3_publish_60 : decode cX3_publish 60 = .ok (.invokevirtual 131, 3) := by decide +kernel
theorem dX3_publish_63 : decode cX3_publish 63 = .ok (.astore 6, 2) := by decide +kernel
theorem dX3_publish_65 : decode cX3_publish 65 = .ok (.aload 6, 2) := by decide +kernel
theorem dX3_publish_67 : decode cX3_publish 67 = .ok (.ifnonnull 6, 3) := by decide +kernel
theorem dX3_publish_70 : decode cX3_publish 70 = .ok (.bipush (-11), 2) := by decide +kernel
theorem dX3_publish_72 : decode cX3_publish 72 = .ok (.ireturn, 1) := by decide +kernel
theorem dX3_publish_73 : decode cX3_publish 73 = .ok (.aload_n 0, 1) := by decide +kernel
theorem dX3_publish_74 : decode cX3_publish 74 = .ok (.aload 6, 2) := by decide +kernel
theorem dX3_publish_76 : decode cX3_publish 76 = .ok (.iload_n 3, 1) := by decide +kernel
theorem dX3_publish_77 : decode cX3_publish 77 = .ok (.iload 4, 2) := by decide +kernel
theorem dX3_publish_79 : decode cX3_publish 79 = .ok (.invokevirtual 151, 3) := by decide +kernel
theorem dX3_publish_82 : decode cX3_publish 82 = .ok (.iconst 1, 1) := by decide +kernel
theorem dX3_publish_83 : decode cX3_publish 83 = .ok (.ireturn, 1) := by decide +kernel
theorem dX3_close_0 : decode cX3_close 0 = .ok (.aload_n 0, 1) := by decide +kernel
theorem dX3_close_1 : decode cX3_close 1 = .ok (.iload_n 1, 1) := by decide +kernel
theorem dX3_close_2 : decode cX3_close 2 = .ok (.invokevirtual 54, 3) := by decide +kernel
theorem dX3_close_5 : decode cX3_close 5 = .ok (.astore_n 2, 1) := by decide +kernel
theorem dX3_close_6 : decode cX3_close 6 = .ok (.aload_n 2, 1) := by decide +kernel
theorem dX3_close_7 : decode cX3_close 7 = .ok (.ifnonnull 5, 3) := by decide +kernel
theorem dX3_close_10 : decode cX3_close 10 = .ok (.iconst (-1), 1) := by decide +kernel
theorem dX3_close_11 : decode cX3_close 11 = .ok (.ireturn, 1) := by decide +kernel
theorem dX3_close_12 : decode cX3_close 12 = .ok (.aload_n 0, 1) := by decide +kernel
theorem dX3_close_13 : decode cX3_close 13 = .ok (.getfield 41, 3) := by decide +kernel
theorem dX3_close_16 : decode cX3_close 16 = .ok (.ifCond .ne 6, 3) := by decide +kernel
theorem dX3_close_19 : decode cX3_close 19 = .ok (.bipush (-2), 2) := by decide +kernel
theorem dX3_close_21 : decode cX3_close 21 = .ok (.ireturn, 1) := by decide +kernel
theorem dX3_close_22 : decode cX3_close 22 = .ok (.aload_n 2, 1) := by decide +kernel
theorem dX3_close_23 : decode cX3_close 23 = .ok (.getfield 128, 3) := by decide +kernel
theorem dX3_close_26 : decode cX3_close 26 = .ok (.ifCond .eq 6, 3) := by decide +kernel
theorem dX3_close_29 : decode cX3_close 29 = .ok (.bipush (-7), 2) := by decide +kernel
theorem dX3_close_31 : decode cX3_close 31 = .ok (.ireturn, 1) := by decide +kernel
theorem dX3_close_32 : decode cX3_close 32 = .ok (.aload_n 2, 1) := by decide +kernel
theorem dX3_close_33 : decode cX3_close 33 = .ok (.getfield 155, 3) := by decide +kernel
theorem dX3_close_36 : decode cX3_close 36 = .ok (.ifCond .eq 6, 3) := by decide +kernel
theorem dX3_close_39 : decode cX3_close 39 = .ok (.bipush (-8), 2) := by decide +kernel
theorem dX3_close_41 : decode cX3_close 41 = .ok (.ireturn, 1) := by decide +kernel
theorem dX3_close_42 : decode cX3_close 42 = .ok (.aload_n 2, 1) := by decide +kernel
theorem dX3_close_43 : decode cX3_close 43 = .ok (.iconst 1, 1) := by decide +kernel
theorem dX3_close_44 : decode cX3_close 44 = .ok (.putfield 155, 3) := by decide +kernel
theorem dX3_close_47 : decode cX3_close 47 = .ok (.iconst 1, 1) := by decide +kernel
theorem dX3_close_48 : decode cX3_close 48 = .ok (.ireturn, 1) := by decide +kernel
theorem dX3_give_0 : decode cX3_give 0 = .ok (.aload_n 0, 1) := by decide +kernel
theorem dX3_give_1 : decode cX3_give 1 = .ok (.iload_n 1, 1) := by decide +kernel
theorem dX3_give_2 : decode cX3_give 2 = .ok (.invokevirtual 54, 3) := by decide +kernel
theorem dX3_give_5 : decode cX3_give 5 = .ok (.astore_n 2, 1) := by decide +kernel
theorem dX3_give_6 : decode cX3_give 6 = .ok (.aload_n 2, 1) := by decide +kernel
theorem dX3_give_7 : decode cX3_give 7 = .ok (.ifnonnull 5, 3) := by decide +kernel
theorem dX3_give_10 : decode cX3_give 10 = .ok (.iconst (-1), 1) := by decide +kernel
theorem dX3_give_11 : decode cX3_give 11 = .ok (.ireturn, 1) := by decide +kernel
theorem dX3_give_12 : decode cX3_give 12 = .ok (.aload_n 0, 1) := by decide +kernel
theorem dX3_give_13 : decode cX3_give 13 = .ok (.getfield 41, 3) := by decide +kernel
theorem dX3_give_16 : decode cX3_give 16 = .ok (.ifCond .ne 6, 3) := by decide +kernel
theorem dX3_give_19 : decode cX3_give 19 = .ok (.bipush (-2), 2) := by decide +kernel
theorem dX3_give_21 : decode cX3_give 21 = .ok (.ireturn, 1) := by decide +kernel
theorem dX3_give_22 : decode cX3_give 22 = .ok (.aload_n 2, 1) := by decide +kernel
theorem dX3_give_23 : decode cX3_give 23 = .ok (.getfield 128, 3) := by decide +kernel
theorem dX3_give_26 : decode cX3_give 26 = .ok (.ifCond .eq 6, 3) := by decide +kernel
theorem dX3_give_29 : decode cX3_give 29 = .ok (.bipush (-7), 2) := by decide +kernel
theorem dX3_give_31 : decode cX3_give 31 = .ok (.ireturn, 1) := by decide +kernel
theorem dX3_give_32 : decode cX3_give 32 = .ok (.aload_n 2, 1) := by decide +kernel
theorem dX3_give_33 : decode cX3_give 33 = .ok (.invokevirtual 158, 3) := by decide +kernel
theorem dX3_give_36 : decode cX3_give 36 = .ok (.ifCond .gt 17, 3) := by decide +kernel
theorem dX3_give_39 : decode cX3_give 39 = .ok (.aload_n 0, 1) := by decide +kernel
theorem dX3_give_40 : decode cX3_give 40 = .ok (.aload_n 2, 1) := by decide +kernel
theorem dX3_give_41 : decode cX3_give 41 = .ok (.aload_n 2, 1) := by decide +kernel
theorem dX3_give_42 : decode cX3_give 42 = .ok (.getfield 162, 3) := by decide +kernel
theorem dX3_give_45 : decode cX3_give 45 = .ok (.iconst 1, 1) := by decide +kernel
theorem dX3_give_46 : decode cX3_give 46 = .ok (.isub, 1) := by decide +kernel
theorem dX3_give_47 : decode cX3_give 47 = .ok (.invokevirtual 165, 3) := by decide +kernel
theorem dX3_give_50 : decode cX3_give 50 = .ok (.ifCond .lt 6, 3) := by decide +kernel
theorem dX3_give_53 : decode cX3_give 53 = .ok (.bipush (-10), 2) := by decide +kernel
theorem dX3_give_55 : decode cX3_give 55 = .ok (.ireturn, 1) := by decide +kernel
theorem dX3_give_56 : decode cX3_give 56 = .ok (.aload_n 2, 1) := by decide +kernel
theorem dX3_give_57 : decode cX3_give 57 = .ok (.iconst 1, 1) := by decide +kernel
theorem dX3_give_58 : decode cX3_give 58 = .ok (.putfield 128, 3) := by decide +kernel
theorem dX3_give_61 : decode cX3_give 61 = .ok (.iconst 1, 1) := by decide +kernel
theorem dX3_give_62 : decode cX3_give 62 = .ok (.ireturn, 1) := by decide +kernel
theorem dX3_told_0 : decode cX3_told 0 = .ok (.iload_n 2, 1) := by decide +kernel
theorem dX3_told_1 : decode cX3_told 1 = .ok (.ifCond .lt 9, 3) := by decide +kernel
theorem dX3_told_4 : decode cX3_told 4 = .ok (.iload_n 2, 1) := by decide +kernel
theorem dX3_told_5 : decode cX3_told 5 = .ok (.bipush 6, 2) := by decide +kernel
theorem dX3_told_7 : decode cX3_told 7 = .ok (.if_icmp .le 5, 3) := by decide +kernel
theorem dX3_told_10 : decode cX3_told 10 = .ok (.iconst (-1), 1) := by decide +kernel
theorem dX3_told_11 : decode cX3_told 11 = .ok (.ireturn, 1) := by decide +kernel
theorem dX3_told_12 : decode cX3_told 12 = .ok (.aload_n 0, 1) := by decide +kernel
theorem dX3_told_13 : decode cX3_told 13 = .ok (.iload_n 1, 1) := by decide +kernel
theorem dX3_told_14 : decode cX3_told 14 = .ok (.invokevirtual 54, 3) := by decide +kernel
theorem dX3_told_17 : decode cX3_told 17 = .ok (.astore_n 3, 1) := by decide +kernel
theorem dX3_told_18 : decode cX3_told 18 = .ok (.aload_n 3, 1) := by decide +kernel
theorem dX3_told_19 : decode cX3_told 19 = .ok (.ifnonnull 9, 3) := by decide +kernel
theorem dX3_told_22 : decode cX3_told 22 = .ok (.aload_n 0, 1) := by decide +kernel
theorem dX3_told_23 : decode cX3_told 23 = .ok (.iconst 2, 1) := by decide +kernel
theorem dX3_told_24 : decode cX3_told 24 = .ok (.invokevirtual 32, 3) := by decide +kernel
theorem dX3_told_27 : decode cX3_told 27 = .ok (.ireturn, 1) := by decide +kernel
theorem dX3_told_28 : decode cX3_told 28 = .ok (.iload_n 2, 1) := by decide +kernel
theorem dX3_told_29 : decode cX3_told 29 = .ok (.tableswitch 84 0 5 #[39, 44, 49, 54, 60, 66], 39) := by decide +kernel
theorem dX3_told_68 : decode cX3_told 68 = .ok (.aload_n 3, 1) := by decide +kernel
theorem dX3_told_69 : decode cX3_told 69 = .ok (.getfield 169, 3) := by decide +kernel
theorem dX3_told_72 : decode cX3_told 72 = .ok (.ireturn, 1) := by decide +kernel
theorem dX3_told_73 : decode cX3_told 73 = .ok (.aload_n 3, 1) := by decide +kernel
theorem dX3_told_74 : decode cX3_told 74 = .ok (.getfield 162, 3) := by decide +kernel
theorem dX3_told_77 : decode cX3_told 77 = .ok (.ireturn, 1) := by decide +kernel
theorem dX3_told_78 : decode cX3_told 78 = .ok (.aload_n 3, 1) := by decide +kernel
theorem dX3_told_79 : decode cX3_told 79 = .ok (.invokevirtual 158, 3) := by decide +kernel
theorem dX3_told_82 : decode cX3_told 82 = .ok (.ireturn, 1) := by decide +kernel
theorem dX3_told_83 : decode cX3_told 83 = .ok (.aload_n 0, 1) := by decide +kernel
theorem dX3_told_84 : decode cX3_told 84 = .ok (.aload_n 3, 1) := by decide +kernel
theorem dX3_told_85 : decode cX3_told 85 = .ok (.invokevirtual 172, 3) := by decide +kernel
theorem dX3_told_88 : decode cX3_told 88 = .ok (.ireturn, 1) := by decide +kernel
theorem dX3_told_89 : decode cX3_told 89 = .ok (.aload_n 0, 1) := by decide +kernel
theorem dX3_told_90 : decode cX3_told 90 = .ok (.aload_n 3, 1) := by decide +kernel
theorem dX3_told_91 : decode cX3_told 91 = .ok (.invokevirtual 176, 3) := by decide +kernel
theorem dX3_told_94 : decode cX3_told 94 = .ok (.ireturn, 1) := by decide +kernel
theorem dX3_told_95 : decode cX3_told 95 = .ok (.aload_n 0, 1) := by decide +kernel
theorem dX3_told_96 : decode cX3_told 96 = .ok (.aload_n 3, 1) := by decide +kernel
theorem dX3_told_97 : decode cX3_told 97 = .ok (.aload_n 3, 1) := by decide +kernel
theorem dX3_told_98 : decode cX3_told 98 = .ok (.getfield 162, 3) := by decide +kernel
theorem dX3_told_101 : decode cX3_told 101 = .ok (.invokevirtual 179, 3) := by decide +kernel
theorem dX3_told_104 : decode cX3_told 104 = .ok (.ifCond .eq 7, 3) := by decide +kernel
theorem dX3_told_107 : decode cX3_told 107 = .ok (.iconst 1, 1) := by decide +kernel
theorem dX3_told_108 : decode cX3_told 108 = .ok (.goto 4, 3) := by decide +kernel
theorem dX3_told_111 : decode cX3_told 111 = .ok (.iconst 0, 1) := by decide +kernel
theorem dX3_told_112 : decode cX3_told 112 = .ok (.ireturn, 1) := by decide +kernel
theorem dX3_told_113 : decode cX3_told 113 = .ok (.aload_n 3, 1) := by decide +kernel
theorem dX3_told_114 : decode cX3_told 114 = .ok (.getfield 128, 3) := by decide +kernel
theorem dX3_told_117 : decode cX3_told 117 = .ok (.ifCond .eq 7, 3) := by decide +kernel
theorem dX3_told_120 : decode cX3_told 120 = .ok (.iconst 2, 1) := by decide +kernel
theorem dX3_told_121 : decode cX3_told 121 = .ok (.goto 15, 3) := by decide +kernel
theorem dX3_told_124 : decode cX3_told 124 = .ok (.aload_n 3, 1) := by decide +kernel
theorem dX3_told_125 : decode cX3_told 125 = .ok (.getfield 155, 3) := by decide +kernel
theorem dX3_told_128 : decode cX3_told 128 = .ok (.ifCond .eq 7, 3) := by decide +kernel
theorem dX3_told_131 : decode cX3_told 131 = .ok (.iconst 1, 1) := by decide +kernel
theorem dX3_told_132 : decode cX3_told 132 = .ok (.goto 4, 3) := by decide +kernel
theorem dX3_told_135 : decode cX3_told 135 = .ok (.iconst 0, 1) := by decide +kernel
theorem dX3_told_136 : decode cX3_told 136 = .ok (.ireturn, 1) := by decide +kernel
theorem dX3_last_0 : decode cX3_last 0 = .ok (.aload_n 0, 1) := by decide +kernel
theorem dX3_last_1 : decode cX3_last 1 = .ok (.iload_n 1, 1) := by decide +kernel
theorem dX3_last_2 : decode cX3_last 2 = .ok (.invokevirtual 54, 3) := by decide +kernel
theorem dX3_last_5 : decode cX3_last 5 = .ok (.astore_n 2, 1) := by decide +kernel
theorem dX3_last_6 : decode cX3_last 6 = .ok (.aload_n 2, 1) := by decide +kernel
theorem dX3_last_7 : decode cX3_last 7 = .ok (.ifnonnull 7, 3) := by decide +kernel
theorem dX3_last_10 : decode cX3_last 10 = .ok (.lconst 0, 1) := by decide +kernel
theorem dX3_last_11 : decode cX3_last 11 = .ok (.goto 7, 3) := by decide +kernel
theorem dX3_last_14 : decode cX3_last 14 = .ok (.aload_n 2, 1) := by decide +kernel
theorem dX3_last_15 : decode cX3_last 15 = .ok (.getfield 183, 3) := by decide +kernel
theorem dX3_last_18 : decode cX3_last 18 = .ok (.lreturn, 1) := by decide +kernel
theorem dX3_read_0 : decode cX3_read 0 = .ok (.aload_n 0, 1) := by decide +kernel
theorem dX3_read_1 : decode cX3_read 1 = .ok (.getfield 41, 3) := by decide +kernel
theorem dX3_read_4 : decode cX3_read 4 = .ok (.ifCond .ne 6, 3) := by decide +kernel
theorem dX3_read_7 : decode cX3_read 7 = .ok (.bipush (-2), 2) := by decide +kernel
theorem dX3_read_9 : decode cX3_read 9 = .ok (.ireturn, 1) := by decide +kernel
theorem dX3_read_10 : decode cX3_read 10 = .ok (.aload_n 0, 1) := by decide +kernel
theorem dX3_read_11 : decode cX3_read 11 = .ok (.iload_n 1, 1) := by decide +kernel
theorem dX3_read_12 : decode cX3_read 12 = .ok (.invokevirtual 73, 3) := by decide +kernel
theorem dX3_read_15 : decode cX3_read 15 = .ok (.astore_n 2, 1) := by decide +kernel
theorem dX3_read_16 : decode cX3_read 16 = .ok (.aload_n 2, 1) := by decide +kernel
theorem dX3_read_17 : decode cX3_read 17 = .ok (.ifnonnull 11, 3) := by decide +kernel
theorem dX3_read_20 : decode cX3_read 20 = .ok (.aload_n 0, 1) := by decide +kernel
theorem dX3_read_21 : decode cX3_read 21 = .ok (.iconst 2, 1) := by decide +kernel
theorem dX3_read_22 : decode cX3_read 22 = .ok (.invokevirtual 32, 3) := by decide +kernel
theorem dX3_read_25 : decode cX3_read 25 = .ok (.goto 8, 3) := by decide +kernel
theorem dX3_read_28 : decode cX3_read 28 = .ok (.aload_n 0, 1) := by decide +kernel
theorem dX3_read_29 : decode cX3_read 29 = .ok (.aload_n 2, 1) := by decide +kernel
theorem dX3_read_30 : decode cX3_read 30 = .ok (.invokevirtual 187, 3) := by decide +kernel
theorem dX3_read_33 : decode cX3_read 33 = .ok (.ireturn, 1) := by decide +kernel
theorem dX3_round_0 : decode cX3_round 0 = .ok (.aload_n 0, 1) := by decide +kernel
theorem dX3_round_1 : decode cX3_round 1 = .ok (.getfield 41, 3) := by decide +kernel
theorem dX3_round_4 : decode cX3_round 4 = .ok (.ifCond .ne 6, 3) := by decide +kernel
theorem dX3_round_7 : decode cX3_round 7 = .ok (.bipush (-2), 2) := by decide +kernel
theorem dX3_round_9 : decode cX3_round 9 = .ok (.ireturn, 1) := by decide +kernel
theorem dX3_round_10 : decode cX3_round 10 = .ok (.iconst 0, 1) := by decide +kernel
theorem dX3_round_11 : decode cX3_round 11 = .ok (.istore_n 1, 1) := by decide +kernel
theorem dX3_round_12 : decode cX3_round 12 = .ok (.iconst 0, 1) := by decide +kernel
theorem dX3_round_13 : decode cX3_round 13 = .ok (.istore_n 2, 1) := by decide +kernel
theorem dX3_round_14 : decode cX3_round 14 = .ok (.iload_n 2, 1) := by decide +kernel
theorem dX3_round_15 : decode cX3_round 15 = .ok (.bipush 16, 2) := by decide +kernel
theorem dX3_round_17 : decode cX3_round 17 = .ok (.if_icmp .ge 31, 3) := by decide +kernel
theorem dX3_round_20 : decode cX3_round 20 = .ok (.aload_n 0, 1) := by decide +kernel
theorem dX3_round_21 : decode cX3_round 21 = .ok (.iload_n 2, 1) := by decide +kernel
theorem dX3_round_22 : decode cX3_round 22 = .ok (.invokevirtual 73, 3) := by decide +kernel
theorem dX3_round_25 : decode cX3_round 25 = .ok (.astore_n 3, 1) := by decide +kernel
theorem dX3_round_26 : decode cX3_round 26 = .ok (.aload_n 3, 1) := by decide +kernel
theorem dX3_round_27 : decode cX3_round 27 = .ok (.ifnull 15, 3) := by decide +kernel
theorem dX3_round_30 : decode cX3_round 30 = .ok (.aload_n 0, 1) := by decide +kernel
theorem dX3_round_31 : decode cX3_round 31 = .ok (.aload_n 3, 1) := by decide +kernel
theorem dX3_round_32 : decode cX3_round 32 = .ok (.invokevirtual 187, 3) := by decide +kernel
theorem dX3_round_35 : decode cX3_round 35 = .ok (.iconst 1, 1) := by decide +kernel
theorem dX3_round_36 : decode cX3_round 36 = .ok (.if_icmp .ne 6, 3) := by decide +kernel
theorem dX3_round_39 : decode cX3_round 39 = .ok (.iinc 1 1, 3) := by decide +kernel
theorem dX3_round_42 : decode cX3_round 42 = .ok (.iinc 2 1, 3) := by decide +kernel
theorem dX3_round_45 : decode cX3_round 45 = .ok (.goto (-31), 3) := by decide +kernel
theorem dX3_round_48 : decode cX3_round 48 = .ok (.iload_n 1, 1) := by decide +kernel
theorem dX3_round_49 : decode cX3_round 49 = .ok (.ireturn, 1) := by decide +kernel
theorem dX3_got_0 : decode cX3_got 0 = .ok (.aload_n 0, 1) := by decide +kernel
theorem dX3_got_1 : decode cX3_got 1 = .ok (.iload_n 1, 1) := by decide +kernel
theorem dX3_got_2 : decode cX3_got 2 = .ok (.invokevirtual 73, 3) := by decide +kernel
theorem dX3_got_5 : decode cX3_got 5 = .ok (.astore_n 3, 1) := by decide +kernel
theorem dX3_got_6 : decode cX3_got 6 = .ok (.aload_n 3, 1) := by decide +kernel
theorem dX3_got_7 : decode cX3_got 7 = .ok (.ifnull 13, 3) := by decide +kernel
theorem dX3_got_10 : decode cX3_got 10 = .ok (.aload_n 3, 1) := by decide +kernel
theorem dX3_got_11 : decode cX3_got 11 = .ok (.getfield 141, 3) := by decide +kernel
theorem dX3_got_14 : decode cX3_got 14 = .ok (.getfield 191, 3) := by decide +kernel
theorem dX3_got_17 : decode cX3_got 17 = .ok (.ifCond .ge 7, 3) := by decide +kernel
theorem dX3_got_20 : decode cX3_got 20 = .ok (.ldc2_w 192, 3) := by decide +kernel
theorem dX3_got_23 : decode cX3_got 23 = .ok (.lreturn, 1) := by decide +kernel
theorem dX3_got_24 : decode cX3_got 24 = .ok (.iload_n 2, 1) := by decide +kernel
theorem dX3_got_25 : decode cX3_got 25 = .ok (.tableswitch 79 0 4 #[35, 44, 53, 61, 70], 35) := by decide +kernel
theorem dX3_got_60 : decode cX3_got 60 = .ok (.aload_n 3, 1) := by decide +kernel
theorem dX3_got_61 : decode cX3_got 61 = .ok (.getfield 141, 3) := by decide +kernel
theorem dX3_got_64 : decode cX3_got 64 = .ok (.getfield 194, 3) := by decide +kernel
theorem dX3_got_67 : decode cX3_got 67 = .ok (.i2l, 1) := by decide +kernel
theorem dX3_got_68 : decode cX3_got 68 = .ok (.lreturn, 1) := by decide +kernel
theorem dX3_got_69 : decode cX3_got 69 = .ok (.aload_n 3, 1) := by decide +kernel
theorem dX3_got_70 : decode cX3_got 70 = .ok (.getfield 141, 3) := by decide +kernel
theorem dX3_got_73 : decode cX3_got 73 = .ok (.getfield 191, 3) := by decide +kernel
theorem dX3_got_76 : decode cX3_got 76 = .ok (.i2l, 1) := by decide +kernel
theorem dX3_got_77 : decode cX3_got 77 = .ok (.lreturn, 1) := by decide +kernel
theorem dX3_got_78 : decode cX3_got 78 = .ok (.aload_n 3, 1) := by decide +kernel
theorem dX3_got_79 : decode cX3_got 79 = .ok (.getfield 141, 3) := by decide +kernel
theorem dX3_got_82 : decode cX3_got 82 = .ok (.getfield 197, 3) := by decide +kernel
theorem dX3_got_85 : decode cX3_got 85 = .ok (.lreturn, 1) := by decide +kernel
theorem dX3_got_86 : decode cX3_got 86 = .ok (.aload_n 3, 1) := by decide +kernel
theorem dX3_got_87 : decode cX3_got 87 = .ok (.getfield 141, 3) := by decide +kernel
theorem dX3_got_90 : decode cX3_got 90 = .ok (.getfield 200, 3) := by decide +kernel
theorem dX3_got_93 : decode cX3_got 93 = .ok (.i2l, 1) := by decide +kernel
theorem dX3_got_94 : decode cX3_got 94 = .ok (.lreturn, 1) := by decide +kernel
theorem dX3_got_95 : decode cX3_got 95 = .ok (.aload_n 3, 1) := by decide +kernel
theorem dX3_got_96 : decode cX3_got 96 = .ok (.getfield 141, 3) := by decide +kernel
theorem dX3_got_99 : decode cX3_got 99 = .ok (.getfield 203, 3) := by decide +kernel
theorem dX3_got_102 : decode cX3_got 102 = .ok (.i2l, 1) := by decide +kernel
theorem dX3_got_103 : decode cX3_got 103 = .ok (.lreturn, 1) := by decide +kernel
theorem dX3_got_104 : decode cX3_got 104 = .ok (.ldc2_w 192, 3) := by decide +kernel
theorem dX3_got_107 : decode cX3_got 107 = .ok (.lreturn, 1) := by decide +kernel
theorem dX3_word_0 : decode cX3_word 0 = .ok (.aload_n 0, 1) := by decide +kernel
theorem dX3_word_1 : decode cX3_word 1 = .ok (.iload_n 1, 1) := by decide +kernel
theorem dX3_word_2 : decode cX3_word 2 = .ok (.invokevirtual 73, 3) := by decide +kernel
theorem dX3_word_5 : decode cX3_word 5 = .ok (.astore_n 3, 1) := by decide +kernel
theorem dX3_word_6 : decode cX3_word 6 = .ok (.aload_n 3, 1) := by decide +kernel
theorem dX3_word_7 : decode cX3_word 7 = .ok (.ifnull 13, 3) := by decide +kernel
theorem dX3_word_10 : decode cX3_word 10 = .ok (.iload_n 2, 1) := by decide +kernel
theorem dX3_word_11 : decode cX3_word 11 = .ok (.ifCond .lt 9, 3) := by decide +kernel
theorem dX3_word_14 : decode cX3_word 14 = .ok (.iload_n 2, 1) := by decide +kernel
theorem dX3_word_15 : decode cX3_word 15 = .ok (.bipush 8, 2) := by decide +kernel
theorem dX3_word_17 : decode cX3_word 17 = .ok (.if_icmp .lt 7, 3) := by decide +kernel
theorem dX3_word_20 : decode cX3_word 20 = .ok (.lconst 0, 1) := by decide +kernel
theorem dX3_word_21 : decode cX3_word 21 = .ok (.goto 12, 3) := by decide +kernel
theorem dX3_word_24 : decode cX3_word 24 = .ok (.aload_n 3, 1) := by decide +kernel
theorem dX3_word_25 : decode cX3_word 25 = .ok (.getfield 141, 3) := by decide +kernel
theorem dX3_word_28 : decode cX3_word 28 = .ok (.getfield 135, 3) := by decide +kernel
theorem dX3_word_31 : decode cX3_word 31 = .ok (.iload_n 2, 1) := by decide +kernel
theorem dX3_word_32 : decode cX3_word 32 = .ok (.laload, 1) := by decide +kernel
theorem dX3_word_33 : decode cX3_word 33 = .ok (.lreturn, 1) := by decide +kernel
theorem dX3_of_0 : decode cX3_of 0 = .ok (.iload_n 2, 1) := by decide +kernel
theorem dX3_of_1 : decode cX3_of 1 = .ok (.ifCond .lt 9, 3) := by decide +kernel
theorem dX3_of_4 : decode cX3_of 4 = .ok (.iload_n 2, 1) := by decide +kernel
theorem dX3_of_5 : decode cX3_of 5 = .ok (.bipush 8, 2) := by decide +kernel
theorem dX3_of_7 : decode cX3_of 7 = .ok (.if_icmp .le 5, 3) := by decide +kernel
theorem dX3_of_10 : decode cX3_of 10 = .ok (.iconst (-1), 1) := by decide +kernel
theorem dX3_of_11 : decode cX3_of 11 = .ok (.ireturn, 1) := by decide +kernel
theorem dX3_of_12 : decode cX3_of 12 = .ok (.aload_n 0, 1) := by decide +kernel
theorem dX3_of_13 : decode cX3_of 13 = .ok (.iload_n 1, 1) := by decide +kernel
theorem dX3_of_14 : decode cX3_of 14 = .ok (.invokevirtual 73, 3) := by decide +kernel
theorem dX3_of_17 : decode cX3_of 17 = .ok (.astore_n 3, 1) := by decide +kernel
theorem dX3_of_18 : decode cX3_of 18 = .ok (.aload_n 3, 1) := by decide +kernel
theorem dX3_of_19 : decode cX3_of 19 = .ok (.ifnonnull 9, 3) := by decide +kernel
theorem dX3_of_22 : decode cX3_of 22 = .ok (.aload_n 0, 1) := by decide +kernel
theorem dX3_of_23 : decode cX3_of 23 = .ok (.iconst 2, 1) := by decide +kernel
theorem dX3_of_24 : decode cX3_of 24 = .ok (.invokevirtual 32, 3) := by decide +kernel
theorem dX3_of_27 : decode cX3_of 27 = .ok (.ireturn, 1) := by decide +kernel
theorem dX3_of_28 : decode cX3_of 28 = .ok (.iload_n 2, 1) := by decide +kernel
theorem dX3_of_29 : decode cX3_of 29 = .ok (.tableswitch 97 0 7 #[47, 52, 60, 72, 77, 82, 87, 92], 47) := by decide +kernel
theorem dX3_of_76 : decode cX3_of 76 = .ok (.aload_n 3, 1) := by decide +kernel
theorem dX3_of_77 : decode cX3_of 77 = .ok (.getfield 77, 3) := by decide +kernel
theorem dX3_of_80 : decode cX3_of 80 = .ok (.ireturn, 1) := by decide +kernel
theorem dX3_of_81 : decode cX3_of 81 = .ok (.aload_n 3, 1) := by decide +kernel
theorem dX3_of_82 : decode cX3_of 82 = .ok (.getfield 94, 3) := by decide +kernel
theorem dX3_of_85 : decode cX3_of 85 = .ok (.getfield 98, 3) := by decide +kernel
theorem dX3_of_88 : decode cX3_of 88 = .ok (.ireturn, 1) := by decide +kernel
theorem dX3_of_89 : decode cX3_of 89 = .ok (.aload_n 3, 1) := by decide +kernel
theorem dX3_of_90 : decode cX3_of 90 = .ok (.aload_n 3, 1) := by decide +kernel
theorem dX3_of_91 : decode cX3_of 91 = .ok (.getfield 94, 3) := by decide +kernel
theorem dX3_of_94 : decode cX3_of 94 = .ok (.getfield 98, 3) := by decide +kernel
theorem dX3_of_97 : decode cX3_of 97 = .ok (.invokevirtual 80, 3) := by decide +kernel
theorem dX3_of_100 : decode cX3_of 100 = .ok (.ireturn, 1) := by decide +kernel
theorem dX3_of_101 : decode cX3_of 101 = .ok (.aload_n 3, 1) := by decide +kernel
theorem dX3_of_102 : decode cX3_of 102 = .ok (.getfield 206, 3) := by decide +kernel
theorem dX3_of_105 : decode cX3_of 105 = .ok (.ireturn, 1) := by decide +kernel
theorem dX3_of_106 : decode cX3_of 106 = .ok (.aload_n 3, 1) := by decide +kernel
theorem dX3_of_107 : decode cX3_of 107 = .ok (.getfield 209, 3) := by decide +kernel
theorem dX3_of_110 : decode cX3_of 110 = .ok (.ireturn, 1) := by decide +kernel
theorem dX3_of_111 : decode cX3_of 111 = .ok (.aload_n 3, 1) := by decide +kernel
theorem dX3_of_112 : decode cX3_of 112 = .ok (.getfield 212, 3) := by decide +kernel
theorem dX3_of_115 : decode cX3_of 115 = .ok (.ireturn, 1) := by decide +kernel
theorem dX3_of_116 : decode cX3_of 116 = .ok (.aload_n 3, 1) := by decide +kernel
theorem dX3_of_117 : decode cX3_of 117 = .ok (.getfield 215, 3) := by decide +kernel
theorem dX3_of_120 : decode cX3_of 120 = .ok (.ireturn, 1) := by decide +kernel
theorem dX3_of_121 : decode cX3_of 121 = .ok (.aload_n 3, 1) := by decide +kernel
theorem dX3_of_122 : decode cX3_of 122 = .ok (.getfield 105, 3) := by decide +kernel
theorem dX3_of_125 : decode cX3_of 125 = .ok (.ireturn, 1) := by decide +kernel
theorem dX3_of_126 : decode cX3_of 126 = .ok (.aload_n 3, 1) := by decide +kernel
theorem dX3_of_127 : decode cX3_of 127 = .ok (.getfield 218, 3) := by decide +kernel
theorem dX3_of_130 : decode cX3_of 130 = .ok (.ireturn, 1) := by decide +kernel
theorem dX3_place_0 : decode cX3_place 0 = .ok (.aload_n 0, 1) := by decide +kernel
theorem dX3_place_1 : decode cX3_place 1 = .ok (.iload_n 1, 1) := by decide +kernel
theorem dX3_place_2 : decode cX3_place 2 = .ok (.iload_n 2, 1) := by decide +kernel
theorem dX3_place_3 : decode cX3_place 3 = .ok (.invokevirtual 62, 3) := by decide +kernel
theorem dX3_place_6 : decode cX3_place 6 = .ok (.ireturn, 1) := by decide +kernel
theorem dX3_named_0 : decode cX3_named 0 = .ok (.aload_n 0, 1) := by decide +kernel
theorem dX3_named_1 : decode cX3_named 1 = .ok (.iload_n 1, 1) := by decide +kernel
theorem dX3_named_2 : decode cX3_named 2 = .ok (.invokevirtual 73, 3) := by decide +kernel
theorem dX3_named_5 : decode cX3_named 5 = .ok (.astore_n 3, 1) := by decide +kernel
theorem dX3_named_6 : decode cX3_named 6 = .ok (.aload_n 3, 1) := by decide +kernel
theorem dX3_named_7 : decode cX3_named 7 = .ok (.ifnonnull 9, 3) := by decide +kernel
theorem dX3_named_10 : decode cX3_named 10 = .ok (.aload_n 0, 1) := by decide +kernel
theorem dX3_named_11 : decode cX3_named 11 = .ok (.iconst 2, 1) := by decide +kernel
theorem dX3_named_12 : decode cX3_named 12 = .ok (.invokevirtual 32, 3) := by decide +kernel
theorem dX3_named_15 : decode cX3_named 15 = .ok (.ireturn, 1) := by decide +kernel
theorem dX3_named_16 : decode cX3_named 16 = .ok (.aload_n 3, 1) := by decide +kernel
theorem dX3_named_17 : decode cX3_named 17 = .ok (.invokevirtual 90, 3) := by decide +kernel
theorem dX3_named_20 : decode cX3_named 20 = .ok (.ifCond .ne 9, 3) := by decide +kernel
theorem dX3_named_23 : decode cX3_named 23 = .ok (.aload_n 0, 1) := by decide +kernel
theorem dX3_named_24 : decode cX3_named 24 = .ok (.iconst 4, 1) := by decide +kernel
theorem dX3_named_25 : decode cX3_named 25 = .ok (.invokevirtual 32, 3) := by decide +kernel
theorem dX3_named_28 : decode cX3_named 28 = .ok (.ireturn, 1) := by decide +kernel
theorem dX3_named_29 : decode cX3_named 29 = .ok (.iload_n 2, 1) := by decide +kernel
theorem dX3_named_30 : decode cX3_named 30 = .ok (.ifCond .lt 25, 3) := by decide +kernel
theorem dX3_named_33 : decode cX3_named 33 = .ok (.iload_n 2, 1) := by decide +kernel
theorem dX3_named_34 : decode cX3_named 34 = .ok (.aload_n 3, 1) := by decide +kernel
theorem dX3_named_35 : decode cX3_named 35 = .ok (.getfield 105, 3) := by decide +kernel
theorem dX3_named_38 : decode cX3_named 38 = .ok (.if_icmp .ge 17, 3) := by decide +kernel
theorem dX3_named_41 : decode cX3_named 41 = .ok (.iload_n 2, 1) := by decide +kernel
theorem dX3_named_42 : decode cX3_named 42 = .ok (.iconst 4, 1) := by decide +kernel
theorem dX3_named_43 : decode cX3_named 43 = .ok (.if_icmp .ge 12, 3) := by decide +kernel
theorem dX3_named_46 : decode cX3_named 46 = .ok (.aload_n 3, 1) := by decide +kernel
theorem dX3_named_47 : decode cX3_named 47 = .ok (.getfield 221, 3) := by decide +kernel
theorem dX3_named_50 : decode cX3_named 50 = .ok (.iload_n 2, 1) := by decide +kernel
theorem dX3_named_51 : decode cX3_named 51 = .ok (.iaload, 1) := by decide +kernel
theorem dX3_named_52 : decode cX3_named 52 = .ok (.goto 4, 3) := by decide +kernel
theorem dX3_named_55 : decode cX3_named 55 = .ok (.iconst (-1), 1) := by decide +kernel
theorem dX3_named_56 : decode cX3_named 56 = .ok (.ireturn, 1) := by decide +kernel
theorem dX3_entry_0 : decode cX3_entry 0 = .ok (.aload_n 0, 1) := by decide +kernel
theorem dX3_entry_1 : decode cX3_entry 1 = .ok (.iload_n 1, 1) := by decide +kernel
theorem dX3_entry_2 : decode cX3_entry 2 = .ok (.invokevirtual 73, 3) := by decide +kernel
theorem dX3_entry_5 : decode cX3_entry 5 = .ok (.astore_n 3, 1) := by decide +kernel
theorem dX3_entry_6 : decode cX3_entry 6 = .ok (.aload_n 3, 1) := by decide +kernel
theorem dX3_entry_7 : decode cX3_entry 7 = .ok (.ifnonnull 9, 3) := by decide +kernel
theorem dX3_entry_10 : decode cX3_entry 10 = .ok (.aload_n 0, 1) := by decide +kernel
theorem dX3_entry_11 : decode cX3_entry 11 = .ok (.iconst 2, 1) := by decide +kernel
theorem dX3_entry_12 : decode cX3_entry 12 = .ok (.invokevirtual 32, 3) := by decide +kernel
theorem dX3_entry_15 : decode cX3_entry 15 = .ok (.ireturn, 1) := by decide +kernel
theorem dX3_entry_16 : decode cX3_entry 16 = .ok (.aload_n 3, 1) := by decide +kernel
theorem dX3_entry_17 : decode cX3_entry 17 = .ok (.getfield 77, 3) := by decide +kernel
theorem dX3_entry_20 : decode cX3_entry 20 = .ok (.iconst 4, 1) := by decide +kernel
theorem dX3_entry_21 : decode cX3_entry 21 = .ok (.if_icmp .eq 9, 3) := by decide +kernel
theorem dX3_entry_24 : decode cX3_entry 24 = .ok (.aload_n 0, 1) := by decide +kernel
theorem dX3_entry_25 : decode cX3_entry 25 = .ok (.iconst 4, 1) := by decide +kernel
theorem dX3_entry_26 : decode cX3_entry 26 = .ok (.invokevirtual 32, 3) := by decide +kernel
theorem dX3_entry_29 : decode cX3_entry 29 = .ok (.ireturn, 1) := by decide +kernel
theorem dX3_entry_30 : decode cX3_entry 30 = .ok (.iload_n 2, 1) := by decide +kernel
theorem dX3_entry_31 : decode cX3_entry 31 = .ok (.ifCond .lt 32, 3) := by decide +kernel
theorem dX3_entry_34 : decode cX3_entry 34 = .ok (.iload_n 2, 1) := by decide +kernel
theorem dX3_entry_35 : decode cX3_entry 35 = .ok (.aload_n 3, 1) := by decide +kernel
theorem dX3_entry_36 : decode cX3_entry 36 = .ok (.getfield 215, 3) := by decide +kernel
theorem dX3_entry_39 : decode cX3_entry 39 = .ok (.if_icmp .ge 24, 3) := by decide +kernel
theorem dX3_entry_42 : decode cX3_entry 42 = .ok (.iload_n 2, 1) := by decide +kernel
theorem dX3_entry_43 : decode cX3_entry 43 = .ok (.aload_n 3, 1) := by decide +kernel
theorem dX3_entry_44 : decode cX3_entry 44 = .ok (.getfield 224, 3) := by decide +kernel
theorem dX3_entry_47 : decode cX3_entry 47 = .ok (.arraylength, 1) := by decide +kernel
theorem dX3_entry_48 : decode cX3_entry 48 = .ok (.if_icmp .ge 15, 3) := by decide +kernel
theorem dX3_entry_51 : decode cX3_entry 51 = .ok (.aload_n 3, 1) := by decide +kernel
theorem dX3_entry_52 : decode cX3_entry 52 = .ok (.getfield 224, 3) := by decide +kernel
theorem dX3_entry_55 : decode cX3_entry 55 = .ok (.iload_n 2, 1) := by decide +kernel
theorem dX3_entry_56 : decode cX3_entry 56 = .ok (.aaload, 1) := by decide +kernel
theorem dX3_entry_57 : decode cX3_entry 57 = .ok (.getfield 200, 3) := by decide +kernel
theorem dX3_entry_60 : decode cX3_entry 60 = .ok (.goto 4, 3) := by decide +kernel
theorem dX3_entry_63 : decode cX3_entry 63 = .ok (.iconst (-1), 1) := by decide +kernel
theorem dX3_entry_64 : decode cX3_entry 64 = .ok (.ireturn, 1) := by decide +kernel
theorem dX3_target_0 : decode cX3_target 0 = .ok (.aload_n 0, 1) := by decide +kernel
theorem dX3_target_1 : decode cX3_target 1 = .ok (.iload_n 1, 1) := by decide +kernel
theorem dX3_target_2 : decode cX3_target 2 = .ok (.invokevirtual 73, 3) := by decide +kernel
theorem dX3_target_5 : decode cX3_target 5 = .ok (.astore_n 2, 1) := by decide +kernel
theorem dX3_target_6 : decode cX3_target 6 = .ok (.aload_n 2, 1) := by decide +kernel
theorem dX3_target_7 : decode cX3_target 7 = .ok (.ifnonnull 9, 3) := by decide +kernel
theorem dX3_target_10 : decode cX3_target 10 = .ok (.aload_n 0, 1) := by decide +kernel
theorem dX3_target_11 : decode cX3_target 11 = .ok (.iconst 2, 1) := by decide +kernel
theorem dX3_target_12 : decode cX3_target 12 = .ok (.invokevirtual 32, 3) := by decide +kernel
theorem dX3_target_15 : decode cX3_target 15 = .ok (.ireturn, 1) := by decide +kernel
theorem dX3_target_16 : decode cX3_target 16 = .ok (.aload_n 2, 1) := by decide +kernel
theorem dX3_target_17 : decode cX3_target 17 = .ok (.getfield 228, 3) := by decide +kernel
theorem dX3_target_20 : decode cX3_target 20 = .ok (.ifnonnull 11, 3) := by decide +kernel
theorem dX3_target_23 : decode cX3_target 23 = .ok (.aload_n 0, 1) := by decide +kernel
theorem dX3_target_24 : decode cX3_target 24 = .ok (.iconst 4, 1) := by decide +kernel
theorem dX3_target_25 : decode cX3_target 25 = .ok (.invokevirtual 32, 3) := by decide +kernel
theorem dX3_target_28 : decode cX3_target 28 = .ok (.goto 10, 3) := by decide +kernel
theorem dX3_target_31 : decode cX3_target 31 = .ok (.aload_n 2, 1) := by decide +kernel
theorem dX3_target_32 : decode cX3_target 32 = .ok (.getfield 228, 3) := by decide +kernel
theorem dX3_target_35 : decode cX3_target 35 = .ok (.getfield 98, 3) := by decide +kernel
theorem dX3_target_38 : decode cX3_target 38 = .ok (.ireturn, 1) := by decide +kernel
theorem dX3_why_0 : decode cX3_why 0 = .ok (.aload_n 0, 1) := by decide +kernel
theorem dX3_why_1 : decode cX3_why 1 = .ok (.getfield 41, 3) := by decide +kernel
theorem dX3_why_4 : decode cX3_why 4 = .ok (.ifCond .ne 6, 3) := by decide +kernel
theorem dX3_why_7 : decode cX3_why 7 = .ok (.bipush (-2), 2) := by decide +kernel
theorem dX3_why_9 : decode cX3_why 9 = .ok (.ireturn, 1) := by decide +kernel
theorem dX3_why_10 : decode cX3_why 10 = .ok (.aload_n 0, 1) := by decide +kernel
theorem dX3_why_11 : decode cX3_why 11 = .ok (.iload_n 1, 1) := by decide +kernel
theorem dX3_why_12 : decode cX3_why 12 = .ok (.invokevirtual 73, 3) := by decide +kernel
theorem dX3_why_15 : decode cX3_why 15 = .ok (.astore_n 2, 1) := by decide +kernel
theorem dX3_why_16 : decode cX3_why 16 = .ok (.aload_n 2, 1) := by decide +kernel
theorem dX3_why_17 : decode cX3_why 17 = .ok (.ifnonnull 7, 3) := by decide +kernel
theorem dX3_why_20 : decode cX3_why 20 = .ok (.iconst (-1), 1) := by decide +kernel
theorem dX3_why_21 : decode cX3_why 21 = .ok (.goto 8, 3) := by decide +kernel
theorem dX3_why_24 : decode cX3_why 24 = .ok (.aload_n 0, 1) := by decide +kernel
theorem dX3_why_25 : decode cX3_why 25 = .ok (.aload_n 2, 1) := by decide +kernel
theorem dX3_why_26 : decode cX3_why 26 = .ok (.invokevirtual 231, 3) := by decide +kernel
theorem dX3_why_29 : decode cX3_why 29 = .ok (.ireturn, 1) := by decide +kernel
theorem dX3_on_0 : decode cX3_on 0 = .ok (.aload_n 0, 1) := by decide +kernel
theorem dX3_on_1 : decode cX3_on 1 = .ok (.iload_n 1, 1) := by decide +kernel
theorem dX3_on_2 : decode cX3_on 2 = .ok (.invokevirtual 73, 3) := by decide +kernel
theorem dX3_on_5 : decode cX3_on 5 = .ok (.astore_n 2, 1) := by decide +kernel
theorem dX3_on_6 : decode cX3_on 6 = .ok (.aload_n 0, 1) := by decide +kernel
theorem dX3_on_7 : decode cX3_on 7 = .ok (.getfield 41, 3) := by decide +kernel
theorem dX3_on_10 : decode cX3_on 10 = .ok (.ifCond .eq 7, 3) := by decide +kernel
theorem dX3_on_13 : decode cX3_on 13 = .ok (.aload_n 2, 1) := by decide +kernel
theorem dX3_on_14 : decode cX3_on 14 = .ok (.ifnonnull 5, 3) := by decide +kernel
theorem dX3_on_17 : decode cX3_on 17 = .ok (.iconst (-1), 1) := by decide +kernel
theorem dX3_on_18 : decode cX3_on 18 = .ok (.ireturn, 1) := by decide +kernel
theorem dX3_on_19 : decode cX3_on 19 = .ok (.aload_n 0, 1) := by decide +kernel
theorem dX3_on_20 : decode cX3_on 20 = .ok (.aload_n 2, 1) := by decide +kernel
theorem dX3_on_21 : decode cX3_on 21 = .ok (.invokevirtual 231, 3) := by decide +kernel
theorem dX3_on_24 : decode cX3_on 24 = .ok (.tableswitch 72 3 7 #[36, 41, 47, 72, 66], 36) := by decide +kernel
theorem dX3_on_60 : decode cX3_on 60 = .ok (.aload_n 2, 1) := by decide +kernel
theorem dX3_on_61 : decode cX3_on 61 = .ok (.invokevirtual 234, 3) := by decide +kernel
theorem dX3_on_64 : decode cX3_on 64 = .ok (.ireturn, 1) := by decide +kernel
theorem dX3_on_65 : decode cX3_on 65 = .ok (.aload_n 0, 1) := by decide +kernel
theorem dX3_on_66 : decode cX3_on 66 = .ok (.aload_n 2, 1) := by decide +kernel
theorem dX3_on_67 : decode cX3_on 67 = .ok (.invokevirtual 237, 3) := by decide +kernel
theorem dX3_on_70 : decode cX3_on 70 = .ok (.ireturn, 1) := by decide +kernel
theorem dX3_on_71 : decode cX3_on 71 = .ok (.aload_n 2, 1) := by decide +kernel
theorem dX3_on_72 : decode cX3_on 72 = .ok (.getfield 228, 3) := by decide +kernel
theorem dX3_on_75 : decode cX3_on 75 = .ok (.ifnonnull 7, 3) := by decide +kernel
theorem dX3_on_78 : decode cX3_on 78 = .ok (.iconst (-1), 1) := by decide +kernel
theorem dX3_on_79 : decode cX3_on 79 = .ok (.goto 10, 3) := by decide +kernel
theorem dX3_on_82 : decode cX3_on 82 = .ok (.aload_n 2, 1) := by decide +kernel
theorem dX3_on_83 : decode cX3_on 83 = .ok (.getfield 228, 3) := by decide +kernel
theorem dX3_on_86 : decode cX3_on 86 = .ok (.getfield 98, 3) := by decide +kernel
theorem dX3_on_89 : decode cX3_on 89 = .ok (.ireturn, 1) := by decide +kernel
theorem dX3_on_90 : decode cX3_on 90 = .ok (.aload_n 0, 1) := by decide +kernel
theorem dX3_on_91 : decode cX3_on 91 = .ok (.aload_n 2, 1) := by decide +kernel
theorem dX3_on_92 : decode cX3_on 92 = .ok (.invokevirtual 240, 3) := by decide +kernel
theorem dX3_on_95 : decode cX3_on 95 = .ok (.ireturn, 1) := by decide +kernel
theorem dX3_on_96 : decode cX3_on 96 = .ok (.iconst (-1), 1) := by decide +kernel
theorem dX3_on_97 : decode cX3_on 97 = .ok (.ireturn, 1) := by decide +kernel
theorem dX3_stuck_0 : decode cX3_stuck 0 = .ok (.aload_n 0, 1) := by decide +kernel
theorem dX3_stuck_1 : decode cX3_stuck 1 = .ok (.getfield 41, 3) := by decide +kernel
theorem dX3_stuck_4 : decode cX3_stuck 4 = .ok (.ifCond .eq 10, 3) := by decide +kernel
theorem dX3_stuck_7 : decode cX3_stuck 7 = .ok (.aload_n 0, 1) := by decide +kernel
theorem dX3_stuck_8 : decode cX3_stuck 8 = .ok (.invokevirtual 243, 3) := by decide +kernel
theorem dX3_stuck_11 : decode cX3_stuck 11 = .ok (.ifCond .eq 5, 3) := by decide +kernel
theorem dX3_stuck_14 : decode cX3_stuck 14 = .ok (.iconst 0, 1) := by decide +kernel
theorem dX3_stuck_15 : decode cX3_stuck 15 = .ok (.ireturn, 1) := by decide +kernel
theorem dX3_stuck_16 : decode cX3_stuck 16 = .ok (.iconst 0, 1) := by decide +kernel
theorem dX3_stuck_17 : decode cX3_stuck 17 = .ok (.istore_n 1, 1) := by decide +kernel
theorem dX3_stuck_18 : decode cX3_stuck 18 = .ok (.iconst 0, 1) := by decide +kernel
theorem dX3_stuck_19 : decode cX3_stuck 19 = .ok (.istore_n 2, 1) := by decide +kernel
theorem dX3_stuck_20 : decode cX3_stuck 20 = .ok (.iload_n 2, 1) := by decide +kernel
theorem dX3_stuck_21 : decode cX3_stuck 21 = .ok (.bipush 8, 2) := by decide +kernel
theorem dX3_stuck_23 : decode cX3_stuck 23 = .ok (.if_icmp .ge 42, 3) := by decide +kernel
theorem dX3_stuck_26 : decode cX3_stuck 26 = .ok (.aload_n 0, 1) := by decide +kernel
theorem dX3_stuck_27 : decode cX3_stuck 27 = .ok (.iload_n 2, 1) := by decide +kernel
theorem dX3_stuck_28 : decode cX3_stuck 28 = .ok (.invokevirtual 54, 3) := by decide +kernel
theorem dX3_stuck_31 : decode cX3_stuck 31 = .ok (.astore_n 3, 1) := by decide +kernel
theorem dX3_stuck_32 : decode cX3_stuck 32 = .ok (.aload_n 3, 1) := by decide +kernel
theorem dX3_stuck_33 : decode cX3_stuck 33 = .ok (.ifnull 26, 3) := by decide +kernel
theorem dX3_stuck_36 : decode cX3_stuck 36 = .ok (.aload_n 3, 1) := by decide +kernel
theorem dX3_stuck_37 : decode cX3_stuck 37 = .ok (.invokevirtual 246, 3) := by decide +kernel
theorem dX3_stuck_40 : decode cX3_stuck 40 = .ok (.ifCond .eq 19, 3) := by decide +kernel
theorem dX3_stuck_43 : decode cX3_stuck 43 = .ok (.iconst 1, 1) := by decide +kernel
theorem dX3_stuck_44 : decode cX3_stuck 44 = .ok (.istore_n 1, 1) := by decide +kernel
theorem dX3_stuck_45 : decode cX3_stuck 45 = .ok (.aload_n 0, 1) := by decide +kernel
theorem dX3_stuck_46 : decode cX3_stuck 46 = .ok (.aload_n 3, 1) := by decide +kernel
theorem dX3_stuck_47 : decode cX3_stuck 47 = .ok (.aload_n 3, 1) := by decide +kernel
theorem dX3_stuck_48 : decode cX3_stuck 48 = .ok (.getfield 162, 3) := by decide +kernel
theorem dX3_stuck_51 : decode cX3_stuck 51 = .ok (.invokevirtual 179, 3) := by decide +kernel
theorem dX3_stuck_54 : decode cX3_stuck 54 = .ok (.ifCond .ne 5, 3) := by decide +kernel
theorem dX3_stuck_57 : decode cX3_stuck 57 = .ok (.iconst 0, 1) := by decide +kernel
theorem dX3_stuck_58 : decode cX3_stuck 58 = .ok (.ireturn, 1) := by decide +kernel
theorem dX3_stuck_59 : decode cX3_stuck 59 = .ok (.iinc 2 1, 3) := by decide +kernel
theorem dX3_stuck_62 : decode cX3_stuck 62 = .ok (.goto (-42), 3) := by decide +kernel
theorem dX3_stuck_65 : decode cX3_stuck 65 = .ok (.iload_n 1, 1) := by decide +kernel
theorem dX3_stuck_66 : decode cX3_stuck 66 = .ok (.ireturn, 1) := by decide +kernel
theorem dX3_found_0 : decode cX3_found 0 = .ok (.iload_n 1, 1) := by decide +kernel
theorem dX3_found_1 : decode cX3_found 1 = .ok (.ifCond .ne 8, 3) := by decide +kernel
theorem dX3_found_4 : decode cX3_found 4 = .ok (.aload_n 0, 1) := by decide +kernel
theorem dX3_found_5 : decode cX3_found 5 = .ok (.getfield 249, 3) := by decide +kernel
theorem dX3_found_8 : decode cX3_found 8 = .ok (.ireturn, 1) := by decide +kernel
theorem dX3_found_9 : decode cX3_found 9 = .ok (.iload_n 1, 1) := by decide +kernel
theorem dX3_found_10 : decode cX3_found 10 = .ok (.iconst 1, 1) := by decide +kernel
theorem dX3_found_11 : decode cX3_found 11 = .ok (.if_icmp .lt 18, 3) := by decide +kernel
theorem dX3_found_14 : decode cX3_found 14 = .ok (.iload_n 1, 1) := by decide +kernel
theorem dX3_found_15 : decode cX3_found 15 = .ok (.bipush 6, 2) := by decide +kernel
theorem dX3_found_17 : decode cX3_found 17 = .ok (.if_icmp .gt 12, 3) := by decide +kernel
theorem dX3_found_20 : decode cX3_found 20 = .ok (.aload_n 0, 1) := by decide +kernel
theorem dX3_found_21 : decode cX3_found 21 = .ok (.getfield 21, 3) := by decide +kernel
theorem dX3_found_24 : decode cX3_found 24 = .ok (.iload_n 1, 1) := by decide +kernel
theorem dX3_found_25 : decode cX3_found 25 = .ok (.iaload, 1) := by decide +kernel
theorem dX3_found_26 : decode cX3_found 26 = .ok (.goto 4, 3) := by decide +kernel
theorem dX3_found_29 : decode cX3_found 29 = .ok (.iconst (-1), 1) := by decide +kernel
theorem dX3_found_30 : decode cX3_found 30 = .ok (.ireturn, 1) := by decide +kernel
theorem dX3_ringAt_0 : decode cX3_ringAt 0 = .ok (.iload_n 1, 1) := by decide +kernel
theorem dX3_ringAt_1 : decode cX3_ringAt 1 = .ok (.ifCond .lt 18, 3) := by decide +kernel
theorem dX3_ringAt_4 : decode cX3_ringAt 4 = .ok (.iload_n 1, 1) := by decide +kernel
theorem dX3_ringAt_5 : decode cX3_ringAt 5 = .ok (.bipush 8, 2) := by decide +kernel
theorem dX3_ringAt_7 : decode cX3_ringAt 7 = .ok (.if_icmp .ge 12, 3) := by decide +kernel
theorem dX3_ringAt_10 : decode cX3_ringAt 10 = .ok (.aload_n 0, 1) := by decide +kernel
theorem dX3_ringAt_11 : decode cX3_ringAt 11 = .ok (.getfield 11, 3) := by decide +kernel
theorem dX3_ringAt_14 : decode cX3_ringAt 14 = .ok (.iload_n 1, 1) := by decide +kernel
theorem dX3_ringAt_15 : decode cX3_ringAt 15 = .ok (.aaload, 1) := by decide +kernel
theorem dX3_ringAt_16 : decode cX3_ringAt 16 = .ok (.goto 4, 3) := by decide +kernel
theorem dX3_ringAt_19 : decode cX3_ringAt 19 = .ok (.aconst_null, 1) := by decide +kernel
theorem dX3_ringAt_20 : decode cX3_ringAt 20 = .ok (.areturn, 1) := by decide +kernel
theorem dX3_readerAt_0 : decode cX3_readerAt 0 = .ok (.iload_n 1, 1) := by decide +kernel
theorem dX3_readerAt_1 : decode cX3_readerAt 1 = .ok (.ifCond .lt 18, 3) := by decide +kernel
theorem dX3_readerAt_4 : decode cX3_readerAt 4 = .ok (.iload_n 1, 1) := by decide +kernel
theorem dX3_readerAt_5 : decode cX3_readerAt 5 = .ok (.bipush 16, 2) := by decide +kernel
theorem dX3_readerAt_7 : decode cX3_readerAt 7 = .ok (.if_icmp .ge 12, 3) := by decide +kernel
theorem dX3_readerAt_10 : decode cX3_readerAt 10 = .ok (.aload_n 0, 1) := by decide +kernel
theorem dX3_readerAt_11 : decode cX3_readerAt 11 = .ok (.getfield 17, 3) := by decide +kernel
theorem dX3_readerAt_14 : decode cX3_readerAt 14 = .ok (.iload_n 1, 1) := by decide +kernel
theorem dX3_readerAt_15 : decode cX3_readerAt 15 = .ok (.aaload, 1) := by decide +kernel
theorem dX3_readerAt_16 : decode cX3_readerAt 16 = .ok (.goto 4, 3) := by decide +kernel
theorem dX3_readerAt_19 : decode cX3_readerAt 19 = .ok (.aconst_null, 1) := by decide +kernel
theorem dX3_readerAt_20 : decode cX3_readerAt 20 = .ok (.areturn, 1) := by decide +kernel
theorem dX3_placeOf_0 : decode cX3_placeOf 0 = .ok (.aload_n 0, 1) := by decide +kernel
theorem dX3_placeOf_1 : decode cX3_placeOf 1 = .ok (.iload_n 1, 1) := by decide +kernel
theorem dX3_placeOf_2 : decode cX3_placeOf 2 = .ok (.invokevirtual 73, 3) := by decide +kernel
theorem dX3_placeOf_5 : decode cX3_placeOf 5 = .ok (.astore_n 3, 1) := by decide +kernel
theorem dX3_placeOf_6 : decode cX3_placeOf 6 = .ok (.aload_n 3, 1) := by decide +kernel
theorem dX3_placeOf_7 : decode cX3_placeOf 7 = .ok (.ifnonnull 7, 3) := by decide +kernel
theorem dX3_placeOf_10 : decode cX3_placeOf 10 = .ok (.iconst (-1), 1) := by decide +kernel
theorem dX3_placeOf_11 : decode cX3_placeOf 11 = .ok (.goto 8, 3) := by decide +kernel
theorem dX3_placeOf_14 : decode cX3_placeOf 14 = .ok (.aload_n 3, 1) := by decide +kernel
theorem dX3_placeOf_15 : decode cX3_placeOf 15 = .ok (.iload_n 2, 1) := by decide +kernel
theorem dX3_placeOf_16 : decode cX3_placeOf 16 = .ok (.invokevirtual 80, 3) := by decide +kernel
theorem dX3_placeOf_19 : decode cX3_placeOf 19 = .ok (.ireturn, 1) := by decide +kernel
theorem dX3_finding_0 : decode cX3_finding 0 = .ok (.iload_n 1, 1) := by decide +kernel
theorem dX3_finding_1 : decode cX3_finding 1 = .ok (.iconst 1, 1) := by decide +kernel
theorem dX3_finding_2 : decode cX3_finding 2 = .ok (.if_icmp .lt 24, 3) := by decide +kernel
theorem dX3_finding_5 : decode cX3_finding 5 = .ok (.iload_n 1, 1) := by decide +kernel
theorem dX3_finding_6 : decode cX3_finding 6 = .ok (.bipush 6, 2) := by decide +kernel
theorem dX3_finding_8 : decode cX3_finding 8 = .ok (.if_icmp .gt 18, 3) := by decide +kernel
theorem dX3_finding_11 : decode cX3_finding 11 = .ok (.aload_n 0, 1) := by decide +kernel
theorem dX3_finding_12 : decode cX3_finding 12 = .ok (.getfield 21, 3) := by decide +kernel
theorem dX3_finding_15 : decode cX3_finding 15 = .ok (.iload_n 1, 1) := by decide +kernel
theorem dX3_finding_16 : decode cX3_finding 16 = .ok (.dup2, 1) := by decide +kernel
theorem dX3_finding_17 : decode cX3_finding 17 = .ok (.iaload, 1) := by decide +kernel
theorem dX3_finding_18 : decode cX3_finding 18 = .ok (.iconst 1, 1) := by decide +kernel
theorem dX3_finding_19 : decode cX3_finding 19 = .ok (.iadd, 1) := by decide +kernel
theorem dX3_finding_20 : decode cX3_finding 20 = .ok (.iastore, 1) := by decide +kernel
theorem dX3_finding_21 : decode cX3_finding 21 = .ok (.aload_n 0, 1) := by decide +kernel
theorem dX3_finding_22 : decode cX3_finding 22 = .ok (.iload_n 1, 1) := by decide +kernel
theorem dX3_finding_23 : decode cX3_finding 23 = .ok (.putfield 249, 3) := by decide +kernel
theorem dX3_finding_26 : decode cX3_finding 26 = .ok (.bipush (-12), 2) := by decide +kernel
theorem dX3_finding_28 : decode cX3_finding 28 = .ok (.ireturn, 1) := by decide +kernel
theorem dX3_otherMayBe_0 : decode cX3_otherMayBe 0 = .ok (.iload_n 1, 1) := by decide +kernel
theorem dX3_otherMayBe_1 : decode cX3_otherMayBe 1 = .ok (.iconst 5, 1) := by decide +kernel
theorem dX3_otherMayBe_2 : decode cX3_otherMayBe 2 = .ok (.if_icmp .eq 9, 3) := by decide +kernel
theorem dX3_otherMayBe_5 : decode cX3_otherMayBe 5 = .ok (.iload_n 1, 1) := by decide +kernel
theorem dX3_otherMayBe_6 : decode cX3_otherMayBe 6 = .ok (.bipush 7, 2) := by decide +kernel
theorem dX3_otherMayBe_8 : decode cX3_otherMayBe 8 = .ok (.if_icmp .ne 22, 3) := by decide +kernel
theorem dX3_otherMayBe_11 : decode cX3_otherMayBe 11 = .ok (.iload_n 3, 1) := by decide +kernel
theorem dX3_otherMayBe_12 : decode cX3_otherMayBe 12 = .ok (.iload_n 2, 1) := by decide +kernel
theorem dX3_otherMayBe_13 : decode cX3_otherMayBe 13 = .ok (.if_icmp .eq 15, 3) := by decide +kernel
theorem dX3_otherMayBe_16 : decode cX3_otherMayBe 16 = .ok (.aload_n 0, 1) := by decide +kernel
theorem dX3_otherMayBe_17 : decode cX3_otherMayBe 17 = .ok (.iload_n 3, 1) := by decide +kernel
theorem dX3_otherMayBe_18 : decode cX3_otherMayBe 18 = .ok (.invokevirtual 54, 3) := by decide +kernel
theorem dX3_otherMayBe_21 : decode cX3_otherMayBe 21 = .ok (.ifnull 7, 3) := by decide +kernel
theorem dX3_otherMayBe_24 : decode cX3_otherMayBe 24 = .ok (.iconst 1, 1) := by decide +kernel
theorem dX3_otherMayBe_25 : decode cX3_otherMayBe 25 = .ok (.goto 4, 3) := by decide +kernel
theorem dX3_otherMayBe_28 : decode cX3_otherMayBe 28 = .ok (.iconst 0, 1) := by decide +kernel
theorem dX3_otherMayBe_29 : decode cX3_otherMayBe 29 = .ok (.ireturn, 1) := by decide +kernel
theorem dX3_otherMayBe_30 : decode cX3_otherMayBe 30 = .ok (.iload_n 1, 1) := by decide +kernel
theorem dX3_otherMayBe_31 : decode cX3_otherMayBe 31 = .ok (.bipush 6, 2) := by decide +kernel
theorem dX3_otherMayBe_33 : decode cX3_otherMayBe 33 = .ok (.if_icmp .ne 11, 3) := by decide +kernel
theorem dX3_otherMayBe_36 : decode cX3_otherMayBe 36 = .ok (.aload_n 0, 1) := by decide +kernel
theorem dX3_otherMayBe_37 : decode cX3_otherMayBe 37 = .ok (.iload_n 3, 1) := by decide +kernel
theorem dX3_otherMayBe_38 : decode cX3_otherMayBe 38 = .ok (.invokevirtual 73, 3) := by decide +kernel
theorem dX3_otherMayBe_41 : decode cX3_otherMayBe 41 = .ok (.ifnull 7, 3) := by decide +kernel
theorem dX3_otherMayBe_44 : decode cX3_otherMayBe 44 = .ok (.iconst 1, 1) := by decide +kernel
theorem dX3_otherMayBe_45 : decode cX3_otherMayBe 45 = .ok (.goto 4, 3) := by decide +kernel
theorem dX3_otherMayBe_48 : decode cX3_otherMayBe 48 = .ok (.iconst 0, 1) := by decide +kernel
theorem dX3_otherMayBe_49 : decode cX3_otherMayBe 49 = .ok (.ireturn, 1) := by decide +kernel
theorem dX3_newReader_0 : decode cX3_newReader 0 = .ok (.new 15, 3) := by decide +kernel
theorem dX3_newReader_3 : decode cX3_newReader 3 = .ok (.dup, 1) := by decide +kernel
theorem dX3_newReader_4 : decode cX3_newReader 4 = .ok (.iload_n 1, 1) := by decide +kernel
theorem dX3_newReader_5 : decode cX3_newReader 5 = .ok (.aload_n 2, 1) := by decide +kernel
theorem dX3_newReader_6 : decode cX3_newReader 6 = .ok (.iload_n 1, 1) := by decide +kernel
theorem dX3_newReader_7 : decode cX3_newReader 7 = .ok (.bipush 7, 2) := by decide +kernel
theorem dX3_newReader_9 : decode cX3_newReader 9 = .ok (.if_icmp .ne 11, 3) := by decide +kernel
theorem dX3_newReader_12 : decode cX3_newReader 12 = .ok (.aload_n 0, 1) := by decide +kernel
theorem dX3_newReader_13 : decode cX3_newReader 13 = .ok (.iload_n 3, 1) := by decide +kernel
theorem dX3_newReader_14 : decode cX3_newReader 14 = .ok (.invokevirtual 54, 3) := by decide +kernel
theorem dX3_newReader_17 : decode cX3_newReader 17 = .ok (.goto 4, 3) := by decide +kernel
theorem dX3_newReader_20 : decode cX3_newReader 20 = .ok (.aconst_null, 1) := by decide +kernel
theorem dX3_newReader_21 : decode cX3_newReader 21 = .ok (.invokespecial 252, 3) := by decide +kernel
theorem dX3_newReader_24 : decode cX3_newReader 24 = .ok (.astore 4, 2) := by decide +kernel
theorem dX3_newReader_26 : decode cX3_newReader 26 = .ok (.iload_n 1, 1) := by decide +kernel
theorem dX3_newReader_27 : decode cX3_newReader 27 = .ok (.iconst 1, 1) := by decide +kernel
theorem dX3_newReader_28 : decode cX3_newReader 28 = .ok (.if_icmp .eq 17, 3) := by decide +kernel
theorem dX3_newReader_31 : decode cX3_newReader 31 = .ok (.iload_n 1, 1) := by decide +kernel
theorem dX3_newReader_32 : decode cX3_newReader 32 = .ok (.iconst 4, 1) := by decide +kernel
theorem dX3_newReader_33 : decode cX3_newReader 33 = .ok (.if_icmp .eq 12, 3) := by decide +kernel
theorem dX3_newReader_36 : decode cX3_newReader 36 = .ok (.aload 4, 2) := by decide +kernel
theorem dX3_newReader_38 : decode cX3_newReader 38 = .ok (.aload_n 2, 1) := by decide +kernel
theorem dX3_newReader_39 : decode cX3_newReader 39 = .ok (.getfield 98, 3) := by decide +kernel
theorem dX3_newReader_42 : decode cX3_newReader 42 = .ok (.invokevirtual 86, 3) := by decide +kernel
theorem dX3_newReader_45 : decode cX3_newReader 45 = .ok (.iload_n 1, 1) := by decide +kernel
theorem dX3_newReader_46 : decode cX3_newReader 46 = .ok (.iconst 5, 1) := by decide +kernel
theorem dX3_newReader_47 : decode cX3_newReader 47 = .ok (.if_icmp .ne 9, 3) := by decide +kernel
theorem dX3_newReader_50 : decode cX3_newReader 50 = .ok (.aload 4, 2) := by decide +kernel
theorem dX3_newReader_52 : decode cX3_newReader 52 = .ok (.iload_n 3, 1) := by decide +kernel
theorem dX3_newReader_53 : decode cX3_newReader 53 = .ok (.invokevirtual 86, 3) := by decide +kernel
theorem dX3_newReader_56 : decode cX3_newReader 56 = .ok (.iload_n 1, 1) := by decide +kernel
theorem dX3_newReader_57 : decode cX3_newReader 57 = .ok (.bipush 6, 2) := by decide +kernel
theorem dX3_newReader_59 : decode cX3_newReader 59 = .ok (.if_icmp .ne 9, 3) := by decide +kernel
theorem dX3_newReader_62 : decode cX3_newReader 62 = .ok (.aload 4, 2) := by decide +kernel
theorem dX3_newReader_64 : decode cX3_newReader 64 = .ok (.iload_n 3, 1) := by decide +kernel
theorem dX3_newReader_65 : decode cX3_newReader 65 = .ok (.invokevirtual 115, 3) := by decide +kernel
theorem dX3_newReader_68 : decode cX3_newReader 68 = .ok (.aload 4, 2) := by decide +kernel
theorem dX3_newReader_70 : decode cX3_newReader 70 = .ok (.areturn, 1) := by decide +kernel
theorem dX3_leadsTo_0 : decode cX3_leadsTo 0 = .ok (.aload_n 0, 1) := by decide +kernel
theorem dX3_leadsTo_1 : decode cX3_leadsTo 1 = .ok (.iconst 1, 1) := by decide +kernel
theorem dX3_leadsTo_2 : decode cX3_leadsTo 2 = .ok (.iload_n 1, 1) := by decide +kernel
theorem dX3_leadsTo_3 : decode cX3_leadsTo 3 = .ok (.ishl, 1) := by decide +kernel
theorem dX3_leadsTo_4 : decode cX3_leadsTo 4 = .ok (.invokevirtual 255, 3) := by decide +kernel
theorem dX3_leadsTo_7 : decode cX3_leadsTo 7 = .ok (.istore_n 3, 1) := by decide +kernel
theorem dX3_leadsTo_8 : decode cX3_leadsTo 8 = .ok (.iconst 0, 1) := by decide +kernel
theorem dX3_leadsTo_9 : decode cX3_leadsTo 9 = .ok (.istore 4, 2) := by decide +kernel
theorem dX3_leadsTo_11 : decode cX3_leadsTo 11 = .ok (.iload 4, 2) := by decide +kernel
theorem dX3_leadsTo_13 : decode cX3_leadsTo 13 = .ok (.bipush 16, 2) := by decide +kernel
theorem dX3_leadsTo_15 : decode cX3_leadsTo 15 = .ok (.if_icmp .ge 17, 3) := by decide +kernel
theorem dX3_leadsTo_18 : decode cX3_leadsTo 18 = .ok (.iload_n 3, 1) := by decide +kernel
theorem dX3_leadsTo_19 : decode cX3_leadsTo 19 = .ok (.aload_n 0, 1) := by decide +kernel
theorem dX3_leadsTo_20 : decode cX3_leadsTo 20 = .ok (.iload_n 3, 1) := by decide +kernel
theorem dX3_leadsTo_21 : decode cX3_leadsTo 21 = .ok (.invokevirtual 255, 3) := by decide +kernel
theorem dX3_leadsTo_24 : decode cX3_leadsTo 24 = .ok (.ior, 1) := by decide +kernel
theorem dX3_leadsTo_25 : decode cX3_leadsTo 25 = .ok (.istore_n 3, 1) := by decide +kernel
theorem dX3_leadsTo_26 : decode cX3_leadsTo 26 = .ok (.iinc 4 1, 3) := by decide +kernel
theorem dX3_leadsTo_29 : decode cX3_leadsTo 29 = .ok (.goto (-18), 3) := by decide +kernel
theorem dX3_leadsTo_32 : decode cX3_leadsTo 32 = .ok (.iload_n 3, 1) := by decide +kernel
theorem dX3_leadsTo_33 : decode cX3_leadsTo 33 = .ok (.iload_n 2, 1) := by decide +kernel
theorem dX3_leadsTo_34 : decode cX3_leadsTo 34 = .ok (.ishr, 1) := by decide +kernel
theorem dX3_leadsTo_35 : decode cX3_leadsTo 35 = .ok (.iconst 1, 1) := by decide +kernel
theorem dX3_leadsTo_36 : decode cX3_leadsTo 36 = .ok (.iand, 1) := by decide +kernel
theorem dX3_leadsTo_37 : decode cX3_leadsTo 37 = .ok (.ifCond .eq 7, 3) := by decide +kernel
theorem dX3_leadsTo_40 : decode cX3_leadsTo 40 = .ok (.iconst 1, 1) := by decide +kernel
theorem dX3_leadsTo_41 : decode cX3_leadsTo 41 = .ok (.goto 4, 3) := by decide +kernel
theorem dX3_leadsTo_44 : decode cX3_leadsTo 44 = .ok (.iconst 0, 1) := by decide +kernel
theorem dX3_leadsTo_45 : decode cX3_leadsTo 45 = .ok (.ireturn, 1) := by decide +kernel
theorem dX3_namesOfAll_0 : decode cX3_namesOfAll 0 = .ok (.iconst 0, 1) := by decide +kernel
theorem dX3_namesOfAll_1 : decode cX3_namesOfAll 1 = .ok (.istore_n 2, 1) := by decide +kernel
theorem dX3_namesOfAll_2 : decode cX3_namesOfAll 2 = .ok (.iconst 0, 1) := by decide +kernel
theorem dX3_namesOfAll_3 : decode cX3_namesOfAll 3 = .ok (.istore_n 3, 1) := by decide +kernel
theorem dX3_namesOfAll_4 : decode cX3_namesOfAll 4 = .ok (.iload_n 3, 1) := by decide +kernel
theorem dX3_namesOfAll_5 : decode cX3_namesOfAll 5 = .ok (.bipush 16, 2) := by decide +kernel
theorem dX3_namesOfAll_7 : decode cX3_namesOfAll 7 = .ok (.if_icmp .ge 37, 3) := by decide +kernel
theorem dX3_namesOfAll_10 : decode cX3_namesOfAll 10 = .ok (.aload_n 0, 1) := by decide +kernel
theorem dX3_namesOfAll_11 : decode cX3_namesOfAll 11 = .ok (.iload_n 3, 1) := by decide +kernel
theorem dX3_namesOfAll_12 : decode cX3_namesOfAll 12 = .ok (.invokevirtual 73, 3) := by decide +kernel
theorem dX3_namesOfAll_15 : decode cX3_namesOfAll 15 = .ok (.astore 4, 2) := by decide +kernel
theorem dX3_namesOfAll_17 : decode cX3_namesOfAll 17 = .ok (.aload 4, 2) := by decide +kernel
theorem dX3_namesOfAll_19 : decode cX3_namesOfAll 19 = .ok (.ifnull 19, 3) := by decide +kernel
theorem dX3_namesOfAll_22 : decode cX3_namesOfAll 22 = .ok (.iload_n 1, 1) := by decide +kernel
theorem dX3_namesOfAll_23 : decode cX3_namesOfAll 23 = .ok (.iload_n 3, 1) := by decide +kernel
theorem dX3_namesOfAll_24 : decode cX3_namesOfAll 24 = .ok (.ishr, 1) := by decide +kernel
theorem dX3_namesOfAll_25 : decode cX3_namesOfAll 25 = .ok (.iconst 1, 1) := by decide +kernel
theorem dX3_namesOfAll_26 : decode cX3_namesOfAll 26 = .ok (.iand, 1) := by decide +kernel
theorem dX3_namesOfAll_27 : decode cX3_namesOfAll 27 = .ok (.ifCond .eq 11, 3) := by decide +kernel
theorem dX3_namesOfAll_30 : decode cX3_namesOfAll 30 = .ok (.iload_n 2, 1) := by decide +kernel
theorem dX3_namesOfAll_31 : decode cX3_namesOfAll 31 = .ok (.aload 4, 2) := by decide +kernel
theorem dX3_namesOfAll_33 : decode cX3_namesOfAll 33 = .ok (.getfield 258, 3) := by decide +kernel
theorem dX3_namesOfAll_36 : decode cX3_namesOfAll 36 = .ok (.ior, 1) := by decide +kernel
theorem dX3_namesOfAll_37 : decode cX3_namesOfAll 37 = .ok (.istore_n 2, 1) := by decide +kernel
theorem dX3_namesOfAll_38 : decode cX3_namesOfAll 38 = .ok (.iinc 3 1, 3) := by decide +kernel
theorem dX3_namesOfAll_41 : decode cX3_namesOfAll 41 = .ok (.goto (-37), 3) := by decide +kernel
theorem dX3_namesOfAll_44 : decode cX3_namesOfAll 44 = .ok (.iload_n 2, 1) := by decide +kernel
theorem dX3_namesOfAll_45 : decode cX3_namesOfAll 45 = .ok (.ireturn, 1) := by decide +kernel
theorem dX3_keepCircle_0 : decode cX3_keepCircle 0 = .ok (.aload_n 0, 1) := by decide +kernel
theorem dX3_keepCircle_1 : decode cX3_keepCircle 1 = .ok (.getfield 25, 3) := by decide +kernel
theorem dX3_keepCircle_4 : decode cX3_keepCircle 4 = .ok (.iconst 0, 1) := by decide +kernel
theorem dX3_keepCircle_5 : decode cX3_keepCircle 5 = .ok (.iload_n 1, 1) := by decide +kernel
theorem dX3_keepCircle_6 : decode cX3_keepCircle 6 = .ok (.iastore, 1) := by decide +kernel
theorem dX3_keepCircle_7 : decode cX3_keepCircle 7 = .ok (.aload_n 0, 1) := by decide +kernel
theorem dX3_keepCircle_8 : decode cX3_keepCircle 8 = .ok (.getfield 25, 3) := by decide +kernel
theorem dX3_keepCircle_11 : decode cX3_keepCircle 11 = .ok (.iconst 1, 1) := by decide +kernel
theorem dX3_keepCircle_12 : decode cX3_keepCircle 12 = .ok (.iload_n 2, 1) := by decide +kernel
theorem dX3_keepCircle_13 : decode cX3_keepCircle 13 = .ok (.iastore, 1) := by decide +kernel
theorem dX3_keepCircle_14 : decode cX3_keepCircle 14 = .ok (.aload_n 0, 1) := by decide +kernel
theorem dX3_keepCircle_15 : decode cX3_keepCircle 15 = .ok (.iconst 2, 1) := by decide +kernel
theorem dX3_keepCircle_16 : decode cX3_keepCircle 16 = .ok (.putfield 118, 3) := by decide +kernel
theorem dX3_keepCircle_19 : decode cX3_keepCircle 19 = .ok (.aload_n 0, 1) := by decide +kernel
theorem dX3_keepCircle_20 : decode cX3_keepCircle 20 = .ok (.iload_n 2, 1) := by decide +kernel
theorem dX3_keepCircle_21 : decode cX3_keepCircle 21 = .ok (.iload_n 1, 1) := by decide +kernel
theorem dX3_keepCircle_22 : decode cX3_keepCircle 22 = .ok (.invokevirtual 261, 3) := by decide +kernel
theorem dX3_keepCircle_25 : decode cX3_keepCircle 25 = .ok (.istore_n 3, 1) := by decide +kernel
theorem dX3_keepCircle_26 : decode cX3_keepCircle 26 = .ok (.iconst 2, 1) := by decide +kernel
theorem dX3_keepCircle_27 : decode cX3_keepCircle 27 = .ok (.istore 4, 2) := by decide +kernel
theorem dX3_keepCircle_29 : decode cX3_keepCircle 29 = .ok (.iload 4, 2) := by decide +kernel
theorem dX3_keepCircle_31 : decode cX3_keepCircle 31 = .ok (.bipush 16, 2) := by decide +kernel
theorem dX3_keepCircle_33 : decode cX3_keepCircle 33 = .ok (.if_icmp .ge 38, 3) := by decide +kernel
theorem dX3_keepCircle_36 : decode cX3_keepCircle 36 = .ok (.iload_n 3, 1) := by decide +kernel
theorem dX3_keepCircle_37 : decode cX3_keepCircle 37 = .ok (.ifCond .lt 34, 3) := by decide +kernel
theorem dX3_keepCircle_40 : decode cX3_keepCircle 40 = .ok (.aload_n 0, 1) := by decide +kernel
theorem dX3_keepCircle_41 : decode cX3_keepCircle 41 = .ok (.getfield 25, 3) := by decide +kernel
theorem dX3_keepCircle_44 : decode cX3_keepCircle 44 = .ok (.iload 4, 2) := by decide +kernel
theorem dX3_keepCircle_46 : decode cX3_keepCircle 46 = .ok (.iload_n 3, 1) := by decide +kernel
theorem dX3_keepCircle_47 : decode cX3_keepCircle 47 = .ok (.iastore, 1) := by decide +kernel
theorem dX3_keepCircle_48 : decode cX3_keepCircle 48 = .ok (.aload_n 0, 1) := by decide +kernel
theorem dX3_keepCircle_49 : decode cX3_keepCircle 49 = .ok (.dup, 1) := by decide +kernel
theorem dX3_keepCircle_50 : decode cX3_keepCircle 50 = .ok (.getfield 118, 3) := by decide +kernel
theorem dX3_keepCircle_53 : decode cX3_keepCircle 53 = .ok (.iconst 1, 1) := by decide +kernel
theorem dX3_keepCircle_54 : decode cX3_keepCircle 54 = .ok (.iadd, 1) := by decide +kernel
theorem dX3_keepCircle_55 : decode cX3_keepCircle 55 = .ok (.putfield 118, 3) := by decide +kernel
theorem dX3_keepCircle_58 : decode cX3_keepCircle 58 = .ok (.aload_n 0, 1) := by decide +kernel
theorem dX3_keepCircle_59 : decode cX3_keepCircle 59 = .ok (.iload_n 3, 1) := by decide +kernel
theorem dX3_keepCircle_60 : decode cX3_keepCircle 60 = .ok (.iload_n 1, 1) := by decide +kernel
theorem dX3_keepCircle_61 : decode cX3_keepCircle 61 = .ok (.invokevirtual 261, 3) := by decide +kernel
theorem dX3_keepCircle_64 : decode cX3_keepCircle 64 = .ok (.istore_n 3, 1) := by decide +kernel
theorem dX3_keepCircle_65 : decode cX3_keepCircle 65 = .ok (.iinc 4 1, 3) := by decide +kernel
theorem dX3_keepCircle_68 : decode cX3_keepCircle 68 = .ok (.goto (-39), 3) := by decide +kernel
theorem dX3_keepCircle_71 : decode cX3_keepCircle 71 = .ok (.return_, 1) := by decide +kernel
theorem dX3_leastTowards_0 : decode cX3_leastTowards 0 = .ok (.aload_n 0, 1) := by decide +kernel
theorem dX3_leastTowards_1 : decode cX3_leastTowards 1 = .ok (.iconst 1, 1) := by decide +kernel
theorem dX3_leastTowards_2 : decode cX3_leastTowards 2 = .ok (.iload_n 1, 1) := by decide +kernel
theorem dX3_leastTowards_3 : decode cX3_leastTowards 3 = .ok (.ishl, 1) := by decide +kernel
theorem dX3_leastTowards_4 : decode cX3_leastTowards 4 = .ok (.invokevirtual 255, 3) := by decide +kernel
theorem dX3_leastTowards_7 : decode cX3_leastTowards 7 = .ok (.istore_n 3, 1) := by decide +kernel
theorem dX3_leastTowards_8 : decode cX3_leastTowards 8 = .ok (.iload_n 3, 1) := by decide +kernel
theorem dX3_leastTowards_9 : decode cX3_leastTowards 9 = .ok (.iload_n 2, 1) := by decide +kernel
theorem dX3_leastTowards_10 : decode cX3_leastTowards 10 = .ok (.ishr, 1) := by decide +kernel
theorem dX3_leastTowards_11 : decode cX3_leastTowards 11 = .ok (.iconst 1, 1) := by decide +kernel
theorem dX3_leastTowards_12 : decode cX3_leastTowards 12 = .ok (.iand, 1) := by decide +kernel
theorem dX3_leastTowards_13 : decode cX3_leastTowards 13 = .ok (.ifCond .eq 5, 3) := by decide +kernel
theorem dX3_leastTowards_16 : decode cX3_leastTowards 16 = .ok (.iconst (-1), 1) := by decide +kernel
theorem dX3_leastTowards_17 : decode cX3_leastTowards 17 = .ok (.ireturn, 1) := by decide +kernel
theorem dX3_leastTowards_18 : decode cX3_leastTowards 18 = .ok (.iconst 0, 1) := by decide +kernel
theorem dX3_leastTowards_19 : decode cX3_leastTowards 19 = .ok (.istore 4, 2) := by decide +kernel
theorem dX3_leastTowards_21 : decode cX3_leastTowards 21 = .ok (.iload 4, 2) := by decide +kernel
theorem dX3_leastTowards_23 : decode cX3_leastTowards 23 = .ok (.bipush 16, 2) := by decide +kernel
theorem dX3_leastTowards_25 : decode cX3_leastTowards 25 = .ok (.if_icmp .ge 31, 3) := by decide +kernel
theorem dX3_leastTowards_28 : decode cX3_leastTowards 28 = .ok (.iload_n 3, 1) := by decide +kernel
theorem dX3_leastTowards_29 : decode cX3_leastTowards 29 = .ok (.iload 4, 2) := by decide +kernel
theorem dX3_leastTowards_31 : decode cX3_leastTowards 31 = .ok (.ishr, 1) := by decide +kernel
theorem dX3_leastTowards_32 : decode cX3_leastTowards 32 = .ok (.iconst 1, 1) := by decide +kernel
theorem dX3_leastTowards_33 : decode cX3_leastTowards 33 = .ok (.iand, 1) := by decide +kernel
theorem dX3_leastTowards_34 : decode cX3_leastTowards 34 = .ok (.ifCond .eq 16, 3) := by decide +kernel
theorem dX3_leastTowards_37 : decode cX3_leastTowards 37 = .ok (.aload_n 0, 1) := by decide +kernel
theorem dX3_leastTowards_38 : decode cX3_leastTowards 38 = .ok (.iload 4, 2) := by decide +kernel
theorem dX3_leastTowards_40 : decode cX3_leastTowards 40 = .ok (.iload_n 2, 1) := by decide +kernel
theorem dX3_leastTowards_41 : decode cX3_leastTowards 41 = .ok (.invokevirtual 108, 3) := by decide +kernel
theorem dX3_leastTowards_44 : decode cX3_leastTowards 44 = .ok (.ifCond .eq 6, 3) := by decide +kernel
theorem dX3_leastTowards_47 : decode cX3_leastTowards 47 = .ok (.iload 4, 2) := by decide +kernel
theorem dX3_leastTowards_49 : decode cX3_leastTowards 49 = .ok (.ireturn, 1) := by decide +kernel
theorem dX3_leastTowards_50 : decode cX3_leastTowards 50 = .ok (.iinc 4 1, 3) := by decide +kernel
theorem dX3_leastTowards_53 : decode cX3_leastTowards 53 = .ok (.goto (-32), 3) := by decide +kernel
theorem dX3_leastTowards_56 : decode cX3_leastTowards 56 = .ok (.iconst (-1), 1) := by decide +kernel
theorem dX3_leastTowards_57 : decode cX3_leastTowards 57 = .ok (.ireturn, 1) := by decide +kernel
theorem dX3_claimSome_0 : decode cX3_claimSome 0 = .ok (.aload_n 0, 1) := by decide +kernel
theorem dX3_claimSome_1 : decode cX3_claimSome 1 = .ok (.aload_n 1, 1) := by decide +kernel
theorem dX3_claimSome_2 : decode cX3_claimSome 2 = .ok (.lload_n 2, 1) := by decide +kernel
theorem dX3_claimSome_3 : decode cX3_claimSome 3 = .ok (.iload 4, 2) := by decide +kernel
theorem dX3_claimSome_5 : decode cX3_claimSome 5 = .ok (.invokevirtual 264, 3) := by decide +kernel
theorem dX3_claimSome_8 : decode cX3_claimSome 8 = .ok (.istore 5, 2) := by decide +kernel
theorem dX3_claimSome_10 : decode cX3_claimSome 10 = .ok (.iload 5, 2) := by decide +kernel
theorem dX3_claimSome_12 : decode cX3_claimSome 12 = .ok (.ifCond .lt 7, 3) := by decide +kernel
theorem dX3_claimSome_15 : decode cX3_claimSome 15 = .ok (.aload_n 1, 1) := by decide +kernel
theorem dX3_claimSome_16 : decode cX3_claimSome 16 = .ok (.ifnonnull 12, 3) := by decide +kernel
theorem dX3_claimSome_19 : decode cX3_claimSome 19 = .ok (.aload_n 0, 1) := by decide +kernel
theorem dX3_claimSome_20 : decode cX3_claimSome 20 = .ok (.iload 5, 2) := by decide +kernel
theorem dX3_claimSome_22 : decode cX3_claimSome 22 = .ok (.putfield 125, 3) := by decide +kernel
theorem dX3_claimSome_25 : decode cX3_claimSome 25 = .ok (.iload 5, 2) := by decide +kernel
theorem dX3_claimSome_27 : decode cX3_claimSome 27 = .ok (.ireturn, 1) := by decide +kernel
theorem dX3_claimSome_28 : decode cX3_claimSome 28 = .ok (.aload_n 1, 1) := by decide +kernel
theorem dX3_claimSome_29 : decode cX3_claimSome 29 = .ok (.getfield 162, 3) := by decide +kernel
theorem dX3_claimSome_32 : decode cX3_claimSome 32 = .ok (.istore 6, 2) := by decide +kernel
theorem dX3_claimSome_34 : decode cX3_claimSome 34 = .ok (.iconst 0, 1) := by decide +kernel
theorem dX3_claimSome_35 : decode cX3_claimSome 35 = .ok (.istore 7, 2) := by decide +kernel
theorem dX3_claimSome_37 : decode cX3_claimSome 37 = .ok (.iload 7, 2) := by decide +kernel
theorem dX3_claimSome_39 : decode cX3_claimSome 39 = .ok (.iload 4, 2) := by decide +kernel
theorem dX3_claimSome_41 : decode cX3_claimSome 41 = .ok (.if_icmp .ge 22, 3) := by decide +kernel
theorem dX3_claimSome_44 : decode cX3_claimSome 44 = .ok (.iload 7, 2) := by decide +kernel
theorem dX3_claimSome_46 : decode cX3_claimSome 46 = .ok (.bipush 64, 2) := by decide +kernel
theorem dX3_claimSome_48 : decode cX3_claimSome 48 = .ok (.if_icmp .ge 15, 3) := by decide +kernel
theorem dX3_claimSome_51 : decode cX3_claimSome 51 = .ok (.aload_n 1, 1) := by decide +kernel
theorem dX3_claimSome_52 : decode cX3_claimSome 52 = .ok (.lload_n 2, 1) := by decide +kernel
theorem dX3_claimSome_53 : decode cX3_claimSome 53 = .ok (.invokevirtual 267, 3) := by decide +kernel
theorem dX3_claimSome_56 : decode cX3_claimSome 56 = .ok (.pop, 1) := by decide +kernel
theorem dX3_claimSome_57 : decode cX3_claimSome 57 = .ok (.iinc 7 1, 3) := by decide +kernel
theorem dX3_claimSome_60 : decode cX3_claimSome 60 = .ok (.goto (-23), 3) := by decide +kernel
theorem dX3_claimSome_63 : decode cX3_claimSome 63 = .ok (.iload 6, 2) := by decide +kernel
theorem dX3_claimSome_65 : decode cX3_claimSome 65 = .ok (.ireturn, 1) := by decide +kernel
theorem dX3_refusalOfClaims_0 : decode cX3_refusalOfClaims 0 = .ok (.aload_n 1, 1) := by decide +kernel
theorem dX3_refusalOfClaims_1 : decode cX3_refusalOfClaims 1 = .ok (.ifnull 18, 3) := by decide +kernel
theorem dX3_refusalOfClaims_4 : decode cX3_refusalOfClaims 4 = .ok (.iload 4, 2) := by decide +kernel
theorem dX3_refusalOfClaims_6 : decode cX3_refusalOfClaims 6 = .ok (.iconst 1, 1) := by decide +kernel
theorem dX3_refusalOfClaims_7 : decode cX3_refusalOfClaims 7 = .ok (.if_icmp .lt 12, 3) := by decide +kernel
theorem dX3_refusalOfClaims_10 : decode cX3_refusalOfClaims 10 = .ok (.iload 4, 2) := by decide +kernel
theorem dX3_refusalOfClaims_12 : decode cX3_refusalOfClaims 12 = .ok (.aload_n 1, 1) := by decide +kernel
theorem dX3_refusalOfClaims_13 : decode cX3_refusalOfClaims 13 = .ok (.getfield 169, 3) := by decide +kernel
theorem dX3_refusalOfClaims_16 : decode cX3_refusalOfClaims 16 = .ok (.if_icmp .le 5, 3) := by decide +kernel
theorem dX3_refusalOfClaims_19 : decode cX3_refusalOfClaims 19 = .ok (.iconst (-1), 1) := by decide +kernel
theorem dX3_refusalOfClaims_20 : decode cX3_refusalOfClaims 20 = .ok (.ireturn, 1) := by decide +kernel
theorem dX3_refusalOfClaims_21 : decode cX3_refusalOfClaims 21 = .ok (.aload_n 0, 1) := by decide +kernel
theorem dX3_refusalOfClaims_22 : decode cX3_refusalOfClaims 22 = .ok (.getfield 41, 3) := by decide +kernel
theorem dX3_refusalOfClaims_25 : decode cX3_refusalOfClaims 25 = .ok (.ifCond .ne 6, 3) := by decide +kernel
theorem dX3_refusalOfClaims_28 : decode cX3_refusalOfClaims 28 = .ok (.bipush (-2), 2) := by decide +kernel
theorem dX3_refusalOfClaims_30 : decode cX3_refusalOfClaims 30 = .ok (.ireturn, 1) := by decide +kernel
theorem dX3_refusalOfClaims_31 : decode cX3_refusalOfClaims 31 = .ok (.aload_n 1, 1) := by decide +kernel
theorem dX3_refusalOfClaims_32 : decode cX3_refusalOfClaims 32 = .ok (.getfield 128, 3) := by decide +kernel
theorem dX3_refusalOfClaims_35 : decode cX3_refusalOfClaims 35 = .ok (.ifCond .eq 6, 3) := by decide +kernel
theorem dX3_refusalOfClaims_38 : decode cX3_refusalOfClaims 38 = .ok (.bipush (-7), 2) := by decide +kernel
theorem dX3_refusalOfClaims_40 : decode cX3_refusalOfClaims 40 = .ok (.ireturn, 1) := by decide +kernel
theorem dX3_refusalOfClaims_41 : decode cX3_refusalOfClaims 41 = .ok (.aload_n 1, 1) := by decide +kernel
theorem dX3_refusalOfClaims_42 : decode cX3_refusalOfClaims 42 = .ok (.getfield 155, 3) := by decide +kernel
theorem dX3_refusalOfClaims_45 : decode cX3_refusalOfClaims 45 = .ok (.ifCond .eq 6, 3) := by decide +kernel
theorem dX3_refusalOfClaims_48 : decode cX3_refusalOfClaims 48 = .ok (.bipush (-8), 2) := by decide +kernel
theorem dX3_refusalOfClaims_50 : decode cX3_refusalOfClaims 50 = .ok (.ireturn, 1) := by decide +kernel
theorem dX3_refusalOfClaims_51 : decode cX3_refusalOfClaims 51 = .ok (.aload_n 1, 1) := by decide +kernel
theorem dX3_refusalOfClaims_52 : decode cX3_refusalOfClaims 52 = .ok (.getfield 162, 3) := by decide +kernel
theorem dX3_refusalOfClaims_55 : decode cX3_refusalOfClaims 55 = .ok (.ifCond .le 15, 3) := by decide +kernel
theorem dX3_refusalOfClaims_58 : decode cX3_refusalOfClaims 58 = .ok (.lload_n 2, 1) := by decide +kernel
theorem dX3_refusalOfClaims_59 : decode cX3_refusalOfClaims 59 = .ok (.aload_n 1, 1) := by decide +kernel
theorem dX3_refusalOfClaims_60 : decode cX3_refusalOfClaims 60 = .ok (.getfield 183, 3) := by decide +kernel
theorem dX3_refusalOfClaims_63 : decode cX3_refusalOfClaims 63 = .ok (.lcmp, 1) := by decide +kernel
theorem dX3_refusalOfClaims_64 : decode cX3_refusalOfClaims 64 = .ok (.ifCond .ge 6, 3) := by decide +kernel
theorem dX3_refusalOfClaims_67 : decode cX3_refusalOfClaims 67 = .ok (.bipush (-9), 2) := by decide +kernel
theorem dX3_refusalOfClaims_69 : decode cX3_refusalOfClaims 69 = .ok (.ireturn, 1) := by decide +kernel
theorem dX3_refusalOfClaims_70 : decode cX3_refusalOfClaims 70 = .ok (.iconst 0, 1) := by decide +kernel
theorem dX3_refusalOfClaims_71 : decode cX3_refusalOfClaims 71 = .ok (.istore 5, 2) := by decide +kernel
theorem dX3_refusalOfClaims_73 : decode cX3_refusalOfClaims 73 = .ok (.iload 5, 2) := by decide +kernel
theorem dX3_refusalOfClaims_75 : decode cX3_refusalOfClaims 75 = .ok (.iload 4, 2) := by decide +kernel
theorem dX3_refusalOfClaims_77 : decode cX3_refusalOfClaims 77 = .ok (.if_icmp .ge 55, 3) := by decide +kernel
theorem dX3_refusalOfClaims_80 : decode cX3_refusalOfClaims 80 = .ok (.iload 5, 2) := by decide +kernel
theorem dX3_refusalOfClaims_82 : decode cX3_refusalOfClaims 82 = .ok (.bipush 64, 2) := by decide +kernel
theorem dX3_refusalOfClaims_84 : decode cX3_refusalOfClaims 84 = .ok (.if_icmp .ge 48, 3) := by decide +kernel
theorem dX3_refusalOfClaims_87 : decode cX3_refusalOfClaims 87 = .ok (.aload_n 0, 1) := by decide +kernel
theorem dX3_refusalOfClaims_88 : decode cX3_refusalOfClaims 88 = .ok (.aload_n 1, 1) := by decide +kernel
theorem dX3_refusalOfClaims_89 : decode cX3_refusalOfClaims 89 = .ok (.aload_n 1, 1) := by decide +kernel
theorem dX3_refusalOfClaims_90 : decode cX3_refusalOfClaims 90 = .ok (.getfield 162, 3) := by decide +kernel
theorem dX3_refusalOfClaims_93 : decode cX3_refusalOfClaims 93 = .ok (.iload 5, 2) := by decide +kernel
theorem dX3_refusalOfClaims_95 : decode cX3_refusalOfClaims 95 = .ok (.iadd, 1) := by decide +kernel
theorem dX3_refusalOfClaims_96 : decode cX3_refusalOfClaims 96 = .ok (.invokevirtual 179, 3) := by decide +kernel
theorem dX3_refusalOfClaims_99 : decode cX3_refusalOfClaims 99 = .ok (.ifCond .eq 27, 3) := by decide +kernel
theorem dX3_refusalOfClaims_102 : decode cX3_refusalOfClaims 102 = .ok (.aload_n 0, 1) := by decide +kernel
theorem dX3_refusalOfClaims_103 : decode cX3_refusalOfClaims 103 = .ok (.aload_n 0, 1) := by decide +kernel
theorem dX3_refusalOfClaims_104 : decode cX3_refusalOfClaims 104 = .ok (.aload_n 1, 1) := by decide +kernel
theorem dX3_refusalOfClaims_105 : decode cX3_refusalOfClaims 105 = .ok (.aload_n 1, 1) := by decide +kernel
theorem dX3_refusalOfClaims_106 : decode cX3_refusalOfClaims 106 = .ok (.getfield 162, 3) := by decide +kernel
theorem dX3_refusalOfClaims_109 : decode cX3_refusalOfClaims 109 = .ok (.iload 5, 2) := by decide +kernel
theorem dX3_refusalOfClaims_111 : decode cX3_refusalOfClaims 111 = .ok (.iadd, 1) := by decide +kernel
theorem dX3_refusalOfClaims_112 : decode cX3_refusalOfClaims 112 = .ok (.aload_n 1, 1) := by decide +kernel
theorem dX3_refusalOfClaims_113 : decode cX3_refusalOfClaims 113 = .ok (.getfield 169, 3) := by decide +kernel
theorem dX3_refusalOfClaims_116 : decode cX3_refusalOfClaims 116 = .ok (.isub, 1) := by decide +kernel
theorem dX3_refusalOfClaims_117 : decode cX3_refusalOfClaims 117 = .ok (.invokevirtual 165, 3) := by decide +kernel
theorem dX3_refusalOfClaims_120 : decode cX3_refusalOfClaims 120 = .ok (.putfield 28, 3) := by decide +kernel
theorem dX3_refusalOfClaims_123 : decode cX3_refusalOfClaims 123 = .ok (.bipush (-10), 2) := by decide +kernel
theorem dX3_refusalOfClaims_125 : decode cX3_refusalOfClaims 125 = .ok (.ireturn, 1) := by decide +kernel
theorem dX3_refusalOfClaims_126 : decode cX3_refusalOfClaims 126 = .ok (.iinc 5 1, 3) := by decide +kernel
theorem dX3_refusalOfClaims_129 : decode cX3_refusalOfClaims 129 = .ok (.goto (-56), 3) := by decide +kernel
theorem dX3_refusalOfClaims_132 : decode cX3_refusalOfClaims 132 = .ok (.iconst 0, 1) := by decide +kernel
theorem dX3_refusalOfClaims_133 : decode cX3_refusalOfClaims 133 = .ok (.ireturn, 1) := by decide +kernel
theorem dX3_isHeldUp_0 : decode cX3_isHeldUp 0 = .ok (.iload_n 2, 1) := by decide +kernel
theorem dX3_isHeldUp_1 : decode cX3_isHeldUp 1 = .ok (.aload_n 1, 1) := by decide +kernel
theorem dX3_isHeldUp_2 : decode cX3_isHeldUp 2 = .ok (.getfield 169, 3) := by decide +kernel
theorem dX3_isHeldUp_5 : decode cX3_isHeldUp 5 = .ok (.isub, 1) := by decide +kernel
theorem dX3_isHeldUp_6 : decode cX3_isHeldUp 6 = .ok (.istore_n 3, 1) := by decide +kernel
theorem dX3_isHeldUp_7 : decode cX3_isHeldUp 7 = .ok (.iload_n 3, 1) := by decide +kernel
theorem dX3_isHeldUp_8 : decode cX3_isHeldUp 8 = .ok (.ifCond .lt 24, 3) := by decide +kernel
theorem dX3_isHeldUp_11 : decode cX3_isHeldUp 11 = .ok (.aload_n 1, 1) := by decide +kernel
theorem dX3_isHeldUp_12 : decode cX3_isHeldUp 12 = .ok (.iload_n 3, 1) := by decide +kernel
theorem dX3_isHeldUp_13 : decode cX3_isHeldUp 13 = .ok (.invokevirtual 131, 3) := by decide +kernel
theorem dX3_isHeldUp_16 : decode cX3_isHeldUp 16 = .ok (.ifnonnull 12, 3) := by decide +kernel
theorem dX3_isHeldUp_19 : decode cX3_isHeldUp 19 = .ok (.aload_n 0, 1) := by decide +kernel
theorem dX3_isHeldUp_20 : decode cX3_isHeldUp 20 = .ok (.aload_n 1, 1) := by decide +kernel
theorem dX3_isHeldUp_21 : decode cX3_isHeldUp 21 = .ok (.iload_n 3, 1) := by decide +kernel
theorem dX3_isHeldUp_22 : decode cX3_isHeldUp 22 = .ok (.invokevirtual 165, 3) := by decide +kernel
theorem dX3_isHeldUp_25 : decode cX3_isHeldUp 25 = .ok (.ifCond .lt 7, 3) := by decide +kernel
theorem dX3_isHeldUp_28 : decode cX3_isHeldUp 28 = .ok (.iconst 1, 1) := by decide +kernel
theorem dX3_isHeldUp_29 : decode cX3_isHeldUp 29 = .ok (.goto 4, 3) := by decide +kernel
theorem dX3_isHeldUp_32 : decode cX3_isHeldUp 32 = .ok (.iconst 0, 1) := by decide +kernel
theorem dX3_isHeldUp_33 : decode cX3_isHeldUp 33 = .ok (.ireturn, 1) := by decide +kernel
theorem dX3_holderUpTo_0 : decode cX3_holderUpTo 0 = .ok (.iconst 0, 1) := by decide +kernel
theorem dX3_holderUpTo_1 : decode cX3_holderUpTo 1 = .ok (.istore_n 3, 1) := by decide +kernel
theorem dX3_holderUpTo_2 : decode cX3_holderUpTo 2 = .ok (.iload_n 3, 1) := by decide +kernel
theorem dX3_holderUpTo_3 : decode cX3_holderUpTo 3 = .ok (.bipush 16, 2) := by decide +kernel
theorem dX3_holderUpTo_5 : decode cX3_holderUpTo 5 = .ok (.if_icmp .ge 49, 3) := by decide +kernel
theorem dX3_holderUpTo_8 : decode cX3_holderUpTo 8 = .ok (.aload_n 0, 1) := by decide +kernel
theorem dX3_holderUpTo_9 : decode cX3_holderUpTo 9 = .ok (.iload_n 3, 1) := by decide +kernel
theorem dX3_holderUpTo_10 : decode cX3_holderUpTo 10 = .ok (.invokevirtual 73, 3) := by decide +kernel
theorem dX3_holderUpTo_13 : decode cX3_holderUpTo 13 = .ok (.astore 4, 2) := by decide +kernel
theorem dX3_holderUpTo_15 : decode cX3_holderUpTo 15 = .ok (.aload 4, 2) := by decide +kernel
theorem dX3_holderUpTo_17 : decode cX3_holderUpTo 17 = .ok (.ifnonnull 7, 3) := by decide +kernel
theorem dX3_holderUpTo_20 : decode cX3_holderUpTo 20 = .ok (.iconst (-1), 1) := by decide +kernel
theorem dX3_holderUpTo_21 : decode cX3_holderUpTo 21 = .ok (.goto 12, 3) := by decide +kernel
theorem dX3_holderUpTo_24 : decode cX3_holderUpTo 24 = .ok (.aload 4, 2) := by decide +kernel
theorem dX3_holderUpTo_26 : decode cX3_holderUpTo 26 = .ok (.aload_n 1, 1) := by decide +kernel
theorem dX3_holderUpTo_27 : decode cX3_holderUpTo 27 = .ok (.getfield 98, 3) := by decide +kernel
theorem dX3_holderUpTo_30 : decode cX3_holderUpTo 30 = .ok (.invokevirtual 271, 3) := by decide +kernel
theorem dX3_holderUpTo_33 : decode cX3_holderUpTo 33 = .ok (.istore 5, 2) := by decide +kernel
theorem dX3_holderUpTo_35 : decode cX3_holderUpTo 35 = .ok (.iload 5, 2) := by decide +kernel
theorem dX3_holderUpTo_37 : decode cX3_holderUpTo 37 = .ok (.ifCond .lt 11, 3) := by decide +kernel
theorem dX3_holderUpTo_40 : decode cX3_holderUpTo 40 = .ok (.iload 5, 2) := by decide +kernel
theorem dX3_holderUpTo_42 : decode cX3_holderUpTo 42 = .ok (.iload_n 2, 1) := by decide +kernel
theorem dX3_holderUpTo_43 : decode cX3_holderUpTo 43 = .ok (.if_icmp .gt 5, 3) := by decide +kernel
theorem dX3_holderUpTo_46 : decode cX3_holderUpTo 46 = .ok (.iload_n 3, 1) := by decide +kernel
theorem dX3_holderUpTo_47 : decode cX3_holderUpTo 47 = .ok (.ireturn, 1) := by decide +kernel
theorem dX3_holderUpTo_48 : decode cX3_holderUpTo 48 = .ok (.iinc 3 1, 3) := by decide +kernel
theorem dX3_holderUpTo_51 : decode cX3_holderUpTo 51 = .ok (.goto (-49), 3) := by decide +kernel
theorem dX3_holderUpTo_54 : decode cX3_holderUpTo 54 = .ok (.iconst (-1), 1) := by decide +kernel
theorem dX3_holderUpTo_55 : decode cX3_holderUpTo 55 = .ok (.ireturn, 1) := by decide +kernel
theorem dX3_leastHolderPlace_0 : decode cX3_leastHolderPlace 0 = .ok (.iconst (-1), 1) := by decide +kernel
theorem dX3_leastHolderPlace_1 : decode cX3_leastHolderPlace 1 = .ok (.istore_n 2, 1) := by decide +kernel
theorem dX3_leastHolderPlace_2 : decode cX3_leastHolderPlace 2 = .ok (.iconst 0, 1) := by decide +kernel
theorem dX3_leastHolderPlace_3 : decode cX3_leastHolderPlace 3 = .ok (.istore_n 3, 1) := by decide +kernel
theorem dX3_leastHolderPlace_4 : decode cX3_leastHolderPlace 4 = .ok (.iload_n 3, 1) := by decide +kernel
theorem dX3_leastHolderPlace_5 : decode cX3_leastHolderPlace 5 = .ok (.bipush 16, 2) := by decide +kernel
theorem dX3_leastHolderPlace_7 : decode cX3_leastHolderPlace 7 = .ok (.if_icmp .ge 57, 3) := by decide +kernel
theorem dX3_leastHolderPlace_10 : decode cX3_leastHolderPlace 10 = .ok (.aload_n 0, 1) := by decide +kernel
theorem dX3_leastHolderPlace_11 : decode cX3_leastHolderPlace 11 = .ok (.iload_n 3, 1) := by decide +kernel
theorem dX3_leastHolderPlace_12 : decode cX3_leastHolderPlace 12 = .ok (.invokevirtual 73, 3) := by decide +kernel
theorem dX3_leastHolderPlace_15 : decode cX3_leastHolderPlace 15 = .ok (.astore 4, 2) := by decide +kernel
theorem dX3_leastHolderPlace_17 : decode cX3_leastHolderPlace 17 = .ok (.aload 4, 2) := by decide +kernel
theorem dX3_leastHolderPlace_19 : decode cX3_leastHolderPlace 19 = .ok (.ifnonnull 7, 3) := by decide +kernel
theorem dX3_leastHolderPlace_22 : decode cX3_leastHolderPlace 22 = .ok (.iconst (-1), 1) := by decide +kernel
theorem dX3_leastHolderPlace_23 : decode cX3_leastHolderPlace 23 = .ok (.goto 12, 3) := by decide +kernel
theorem dX3_leastHolderPlace_26 : decode cX3_leastHolderPlace 26 = .ok (.aload 4, 2) := by decide +kernel
theorem dX3_leastHolderPlace_28 : decode cX3_leastHolderPlace 28 = .ok (.aload_n 1, 1) := by decide +kernel
theorem dX3_leastHolderPlace_29 : decode cX3_leastHolderPlace 29 = .ok (.getfield 98, 3) := by decide +kernel
theorem dX3_leastHolderPlace_32 : decode cX3_leastHolderPlace 32 = .ok (.invokevirtual 271, 3) := by decide +kernel
theorem dX3_leastHolderPlace_35 : decode cX3_leastHolderPlace 35 = .ok (.istore 5, 2) := by decide +kernel
theorem dX3_leastHolderPlace_37 : decode cX3_leastHolderPlace 37 = .ok (.iload 5, 2) := by decide +kernel
theorem dX3_leastHolderPlace_39 : decode cX3_leastHolderPlace 39 = .ok (.ifCond .lt 19, 3) := by decide +kernel
theorem dX3_leastHolderPlace_42 : decode cX3_leastHolderPlace 42 = .ok (.iload_n 2, 1) := by decide +kernel
theorem dX3_leastHolderPlace_43 : decode cX3_leastHolderPlace 43 = .ok (.ifCond .ge 8, 3) := by decide +kernel
theorem dX3_leastHolderPlace_46 : decode cX3_leastHolderPlace 46 = .ok (.iload 5, 2) := by decide +kernel
theorem dX3_leastHolderPlace_48 : decode cX3_leastHolderPlace 48 = .ok (.goto 9, 3) := by decide +kernel
theorem dX3_leastHolderPlace_51 : decode cX3_leastHolderPlace 51 = .ok (.iload_n 2, 1) := by decide +kernel
theorem dX3_leastHolderPlace_52 : decode cX3_leastHolderPlace 52 = .ok (.iload 5, 2) := by decide +kernel
theorem dX3_leastHolderPlace_54 : decode cX3_leastHolderPlace 54 = .ok (.invokestatic 274, 3) := by decide +kernel
theorem dX3_leastHolderPlace_57 : decode cX3_leastHolderPlace 57 = .ok (.istore_n 2, 1) := by decide +kernel
theorem dX3_leastHolderPlace_58 : decode cX3_leastHolderPlace 58 = .ok (.iinc 3 1, 3) := by decide +kernel
theorem dX3_leastHolderPlace_61 : decode cX3_leastHolderPlace 61 = .ok (.goto (-57), 3) := by decide +kernel
theorem dX3_leastHolderPlace_64 : decode cX3_leastHolderPlace 64 = .ok (.iload_n 2, 1) := by decide +kernel
theorem dX3_leastHolderPlace_65 : decode cX3_leastHolderPlace 65 = .ok (.ireturn, 1) := by decide +kernel
theorem dX3_countHolders_0 : decode cX3_countHolders 0 = .ok (.iconst 0, 1) := by decide +kernel
theorem dX3_countHolders_1 : decode cX3_countHolders 1 = .ok (.istore_n 2, 1) := by decide +kernel
theorem dX3_countHolders_2 : decode cX3_countHolders 2 = .ok (.iconst 0, 1) := by decide +kernel
theorem dX3_countHolders_3 : decode cX3_countHolders 3 = .ok (.istore_n 3, 1) := by decide +kernel
theorem dX3_countHolders_4 : decode cX3_countHolders 4 = .ok (.iload_n 3, 1) := by decide +kernel
theorem dX3_countHolders_5 : decode cX3_countHolders 5 = .ok (.bipush 16, 2) := by decide +kernel
theorem dX3_countHolders_7 : decode cX3_countHolders 7 = .ok (.if_icmp .ge 36, 3) := by decide +kernel
theorem dX3_countHolders_10 : decode cX3_countHolders 10 = .ok (.aload_n 0, 1) := by decide +kernel
theorem dX3_countHolders_11 : decode cX3_countHolders 11 = .ok (.iload_n 3, 1) := by decide +kernel
theorem dX3_countHolders_12 : decode cX3_countHolders 12 = .ok (.invokevirtual 73, 3) := by decide +kernel
theorem dX3_countHolders_15 : decode cX3_countHolders 15 = .ok (.astore 4, 2) := by decide +kernel
theorem dX3_countHolders_17 : decode cX3_countHolders 17 = .ok (.aload 4, 2) := by decide +kernel
theorem dX3_countHolders_19 : decode cX3_countHolders 19 = .ok (.ifnull 18, 3) := by decide +kernel
theorem dX3_countHolders_22 : decode cX3_countHolders 22 = .ok (.aload 4, 2) := by decide +kernel
theorem dX3_countHolders_24 : decode cX3_countHolders 24 = .ok (.aload_n 1, 1) := by decide +kernel
theorem dX3_countHolders_25 : decode cX3_countHolders 25 = .ok (.getfield 98, 3) := by decide +kernel
theorem dX3_countHolders_28 : decode cX3_countHolders 28 = .ok (.invokevirtual 271, 3) := by decide +kernel
theorem dX3_countHolders_31 : decode cX3_countHolders 31 = .ok (.ifCond .lt 6, 3) := by decide +kernel
theorem dX3_countHolders_34 : decode cX3_countHolders 34 = .ok (.iinc 2 1, 3) := by decide +kernel
theorem dX3_countHolders_37 : decode cX3_countHolders 37 = .ok (.iinc 3 1, 3) := by decide +kernel
theorem dX3_countHolders_40 : decode cX3_countHolders 40 = .ok (.goto (-36), 3) := by decide +kernel
theorem dX3_countHolders_43 : decode cX3_countHolders 43 = .ok (.iload_n 2, 1) := by decide +kernel
theorem dX3_countHolders_44 : decode cX3_countHolders 44 = .ok (.ireturn, 1) := by decide +kernel
theorem dX3_publishSlot_0 : decode cX3_publishSlot 0 = .ok (.aload_n 1, 1) := by decide +kernel
theorem dX3_publishSlot_1 : decode cX3_publishSlot 1 = .ok (.iload_n 2, 1) := by decide +kernel
theorem dX3_publishSlot_2 : decode cX3_publishSlot 2 = .ok (.putfield 200, 3) := by decide +kernel
theorem dX3_publishSlot_5 : decode cX3_publishSlot 5 = .ok (.aload_n 1, 1) := by decide +kernel
theorem dX3_publishSlot_6 : decode cX3_publishSlot 6 = .ok (.iload_n 3, 1) := by decide +kernel
theorem dX3_publishSlot_7 : decode cX3_publishSlot 7 = .ok (.putfield 203, 3) := by decide +kernel
theorem dX3_publishSlot_10 : decode cX3_publishSlot 10 = .ok (.aload_n 1, 1) := by decide +kernel
theorem dX3_publishSlot_11 : decode cX3_publishSlot 11 = .ok (.iconst 0, 1) := by decide +kernel
theorem dX3_publishSlot_12 : decode cX3_publishSlot 12 = .ok (.putfield 279, 3) := by decide +kernel
theorem dX3_publishSlot_15 : decode cX3_publishSlot 15 = .ok (.iconst 0, 1) := by decide +kernel
theorem dX3_publishSlot_16 : decode cX3_publishSlot 16 = .ok (.istore 4, 2) := by decide +kernel
theorem dX3_publishSlot_18 : decode cX3_publishSlot 18 = .ok (.iload 4, 2) := by decide +kernel
theorem dX3_publishSlot_20 : decode cX3_publishSlot 20 = .ok (.bipush 16, 2) := by decide +kernel
theorem dX3_publishSlot_22 : decode cX3_publishSlot 22 = .ok (.if_icmp .ge 52, 3) := by decide +kernel
theorem dX3_publishSlot_25 : decode cX3_publishSlot 25 = .ok (.aload_n 0, 1) := by decide +kernel
theorem dX3_publishSlot_26 : decode cX3_publishSlot 26 = .ok (.iload 4, 2) := by decide +kernel
theorem dX3_publishSlot_28 : decode cX3_publishSlot 28 = .ok (.invokevirtual 73, 3) := by decide +kernel
theorem dX3_publishSlot_31 : decode cX3_publishSlot 31 = .ok (.astore 5, 2) := by decide +kernel
theorem dX3_publishSlot_33 : decode cX3_publishSlot 33 = .ok (.aload 5, 2) := by decide +kernel
theorem dX3_publishSlot_35 : decode cX3_publishSlot 35 = .ok (.ifnull 33, 3) := by decide +kernel
theorem dX3_publishSlot_38 : decode cX3_publishSlot 38 = .ok (.aload 5, 2) := by decide +kernel
theorem dX3_publishSlot_40 : decode cX3_publishSlot 40 = .ok (.getfield 77, 3) := by decide +kernel
theorem dX3_publishSlot_43 : decode cX3_publishSlot 43 = .ok (.iconst 4, 1) := by decide +kernel
theorem dX3_publishSlot_44 : decode cX3_publishSlot 44 = .ok (.if_icmp .ne 24, 3) := by decide +kernel
theorem dX3_publishSlot_47 : decode cX3_publishSlot 47 = .ok (.aload 5, 2) := by decide +kernel
theorem dX3_publishSlot_49 : decode cX3_publishSlot 49 = .ok (.getfield 94, 3) := by decide +kernel
theorem dX3_publishSlot_52 : decode cX3_publishSlot 52 = .ok (.getfield 98, 3) := by decide +kernel
theorem dX3_publishSlot_55 : decode cX3_publishSlot 55 = .ok (.aload_n 1, 1) := by decide +kernel
theorem dX3_publishSlot_56 : decode cX3_publishSlot 56 = .ok (.getfield 194, 3) := by decide +kernel
theorem dX3_publishSlot_59 : decode cX3_publishSlot 59 = .ok (.if_icmp .ne 9, 3) := by decide +kernel
theorem dX3_publishSlot_62 : decode cX3_publishSlot 62 = .ok (.aload 5, 2) := by decide +kernel
theorem dX3_publishSlot_64 : decode cX3_publishSlot 64 = .ok (.aload_n 1, 1) := by decide +kernel
theorem dX3_publishSlot_65 : decode cX3_publishSlot 65 = .ok (.invokevirtual 282, 3) := by decide +kernel
theorem dX3_publishSlot_68 : decode cX3_publishSlot 68 = .ok (.iinc 4 1, 3) := by decide +kernel
theorem dX3_publishSlot_71 : decode cX3_publishSlot 71 = .ok (.goto (-53), 3) := by decide +kernel
theorem dX3_publishSlot_74 : decode cX3_publishSlot 74 = .ok (.return_, 1) := by decide +kernel
theorem dX3_readOnce_0 : decode cX3_readOnce 0 = .ok (.aload_n 1, 1) := by decide +kernel
theorem dX3_readOnce_1 : decode cX3_readOnce 1 = .ok (.getfield 77, 3) := by decide +kernel
theorem dX3_readOnce_4 : decode cX3_readOnce 4 = .ok (.iconst 3, 1) := by decide +kernel
theorem dX3_readOnce_5 : decode cX3_readOnce 5 = .ok (.if_icmp .ne 7, 3) := by decide +kernel
theorem dX3_readOnce_8 : decode cX3_readOnce 8 = .ok (.aload_n 1, 1) := by decide +kernel
theorem dX3_readOnce_9 : decode cX3_readOnce 9 = .ok (.invokevirtual 286, 3) := by decide +kernel
theorem dX3_readOnce_12 : decode cX3_readOnce 12 = .ok (.aload_n 0, 1) := by decide +kernel
theorem dX3_readOnce_13 : decode cX3_readOnce 13 = .ok (.aload_n 1, 1) := by decide +kernel
theorem dX3_readOnce_14 : decode cX3_readOnce 14 = .ok (.invokevirtual 231, 3) := by decide +kernel
theorem dX3_readOnce_17 : decode cX3_readOnce 17 = .ok (.istore_n 2, 1) := by decide +kernel
theorem dX3_readOnce_18 : decode cX3_readOnce 18 = .ok (.iload_n 2, 1) := by decide +kernel
theorem dX3_readOnce_19 : decode cX3_readOnce 19 = .ok (.iconst 1, 1) := by decide +kernel
theorem dX3_readOnce_20 : decode cX3_readOnce 20 = .ok (.if_icmp .ne 9, 3) := by decide +kernel
theorem dX3_readOnce_23 : decode cX3_readOnce 23 = .ok (.aload_n 0, 1) := by decide +kernel
theorem dX3_readOnce_24 : decode cX3_readOnce 24 = .ok (.iconst 1, 1) := by decide +kernel
theorem dX3_readOnce_25 : decode cX3_readOnce 25 = .ok (.invokevirtual 32, 3) := by decide +kernel
theorem dX3_readOnce_28 : decode cX3_readOnce 28 = .ok (.ireturn, 1) := by decide +kernel
theorem dX3_readOnce_29 : decode cX3_readOnce 29 = .ok (.iload_n 2, 1) := by decide +kernel
theorem dX3_readOnce_30 : decode cX3_readOnce 30 = .ok (.ifCond .ne 11, 3) := by decide +kernel
theorem dX3_readOnce_33 : decode cX3_readOnce 33 = .ok (.aload_n 0, 1) := by decide +kernel
theorem dX3_readOnce_34 : decode cX3_readOnce 34 = .ok (.aload_n 1, 1) := by decide +kernel
theorem dX3_readOnce_35 : decode cX3_readOnce 35 = .ok (.invokevirtual 289, 3) := by decide +kernel
theorem dX3_readOnce_38 : decode cX3_readOnce 38 = .ok (.ifCond .ne 5, 3) := by decide +kernel
theorem dX3_readOnce_41 : decode cX3_readOnce 41 = .ok (.iconst 0, 1) := by decide +kernel
theorem dX3_readOnce_42 : decode cX3_readOnce 42 = .ok (.ireturn, 1) := by decide +kernel
theorem dX3_readOnce_43 : decode cX3_readOnce 43 = .ok (.aload_n 1, 1) := by decide +kernel
theorem dX3_readOnce_44 : decode cX3_readOnce 44 = .ok (.getfield 228, 3) := by decide +kernel
theorem dX3_readOnce_47 : decode cX3_readOnce 47 = .ok (.ifnull 15, 3) := by decide +kernel
theorem dX3_readOnce_50 : decode cX3_readOnce 50 = .ok (.aload_n 0, 1) := by decide +kernel
theorem dX3_readOnce_51 : decode cX3_readOnce 51 = .ok (.aload_n 1, 1) := by decide +kernel
theorem dX3_readOnce_52 : decode cX3_readOnce 52 = .ok (.getfield 141, 3) := by decide +kernel
theorem dX3_readOnce_55 : decode cX3_readOnce 55 = .ok (.aload_n 1, 1) := by decide +kernel
theorem dX3_readOnce_56 : decode cX3_readOnce 56 = .ok (.getfield 228, 3) := by decide +kernel
theorem dX3_readOnce_59 : decode cX3_readOnce 59 = .ok (.invokevirtual 293, 3) := by decide +kernel
theorem dX3_readOnce_62 : decode cX3_readOnce 62 = .ok (.iconst 1, 1) := by decide +kernel
theorem dX3_readOnce_63 : decode cX3_readOnce 63 = .ok (.ireturn, 1) := by decide +kernel
theorem dX3_takeNext_0 : decode cX3_takeNext 0 = .ok (.aload_n 1, 1) := by decide +kernel
theorem dX3_takeNext_1 : decode cX3_takeNext 1 = .ok (.getfield 77, 3) := by decide +kernel
theorem dX3_takeNext_4 : decode cX3_takeNext 4 = .ok (.iconst 4, 1) := by decide +kernel
theorem dX3_takeNext_5 : decode cX3_takeNext 5 = .ok (.if_icmp .ne 8, 3) := by decide +kernel
theorem dX3_takeNext_8 : decode cX3_takeNext 8 = .ok (.aload_n 1, 1) := by decide +kernel
theorem dX3_takeNext_9 : decode cX3_takeNext 9 = .ok (.invokevirtual 297, 3) := by decide +kernel
theorem dX3_takeNext_12 : decode cX3_takeNext 12 = .ok (.ireturn, 1) := by decide +kernel
theorem dX3_takeNext_13 : decode cX3_takeNext 13 = .ok (.aload_n 1, 1) := by decide +kernel
theorem dX3_takeNext_14 : decode cX3_takeNext 14 = .ok (.getfield 77, 3) := by decide +kernel
theorem dX3_takeNext_17 : decode cX3_takeNext 17 = .ok (.iconst 1, 1) := by decide +kernel
theorem dX3_takeNext_18 : decode cX3_takeNext 18 = .ok (.if_icmp .ne 22, 3) := by decide +kernel
theorem dX3_takeNext_21 : decode cX3_takeNext 21 = .ok (.aload_n 1, 1) := by decide +kernel
theorem dX3_takeNext_22 : decode cX3_takeNext 22 = .ok (.aload_n 1, 1) := by decide +kernel
theorem dX3_takeNext_23 : decode cX3_takeNext 23 = .ok (.getfield 94, 3) := by decide +kernel
theorem dX3_takeNext_26 : decode cX3_takeNext 26 = .ok (.aload_n 1, 1) := by decide +kernel
theorem dX3_takeNext_27 : decode cX3_takeNext 27 = .ok (.getfield 94, 3) := by decide +kernel
theorem dX3_takeNext_30 : decode cX3_takeNext 30 = .ok (.invokevirtual 300, 3) := by decide +kernel
theorem dX3_takeNext_33 : decode cX3_takeNext 33 = .ok (.invokevirtual 303, 3) := by decide +kernel
theorem dX3_takeNext_36 : decode cX3_takeNext 36 = .ok (.invokevirtual 306, 3) := by decide +kernel
theorem dX3_takeNext_39 : decode cX3_takeNext 39 = .ok (.ireturn, 1) := by decide +kernel
theorem dX3_takeNext_40 : decode cX3_takeNext 40 = .ok (.aload_n 1, 1) := by decide +kernel
theorem dX3_takeNext_41 : decode cX3_takeNext 41 = .ok (.getfield 77, 3) := by decide +kernel
theorem dX3_takeNext_44 : decode cX3_takeNext 44 = .ok (.iconst 5, 1) := by decide +kernel
theorem dX3_takeNext_45 : decode cX3_takeNext 45 = .ok (.if_icmp .ne 14, 3) := by decide +kernel
theorem dX3_takeNext_48 : decode cX3_takeNext 48 = .ok (.aload_n 0, 1) := by decide +kernel
theorem dX3_takeNext_49 : decode cX3_takeNext 49 = .ok (.aload_n 1, 1) := by decide +kernel
theorem dX3_takeNext_50 : decode cX3_takeNext 50 = .ok (.aload_n 0, 1) := by decide +kernel
theorem dX3_takeNext_51 : decode cX3_takeNext 51 = .ok (.aload_n 1, 1) := by decide +kernel
theorem dX3_takeNext_52 : decode cX3_takeNext 52 = .ok (.invokevirtual 310, 3) := by decide +kernel
theorem dX3_takeNext_55 : decode cX3_takeNext 55 = .ok (.invokevirtual 314, 3) := by decide +kernel
theorem dX3_takeNext_58 : decode cX3_takeNext 58 = .ok (.ireturn, 1) := by decide +kernel
theorem dX3_takeNext_59 : decode cX3_takeNext 59 = .ok (.aload_n 0, 1) := by decide +kernel
theorem dX3_takeNext_60 : decode cX3_takeNext 60 = .ok (.aload_n 1, 1) := by decide +kernel
theorem dX3_takeNext_61 : decode cX3_takeNext 61 = .ok (.aload_n 1, 1) := by decide +kernel
theorem dX3_takeNext_62 : decode cX3_takeNext 62 = .ok (.getfield 94, 3) := by decide +kernel
theorem dX3_takeNext_65 : decode cX3_takeNext 65 = .ok (.invokevirtual 314, 3) := by decide +kernel
theorem dX3_takeNext_68 : decode cX3_takeNext 68 = .ok (.ireturn, 1) := by decide +kernel
theorem dX3_takeAtPlace_0 : decode cX3_takeAtPlace 0 = .ok (.aload_n 2, 1) := by decide +kernel
theorem dX3_takeAtPlace_1 : decode cX3_takeAtPlace 1 = .ok (.ifnull 22, 3) := by decide +kernel
theorem dX3_takeAtPlace_4 : decode cX3_takeAtPlace 4 = .ok (.aload_n 1, 1) := by decide +kernel
theorem dX3_takeAtPlace_5 : decode cX3_takeAtPlace 5 = .ok (.aload_n 2, 1) := by decide +kernel
theorem dX3_takeAtPlace_6 : decode cX3_takeAtPlace 6 = .ok (.aload_n 1, 1) := by decide +kernel
theorem dX3_takeAtPlace_7 : decode cX3_takeAtPlace 7 = .ok (.aload_n 2, 1) := by decide +kernel
theorem dX3_takeAtPlace_8 : decode cX3_takeAtPlace 8 = .ok (.getfield 98, 3) := by decide +kernel
theorem dX3_takeAtPlace_11 : decode cX3_takeAtPlace 11 = .ok (.invokevirtual 80, 3) := by decide +kernel
theorem dX3_takeAtPlace_14 : decode cX3_takeAtPlace 14 = .ok (.invokevirtual 303, 3) := by decide +kernel
theorem dX3_takeAtPlace_17 : decode cX3_takeAtPlace 17 = .ok (.invokevirtual 306, 3) := by decide +kernel
theorem dX3_takeAtPlace_20 : decode cX3_takeAtPlace 20 = .ok (.ifCond .ne 5, 3) := by decide +kernel
theorem dX3_takeAtPlace_23 : decode cX3_takeAtPlace 23 = .ok (.iconst 0, 1) := by decide +kernel
theorem dX3_takeAtPlace_24 : decode cX3_takeAtPlace 24 = .ok (.ireturn, 1) := by decide +kernel
theorem dX3_takeAtPlace_25 : decode cX3_takeAtPlace 25 = .ok (.aload_n 1, 1) := by decide +kernel
theorem dX3_takeAtPlace_26 : decode cX3_takeAtPlace 26 = .ok (.aload_n 2, 1) := by decide +kernel
theorem dX3_takeAtPlace_27 : decode cX3_takeAtPlace 27 = .ok (.getfield 98, 3) := by decide +kernel
theorem dX3_takeAtPlace_30 : decode cX3_takeAtPlace 30 = .ok (.invokevirtual 318, 3) := by decide +kernel
theorem dX3_takeAtPlace_33 : decode cX3_takeAtPlace 33 = .ok (.iconst 1, 1) := by decide +kernel
theorem dX3_takeAtPlace_34 : decode cX3_takeAtPlace 34 = .ok (.ireturn, 1) := by decide +kernel
theorem dX3_writeOn_0 : decode cX3_writeOn 0 = .ok (.aload_n 2, 1) := by decide +kernel
theorem dX3_writeOn_1 : decode cX3_writeOn 1 = .ok (.getfield 162, 3) := by decide +kernel
theorem dX3_writeOn_4 : decode cX3_writeOn 4 = .ok (.ifCond .le 19, 3) := by decide +kernel
theorem dX3_writeOn_7 : decode cX3_writeOn 7 = .ok (.aload_n 1, 1) := by decide +kernel
theorem dX3_writeOn_8 : decode cX3_writeOn 8 = .ok (.getfield 197, 3) := by decide +kernel
theorem dX3_writeOn_11 : decode cX3_writeOn 11 = .ok (.aload_n 2, 1) := by decide +kernel
theorem dX3_writeOn_12 : decode cX3_writeOn 12 = .ok (.getfield 183, 3) := by decide +kernel
theorem dX3_writeOn_15 : decode cX3_writeOn 15 = .ok (.lcmp, 1) := by decide +kernel
theorem dX3_writeOn_16 : decode cX3_writeOn 16 = .ok (.ifCond .ge 7, 3) := by decide +kernel
theorem dX3_writeOn_19 : decode cX3_writeOn 19 = .ok (.iconst 1, 1) := by decide +kernel
theorem dX3_writeOn_20 : decode cX3_writeOn 20 = .ok (.goto 4, 3) := by decide +kernel
theorem dX3_writeOn_23 : decode cX3_writeOn 23 = .ok (.iconst 0, 1) := by decide +kernel
theorem dX3_writeOn_24 : decode cX3_writeOn 24 = .ok (.istore_n 3, 1) := by decide +kernel
theorem dX3_writeOn_25 : decode cX3_writeOn 25 = .ok (.aload_n 2, 1) := by decide +kernel
theorem dX3_writeOn_26 : decode cX3_writeOn 26 = .ok (.iload_n 3, 1) := by decide +kernel
theorem dX3_writeOn_27 : decode cX3_writeOn 27 = .ok (.ifCond .eq 10, 3) := by decide +kernel
theorem dX3_writeOn_30 : decode cX3_writeOn 30 = .ok (.aload_n 2, 1) := by decide +kernel
theorem dX3_writeOn_31 : decode cX3_writeOn 31 = .ok (.getfield 183, 3) := by decide +kernel
theorem dX3_writeOn_34 : decode cX3_writeOn 34 = .ok (.goto 7, 3) := by decide +kernel
theorem dX3_writeOn_37 : decode cX3_writeOn 37 = .ok (.aload_n 1, 1) := by decide +kernel
theorem dX3_writeOn_38 : decode cX3_writeOn 38 = .ok (.getfield 197, 3) := by decide +kernel
theorem dX3_writeOn_41 : decode cX3_writeOn 41 = .ok (.invokevirtual 267, 3) := by decide +kernel
theorem dX3_writeOn_44 : decode cX3_writeOn 44 = .ok (.astore 4, 2) := by decide +kernel
theorem dX3_writeOn_46 : decode cX3_writeOn 46 = .ok (.aload_n 1, 1) := by decide +kernel
theorem dX3_writeOn_47 : decode cX3_writeOn 47 = .ok (.getfield 135, 3) := by decide +kernel
theorem dX3_writeOn_50 : decode cX3_writeOn 50 = .ok (.iconst 0, 1) := by decide +kernel
theorem dX3_writeOn_51 : decode cX3_writeOn 51 = .ok (.aload 4, 2) := by decide +kernel
theorem dX3_writeOn_53 : decode cX3_writeOn 53 = .ok (.getfield 135, 3) := by decide +kernel
theorem dX3_writeOn_56 : decode cX3_writeOn 56 = .ok (.iconst 0, 1) := by decide +kernel
theorem dX3_writeOn_57 : decode cX3_writeOn 57 = .ok (.bipush 8, 2) := by decide +kernel
theorem dX3_writeOn_59 : decode cX3_writeOn 59 = .ok (.invokestatic 145, 3) := by decide +kernel
theorem dX3_writeOn_62 : decode cX3_writeOn 62 = .ok (.aload_n 0, 1) := by decide +kernel
theorem dX3_writeOn_63 : decode cX3_writeOn 63 = .ok (.aload 4, 2) := by decide +kernel
theorem dX3_writeOn_65 : decode cX3_writeOn 65 = .ok (.aload_n 1, 1) := by decide +kernel
theorem dX3_writeOn_66 : decode cX3_writeOn 66 = .ok (.getfield 200, 3) := by decide +kernel
theorem dX3_writeOn_69 : decode cX3_writeOn 69 = .ok (.aload_n 1, 1) := by decide +kernel
theorem dX3_writeOn_70 : decode cX3_writeOn 70 = .ok (.getfield 203, 3) := by decide +kernel
theorem dX3_writeOn_73 : decode cX3_writeOn 73 = .ok (.invokevirtual 151, 3) := by decide +kernel
theorem dX3_writeOn_76 : decode cX3_writeOn 76 = .ok (.return_, 1) := by decide +kernel
theorem dX3_isAnyReady_0 : decode cX3_isAnyReady 0 = .ok (.iconst 0, 1) := by decide +kernel
theorem dX3_isAnyReady_1 : decode cX3_isAnyReady 1 = .ok (.istore_n 1, 1) := by decide +kernel
theorem dX3_isAnyReady_2 : decode cX3_isAnyReady 2 = .ok (.iload_n 1, 1) := by decide +kernel
theorem dX3_isAnyReady_3 : decode cX3_isAnyReady 3 = .ok (.bipush 16, 2) := by decide +kernel
theorem dX3_isAnyReady_5 : decode cX3_isAnyReady 5 = .ok (.if_icmp .ge 29, 3) := by decide +kernel
theorem dX3_isAnyReady_8 : decode cX3_isAnyReady 8 = .ok (.aload_n 0, 1) := by decide +kernel
theorem dX3_isAnyReady_9 : decode cX3_isAnyReady 9 = .ok (.iload_n 1, 1) := by decide +kernel
theorem dX3_isAnyReady_10 : decode cX3_isAnyReady 10 = .ok (.invokevirtual 73, 3) := by decide +kernel
theorem dX3_isAnyReady_13 : decode cX3_isAnyReady 13 = .ok (.astore_n 2, 1) := by decide +kernel
theorem dX3_isAnyReady_14 : decode cX3_isAnyReady 14 = .ok (.aload_n 2, 1) := by decide +kernel
theorem dX3_isAnyReady_15 : decode cX3_isAnyReady 15 = .ok (.ifnull 13, 3) := by decide +kernel
theorem dX3_isAnyReady_18 : decode cX3_isAnyReady 18 = .ok (.aload_n 0, 1) := by decide +kernel
theorem dX3_isAnyReady_19 : decode cX3_isAnyReady 19 = .ok (.aload_n 2, 1) := by decide +kernel
theorem dX3_isAnyReady_20 : decode cX3_isAnyReady 20 = .ok (.invokevirtual 231, 3) := by decide +kernel
theorem dX3_isAnyReady_23 : decode cX3_isAnyReady 23 = .ok (.ifCond .ne 5, 3) := by decide +kernel
theorem dX3_isAnyReady_26 : decode cX3_isAnyReady 26 = .ok (.iconst 1, 1) := by decide +kernel
theorem dX3_isAnyReady_27 : decode cX3_isAnyReady 27 = .ok (.ireturn, 1) := by decide +kernel
theorem dX3_isAnyReady_28 : decode cX3_isAnyReady 28 = .ok (.iinc 1 1, 3) := by decide +kernel
theorem dX3_isAnyReady_31 : decode cX3_isAnyReady 31 = .ok (.goto (-29), 3) := by decide +kernel
theorem dX3_isAnyReady_34 : decode cX3_isAnyReady 34 = .ok (.iconst 0, 1) := by decide +kernel
theorem dX3_isAnyReady_35 : decode cX3_isAnyReady 35 = .ok (.ireturn, 1) := by decide +kernel
theorem dX3_reasonOf_0 : decode cX3_reasonOf 0 = .ok (.aload_n 1, 1) := by decide +kernel
theorem dX3_reasonOf_1 : decode cX3_reasonOf 1 = .ok (.getfield 77, 3) := by decide +kernel
theorem dX3_reasonOf_4 : decode cX3_reasonOf 4 = .ok (.iconst 5, 1) := by decide +kernel
theorem dX3_reasonOf_5 : decode cX3_reasonOf 5 = .ok (.if_icmp .ne 9, 3) := by decide +kernel
theorem dX3_reasonOf_8 : decode cX3_reasonOf 8 = .ok (.aload_n 0, 1) := by decide +kernel
theorem dX3_reasonOf_9 : decode cX3_reasonOf 9 = .ok (.aload_n 1, 1) := by decide +kernel
theorem dX3_reasonOf_10 : decode cX3_reasonOf 10 = .ok (.invokevirtual 321, 3) := by decide +kernel
theorem dX3_reasonOf_13 : decode cX3_reasonOf 13 = .ok (.ireturn, 1) := by decide +kernel
theorem dX3_reasonOf_14 : decode cX3_reasonOf 14 = .ok (.aload_n 1, 1) := by decide +kernel
theorem dX3_reasonOf_15 : decode cX3_reasonOf 15 = .ok (.getfield 77, 3) := by decide +kernel
theorem dX3_reasonOf_18 : decode cX3_reasonOf 18 = .ok (.iconst 4, 1) := by decide +kernel
theorem dX3_reasonOf_19 : decode cX3_reasonOf 19 = .ok (.if_icmp .ne 16, 3) := by decide +kernel
theorem dX3_reasonOf_22 : decode cX3_reasonOf 22 = .ok (.aload_n 1, 1) := by decide +kernel
theorem dX3_reasonOf_23 : decode cX3_reasonOf 23 = .ok (.getfield 215, 3) := by decide +kernel
theorem dX3_reasonOf_26 : decode cX3_reasonOf 26 = .ok (.ifCond .le 7, 3) := by decide +kernel
theorem dX3_reasonOf_29 : decode cX3_reasonOf 29 = .ok (.iconst 0, 1) := by decide +kernel
theorem dX3_reasonOf_30 : decode cX3_reasonOf 30 = .ok (.goto 4, 3) := by decide +kernel
theorem dX3_reasonOf_33 : decode cX3_reasonOf 33 = .ok (.iconst 2, 1) := by decide +kernel
theorem dX3_reasonOf_34 : decode cX3_reasonOf 34 = .ok (.ireturn, 1) := by decide +kernel
theorem dX3_reasonOf_35 : decode cX3_reasonOf 35 = .ok (.aload_n 1, 1) := by decide +kernel
theorem dX3_reasonOf_36 : decode cX3_reasonOf 36 = .ok (.getfield 94, 3) := by decide +kernel
theorem dX3_reasonOf_39 : decode cX3_reasonOf 39 = .ok (.getfield 128, 3) := by decide +kernel
theorem dX3_reasonOf_42 : decode cX3_reasonOf 42 = .ok (.ifCond .eq 5, 3) := by decide +kernel
theorem dX3_reasonOf_45 : decode cX3_reasonOf 45 = .ok (.iconst 1, 1) := by decide +kernel
theorem dX3_reasonOf_46 : decode cX3_reasonOf 46 = .ok (.ireturn, 1) := by decide +kernel
theorem dX3_reasonOf_47 : decode cX3_reasonOf 47 = .ok (.aload_n 1, 1) := by decide +kernel
theorem dX3_reasonOf_48 : decode cX3_reasonOf 48 = .ok (.getfield 77, 3) := by decide +kernel
theorem dX3_reasonOf_51 : decode cX3_reasonOf 51 = .ok (.iconst 1, 1) := by decide +kernel
theorem dX3_reasonOf_52 : decode cX3_reasonOf 52 = .ok (.if_icmp .ne 26, 3) := by decide +kernel
theorem dX3_reasonOf_55 : decode cX3_reasonOf 55 = .ok (.aload_n 1, 1) := by decide +kernel
theorem dX3_reasonOf_56 : decode cX3_reasonOf 56 = .ok (.getfield 94, 3) := by decide +kernel
theorem dX3_reasonOf_59 : decode cX3_reasonOf 59 = .ok (.invokevirtual 300, 3) := by decide +kernel
theorem dX3_reasonOf_62 : decode cX3_reasonOf 62 = .ok (.aload_n 1, 1) := by decide +kernel
theorem dX3_reasonOf_63 : decode cX3_reasonOf 63 = .ok (.getfield 141, 3) := by decide +kernel
theorem dX3_reasonOf_66 : decode cX3_reasonOf 66 = .ok (.getfield 191, 3) := by decide +kernel
theorem dX3_reasonOf_69 : decode cX3_reasonOf 69 = .ok (.if_icmp .le 7, 3) := by decide +kernel
theorem dX3_reasonOf_72 : decode cX3_reasonOf 72 = .ok (.iconst 0, 1) := by decide +kernel
theorem dX3_reasonOf_73 : decode cX3_reasonOf 73 = .ok (.goto 4, 3) := by decide +kernel
theorem dX3_reasonOf_76 : decode cX3_reasonOf 76 = .ok (.iconst 2, 1) := by decide +kernel
theorem dX3_reasonOf_77 : decode cX3_reasonOf 77 = .ok (.ireturn, 1) := by decide +kernel
theorem dX3_reasonOf_78 : decode cX3_reasonOf 78 = .ok (.aload_n 0, 1) := by decide +kernel
theorem dX3_reasonOf_79 : decode cX3_reasonOf 79 = .ok (.aload_n 1, 1) := by decide +kernel
theorem dX3_reasonOf_80 : decode cX3_reasonOf 80 = .ok (.invokevirtual 324, 3) := by decide +kernel
theorem dX3_reasonOf_83 : decode cX3_reasonOf 83 = .ok (.ireturn, 1) := by decide +kernel
theorem dX3_reasonAtPlace_0 : decode cX3_reasonAtPlace 0 = .ok (.aload_n 1, 1) := by decide +kernel
theorem dX3_reasonAtPlace_1 : decode cX3_reasonAtPlace 1 = .ok (.invokevirtual 234, 3) := by decide +kernel
theorem dX3_reasonAtPlace_4 : decode cX3_reasonAtPlace 4 = .ok (.istore_n 2, 1) := by decide +kernel
theorem dX3_reasonAtPlace_5 : decode cX3_reasonAtPlace 5 = .ok (.iload_n 2, 1) := by decide +kernel
theorem dX3_reasonAtPlace_6 : decode cX3_reasonAtPlace 6 = .ok (.aload_n 1, 1) := by decide +kernel
theorem dX3_reasonAtPlace_7 : decode cX3_reasonAtPlace 7 = .ok (.getfield 94, 3) := by decide +kernel
theorem dX3_reasonAtPlace_10 : decode cX3_reasonAtPlace 10 = .ok (.getfield 162, 3) := by decide +kernel
theorem dX3_reasonAtPlace_13 : decode cX3_reasonAtPlace 13 = .ok (.if_icmp .lt 5, 3) := by decide +kernel
theorem dX3_reasonAtPlace_16 : decode cX3_reasonAtPlace 16 = .ok (.iconst 2, 1) := by decide +kernel
theorem dX3_reasonAtPlace_17 : decode cX3_reasonAtPlace 17 = .ok (.ireturn, 1) := by decide +kernel
theorem dX3_reasonAtPlace_18 : decode cX3_reasonAtPlace 18 = .ok (.aload_n 1, 1) := by decide +kernel
theorem dX3_reasonAtPlace_19 : decode cX3_reasonAtPlace 19 = .ok (.getfield 94, 3) := by decide +kernel
theorem dX3_reasonAtPlace_22 : decode cX3_reasonAtPlace 22 = .ok (.iload_n 2, 1) := by decide +kernel
theorem dX3_reasonAtPlace_23 : decode cX3_reasonAtPlace 23 = .ok (.invokevirtual 327, 3) := by decide +kernel
theorem dX3_reasonAtPlace_26 : decode cX3_reasonAtPlace 26 = .ok (.ifCond .ne 5, 3) := by decide +kernel
theorem dX3_reasonAtPlace_29 : decode cX3_reasonAtPlace 29 = .ok (.iconst 3, 1) := by decide +kernel
theorem dX3_reasonAtPlace_30 : decode cX3_reasonAtPlace 30 = .ok (.ireturn, 1) := by decide +kernel
theorem dX3_reasonAtPlace_31 : decode cX3_reasonAtPlace 31 = .ok (.aload_n 0, 1) := by decide +kernel
theorem dX3_reasonAtPlace_32 : decode cX3_reasonAtPlace 32 = .ok (.aload_n 1, 1) := by decide +kernel
theorem dX3_reasonAtPlace_33 : decode cX3_reasonAtPlace 33 = .ok (.invokevirtual 237, 3) := by decide +kernel
theorem dX3_reasonAtPlace_36 : decode cX3_reasonAtPlace 36 = .ok (.ifCond .lt 5, 3) := by decide +kernel
theorem dX3_reasonAtPlace_39 : decode cX3_reasonAtPlace 39 = .ok (.iconst 4, 1) := by decide +kernel
theorem dX3_reasonAtPlace_40 : decode cX3_reasonAtPlace 40 = .ok (.ireturn, 1) := by decide +kernel
theorem dX3_reasonAtPlace_41 : decode cX3_reasonAtPlace 41 = .ok (.aload_n 1, 1) := by decide +kernel
theorem dX3_reasonAtPlace_42 : decode cX3_reasonAtPlace 42 = .ok (.getfield 228, 3) := by decide +kernel
theorem dX3_reasonAtPlace_45 : decode cX3_reasonAtPlace 45 = .ok (.ifnull 33, 3) := by decide +kernel
theorem dX3_reasonAtPlace_48 : decode cX3_reasonAtPlace 48 = .ok (.aload_n 1, 1) := by decide +kernel
theorem dX3_reasonAtPlace_49 : decode cX3_reasonAtPlace 49 = .ok (.getfield 228, 3) := by decide +kernel
theorem dX3_reasonAtPlace_52 : decode cX3_reasonAtPlace 52 = .ok (.invokevirtual 246, 3) := by decide +kernel
theorem dX3_reasonAtPlace_55 : decode cX3_reasonAtPlace 55 = .ok (.ifCond .eq 21, 3) := by decide +kernel
theorem dX3_reasonAtPlace_58 : decode cX3_reasonAtPlace 58 = .ok (.aload_n 0, 1) := by decide +kernel
theorem dX3_reasonAtPlace_59 : decode cX3_reasonAtPlace 59 = .ok (.aload_n 1, 1) := by decide +kernel
theorem dX3_reasonAtPlace_60 : decode cX3_reasonAtPlace 60 = .ok (.getfield 228, 3) := by decide +kernel
theorem dX3_reasonAtPlace_63 : decode cX3_reasonAtPlace 63 = .ok (.aload_n 1, 1) := by decide +kernel
theorem dX3_reasonAtPlace_64 : decode cX3_reasonAtPlace 64 = .ok (.getfield 228, 3) := by decide +kernel
theorem dX3_reasonAtPlace_67 : decode cX3_reasonAtPlace 67 = .ok (.getfield 162, 3) := by decide +kernel
theorem dX3_reasonAtPlace_70 : decode cX3_reasonAtPlace 70 = .ok (.invokevirtual 179, 3) := by decide +kernel
theorem dX3_reasonAtPlace_73 : decode cX3_reasonAtPlace 73 = .ok (.ifCond .eq 5, 3) := by decide +kernel
theorem dX3_reasonAtPlace_76 : decode cX3_reasonAtPlace 76 = .ok (.iconst 5, 1) := by decide +kernel
theorem dX3_reasonAtPlace_77 : decode cX3_reasonAtPlace 77 = .ok (.ireturn, 1) := by decide +kernel
theorem dX3_reasonAtPlace_78 : decode cX3_reasonAtPlace 78 = .ok (.iconst 0, 1) := by decide +kernel
theorem dX3_reasonAtPlace_79 : decode cX3_reasonAtPlace 79 = .ok (.ireturn, 1) := by decide +kernel
theorem dX3_leastNamedBehind_0 : decode cX3_leastNamedBehind 0 = .ok (.aload_n 1, 1) := by decide +kernel
theorem dX3_leastNamedBehind_1 : decode cX3_leastNamedBehind 1 = .ok (.getfield 94, 3) := by decide +kernel
theorem dX3_leastNamedBehind_4 : decode cX3_leastNamedBehind 4 = .ok (.getfield 98, 3) := by decide +kernel
theorem dX3_leastNamedBehind_7 : decode cX3_leastNamedBehind 7 = .ok (.istore_n 2, 1) := by decide +kernel
theorem dX3_leastNamedBehind_8 : decode cX3_leastNamedBehind 8 = .ok (.iconst 0, 1) := by decide +kernel
theorem dX3_leastNamedBehind_9 : decode cX3_leastNamedBehind 9 = .ok (.istore_n 3, 1) := by decide +kernel
theorem dX3_leastNamedBehind_10 : decode cX3_leastNamedBehind 10 = .ok (.iload_n 3, 1) := by decide +kernel
theorem dX3_leastNamedBehind_11 : decode cX3_leastNamedBehind 11 = .ok (.bipush 16, 2) := by decide +kernel
theorem dX3_leastNamedBehind_13 : decode cX3_leastNamedBehind 13 = .ok (.if_icmp .ge 33, 3) := by decide +kernel
theorem dX3_leastNamedBehind_16 : decode cX3_leastNamedBehind 16 = .ok (.aload_n 1, 1) := by decide +kernel
theorem dX3_leastNamedBehind_17 : decode cX3_leastNamedBehind 17 = .ok (.iload_n 3, 1) := by decide +kernel
theorem dX3_leastNamedBehind_18 : decode cX3_leastNamedBehind 18 = .ok (.invokevirtual 101, 3) := by decide +kernel
theorem dX3_leastNamedBehind_21 : decode cX3_leastNamedBehind 21 = .ok (.ifCond .eq 19, 3) := by decide +kernel
theorem dX3_leastNamedBehind_24 : decode cX3_leastNamedBehind 24 = .ok (.aload_n 0, 1) := by decide +kernel
theorem dX3_leastNamedBehind_25 : decode cX3_leastNamedBehind 25 = .ok (.iload_n 3, 1) := by decide +kernel
theorem dX3_leastNamedBehind_26 : decode cX3_leastNamedBehind 26 = .ok (.iload_n 2, 1) := by decide +kernel
theorem dX3_leastNamedBehind_27 : decode cX3_leastNamedBehind 27 = .ok (.invokevirtual 62, 3) := by decide +kernel
theorem dX3_leastNamedBehind_30 : decode cX3_leastNamedBehind 30 = .ok (.aload_n 1, 1) := by decide +kernel
theorem dX3_leastNamedBehind_31 : decode cX3_leastNamedBehind 31 = .ok (.iload_n 2, 1) := by decide +kernel
theorem dX3_leastNamedBehind_32 : decode cX3_leastNamedBehind 32 = .ok (.invokevirtual 80, 3) := by decide +kernel
theorem dX3_leastNamedBehind_35 : decode cX3_leastNamedBehind 35 = .ok (.if_icmp .gt 5, 3) := by decide +kernel
theorem dX3_leastNamedBehind_38 : decode cX3_leastNamedBehind 38 = .ok (.iload_n 3, 1) := by decide +kernel
theorem dX3_leastNamedBehind_39 : decode cX3_leastNamedBehind 39 = .ok (.ireturn, 1) := by decide +kernel
theorem dX3_leastNamedBehind_40 : decode cX3_leastNamedBehind 40 = .ok (.iinc 3 1, 3) := by decide +kernel
theorem dX3_leastNamedBehind_43 : decode cX3_leastNamedBehind 43 = .ok (.goto (-33), 3) := by decide +kernel
theorem dX3_leastNamedBehind_46 : decode cX3_leastNamedBehind 46 = .ok (.iconst (-1), 1) := by decide +kernel
theorem dX3_leastNamedBehind_47 : decode cX3_leastNamedBehind 47 = .ok (.ireturn, 1) := by decide +kernel
theorem dX3_reasonOfMerge_0 : decode cX3_reasonOfMerge 0 = .ok (.aload_n 0, 1) := by decide +kernel
theorem dX3_reasonOfMerge_1 : decode cX3_reasonOfMerge 1 = .ok (.aload_n 1, 1) := by decide +kernel
theorem dX3_reasonOfMerge_2 : decode cX3_reasonOfMerge 2 = .ok (.invokevirtual 240, 3) := by decide +kernel
theorem dX3_reasonOfMerge_5 : decode cX3_reasonOfMerge 5 = .ok (.ifCond .lt 6, 3) := by decide +kernel
theorem dX3_reasonOfMerge_8 : decode cX3_reasonOfMerge 8 = .ok (.bipush 7, 2) := by decide +kernel
theorem dX3_reasonOfMerge_10 : decode cX3_reasonOfMerge 10 = .ok (.ireturn, 1) := by decide +kernel
theorem dX3_reasonOfMerge_11 : decode cX3_reasonOfMerge 11 = .ok (.aload_n 0, 1) := by decide +kernel
theorem dX3_reasonOfMerge_12 : decode cX3_reasonOfMerge 12 = .ok (.aload_n 1, 1) := by decide +kernel
theorem dX3_reasonOfMerge_13 : decode cX3_reasonOfMerge 13 = .ok (.invokevirtual 310, 3) := by decide +kernel
theorem dX3_reasonOfMerge_16 : decode cX3_reasonOfMerge 16 = .ok (.ifnonnull 8, 3) := by decide +kernel
theorem dX3_reasonOfMerge_19 : decode cX3_reasonOfMerge 19 = .ok (.bipush 6, 2) := by decide +kernel
theorem dX3_reasonOfMerge_21 : decode cX3_reasonOfMerge 21 = .ok (.goto 4, 3) := by decide +kernel
theorem dX3_reasonOfMerge_24 : decode cX3_reasonOfMerge 24 = .ok (.iconst 0, 1) := by decide +kernel
theorem dX3_reasonOfMerge_25 : decode cX3_reasonOfMerge 25 = .ok (.ireturn, 1) := by decide +kernel
theorem dX3_isAwaited_0 : decode cX3_isAwaited 0 = .ok (.aload_n 1, 1) := by decide +kernel
theorem dX3_isAwaited_1 : decode cX3_isAwaited 1 = .ok (.aload_n 2, 1) := by decide +kernel
theorem dX3_isAwaited_2 : decode cX3_isAwaited 2 = .ok (.getfield 98, 3) := by decide +kernel
theorem dX3_isAwaited_5 : decode cX3_isAwaited 5 = .ok (.invokevirtual 80, 3) := by decide +kernel
theorem dX3_isAwaited_8 : decode cX3_isAwaited 8 = .ok (.istore_n 3, 1) := by decide +kernel
theorem dX3_isAwaited_9 : decode cX3_isAwaited 9 = .ok (.iload_n 3, 1) := by decide +kernel
theorem dX3_isAwaited_10 : decode cX3_isAwaited 10 = .ok (.ifCond .lt 29, 3) := by decide +kernel
theorem dX3_isAwaited_13 : decode cX3_isAwaited 13 = .ok (.aload_n 2, 1) := by decide +kernel
theorem dX3_isAwaited_14 : decode cX3_isAwaited 14 = .ok (.getfield 128, 3) := by decide +kernel
theorem dX3_isAwaited_17 : decode cX3_isAwaited 17 = .ok (.ifCond .ne 22, 3) := by decide +kernel
theorem dX3_isAwaited_20 : decode cX3_isAwaited 20 = .ok (.aload_n 2, 1) := by decide +kernel
theorem dX3_isAwaited_21 : decode cX3_isAwaited 21 = .ok (.getfield 155, 3) := by decide +kernel
theorem dX3_isAwaited_24 : decode cX3_isAwaited 24 = .ok (.ifCond .eq 11, 3) := by decide +kernel
theorem dX3_isAwaited_27 : decode cX3_isAwaited 27 = .ok (.iload_n 3, 1) := by decide +kernel
theorem dX3_isAwaited_28 : decode cX3_isAwaited 28 = .ok (.aload_n 2, 1) := by decide +kernel
theorem dX3_isAwaited_29 : decode cX3_isAwaited 29 = .ok (.getfield 162, 3) := by decide +kernel
theorem dX3_isAwaited_32 : decode cX3_isAwaited 32 = .ok (.if_icmp .ge 7, 3) := by decide +kernel
theorem dX3_isAwaited_35 : decode cX3_isAwaited 35 = .ok (.iconst 1, 1) := by decide +kernel
theorem dX3_isAwaited_36 : decode cX3_isAwaited 36 = .ok (.goto 4, 3) := by decide +kernel
theorem dX3_isAwaited_39 : decode cX3_isAwaited 39 = .ok (.iconst 0, 1) := by decide +kernel
theorem dX3_isAwaited_40 : decode cX3_isAwaited 40 = .ok (.ireturn, 1) := by decide +kernel
theorem dX3_leastLackingRing_0 : decode cX3_leastLackingRing 0 = .ok (.iconst 0, 1) := by decide +kernel
theorem dX3_leastLackingRing_1 : decode cX3_leastLackingRing 1 = .ok (.istore_n 2, 1) := by decide +kernel
theorem dX3_leastLackingRing_2 : decode cX3_leastLackingRing 2 = .ok (.iload_n 2, 1) := by decide +kernel
theorem dX3_leastLackingRing_3 : decode cX3_leastLackingRing 3 = .ok (.bipush 8, 2) := by decide +kernel
theorem dX3_leastLackingRing_5 : decode cX3_leastLackingRing 5 = .ok (.if_icmp .ge 42, 3) := by decide +kernel
theorem dX3_leastLackingRing_8 : decode cX3_leastLackingRing 8 = .ok (.aload_n 0, 1) := by decide +kernel
theorem dX3_leastLackingRing_9 : decode cX3_leastLackingRing 9 = .ok (.iload_n 2, 1) := by decide +kernel
theorem dX3_leastLackingRing_10 : decode cX3_leastLackingRing 10 = .ok (.invokevirtual 54, 3) := by decide +kernel
theorem dX3_leastLackingRing_13 : decode cX3_leastLackingRing 13 = .ok (.astore_n 3, 1) := by decide +kernel
theorem dX3_leastLackingRing_14 : decode cX3_leastLackingRing 14 = .ok (.aload_n 3, 1) := by decide +kernel
theorem dX3_leastLackingRing_15 : decode cX3_leastLackingRing 15 = .ok (.ifnull 26, 3) := by decide +kernel
theorem dX3_leastLackingRing_18 : decode cX3_leastLackingRing 18 = .ok (.aload_n 0, 1) := by decide +kernel
theorem dX3_leastLackingRing_19 : decode cX3_leastLackingRing 19 = .ok (.aload_n 1, 1) := by decide +kernel
theorem dX3_leastLackingRing_20 : decode cX3_leastLackingRing 20 = .ok (.aload_n 3, 1) := by decide +kernel
theorem dX3_leastLackingRing_21 : decode cX3_leastLackingRing 21 = .ok (.invokevirtual 330, 3) := by decide +kernel
theorem dX3_leastLackingRing_24 : decode cX3_leastLackingRing 24 = .ok (.ifCond .eq 17, 3) := by decide +kernel
theorem dX3_leastLackingRing_27 : decode cX3_leastLackingRing 27 = .ok (.aload_n 3, 1) := by decide +kernel
theorem dX3_leastLackingRing_28 : decode cX3_leastLackingRing 28 = .ok (.aload_n 1, 1) := by decide +kernel
theorem dX3_leastLackingRing_29 : decode cX3_leastLackingRing 29 = .ok (.iload_n 2, 1) := by decide +kernel
theorem dX3_leastLackingRing_30 : decode cX3_leastLackingRing 30 = .ok (.invokevirtual 80, 3) := by decide +kernel
theorem dX3_leastLackingRing_33 : decode cX3_leastLackingRing 33 = .ok (.invokevirtual 327, 3) := by decide +kernel
theorem dX3_leastLackingRing_36 : decode cX3_leastLackingRing 36 = .ok (.ifCond .ne 5, 3) := by decide +kernel
theorem dX3_leastLackingRing_39 : decode cX3_leastLackingRing 39 = .ok (.iload_n 2, 1) := by decide +kernel
theorem dX3_leastLackingRing_40 : decode cX3_leastLackingRing 40 = .ok (.ireturn, 1) := by decide +kernel
theorem dX3_leastLackingRing_41 : decode cX3_leastLackingRing 41 = .ok (.iinc 2 1, 3) := by decide +kernel
theorem dX3_leastLackingRing_44 : decode cX3_leastLackingRing 44 = .ok (.goto (-42), 3) := by decide +kernel
theorem dX3_leastLackingRing_47 : decode cX3_leastLackingRing 47 = .ok (.iconst (-1), 1) := by decide +kernel
theorem dX3_leastLackingRing_48 : decode cX3_leastLackingRing 48 = .ok (.ireturn, 1) := by decide +kernel
theorem dX3_ringOfLeastStamp_0 : decode cX3_ringOfLeastStamp 0 = .ok (.aconst_null, 1) := by decide +kernel
theorem dX3_ringOfLeastStamp_1 : decode cX3_ringOfLeastStamp 1 = .ok (.astore_n 2, 1) := by decide +kernel
theorem dX3_ringOfLeastStamp_2 : decode cX3_ringOfLeastStamp 2 = .ok (.lconst 0, 1) := by decide +kernel
theorem dX3_ringOfLeastStamp_3 : decode cX3_ringOfLeastStamp 3 = .ok (.lstore_n 3, 1) := by decide +kernel
theorem dX3_ringOfLeastStamp_4 : decode cX3_ringOfLeastStamp 4 = .ok (.iconst 0, 1) := by decide +kernel
theorem dX3_ringOfLeastStamp_5 : decode cX3_ringOfLeastStamp 5 = .ok (.istore 5, 2) := by decide +kernel
theorem dX3_ringOfLeastStamp_7 : decode cX3_ringOfLeastStamp 7 = .ok (.iload 5, 2) := by decide +kernel
theorem dX3_ringOfLeastStamp_9 : decode cX3_ringOfLeastStamp 9 = .ok (.bipush 8, 2) := by decide +kernel
theorem dX3_ringOfLeastStamp_11 : decode cX3_ringOfLeastStamp 11 = .ok (.if_icmp .ge 73, 3) := by decide +kernel
theorem dX3_ringOfLeastStamp_14 : decode cX3_ringOfLeastStamp 14 = .ok (.aload_n 0, 1) := by decide +kernel
theorem dX3_ringOfLeastStamp_15 : decode cX3_ringOfLeastStamp 15 = .ok (.iload 5, 2) := by decide +kernel
theorem dX3_ringOfLeastStamp_17 : decode cX3_ringOfLeastStamp 17 = .ok (.invokevirtual 54, 3) := by decide +kernel
theorem dX3_ringOfLeastStamp_20 : decode cX3_ringOfLeastStamp 20 = .ok (.astore 6, 2) := by decide +kernel
theorem dX3_ringOfLeastStamp_22 : decode cX3_ringOfLeastStamp 22 = .ok (.aload 6, 2) := by decide +kernel
theorem dX3_ringOfLeastStamp_24 : decode cX3_ringOfLeastStamp 24 = .ok (.ifnull 54, 3) := by decide +kernel
theorem dX3_ringOfLeastStamp_27 : decode cX3_ringOfLeastStamp 27 = .ok (.aload_n 0, 1) := by decide +kernel
theorem dX3_ringOfLeastStamp_28 : decode cX3_ringOfLeastStamp 28 = .ok (.aload_n 1, 1) := by decide +kernel
theorem dX3_ringOfLeastStamp_29 : decode cX3_ringOfLeastStamp 29 = .ok (.aload 6, 2) := by decide +kernel
theorem dX3_ringOfLeastStamp_31 : decode cX3_ringOfLeastStamp 31 = .ok (.invokevirtual 330, 3) := by decide +kernel
theorem dX3_ringOfLeastStamp_34 : decode cX3_ringOfLeastStamp 34 = .ok (.ifCond .eq 44, 3) := by decide +kernel
theorem dX3_ringOfLeastStamp_37 : decode cX3_ringOfLeastStamp 37 = .ok (.aload 6, 2) := by decide +kernel
theorem dX3_ringOfLeastStamp_39 : decode cX3_ringOfLeastStamp 39 = .ok (.aload_n 1, 1) := by decide +kernel
theorem dX3_ringOfLeastStamp_40 : decode cX3_ringOfLeastStamp 40 = .ok (.iload 5, 2) := by decide +kernel
theorem dX3_ringOfLeastStamp_42 : decode cX3_ringOfLeastStamp 42 = .ok (.invokevirtual 80, 3) := by decide +kernel
theorem dX3_ringOfLeastStamp_45 : decode cX3_ringOfLeastStamp 45 = .ok (.invokevirtual 303, 3) := by decide +kernel
theorem dX3_ringOfLeastStamp_48 : decode cX3_ringOfLeastStamp 48 = .ok (.astore 7, 2) := by decide +kernel
theorem dX3_ringOfLeastStamp_50 : decode cX3_ringOfLeastStamp 50 = .ok (.aload 7, 2) := by decide +kernel
theorem dX3_ringOfLeastStamp_52 : decode cX3_ringOfLeastStamp 52 = .ok (.ifnull 26, 3) := by decide +kernel
theorem dX3_ringOfLeastStamp_55 : decode cX3_ringOfLeastStamp 55 = .ok (.aload_n 2, 1) := by decide +kernel
theorem dX3_ringOfLeastStamp_56 : decode cX3_ringOfLeastStamp 56 = .ok (.ifnull 13, 3) := by decide +kernel
theorem dX3_ringOfLeastStamp_59 : decode cX3_ringOfLeastStamp 59 = .ok (.aload 7, 2) := by decide +kernel
theorem dX3_ringOfLeastStamp_61 : decode cX3_ringOfLeastStamp 61 = .ok (.getfield 197, 3) := by decide +kernel
theorem dX3_ringOfLeastStamp_64 : decode cX3_ringOfLeastStamp 64 = .ok (.lload_n 3, 1) := by decide +kernel
theorem dX3_ringOfLeastStamp_65 : decode cX3_ringOfLeastStamp 65 = .ok (.lcmp, 1) := by decide +kernel
theorem dX3_ringOfLeastStamp_66 : decode cX3_ringOfLeastStamp 66 = .ok (.ifCond .ge 12, 3) := by decide +kernel
theorem dX3_ringOfLeastStamp_69 : decode cX3_ringOfLeastStamp 69 = .ok (.aload 6, 2) := by decide +kernel
theorem dX3_ringOfLeastStamp_71 : decode cX3_ringOfLeastStamp 71 = .ok (.astore_n 2, 1) := by decide +kernel
theorem dX3_ringOfLeastStamp_72 : decode cX3_ringOfLeastStamp 72 = .ok (.aload 7, 2) := by decide +kernel
theorem dX3_ringOfLeastStamp_74 : decode cX3_ringOfLeastStamp 74 = .ok (.getfield 197, 3) := by decide +kernel
theorem dX3_ringOfLeastStamp_77 : decode cX3_ringOfLeastStamp 77 = .ok (.lstore_n 3, 1) := by decide +kernel
theorem dX3_ringOfLeastStamp_78 : decode cX3_ringOfLeastStamp 78 = .ok (.iinc 5 1, 3) := by decide +kernel
theorem dX3_ringOfLeastStamp_81 : decode cX3_ringOfLeastStamp 81 = .ok (.goto (-74), 3) := by decide +kernel
theorem dX3_ringOfLeastStamp_84 : decode cX3_ringOfLeastStamp 84 = .ok (.aload_n 2, 1) := by decide +kernel
theorem dX3_ringOfLeastStamp_85 : decode cX3_ringOfLeastStamp 85 = .ok (.areturn, 1) := by decide +kernel
theorem dJ6_bitCount_0f7a4_0 : decode cJ6_bitCount_0f7a4 0 = .ok (.iload_n 0, 1) := by decide +kernel
theorem dJ6_bitCount_0f7a4_1 : decode cJ6_bitCount_0f7a4 1 = .ok (.iload_n 0, 1) := by decide +kernel
theorem dJ6_bitCount_0f7a4_2 : decode cJ6_bitCount_0f7a4 2 = .ok (.iconst 1, 1) := by decide +kernel
theorem dJ6_bitCount_0f7a4_3 : decode cJ6_bitCount_0f7a4 3 = .ok (.iushr, 1) := by decide +kernel
theorem dJ6_bitCount_0f7a4_4 : decode cJ6_bitCount_0f7a4 4 = .ok (.ldc_w 265, 3) := by decide +kernel
theorem dJ6_bitCount_0f7a4_7 : decode cJ6_bitCount_0f7a4 7 = .ok (.iand, 1) := by decide +kernel
theorem dJ6_bitCount_0f7a4_8 : decode cJ6_bitCount_0f7a4 8 = .ok (.isub, 1) := by decide +kernel
theorem dJ6_bitCount_0f7a4_9 : decode cJ6_bitCount_0f7a4 9 = .ok (.istore_n 0, 1) := by decide +kernel
theorem dJ6_bitCount_0f7a4_10 : decode cJ6_bitCount_0f7a4 10 = .ok (.iload_n 0, 1) := by decide +kernel
theorem dJ6_bitCount_0f7a4_11 : decode cJ6_bitCount_0f7a4 11 = .ok (.ldc_w 266, 3) := by decide +kernel
theorem dJ6_bitCount_0f7a4_14 : decode cJ6_bitCount_0f7a4 14 = .ok (.iand, 1) := by decide +kernel
theorem dJ6_bitCount_0f7a4_15 : decode cJ6_bitCount_0f7a4 15 = .ok (.iload_n 0, 1) := by decide +kernel
theorem dJ6_bitCount_0f7a4_16 : decode cJ6_bitCount_0f7a4 16 = .ok (.iconst 2, 1) := by decide +kernel
theorem dJ6_bitCount_0f7a4_17 : decode cJ6_bitCount_0f7a4 17 = .ok (.iushr, 1) := by decide +kernel
theorem dJ6_bitCount_0f7a4_18 : decode cJ6_bitCount_0f7a4 18 = .ok (.ldc_w 266, 3) := by decide +kernel
theorem dJ6_bitCount_0f7a4_21 : decode cJ6_bitCount_0f7a4 21 = .ok (.iand, 1) := by decide +kernel
theorem dJ6_bitCount_0f7a4_22 : decode cJ6_bitCount_0f7a4 22 = .ok (.iadd, 1) := by decide +kernel
theorem dJ6_bitCount_0f7a4_23 : decode cJ6_bitCount_0f7a4 23 = .ok (.istore_n 0, 1) := by decide +kernel
theorem dJ6_bitCount_0f7a4_24 : decode cJ6_bitCount_0f7a4 24 = .ok (.iload_n 0, 1) := by decide +kernel
theorem dJ6_bitCount_0f7a4_25 : decode cJ6_bitCount_0f7a4 25 = .ok (.iload_n 0, 1) := by decide +kernel
theorem dJ6_bitCount_0f7a4_26 : decode cJ6_bitCount_0f7a4 26 = .ok (.iconst 4, 1) := by decide +kernel
theorem dJ6_bitCount_0f7a4_27 : decode cJ6_bitCount_0f7a4 27 = .ok (.iushr, 1) := by decide +kernel
theorem dJ6_bitCount_0f7a4_28 : decode cJ6_bitCount_0f7a4 28 = .ok (.iadd, 1) := by decide +kernel
theorem dJ6_bitCount_0f7a4_29 : decode cJ6_bitCount_0f7a4 29 = .ok (.ldc_w 267, 3) := by decide +kernel
theorem dJ6_bitCount_0f7a4_32 : decode cJ6_bitCount_0f7a4 32 = .ok (.iand, 1) := by decide +kernel
theorem dJ6_bitCount_0f7a4_33 : decode cJ6_bitCount_0f7a4 33 = .ok (.istore_n 0, 1) := by decide +kernel
theorem dJ6_bitCount_0f7a4_34 : decode cJ6_bitCount_0f7a4 34 = .ok (.iload_n 0, 1) := by decide +kernel
theorem dJ6_bitCount_0f7a4_35 : decode cJ6_bitCount_0f7a4 35 = .ok (.iload_n 0, 1) := by decide +kernel
theorem dJ6_bitCount_0f7a4_36 : decode cJ6_bitCount_0f7a4 36 = .ok (.bipush 8, 2) := by decide +kernel
theorem dJ6_bitCount_0f7a4_38 : decode cJ6_bitCount_0f7a4 38 = .ok (.iushr, 1) := by decide +kernel
theorem dJ6_bitCount_0f7a4_39 : decode cJ6_bitCount_0f7a4 39 = .ok (.iadd, 1) := by decide +kernel
theorem dJ6_bitCount_0f7a4_40 : decode cJ6_bitCount_0f7a4 40 = .ok (.istore_n 0, 1) := by decide +kernel
theorem dJ6_bitCount_0f7a4_41 : decode cJ6_bitCount_0f7a4 41 = .ok (.iload_n 0, 1) := by decide +kernel
theorem dJ6_bitCount_0f7a4_42 : decode cJ6_bitCount_0f7a4 42 = .ok (.iload_n 0, 1) := by decide +kernel
theorem dJ6_bitCount_0f7a4_43 : decode cJ6_bitCount_0f7a4 43 = .ok (.bipush 16, 2) := by decide +kernel
theorem dJ6_bitCount_0f7a4_45 : decode cJ6_bitCount_0f7a4 45 = .ok (.iushr, 1) := by decide +kernel
theorem dJ6_bitCount_0f7a4_46 : decode cJ6_bitCount_0f7a4 46 = .ok (.iadd, 1) := by decide +kernel
theorem dJ6_bitCount_0f7a4_47 : decode cJ6_bitCount_0f7a4 47 = .ok (.istore_n 0, 1) := by decide +kernel
theorem dJ6_bitCount_0f7a4_48 : decode cJ6_bitCount_0f7a4 48 = .ok (.iload_n 0, 1) := by decide +kernel
theorem dJ6_bitCount_0f7a4_49 : decode cJ6_bitCount_0f7a4 49 = .ok (.bipush 63, 2) := by decide +kernel
theorem dJ6_bitCount_0f7a4_51 : decode cJ6_bitCount_0f7a4 51 = .ok (.iand, 1) := by decide +kernel
theorem dJ6_bitCount_0f7a4_52 : decode cJ6_bitCount_0f7a4 52 = .ok (.ireturn, 1) := by decide +kernel
theorem dJ9_max_7cf53_0 : decode cJ9_max_7cf53 0 = .ok (.iload_n 0, 1) := by decide +kernel
theorem dJ9_max_7cf53_1 : decode cJ9_max_7cf53 1 = .ok (.iload_n 1, 1) := by decide +kernel
theorem dJ9_max_7cf53_2 : decode cJ9_max_7cf53 2 = .ok (.if_icmp .lt 7, 3) := by decide +kernel
theorem dJ9_max_7cf53_5 : decode cJ9_max_7cf53 5 = .ok (.iload_n 0, 1) := by decide +kernel
theorem dJ9_max_7cf53_6 : decode cJ9_max_7cf53 6 = .ok (.goto 4, 3) := by decide +kernel
theorem dJ9_max_7cf53_9 : decode cJ9_max_7cf53 9 = .ok (.iload_n 1, 1) := by decide +kernel
theorem dJ9_max_7cf53_10 : decode cJ9_max_7cf53 10 = .ok (.ireturn, 1) := by decide +kernel
theorem dJ9_min_7cf53_0 : decode cJ9_min_7cf53 0 = .ok (.iload_n 0, 1) := by decide +kernel
theorem dJ9_min_7cf53_1 : decode cJ9_min_7cf53 1 = .ok (.iload_n 1, 1) := by decide +kernel
theorem dJ9_min_7cf53_2 : decode cJ9_min_7cf53 2 = .ok (.if_icmp .gt 7, 3) := by decide +kernel
theorem dJ9_min_7cf53_5 : decode cJ9_min_7cf53 5 = .ok (.iload_n 0, 1) := by decide +kernel
theorem dJ9_min_7cf53_6 : decode cJ9_min_7cf53 6 = .ok (.goto 4, 3) := by decide +kernel
theorem dJ9_min_7cf53_9 : decode cJ9_min_7cf53 9 = .ok (.iload_n 1, 1) := by decide +kernel
theorem dJ9_min_7cf53_10 : decode cJ9_min_7cf53 10 = .ok (.ireturn, 1) := by decide +kernel
theorem dJ7_fill_d0a16_0 : decode cJ7_fill_d0a16 0 = .ok (.iconst 0, 1) := by decide +kernel
theorem dJ7_fill_d0a16_1 : decode cJ7_fill_d0a16 1 = .ok (.istore_n 3, 1) := by decide +kernel
theorem dJ7_fill_d0a16_2 : decode cJ7_fill_d0a16 2 = .ok (.aload_n 0, 1) := by decide +kernel
theorem dJ7_fill_d0a16_3 : decode cJ7_fill_d0a16 3 = .ok (.arraylength, 1) := by decide +kernel
theorem dJ7_fill_d0a16_4 : decode cJ7_fill_d0a16 4 = .ok (.istore 4, 2) := by decide +kernel
theorem dJ7_fill_d0a16_6 : decode cJ7_fill_d0a16 6 = .ok (.iload_n 3, 1) := by decide +kernel
theorem dJ7_fill_d0a16_7 : decode cJ7_fill_d0a16 7 = .ok (.iload 4, 2) := by decide +kernel
theorem dJ7_fill_d0a16_9 : decode cJ7_fill_d0a16 9 = .ok (.if_icmp .ge 13, 3) := by decide +kernel
theorem dJ7_fill_d0a16_12 : decode cJ7_fill_d0a16 12 = .ok (.aload_n 0, 1) := by decide +kernel
theorem dJ7_fill_d0a16_13 : decode cJ7_fill_d0a16 13 = .ok (.iload_n 3, 1) := by decide +kernel
theorem dJ7_fill_d0a16_14 : decode cJ7_fill_d0a16 14 = .ok (.lload_n 1, 1) := by decide +kernel
theorem dJ7_fill_d0a16_15 : decode cJ7_fill_d0a16 15 = .ok (.lastore, 1) := by decide +kernel
theorem dJ7_fill_d0a16_16 : decode cJ7_fill_d0a16 16 = .ok (.iinc 3 1, 3) := by decide +kernel
theorem dJ7_fill_d0a16_19 : decode cJ7_fill_d0a16 19 = .ok (.goto (-13), 3) := by decide +kernel
theorem dJ7_fill_d0a16_22 : decode cJ7_fill_d0a16 22 = .ok (.return_, 1) := by decide +kernel
theorem dJ7_fill_53178_0 : decode cJ7_fill_53178 0 = .ok (.iconst 0, 1) := by decide +kernel
theorem dJ7_fill_53178_1 : decode cJ7_fill_53178 1 = .ok (.istore_n 2, 1) := by decide +kernel
theorem dJ7_fill_53178_2 : decode cJ7_fill_53178 2 = .ok (.aload_n 0, 1) := by decide +kernel
theorem dJ7_fill_53178_3 : decode cJ7_fill_53178 3 = .ok (.arraylength, 1) := by decide +kernel
theorem dJ7_fill_53178_4 : decode cJ7_fill_53178 4 = .ok (.istore_n 3, 1) := by decide +kernel
theorem dJ7_fill_53178_5 : decode cJ7_fill_53178 5 = .ok (.iload_n 2, 1) := by decide +kernel
theorem dJ7_fill_53178_6 : decode cJ7_fill_53178 6 = .ok (.iload_n 3, 1) := by decide +kernel
theorem dJ7_fill_53178_7 : decode cJ7_fill_53178 7 = .ok (.if_icmp .ge 13, 3) := by decide +kernel
theorem dJ7_fill_53178_10 : decode cJ7_fill_53178 10 = .ok (.aload_n 0, 1) := by decide +kernel
theorem dJ7_fill_53178_11 : decode cJ7_fill_53178 11 = .ok (.iload_n 2, 1) := by decide +kernel
theorem dJ7_fill_53178_12 : decode cJ7_fill_53178 12 = .ok (.iload_n 1, 1) := by decide +kernel
theorem dJ7_fill_53178_13 : decode cJ7_fill_53178 13 = .ok (.iastore, 1) := by decide +kernel
theorem dJ7_fill_53178_14 : decode cJ7_fill_53178 14 = .ok (.iinc 2 1, 3) := by decide +kernel
theorem dJ7_fill_53178_17 : decode cJ7_fill_53178 17 = .ok (.goto (-12), 3) := by decide +kernel
theorem dJ7_fill_53178_20 : decode cJ7_fill_53178 20 = .ok (.return_, 1) := by decide +kernel
