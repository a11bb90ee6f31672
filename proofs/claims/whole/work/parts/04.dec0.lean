theorem dX0_init_0 : decode cX0_init 0 = .ok (.aload_n 0, 1) := by decide +kernel
theorem dX0_init_1 : decode cX0_init 1 = .ok (.invokespecial 3, 3) := by decide +kernel
theorem dX0_init_4 : decode cX0_init 4 = .ok (.aload_n 0, 1) := by decide +kernel
theorem dX0_init_5 : decode cX0_init 5 = .ok (.aload_n 1, 1) := by decide +kernel
theorem dX0_init_6 : decode cX0_init 6 = .ok (.putfield 9, 3) := by decide +kernel
theorem dX0_init_9 : decode cX0_init 9 = .ok (.aload_n 0, 1) := by decide +kernel
theorem dX0_init_10 : decode cX0_init 10 = .ok (.new 15, 3) := by decide +kernel
theorem dX0_init_13 : decode cX0_init 13 = .ok (.dup, 1) := by decide +kernel
theorem dX0_init_14 : decode cX0_init 14 = .ok (.bipush 100, 2) := by decide +kernel
theorem dX0_init_16 : decode cX0_init 16 = .ok (.invokespecial 17, 3) := by decide +kernel
theorem dX0_init_19 : decode cX0_init 19 = .ok (.putfield 20, 3) := by decide +kernel
theorem dX0_init_22 : decode cX0_init 22 = .ok (.aload_n 0, 1) := by decide +kernel
theorem dX0_init_23 : decode cX0_init 23 = .ok (.new 15, 3) := by decide +kernel
theorem dX0_init_26 : decode cX0_init 26 = .ok (.dup, 1) := by decide +kernel
theorem dX0_init_27 : decode cX0_init 27 = .ok (.bipush 100, 2) := by decide +kernel
theorem dX0_init_29 : decode cX0_init 29 = .ok (.invokespecial 17, 3) := by decide +kernel
theorem dX0_init_32 : decode cX0_init 32 = .ok (.putfield 24, 3) := by decide +kernel
theorem dX0_init_35 : decode cX0_init 35 = .ok (.aload_n 0, 1) := by decide +kernel
theorem dX0_init_36 : decode cX0_init 36 = .ok (.new 15, 3) := by decide +kernel
theorem dX0_init_39 : decode cX0_init 39 = .ok (.dup, 1) := by decide +kernel
theorem dX0_init_40 : decode cX0_init 40 = .ok (.iconst 0, 1) := by decide +kernel
theorem dX0_init_41 : decode cX0_init 41 = .ok (.invokespecial 17, 3) := by decide +kernel
theorem dX0_init_44 : decode cX0_init 44 = .ok (.putfield 27, 3) := by decide +kernel
theorem dX0_init_47 : decode cX0_init 47 = .ok (.return_, 1) := by decide +kernel
theorem dX0_faultSort_0 : decode cX0_faultSort 0 = .ok (.aload_n 0, 1) := by decide +kernel
theorem dX0_faultSort_1 : decode cX0_faultSort 1 = .ok (.getfield 30, 3) := by decide +kernel
theorem dX0_faultSort_4 : decode cX0_faultSort 4 = .ok (.ireturn, 1) := by decide +kernel
theorem dX0_faultPlace_0 : decode cX0_faultPlace 0 = .ok (.aload_n 0, 1) := by decide +kernel
theorem dX0_faultPlace_1 : decode cX0_faultPlace 1 = .ok (.getfield 34, 3) := by decide +kernel
theorem dX0_faultPlace_4 : decode cX0_faultPlace 4 = .ok (.ireturn, 1) := by decide +kernel
theorem dX0_characters_0 : decode cX0_characters 0 = .ok (.aload_n 0, 1) := by decide +kernel
theorem dX0_characters_1 : decode cX0_characters 1 = .ok (.getfield 20, 3) := by decide +kernel
theorem dX0_characters_4 : decode cX0_characters 4 = .ok (.invokevirtual 37, 3) := by decide +kernel
theorem dX0_characters_7 : decode cX0_characters 7 = .ok (.ireturn, 1) := by decide +kernel
theorem dX0_isFromRight_0 : decode cX0_isFromRight 0 = .ok (.aload_n 0, 1) := by decide +kernel
theorem dX0_isFromRight_1 : decode cX0_isFromRight 1 = .ok (.getfield 41, 3) := by decide +kernel
theorem dX0_isFromRight_4 : decode cX0_isFromRight 4 = .ok (.ireturn, 1) := by decide +kernel
theorem dX0_noteFault_0 : decode cX0_noteFault 0 = .ok (.aload_n 0, 1) := by decide +kernel
theorem dX0_noteFault_1 : decode cX0_noteFault 1 = .ok (.iload_n 1, 1) := by decide +kernel
theorem dX0_noteFault_2 : decode cX0_noteFault 2 = .ok (.putfield 30, 3) := by decide +kernel
theorem dX0_noteFault_5 : decode cX0_noteFault 5 = .ok (.aload_n 0, 1) := by decide +kernel
theorem dX0_noteFault_6 : decode cX0_noteFault 6 = .ok (.iload_n 2, 1) := by decide +kernel
theorem dX0_noteFault_7 : decode cX0_noteFault 7 = .ok (.putfield 34, 3) := by decide +kernel
theorem dX0_noteFault_10 : decode cX0_noteFault 10 = .ok (.return_, 1) := by decide +kernel
theorem dX0_readBars_0 : decode cX0_readBars 0 = .ok (.aload_n 0, 1) := by decide +kernel
theorem dX0_readBars_1 : decode cX0_readBars 1 = .ok (.aload_n 1, 1) := by decide +kernel
theorem dX0_readBars_2 : decode cX0_readBars 2 = .ok (.putfield 27, 3) := by decide +kernel
theorem dX0_readBars_5 : decode cX0_readBars 5 = .ok (.aload_n 0, 1) := by decide +kernel
theorem dX0_readBars_6 : decode cX0_readBars 6 = .ok (.getfield 20, 3) := by decide +kernel
theorem dX0_readBars_9 : decode cX0_readBars 9 = .ok (.invokevirtual 45, 3) := by decide +kernel
theorem dX0_readBars_12 : decode cX0_readBars 12 = .ok (.aload_n 0, 1) := by decide +kernel
theorem dX0_readBars_13 : decode cX0_readBars 13 = .ok (.getfield 24, 3) := by decide +kernel
theorem dX0_readBars_16 : decode cX0_readBars 16 = .ok (.invokevirtual 45, 3) := by decide +kernel
theorem dX0_readBars_19 : decode cX0_readBars 19 = .ok (.aload_n 0, 1) := by decide +kernel
theorem dX0_readBars_20 : decode cX0_readBars 20 = .ok (.iconst 0, 1) := by decide +kernel
theorem dX0_readBars_21 : decode cX0_readBars 21 = .ok (.iconst (-1), 1) := by decide +kernel
theorem dX0_readBars_22 : decode cX0_readBars 22 = .ok (.invokevirtual 48, 3) := by decide +kernel
theorem dX0_readBars_25 : decode cX0_readBars 25 = .ok (.aload_n 0, 1) := by decide +kernel
theorem dX0_readBars_26 : decode cX0_readBars 26 = .ok (.invokevirtual 52, 3) := by decide +kernel
theorem dX0_readBars_29 : decode cX0_readBars 29 = .ok (.aload_n 0, 1) := by decide +kernel
theorem dX0_readBars_30 : decode cX0_readBars 30 = .ok (.getfield 55, 3) := by decide +kernel
theorem dX0_readBars_33 : decode cX0_readBars 33 = .ok (.ifCond .ne 11, 3) := by decide +kernel
theorem dX0_readBars_36 : decode cX0_readBars 36 = .ok (.aload_n 0, 1) := by decide +kernel
theorem dX0_readBars_37 : decode cX0_readBars 37 = .ok (.bipush 11, 2) := by decide +kernel
theorem dX0_readBars_39 : decode cX0_readBars 39 = .ok (.iconst 0, 1) := by decide +kernel
theorem dX0_readBars_40 : decode cX0_readBars 40 = .ok (.invokevirtual 48, 3) := by decide +kernel
theorem dX0_readBars_43 : decode cX0_readBars 43 = .ok (.return_, 1) := by decide +kernel
theorem dX0_readBars_44 : decode cX0_readBars 44 = .ok (.aload_n 0, 1) := by decide +kernel
theorem dX0_readBars_45 : decode cX0_readBars 45 = .ok (.invokevirtual 58, 3) := by decide +kernel
theorem dX0_readBars_48 : decode cX0_readBars 48 = .ok (.aload_n 0, 1) := by decide +kernel
theorem dX0_readBars_49 : decode cX0_readBars 49 = .ok (.invokevirtual 61, 3) := by decide +kernel
theorem dX0_readBars_52 : decode cX0_readBars 52 = .ok (.ifCond .eq 7, 3) := by decide +kernel
theorem dX0_readBars_55 : decode cX0_readBars 55 = .ok (.aload_n 0, 1) := by decide +kernel
theorem dX0_readBars_56 : decode cX0_readBars 56 = .ok (.invokevirtual 65, 3) := by decide +kernel
theorem dX0_readBars_59 : decode cX0_readBars 59 = .ok (.return_, 1) := by decide +kernel
theorem dX0_leaveOutEnds_0 : decode cX0_leaveOutEnds 0 = .ok (.iconst 0, 1) := by decide +kernel
theorem dX0_leaveOutEnds_1 : decode cX0_leaveOutEnds 1 = .ok (.istore_n 1, 1) := by decide +kernel
theorem dX0_leaveOutEnds_2 : decode cX0_leaveOutEnds 2 = .ok (.aload_n 0, 1) := by decide +kernel
theorem dX0_leaveOutEnds_3 : decode cX0_leaveOutEnds 3 = .ok (.getfield 27, 3) := by decide +kernel
theorem dX0_leaveOutEnds_6 : decode cX0_leaveOutEnds 6 = .ok (.invokevirtual 37, 3) := by decide +kernel
theorem dX0_leaveOutEnds_9 : decode cX0_leaveOutEnds 9 = .ok (.iconst 1, 1) := by decide +kernel
theorem dX0_leaveOutEnds_10 : decode cX0_leaveOutEnds 10 = .ok (.isub, 1) := by decide +kernel
theorem dX0_leaveOutEnds_11 : decode cX0_leaveOutEnds 11 = .ok (.istore_n 2, 1) := by decide +kernel
theorem dX0_leaveOutEnds_12 : decode cX0_leaveOutEnds 12 = .ok (.iload_n 1, 1) := by decide +kernel
theorem dX0_leaveOutEnds_13 : decode cX0_leaveOutEnds 13 = .ok (.aload_n 0, 1) := by decide +kernel
theorem dX0_leaveOutEnds_14 : decode cX0_leaveOutEnds 14 = .ok (.getfield 27, 3) := by decide +kernel
theorem dX0_leaveOutEnds_17 : decode cX0_leaveOutEnds 17 = .ok (.invokevirtual 37, 3) := by decide +kernel
theorem dX0_leaveOutEnds_20 : decode cX0_leaveOutEnds 20 = .ok (.if_icmp .ge 20, 3) := by decide +kernel
theorem dX0_leaveOutEnds_23 : decode cX0_leaveOutEnds 23 = .ok (.aload_n 0, 1) := by decide +kernel
theorem dX0_leaveOutEnds_24 : decode cX0_leaveOutEnds 24 = .ok (.getfield 27, 3) := by decide +kernel
theorem dX0_leaveOutEnds_27 : decode cX0_leaveOutEnds 27 = .ok (.iload_n 1, 1) := by decide +kernel
theorem dX0_leaveOutEnds_28 : decode cX0_leaveOutEnds 28 = .ok (.invokevirtual 68, 3) := by decide +kernel
theorem dX0_leaveOutEnds_31 : decode cX0_leaveOutEnds 31 = .ok (.ifCond .ne 9, 3) := by decide +kernel
theorem dX0_leaveOutEnds_34 : decode cX0_leaveOutEnds 34 = .ok (.iinc 1 1, 3) := by decide +kernel
theorem dX0_leaveOutEnds_37 : decode cX0_leaveOutEnds 37 = .ok (.goto (-25), 3) := by decide +kernel
theorem dX0_leaveOutEnds_40 : decode cX0_leaveOutEnds 40 = .ok (.iload_n 2, 1) := by decide +kernel
theorem dX0_leaveOutEnds_41 : decode cX0_leaveOutEnds 41 = .ok (.iload_n 1, 1) := by decide +kernel
theorem dX0_leaveOutEnds_42 : decode cX0_leaveOutEnds 42 = .ok (.if_icmp .le 20, 3) := by decide +kernel
theorem dX0_leaveOutEnds_45 : decode cX0_leaveOutEnds 45 = .ok (.aload_n 0, 1) := by decide +kernel
theorem dX0_leaveOutEnds_46 : decode cX0_leaveOutEnds 46 = .ok (.getfield 27, 3) := by decide +kernel
theorem dX0_leaveOutEnds_49 : decode cX0_leaveOutEnds 49 = .ok (.iload_n 2, 1) := by decide +kernel
theorem dX0_leaveOutEnds_50 : decode cX0_leaveOutEnds 50 = .ok (.invokevirtual 68, 3) := by decide +kernel
theorem dX0_leaveOutEnds_53 : decode cX0_leaveOutEnds 53 = .ok (.ifCond .ne 9, 3) := by decide +kernel
theorem dX0_leaveOutEnds_56 : decode cX0_leaveOutEnds 56 = .ok (.iinc 2 (-1), 3) := by decide +kernel
theorem dX0_leaveOutEnds_59 : decode cX0_leaveOutEnds 59 = .ok (.goto (-19), 3) := by decide +kernel
theorem dX0_leaveOutEnds_62 : decode cX0_leaveOutEnds 62 = .ok (.aload_n 0, 1) := by decide +kernel
theorem dX0_leaveOutEnds_63 : decode cX0_leaveOutEnds 63 = .ok (.iload_n 1, 1) := by decide +kernel
theorem dX0_leaveOutEnds_64 : decode cX0_leaveOutEnds 64 = .ok (.putfield 72, 3) := by decide +kernel
theorem dX0_leaveOutEnds_67 : decode cX0_leaveOutEnds 67 = .ok (.aload_n 0, 1) := by decide +kernel
theorem dX0_leaveOutEnds_68 : decode cX0_leaveOutEnds 68 = .ok (.iload_n 2, 1) := by decide +kernel
theorem dX0_leaveOutEnds_69 : decode cX0_leaveOutEnds 69 = .ok (.iload_n 1, 1) := by decide +kernel
theorem dX0_leaveOutEnds_70 : decode cX0_leaveOutEnds 70 = .ok (.isub, 1) := by decide +kernel
theorem dX0_leaveOutEnds_71 : decode cX0_leaveOutEnds 71 = .ok (.iconst 1, 1) := by decide +kernel
theorem dX0_leaveOutEnds_72 : decode cX0_leaveOutEnds 72 = .ok (.iadd, 1) := by decide +kernel
theorem dX0_leaveOutEnds_73 : decode cX0_leaveOutEnds 73 = .ok (.iconst 0, 1) := by decide +kernel
theorem dX0_leaveOutEnds_74 : decode cX0_leaveOutEnds 74 = .ok (.invokestatic 75, 3) := by decide +kernel
theorem dX0_leaveOutEnds_77 : decode cX0_leaveOutEnds 77 = .ok (.putfield 55, 3) := by decide +kernel
theorem dX0_leaveOutEnds_80 : decode cX0_leaveOutEnds 80 = .ok (.return_, 1) := by decide +kernel
theorem dX0_chooseSide_0 : decode cX0_chooseSide 0 = .ok (.aload_n 0, 1) := by decide +kernel
theorem dX0_chooseSide_1 : decode cX0_chooseSide 1 = .ok (.iconst 0, 1) := by decide +kernel
theorem dX0_chooseSide_2 : decode cX0_chooseSide 2 = .ok (.putfield 41, 3) := by decide +kernel
theorem dX0_chooseSide_5 : decode cX0_chooseSide 5 = .ok (.aload_n 0, 1) := by decide +kernel
theorem dX0_chooseSide_6 : decode cX0_chooseSide 6 = .ok (.invokevirtual 81, 3) := by decide +kernel
theorem dX0_chooseSide_9 : decode cX0_chooseSide 9 = .ok (.istore_n 1, 1) := by decide +kernel
theorem dX0_chooseSide_10 : decode cX0_chooseSide 10 = .ok (.aload_n 0, 1) := by decide +kernel
theorem dX0_chooseSide_11 : decode cX0_chooseSide 11 = .ok (.iconst 1, 1) := by decide +kernel
theorem dX0_chooseSide_12 : decode cX0_chooseSide 12 = .ok (.putfield 41, 3) := by decide +kernel
theorem dX0_chooseSide_15 : decode cX0_chooseSide 15 = .ok (.aload_n 0, 1) := by decide +kernel
theorem dX0_chooseSide_16 : decode cX0_chooseSide 16 = .ok (.invokevirtual 81, 3) := by decide +kernel
theorem dX0_chooseSide_19 : decode cX0_chooseSide 19 = .ok (.istore_n 2, 1) := by decide +kernel
theorem dX0_chooseSide_20 : decode cX0_chooseSide 20 = .ok (.aload_n 0, 1) := by decide +kernel
theorem dX0_chooseSide_21 : decode cX0_chooseSide 21 = .ok (.iload_n 1, 1) := by decide +kernel
theorem dX0_chooseSide_22 : decode cX0_chooseSide 22 = .ok (.ifCond .ne 11, 3) := by decide +kernel
theorem dX0_chooseSide_25 : decode cX0_chooseSide 25 = .ok (.iload_n 2, 1) := by decide +kernel
theorem dX0_chooseSide_26 : decode cX0_chooseSide 26 = .ok (.ifCond .eq 7, 3) := by decide +kernel
theorem dX0_chooseSide_29 : decode cX0_chooseSide 29 = .ok (.iconst 1, 1) := by decide +kernel
theorem dX0_chooseSide_30 : decode cX0_chooseSide 30 = .ok (.goto 4, 3) := by decide +kernel
theorem dX0_chooseSide_33 : decode cX0_chooseSide 33 = .ok (.iconst 0, 1) := by decide +kernel
theorem dX0_chooseSide_34 : decode cX0_chooseSide 34 = .ok (.putfield 41, 3) := by decide +kernel
theorem dX0_chooseSide_37 : decode cX0_chooseSide 37 = .ok (.return_, 1) := by decide +kernel
theorem dX0_beginsWithStart_0 : decode cX0_beginsWithStart 0 = .ok (.aload_n 0, 1) := by decide +kernel
theorem dX0_beginsWithStart_1 : decode cX0_beginsWithStart 1 = .ok (.getfield 9, 3) := by decide +kernel
theorem dX0_beginsWithStart_4 : decode cX0_beginsWithStart 4 = .ok (.aload_n 0, 1) := by decide +kernel
theorem dX0_beginsWithStart_5 : decode cX0_beginsWithStart 5 = .ok (.iconst 0, 1) := by decide +kernel
theorem dX0_beginsWithStart_6 : decode cX0_beginsWithStart 6 = .ok (.bipush 11, 2) := by decide +kernel
theorem dX0_beginsWithStart_8 : decode cX0_beginsWithStart 8 = .ok (.invokevirtual 86, 3) := by decide +kernel
theorem dX0_beginsWithStart_11 : decode cX0_beginsWithStart 11 = .ok (.invokevirtual 89, 3) := by decide +kernel
theorem dX0_beginsWithStart_14 : decode cX0_beginsWithStart 14 = .ok (.bipush 103, 2) := by decide +kernel
theorem dX0_beginsWithStart_16 : decode cX0_beginsWithStart 16 = .ok (.if_icmp .lt 7, 3) := by decide +kernel
theorem dX0_beginsWithStart_19 : decode cX0_beginsWithStart 19 = .ok (.iconst 1, 1) := by decide +kernel
theorem dX0_beginsWithStart_20 : decode cX0_beginsWithStart 20 = .ok (.goto 4, 3) := by decide +kernel
theorem dX0_beginsWithStart_23 : decode cX0_beginsWithStart 23 = .ok (.iconst 0, 1) := by decide +kernel
theorem dX0_beginsWithStart_24 : decode cX0_beginsWithStart 24 = .ok (.ireturn, 1) := by decide +kernel
theorem dX0_placeOf_0 : decode cX0_placeOf 0 = .ok (.aload_n 0, 1) := by decide +kernel
theorem dX0_placeOf_1 : decode cX0_placeOf 1 = .ok (.getfield 41, 3) := by decide +kernel
theorem dX0_placeOf_4 : decode cX0_placeOf 4 = .ok (.ifCond .eq 19, 3) := by decide +kernel
theorem dX0_placeOf_7 : decode cX0_placeOf 7 = .ok (.aload_n 0, 1) := by decide +kernel
theorem dX0_placeOf_8 : decode cX0_placeOf 8 = .ok (.getfield 72, 3) := by decide +kernel
theorem dX0_placeOf_11 : decode cX0_placeOf 11 = .ok (.aload_n 0, 1) := by decide +kernel
theorem dX0_placeOf_12 : decode cX0_placeOf 12 = .ok (.getfield 55, 3) := by decide +kernel
theorem dX0_placeOf_15 : decode cX0_placeOf 15 = .ok (.iadd, 1) := by decide +kernel
theorem dX0_placeOf_16 : decode cX0_placeOf 16 = .ok (.iconst 1, 1) := by decide +kernel
theorem dX0_placeOf_17 : decode cX0_placeOf 17 = .ok (.isub, 1) := by decide +kernel
theorem dX0_placeOf_18 : decode cX0_placeOf 18 = .ok (.iload_n 1, 1) := by decide +kernel
theorem dX0_placeOf_19 : decode cX0_placeOf 19 = .ok (.isub, 1) := by decide +kernel
theorem dX0_placeOf_20 : decode cX0_placeOf 20 = .ok (.goto 9, 3) := by decide +kernel
theorem dX0_placeOf_23 : decode cX0_placeOf 23 = .ok (.aload_n 0, 1) := by decide +kernel
theorem dX0_placeOf_24 : decode cX0_placeOf 24 = .ok (.getfield 72, 3) := by decide +kernel
theorem dX0_placeOf_27 : decode cX0_placeOf 27 = .ok (.iload_n 1, 1) := by decide +kernel
theorem dX0_placeOf_28 : decode cX0_placeOf 28 = .ok (.iadd, 1) := by decide +kernel
theorem dX0_placeOf_29 : decode cX0_placeOf 29 = .ok (.ireturn, 1) := by decide +kernel
theorem dX0_patternAt_0 : decode cX0_patternAt 0 = .ok (.iload_n 1, 1) := by decide +kernel
theorem dX0_patternAt_1 : decode cX0_patternAt 1 = .ok (.iload_n 2, 1) := by decide +kernel
theorem dX0_patternAt_2 : decode cX0_patternAt 2 = .ok (.iadd, 1) := by decide +kernel
theorem dX0_patternAt_3 : decode cX0_patternAt 3 = .ok (.aload_n 0, 1) := by decide +kernel
theorem dX0_patternAt_4 : decode cX0_patternAt 4 = .ok (.getfield 55, 3) := by decide +kernel
theorem dX0_patternAt_7 : decode cX0_patternAt 7 = .ok (.if_icmp .le 5, 3) := by decide +kernel
theorem dX0_patternAt_10 : decode cX0_patternAt 10 = .ok (.iconst (-1), 1) := by decide +kernel
theorem dX0_patternAt_11 : decode cX0_patternAt 11 = .ok (.ireturn, 1) := by decide +kernel
theorem dX0_patternAt_12 : decode cX0_patternAt 12 = .ok (.iconst 0, 1) := by decide +kernel
theorem dX0_patternAt_13 : decode cX0_patternAt 13 = .ok (.istore_n 3, 1) := by decide +kernel
theorem dX0_patternAt_14 : decode cX0_patternAt 14 = .ok (.iload_n 1, 1) := by decide +kernel
theorem dX0_patternAt_15 : decode cX0_patternAt 15 = .ok (.istore 4, 2) := by decide +kernel
theorem dX0_patternAt_17 : decode cX0_patternAt 17 = .ok (.iload 4, 2) := by decide +kernel
theorem dX0_patternAt_19 : decode cX0_patternAt 19 = .ok (.iload_n 1, 1) := by decide +kernel
theorem dX0_patternAt_20 : decode cX0_patternAt 20 = .ok (.iload_n 2, 1) := by decide +kernel
theorem dX0_patternAt_21 : decode cX0_patternAt 21 = .ok (.iadd, 1) := by decide +kernel
theorem dX0_patternAt_22 : decode cX0_patternAt 22 = .ok (.if_icmp .ge 27, 3) := by decide +kernel
theorem dX0_patternAt_25 : decode cX0_patternAt 25 = .ok (.iload_n 3, 1) := by decide +kernel
theorem dX0_patternAt_26 : decode cX0_patternAt 26 = .ok (.iconst 2, 1) := by decide +kernel
theorem dX0_patternAt_27 : decode cX0_patternAt 27 = .ok (.imul, 1) := by decide +kernel
theorem dX0_patternAt_28 : decode cX0_patternAt 28 = .ok (.aload_n 0, 1) := by decide +kernel
theorem dX0_patternAt_29 : decode cX0_patternAt 29 = .ok (.getfield 27, 3) := by decide +kernel
theorem dX0_patternAt_32 : decode cX0_patternAt 32 = .ok (.aload_n 0, 1) := by decide +kernel
theorem dX0_patternAt_33 : decode cX0_patternAt 33 = .ok (.iload 4, 2) := by decide +kernel
theorem dX0_patternAt_35 : decode cX0_patternAt 35 = .ok (.invokevirtual 94, 3) := by decide +kernel
theorem dX0_patternAt_38 : decode cX0_patternAt 38 = .ok (.invokevirtual 68, 3) := by decide +kernel
theorem dX0_patternAt_41 : decode cX0_patternAt 41 = .ok (.iadd, 1) := by decide +kernel
theorem dX0_patternAt_42 : decode cX0_patternAt 42 = .ok (.istore_n 3, 1) := by decide +kernel
theorem dX0_patternAt_43 : decode cX0_patternAt 43 = .ok (.iinc 4 1, 3) := by decide +kernel
theorem dX0_patternAt_46 : decode cX0_patternAt 46 = .ok (.goto (-29), 3) := by decide +kernel
theorem dX0_patternAt_49 : decode cX0_patternAt 49 = .ok (.iload_n 3, 1) := by decide +kernel
theorem dX0_patternAt_50 : decode cX0_patternAt 50 = .ok (.ireturn, 1) := by decide +kernel
theorem dX0_readCharacters_0 : decode cX0_readCharacters 0 = .ok (.iconst 0, 1) := by decide +kernel
theorem dX0_readCharacters_1 : decode cX0_readCharacters 1 = .ok (.istore_n 1, 1) := by decide +kernel
theorem dX0_readCharacters_2 : decode cX0_readCharacters 2 = .ok (.iconst 0, 1) := by decide +kernel
theorem dX0_readCharacters_3 : decode cX0_readCharacters 3 = .ok (.istore_n 2, 1) := by decide +kernel
theorem dX0_readCharacters_4 : decode cX0_readCharacters 4 = .ok (.iload_n 2, 1) := by decide +kernel
theorem dX0_readCharacters_5 : decode cX0_readCharacters 5 = .ok (.bipush 100, 2) := by decide +kernel
theorem dX0_readCharacters_7 : decode cX0_readCharacters 7 = .ok (.if_icmp .ge 162, 3) := by decide +kernel
theorem dX0_readCharacters_10 : decode cX0_readCharacters 10 = .ok (.aload_n 0, 1) := by decide +kernel
theorem dX0_readCharacters_11 : decode cX0_readCharacters 11 = .ok (.getfield 9, 3) := by decide +kernel
theorem dX0_readCharacters_14 : decode cX0_readCharacters 14 = .ok (.aload_n 0, 1) := by decide +kernel
theorem dX0_readCharacters_15 : decode cX0_readCharacters 15 = .ok (.iload_n 1, 1) := by decide +kernel
theorem dX0_readCharacters_16 : decode cX0_readCharacters 16 = .ok (.bipush 13, 2) := by decide +kernel
theorem dX0_readCharacters_18 : decode cX0_readCharacters 18 = .ok (.invokevirtual 86, 3) := by decide +kernel
theorem dX0_readCharacters_21 : decode cX0_readCharacters 21 = .ok (.invokevirtual 97, 3) := by decide +kernel
theorem dX0_readCharacters_24 : decode cX0_readCharacters 24 = .ok (.istore_n 3, 1) := by decide +kernel
theorem dX0_readCharacters_25 : decode cX0_readCharacters 25 = .ok (.iload_n 3, 1) := by decide +kernel
theorem dX0_readCharacters_26 : decode cX0_readCharacters 26 = .ok (.ifCond .eq 8, 3) := by decide +kernel
theorem dX0_readCharacters_29 : decode cX0_readCharacters 29 = .ok (.bipush 106, 2) := by decide +kernel
theorem dX0_readCharacters_31 : decode cX0_readCharacters 31 = .ok (.goto 17, 3) := by decide +kernel
theorem dX0_readCharacters_34 : decode cX0_readCharacters 34 = .ok (.aload_n 0, 1) := by decide +kernel
theorem dX0_readCharacters_35 : decode cX0_readCharacters 35 = .ok (.getfield 9, 3) := by decide +kernel
theorem dX0_readCharacters_38 : decode cX0_readCharacters 38 = .ok (.aload_n 0, 1) := by decide +kernel
theorem dX0_readCharacters_39 : decode cX0_readCharacters 39 = .ok (.iload_n 1, 1) := by decide +kernel
theorem dX0_readCharacters_40 : decode cX0_readCharacters 40 = .ok (.bipush 11, 2) := by decide +kernel
theorem dX0_readCharacters_42 : decode cX0_readCharacters 42 = .ok (.invokevirtual 86, 3) := by decide +kernel
theorem dX0_readCharacters_45 : decode cX0_readCharacters 45 = .ok (.invokevirtual 89, 3) := by decide +kernel
theorem dX0_readCharacters_48 : decode cX0_readCharacters 48 = .ok (.istore 4, 2) := by decide +kernel
theorem dX0_readCharacters_50 : decode cX0_readCharacters 50 = .ok (.iload 4, 2) := by decide +kernel
theorem dX0_readCharacters_52 : decode cX0_readCharacters 52 = .ok (.bipush 103, 2) := by decide +kernel
theorem dX0_readCharacters_54 : decode cX0_readCharacters 54 = .ok (.if_icmp .lt 11, 3) := by decide +kernel
theorem dX0_readCharacters_57 : decode cX0_readCharacters 57 = .ok (.iload_n 3, 1) := by decide +kernel
theorem dX0_readCharacters_58 : decode cX0_readCharacters 58 = .ok (.ifCond .ne 7, 3) := by decide +kernel
theorem dX0_readCharacters_61 : decode cX0_readCharacters 61 = .ok (.iconst 1, 1) := by decide +kernel
theorem dX0_readCharacters_62 : decode cX0_readCharacters 62 = .ok (.goto 4, 3) := by decide +kernel
theorem dX0_readCharacters_65 : decode cX0_readCharacters 65 = .ok (.iconst 0, 1) := by decide +kernel
theorem dX0_readCharacters_66 : decode cX0_readCharacters 66 = .ok (.istore 5, 2) := by decide +kernel
theorem dX0_readCharacters_68 : decode cX0_readCharacters 68 = .ok (.iload 4, 2) := by decide +kernel
theorem dX0_readCharacters_70 : decode cX0_readCharacters 70 = .ok (.iconst (-1), 1) := by decide +kernel
theorem dX0_readCharacters_71 : decode cX0_readCharacters 71 = .ok (.if_icmp .eq 98, 3) := by decide +kernel
theorem dX0_readCharacters_74 : decode cX0_readCharacters 74 = .ok (.iload 5, 2) := by decide +kernel
theorem dX0_readCharacters_76 : decode cX0_readCharacters 76 = .ok (.iload_n 2, 1) := by decide +kernel
theorem dX0_readCharacters_77 : decode cX0_readCharacters 77 = .ok (.ifCond .ne 7, 3) := by decide +kernel
theorem dX0_readCharacters_80 : decode cX0_readCharacters 80 = .ok (.iconst 1, 1) := by decide +kernel
theorem dX0_readCharacters_81 : decode cX0_readCharacters 81 = .ok (.goto 4, 3) := by decide +kernel
theorem dX0_readCharacters_84 : decode cX0_readCharacters 84 = .ok (.iconst 0, 1) := by decide +kernel
theorem dX0_readCharacters_85 : decode cX0_readCharacters 85 = .ok (.if_icmp .eq 6, 3) := by decide +kernel
theorem dX0_readCharacters_88 : decode cX0_readCharacters 88 = .ok (.goto 81, 3) := by decide +kernel
theorem dX0_readCharacters_91 : decode cX0_readCharacters 91 = .ok (.aload_n 0, 1) := by decide +kernel
theorem dX0_readCharacters_92 : decode cX0_readCharacters 92 = .ok (.getfield 20, 3) := by decide +kernel
theorem dX0_readCharacters_95 : decode cX0_readCharacters 95 = .ok (.iload 4, 2) := by decide +kernel
theorem dX0_readCharacters_97 : decode cX0_readCharacters 97 = .ok (.invokevirtual 101, 3) := by decide +kernel
theorem dX0_readCharacters_100 : decode cX0_readCharacters 100 = .ok (.aload_n 0, 1) := by decide +kernel
theorem dX0_readCharacters_101 : decode cX0_readCharacters 101 = .ok (.getfield 24, 3) := by decide +kernel
theorem dX0_readCharacters_104 : decode cX0_readCharacters 104 = .ok (.aload_n 0, 1) := by decide +kernel
theorem dX0_readCharacters_105 : decode cX0_readCharacters 105 = .ok (.iload_n 1, 1) := by decide +kernel
theorem dX0_readCharacters_106 : decode cX0_readCharacters 106 = .ok (.invokevirtual 94, 3) := by decide +kernel
theorem dX0_readCharacters_109 : decode cX0_readCharacters 109 = .ok (.invokevirtual 101, 3) := by decide +kernel
theorem dX0_readCharacters_112 : decode cX0_readCharacters 112 = .ok (.iload_n 1, 1) := by decide +kernel
theorem dX0_readCharacters_113 : decode cX0_readCharacters 113 = .ok (.iload_n 3, 1) := by decide +kernel
theorem dX0_readCharacters_114 : decode cX0_readCharacters 114 = .ok (.ifCond .eq 8, 3) := by decide +kernel
theorem dX0_readCharacters_117 : decode cX0_readCharacters 117 = .ok (.bipush 13, 2) := by decide +kernel
theorem dX0_readCharacters_119 : decode cX0_readCharacters 119 = .ok (.goto 5, 3) := by decide +kernel
theorem dX0_readCharacters_122 : decode cX0_readCharacters 122 = .ok (.bipush 11, 2) := by decide +kernel
theorem dX0_readCharacters_124 : decode cX0_readCharacters 124 = .ok (.iadd, 1) := by decide +kernel
theorem dX0_readCharacters_125 : decode cX0_readCharacters 125 = .ok (.istore_n 1, 1) := by decide +kernel
theorem dX0_readCharacters_126 : decode cX0_readCharacters 126 = .ok (.iload_n 3, 1) := by decide +kernel
theorem dX0_readCharacters_127 : decode cX0_readCharacters 127 = .ok (.ifCond .eq 36, 3) := by decide +kernel
theorem dX0_readCharacters_130 : decode cX0_readCharacters 130 = .ok (.iload_n 1, 1) := by decide +kernel
theorem dX0_readCharacters_131 : decode cX0_readCharacters 131 = .ok (.aload_n 0, 1) := by decide +kernel
theorem dX0_readCharacters_132 : decode cX0_readCharacters 132 = .ok (.getfield 55, 3) := by decide +kernel
theorem dX0_readCharacters_135 : decode cX0_readCharacters 135 = .ok (.if_icmp .ge 14, 3) := by decide +kernel
theorem dX0_readCharacters_138 : decode cX0_readCharacters 138 = .ok (.aload_n 0, 1) := by decide +kernel
theorem dX0_readCharacters_139 : decode cX0_readCharacters 139 = .ok (.bipush 13, 2) := by decide +kernel
theorem dX0_readCharacters_141 : decode cX0_readCharacters 141 = .ok (.aload_n 0, 1) := by decide +kernel
theorem dX0_readCharacters_142 : decode cX0_readCharacters 142 = .ok (.iload_n 1, 1) := by decide +kernel
theorem dX0_readCharacters_143 : decode cX0_readCharacters 143 = .ok (.invokevirtual 94, 3) := by decide +kernel
theorem dX0_readCharacters_146 : decode cX0_readCharacters 146 = .ok (.invokevirtual 48, 3) := by decide +kernel
theorem dX0_readCharacters_149 : decode cX0_readCharacters 149 = .ok (.iload_n 1, 1) := by decide +kernel
theorem dX0_readCharacters_150 : decode cX0_readCharacters 150 = .ok (.aload_n 0, 1) := by decide +kernel
theorem dX0_readCharacters_151 : decode cX0_readCharacters 151 = .ok (.getfield 55, 3) := by decide +kernel
theorem dX0_readCharacters_154 : decode cX0_readCharacters 154 = .ok (.if_icmp .lt 7, 3) := by decide +kernel
theorem dX0_readCharacters_157 : decode cX0_readCharacters 157 = .ok (.iconst 1, 1) := by decide +kernel
theorem dX0_readCharacters_158 : decode cX0_readCharacters 158 = .ok (.goto 4, 3) := by decide +kernel
theorem dX0_readCharacters_161 : decode cX0_readCharacters 161 = .ok (.iconst 0, 1) := by decide +kernel
theorem dX0_readCharacters_162 : decode cX0_readCharacters 162 = .ok (.ireturn, 1) := by decide +kernel
theorem dX0_readCharacters_163 : decode cX0_readCharacters 163 = .ok (.iinc 2 1, 3) := by decide +kernel
theorem dX0_readCharacters_166 : decode cX0_readCharacters 166 = .ok (.goto (-162), 3) := by decide +kernel
theorem dX0_readCharacters_169 : decode cX0_readCharacters 169 = .ok (.aload_n 0, 1) := by decide +kernel
theorem dX0_readCharacters_170 : decode cX0_readCharacters 170 = .ok (.bipush 12, 2) := by decide +kernel
theorem dX0_readCharacters_172 : decode cX0_readCharacters 172 = .ok (.aload_n 0, 1) := by decide +kernel
theorem dX0_readCharacters_173 : decode cX0_readCharacters 173 = .ok (.iload_n 1, 1) := by decide +kernel
theorem dX0_readCharacters_174 : decode cX0_readCharacters 174 = .ok (.aload_n 0, 1) := by decide +kernel
theorem dX0_readCharacters_175 : decode cX0_readCharacters 175 = .ok (.getfield 55, 3) := by decide +kernel
theorem dX0_readCharacters_178 : decode cX0_readCharacters 178 = .ok (.iconst 1, 1) := by decide +kernel
theorem dX0_readCharacters_179 : decode cX0_readCharacters 179 = .ok (.isub, 1) := by decide +kernel
theorem dX0_readCharacters_180 : decode cX0_readCharacters 180 = .ok (.invokestatic 104, 3) := by decide +kernel
theorem dX0_readCharacters_183 : decode cX0_readCharacters 183 = .ok (.invokevirtual 94, 3) := by decide +kernel
theorem dX0_readCharacters_186 : decode cX0_readCharacters 186 = .ok (.invokevirtual 48, 3) := by decide +kernel
theorem dX0_readCharacters_189 : decode cX0_readCharacters 189 = .ok (.iconst 0, 1) := by decide +kernel
theorem dX0_readCharacters_190 : decode cX0_readCharacters 190 = .ok (.ireturn, 1) := by decide +kernel
theorem dX0_judgeFrame_0 : decode cX0_judgeFrame 0 = .ok (.aload_n 0, 1) := by decide +kernel
theorem dX0_judgeFrame_1 : decode cX0_judgeFrame 1 = .ok (.getfield 20, 3) := by decide +kernel
theorem dX0_judgeFrame_4 : decode cX0_judgeFrame 4 = .ok (.invokevirtual 37, 3) := by decide +kernel
theorem dX0_judgeFrame_7 : decode cX0_judgeFrame 7 = .ok (.iconst 2, 1) := by decide +kernel
theorem dX0_judgeFrame_8 : decode cX0_judgeFrame 8 = .ok (.isub, 1) := by decide +kernel
theorem dX0_judgeFrame_9 : decode cX0_judgeFrame 9 = .ok (.istore_n 1, 1) := by decide +kernel
theorem dX0_judgeFrame_10 : decode cX0_judgeFrame 10 = .ok (.iload_n 1, 1) := by decide +kernel
theorem dX0_judgeFrame_11 : decode cX0_judgeFrame 11 = .ok (.iconst 1, 1) := by decide +kernel
theorem dX0_judgeFrame_12 : decode cX0_judgeFrame 12 = .ok (.if_icmp .lt 22, 3) := by decide +kernel
theorem dX0_judgeFrame_15 : decode cX0_judgeFrame 15 = .ok (.aload_n 0, 1) := by decide +kernel
theorem dX0_judgeFrame_16 : decode cX0_judgeFrame 16 = .ok (.getfield 20, 3) := by decide +kernel
theorem dX0_judgeFrame_19 : decode cX0_judgeFrame 19 = .ok (.iload_n 1, 1) := by decide +kernel
theorem dX0_judgeFrame_20 : decode cX0_judgeFrame 20 = .ok (.invokevirtual 68, 3) := by decide +kernel
theorem dX0_judgeFrame_23 : decode cX0_judgeFrame 23 = .ok (.aload_n 0, 1) := by decide +kernel
theorem dX0_judgeFrame_24 : decode cX0_judgeFrame 24 = .ok (.getfield 20, 3) := by decide +kernel
theorem dX0_judgeFrame_27 : decode cX0_judgeFrame 27 = .ok (.iload_n 1, 1) := by decide +kernel
theorem dX0_judgeFrame_28 : decode cX0_judgeFrame 28 = .ok (.invokestatic 107, 3) := by decide +kernel
theorem dX0_judgeFrame_31 : decode cX0_judgeFrame 31 = .ok (.if_icmp .eq 20, 3) := by decide +kernel
theorem dX0_judgeFrame_34 : decode cX0_judgeFrame 34 = .ok (.aload_n 0, 1) := by decide +kernel
theorem dX0_judgeFrame_35 : decode cX0_judgeFrame 35 = .ok (.bipush 14, 2) := by decide +kernel
theorem dX0_judgeFrame_37 : decode cX0_judgeFrame 37 = .ok (.aload_n 0, 1) := by decide +kernel
theorem dX0_judgeFrame_38 : decode cX0_judgeFrame 38 = .ok (.getfield 24, 3) := by decide +kernel
theorem dX0_judgeFrame_41 : decode cX0_judgeFrame 41 = .ok (.iload_n 1, 1) := by decide +kernel
theorem dX0_judgeFrame_42 : decode cX0_judgeFrame 42 = .ok (.invokevirtual 68, 3) := by decide +kernel
theorem dX0_judgeFrame_45 : decode cX0_judgeFrame 45 = .ok (.invokevirtual 48, 3) := by decide +kernel
theorem dX0_judgeFrame_48 : decode cX0_judgeFrame 48 = .ok (.goto 35, 3) := by decide +kernel
theorem dX0_judgeFrame_51 : decode cX0_judgeFrame 51 = .ok (.iload_n 1, 1) := by decide +kernel
theorem dX0_judgeFrame_52 : decode cX0_judgeFrame 52 = .ok (.iconst 1, 1) := by decide +kernel
theorem dX0_judgeFrame_53 : decode cX0_judgeFrame 53 = .ok (.if_icmp .eq 16, 3) := by decide +kernel
theorem dX0_judgeFrame_56 : decode cX0_judgeFrame 56 = .ok (.aload_n 0, 1) := by decide +kernel
theorem dX0_judgeFrame_57 : decode cX0_judgeFrame 57 = .ok (.getfield 20, 3) := by decide +kernel
theorem dX0_judgeFrame_60 : decode cX0_judgeFrame 60 = .ok (.iconst 1, 1) := by decide +kernel
theorem dX0_judgeFrame_61 : decode cX0_judgeFrame 61 = .ok (.invokevirtual 68, 3) := by decide +kernel
theorem dX0_judgeFrame_64 : decode cX0_judgeFrame 64 = .ok (.bipush 102, 2) := by decide +kernel
theorem dX0_judgeFrame_66 : decode cX0_judgeFrame 66 = .ok (.if_icmp .eq 17, 3) := by decide +kernel
theorem dX0_judgeFrame_69 : decode cX0_judgeFrame 69 = .ok (.aload_n 0, 1) := by decide +kernel
theorem dX0_judgeFrame_70 : decode cX0_judgeFrame 70 = .ok (.bipush 15, 2) := by decide +kernel
theorem dX0_judgeFrame_72 : decode cX0_judgeFrame 72 = .ok (.aload_n 0, 1) := by decide +kernel
theorem dX0_judgeFrame_73 : decode cX0_judgeFrame 73 = .ok (.getfield 24, 3) := by decide +kernel
theorem dX0_judgeFrame_76 : decode cX0_judgeFrame 76 = .ok (.iconst 1, 1) := by decide +kernel
theorem dX0_judgeFrame_77 : decode cX0_judgeFrame 77 = .ok (.invokevirtual 68, 3) := by decide +kernel
theorem dX0_judgeFrame_80 : decode cX0_judgeFrame 80 = .ok (.invokevirtual 48, 3) := by decide +kernel
theorem dX0_judgeFrame_83 : decode cX0_judgeFrame 83 = .ok (.return_, 1) := by decide +kernel
theorem dX0_tell_0 : decode cX0_tell 0 = .ok (.aload_n 1, 1) := by decide +kernel
theorem dX0_tell_1 : decode cX0_tell 1 = .ok (.invokevirtual 45, 3) := by decide +kernel
theorem dX0_tell_4 : decode cX0_tell 4 = .ok (.aload_n 0, 1) := by decide +kernel
theorem dX0_tell_5 : decode cX0_tell 5 = .ok (.getfield 20, 3) := by decide +kernel
theorem dX0_tell_8 : decode cX0_tell 8 = .ok (.iconst 0, 1) := by decide +kernel
theorem dX0_tell_9 : decode cX0_tell 9 = .ok (.invokevirtual 68, 3) := by decide +kernel
theorem dX0_tell_12 : decode cX0_tell 12 = .ok (.istore_n 2, 1) := by decide +kernel
theorem dX0_tell_13 : decode cX0_tell 13 = .ok (.aload_n 0, 1) := by decide +kernel
theorem dX0_tell_14 : decode cX0_tell 14 = .ok (.getfield 20, 3) := by decide +kernel
theorem dX0_tell_17 : decode cX0_tell 17 = .ok (.invokevirtual 37, 3) := by decide +kernel
theorem dX0_tell_20 : decode cX0_tell 20 = .ok (.iconst 2, 1) := by decide +kernel
theorem dX0_tell_21 : decode cX0_tell 21 = .ok (.isub, 1) := by decide +kernel
theorem dX0_tell_22 : decode cX0_tell 22 = .ok (.istore_n 3, 1) := by decide +kernel
theorem dX0_tell_23 : decode cX0_tell 23 = .ok (.iconst 2, 1) := by decide +kernel
theorem dX0_tell_24 : decode cX0_tell 24 = .ok (.istore 4, 2) := by decide +kernel
theorem dX0_tell_26 : decode cX0_tell 26 = .ok (.iload 4, 2) := by decide +kernel
theorem dX0_tell_28 : decode cX0_tell 28 = .ok (.iload_n 3, 1) := by decide +kernel
theorem dX0_tell_29 : decode cX0_tell 29 = .ok (.if_icmp .ge 200, 3) := by decide +kernel
theorem dX0_tell_32 : decode cX0_tell 32 = .ok (.aload_n 0, 1) := by decide +kernel
theorem dX0_tell_33 : decode cX0_tell 33 = .ok (.getfield 20, 3) := by decide +kernel
theorem dX0_tell_36 : decode cX0_tell 36 = .ok (.iload 4, 2) := by decide +kernel
theorem dX0_tell_38 : decode cX0_tell 38 = .ok (.invokevirtual 68, 3) := by decide +kernel
theorem dX0_tell_41 : decode cX0_tell 41 = .ok (.istore 5, 2) := by decide +kernel
theorem dX0_tell_43 : decode cX0_tell 43 = .ok (.iload_n 2, 1) := by decide +kernel
theorem dX0_tell_44 : decode cX0_tell 44 = .ok (.iload 5, 2) := by decide +kernel
theorem dX0_tell_46 : decode cX0_tell 46 = .ok (.invokestatic 111, 3) := by decide +kernel
theorem dX0_tell_49 : decode cX0_tell 49 = .ok (.istore 6, 2) := by decide +kernel
theorem dX0_tell_51 : decode cX0_tell 51 = .ok (.iload 4, 2) := by decide +kernel
theorem dX0_tell_53 : decode cX0_tell 53 = .ok (.iconst 1, 1) := by decide +kernel
theorem dX0_tell_54 : decode cX0_tell 54 = .ok (.iadd, 1) := by decide +kernel
theorem dX0_tell_55 : decode cX0_tell 55 = .ok (.iload_n 3, 1) := by decide +kernel
theorem dX0_tell_56 : decode cX0_tell 56 = .ok (.if_icmp .ge 17, 3) := by decide +kernel
theorem dX0_tell_59 : decode cX0_tell 59 = .ok (.aload_n 0, 1) := by decide +kernel
theorem dX0_tell_60 : decode cX0_tell 60 = .ok (.getfield 20, 3) := by decide +kernel
theorem dX0_tell_63 : decode cX0_tell 63 = .ok (.iload 4, 2) := by decide +kernel
theorem dX0_tell_65 : decode cX0_tell 65 = .ok (.iconst 1, 1) := by decide +kernel
theorem dX0_tell_66 : decode cX0_tell 66 = .ok (.iadd, 1) := by decide +kernel
theorem dX0_tell_67 : decode cX0_tell 67 = .ok (.invokevirtual 68, 3) := by decide +kernel
theorem dX0_tell_70 : decode cX0_tell 70 = .ok (.goto 4, 3) := by decide +kernel
theorem dX0_tell_73 : decode cX0_tell 73 = .ok (.iconst (-1), 1) := by decide +kernel
theorem dX0_tell_74 : decode cX0_tell 74 = .ok (.istore 7, 2) := by decide +kernel
theorem dX0_tell_76 : decode cX0_tell 76 = .ok (.iload 5, 2) := by decide +kernel
theorem dX0_tell_78 : decode cX0_tell 78 = .ok (.bipush 98, 2) := by decide +kernel
theorem dX0_tell_80 : decode cX0_tell 80 = .ok (.if_icmp .ne 15, 3) := by decide +kernel
theorem dX0_tell_83 : decode cX0_tell 83 = .ok (.iload_n 2, 1) := by decide +kernel
theorem dX0_tell_84 : decode cX0_tell 84 = .ok (.invokestatic 114, 3) := by decide +kernel
theorem dX0_tell_87 : decode cX0_tell 87 = .ok (.iload 7, 2) := by decide +kernel
theorem dX0_tell_89 : decode cX0_tell 89 = .ok (.invokestatic 111, 3) := by decide +kernel
theorem dX0_tell_92 : decode cX0_tell 92 = .ok (.goto 4, 3) := by decide +kernel
theorem dX0_tell_95 : decode cX0_tell 95 = .ok (.iconst (-1), 1) := by decide +kernel
theorem dX0_tell_96 : decode cX0_tell 96 = .ok (.istore 8, 2) := by decide +kernel
theorem dX0_tell_98 : decode cX0_tell 98 = .ok (.iload_n 2, 1) := by decide +kernel
theorem dX0_tell_99 : decode cX0_tell 99 = .ok (.iload 5, 2) := by decide +kernel
theorem dX0_tell_101 : decode cX0_tell 101 = .ok (.invokestatic 117, 3) := by decide +kernel
theorem dX0_tell_104 : decode cX0_tell 104 = .ok (.istore 9, 2) := by decide +kernel
theorem dX0_tell_106 : decode cX0_tell 106 = .ok (.iload 5, 2) := by decide +kernel
theorem dX0_tell_108 : decode cX0_tell 108 = .ok (.bipush 102, 2) := by decide +kernel
theorem dX0_tell_110 : decode cX0_tell 110 = .ok (.if_icmp .ne 12, 3) := by decide +kernel
theorem dX0_tell_113 : decode cX0_tell 113 = .ok (.aload_n 1, 1) := by decide +kernel
theorem dX0_tell_114 : decode cX0_tell 114 = .ok (.bipush 29, 2) := by decide +kernel
theorem dX0_tell_116 : decode cX0_tell 116 = .ok (.invokevirtual 101, 3) := by decide +kernel
theorem dX0_tell_119 : decode cX0_tell 119 = .ok (.goto 104, 3) := by decide +kernel
theorem dX0_tell_122 : decode cX0_tell 122 = .ok (.iload_n 2, 1) := by decide +kernel
theorem dX0_tell_123 : decode cX0_tell 123 = .ok (.bipush 105, 2) := by decide +kernel
theorem dX0_tell_125 : decode cX0_tell 125 = .ok (.if_icmp .ne 37, 3) := by decide +kernel
theorem dX0_tell_128 : decode cX0_tell 128 = .ok (.iload 5, 2) := by decide +kernel
theorem dX0_tell_130 : decode cX0_tell 130 = .ok (.bipush 100, 2) := by decide +kernel
theorem dX0_tell_132 : decode cX0_tell 132 = .ok (.if_icmp .ge 30, 3) := by decide +kernel
theorem dX0_tell_135 : decode cX0_tell 135 = .ok (.aload_n 1, 1) := by decide +kernel
theorem dX0_tell_136 : decode cX0_tell 136 = .ok (.bipush 48, 2) := by decide +kernel
theorem dX0_tell_138 : decode cX0_tell 138 = .ok (.iload 5, 2) := by decide +kernel
theorem dX0_tell_140 : decode cX0_tell 140 = .ok (.bipush 10, 2) := by decide +kernel
theorem dX0_tell_142 : decode cX0_tell 142 = .ok (.idiv, 1) := by decide +kernel
theorem dX0_tell_143 : decode cX0_tell 143 = .ok (.iadd, 1) := by decide +kernel
theorem dX0_tell_144 : decode cX0_tell 144 = .ok (.invokevirtual 101, 3) := by decide +kernel
theorem dX0_tell_147 : decode cX0_tell 147 = .ok (.aload_n 1, 1) := by decide +kernel
theorem dX0_tell_148 : decode cX0_tell 148 = .ok (.bipush 48, 2) := by decide +kernel
theorem dX0_tell_150 : decode cX0_tell 150 = .ok (.iload 5, 2) := by decide +kernel
theorem dX0_tell_152 : decode cX0_tell 152 = .ok (.bipush 10, 2) := by decide +kernel
theorem dX0_tell_154 : decode cX0_tell 154 = .ok (.irem, 1) := by decide +kernel
theorem dX0_tell_155 : decode cX0_tell 155 = .ok (.iadd, 1) := by decide +kernel
theorem dX0_tell_156 : decode cX0_tell 156 = .ok (.invokevirtual 101, 3) := by decide +kernel
theorem dX0_tell_159 : decode cX0_tell 159 = .ok (.goto 64, 3) := by decide +kernel
theorem dX0_tell_162 : decode cX0_tell 162 = .ok (.iload 6, 2) := by decide +kernel
theorem dX0_tell_164 : decode cX0_tell 164 = .ok (.iconst (-1), 1) := by decide +kernel
theorem dX0_tell_165 : decode cX0_tell 165 = .ok (.if_icmp .eq 12, 3) := by decide +kernel
theorem dX0_tell_168 : decode cX0_tell 168 = .ok (.aload_n 1, 1) := by decide +kernel
theorem dX0_tell_169 : decode cX0_tell 169 = .ok (.iload 6, 2) := by decide +kernel
theorem dX0_tell_171 : decode cX0_tell 171 = .ok (.invokevirtual 101, 3) := by decide +kernel
theorem dX0_tell_174 : decode cX0_tell 174 = .ok (.goto 49, 3) := by decide +kernel
theorem dX0_tell_177 : decode cX0_tell 177 = .ok (.iload 8, 2) := by decide +kernel
theorem dX0_tell_179 : decode cX0_tell 179 = .ok (.iconst (-1), 1) := by decide +kernel
theorem dX0_tell_180 : decode cX0_tell 180 = .ok (.if_icmp .eq 15, 3) := by decide +kernel
theorem dX0_tell_183 : decode cX0_tell 183 = .ok (.aload_n 1, 1) := by decide +kernel
theorem dX0_tell_184 : decode cX0_tell 184 = .ok (.iload 8, 2) := by decide +kernel
theorem dX0_tell_186 : decode cX0_tell 186 = .ok (.invokevirtual 101, 3) := by decide +kernel
theorem dX0_tell_189 : decode cX0_tell 189 = .ok (.iinc 4 1, 3) := by decide +kernel
theorem dX0_tell_192 : decode cX0_tell 192 = .ok (.goto 31, 3) := by decide +kernel
theorem dX0_tell_195 : decode cX0_tell 195 = .ok (.iload 9, 2) := by decide +kernel
theorem dX0_tell_197 : decode cX0_tell 197 = .ok (.iconst (-1), 1) := by decide +kernel
theorem dX0_tell_198 : decode cX0_tell 198 = .ok (.if_icmp .eq 9, 3) := by decide +kernel
theorem dX0_tell_201 : decode cX0_tell 201 = .ok (.iload 9, 2) := by decide +kernel
theorem dX0_tell_203 : decode cX0_tell 203 = .ok (.istore_n 2, 1) := by decide +kernel
theorem dX0_tell_204 : decode cX0_tell 204 = .ok (.goto 19, 3) := by decide +kernel
theorem dX0_tell_207 : decode cX0_tell 207 = .ok (.aload_n 0, 1) := by decide +kernel
theorem dX0_tell_208 : decode cX0_tell 208 = .ok (.bipush 16, 2) := by decide +kernel
theorem dX0_tell_210 : decode cX0_tell 210 = .ok (.aload_n 0, 1) := by decide +kernel
theorem dX0_tell_211 : decode cX0_tell 211 = .ok (.getfield 24, 3) := by decide +kernel
theorem dX0_tell_214 : decode cX0_tell 214 = .ok (.iload 4, 2) := by decide +kernel
theorem dX0_tell_216 : decode cX0_tell 216 = .ok (.invokevirtual 68, 3) := by decide +kernel
theorem dX0_tell_219 : decode cX0_tell 219 = .ok (.invokevirtual 48, 3) := by decide +kernel
theorem dX0_tell_222 : decode cX0_tell 222 = .ok (.return_, 1) := by decide +kernel
theorem dX0_tell_223 : decode cX0_tell 223 = .ok (.iinc 4 1, 3) := by decide +kernel
theorem dX0_tell_226 : decode cX0_tell 226 = .ok (.goto (-200), 3) := by decide +kernel
theorem dX0_tell_229 : decode cX0_tell 229 = .ok (.return_, 1) := by decide +kernel
theorem dX0_byteIn_0 : decode cX0_byteIn 0 = .ok (.iload_n 0, 1) := by decide +kernel
theorem dX0_byteIn_1 : decode cX0_byteIn 1 = .ok (.bipush 103, 2) := by decide +kernel
theorem dX0_byteIn_3 : decode cX0_byteIn 3 = .ok (.if_icmp .ne 8, 3) := by decide +kernel
theorem dX0_byteIn_6 : decode cX0_byteIn 6 = .ok (.bipush 64, 2) := by decide +kernel
theorem dX0_byteIn_8 : decode cX0_byteIn 8 = .ok (.goto 15, 3) := by decide +kernel
theorem dX0_byteIn_11 : decode cX0_byteIn 11 = .ok (.iload_n 0, 1) := by decide +kernel
theorem dX0_byteIn_12 : decode cX0_byteIn 12 = .ok (.bipush 104, 2) := by decide +kernel
theorem dX0_byteIn_14 : decode cX0_byteIn 14 = .ok (.if_icmp .ne 8, 3) := by decide +kernel
theorem dX0_byteIn_17 : decode cX0_byteIn 17 = .ok (.bipush 96, 2) := by decide +kernel
theorem dX0_byteIn_19 : decode cX0_byteIn 19 = .ok (.goto 4, 3) := by decide +kernel
theorem dX0_byteIn_22 : decode cX0_byteIn 22 = .ok (.iconst 0, 1) := by decide +kernel
theorem dX0_byteIn_23 : decode cX0_byteIn 23 = .ok (.istore_n 2, 1) := by decide +kernel
theorem dX0_byteIn_24 : decode cX0_byteIn 24 = .ok (.iload_n 1, 1) := by decide +kernel
theorem dX0_byteIn_25 : decode cX0_byteIn 25 = .ok (.ifCond .lt 15, 3) := by decide +kernel
theorem dX0_byteIn_28 : decode cX0_byteIn 28 = .ok (.iload_n 1, 1) := by decide +kernel
theorem dX0_byteIn_29 : decode cX0_byteIn 29 = .ok (.iload_n 2, 1) := by decide +kernel
theorem dX0_byteIn_30 : decode cX0_byteIn 30 = .ok (.if_icmp .ge 10, 3) := by decide +kernel
theorem dX0_byteIn_33 : decode cX0_byteIn 33 = .ok (.iload_n 1, 1) := by decide +kernel
theorem dX0_byteIn_34 : decode cX0_byteIn 34 = .ok (.bipush 32, 2) := by decide +kernel
theorem dX0_byteIn_36 : decode cX0_byteIn 36 = .ok (.iadd, 1) := by decide +kernel
theorem dX0_byteIn_37 : decode cX0_byteIn 37 = .ok (.goto 4, 3) := by decide +kernel
theorem dX0_byteIn_40 : decode cX0_byteIn 40 = .ok (.iconst (-1), 1) := by decide +kernel
theorem dX0_byteIn_41 : decode cX0_byteIn 41 = .ok (.ireturn, 1) := by decide +kernel
theorem dX0_otherSet_0 : decode cX0_otherSet 0 = .ok (.iload_n 0, 1) := by decide +kernel
theorem dX0_otherSet_1 : decode cX0_otherSet 1 = .ok (.bipush 103, 2) := by decide +kernel
theorem dX0_otherSet_3 : decode cX0_otherSet 3 = .ok (.if_icmp .ne 8, 3) := by decide +kernel
theorem dX0_otherSet_6 : decode cX0_otherSet 6 = .ok (.bipush 104, 2) := by decide +kernel
theorem dX0_otherSet_8 : decode cX0_otherSet 8 = .ok (.goto 15, 3) := by decide +kernel
theorem dX0_otherSet_11 : decode cX0_otherSet 11 = .ok (.iload_n 0, 1) := by decide +kernel
theorem dX0_otherSet_12 : decode cX0_otherSet 12 = .ok (.bipush 104, 2) := by decide +kernel
theorem dX0_otherSet_14 : decode cX0_otherSet 14 = .ok (.if_icmp .ne 8, 3) := by decide +kernel
theorem dX0_otherSet_17 : decode cX0_otherSet 17 = .ok (.bipush 103, 2) := by decide +kernel
theorem dX0_otherSet_19 : decode cX0_otherSet 19 = .ok (.goto 4, 3) := by decide +kernel
theorem dX0_otherSet_22 : decode cX0_otherSet 22 = .ok (.iconst (-1), 1) := by decide +kernel
theorem dX0_otherSet_23 : decode cX0_otherSet 23 = .ok (.ireturn, 1) := by decide +kernel
theorem dX0_changedSet_0 : decode cX0_changedSet 0 = .ok (.iconst (-1), 1) := by decide +kernel
theorem dX0_changedSet_1 : decode cX0_changedSet 1 = .ok (.istore_n 2, 1) := by decide +kernel
theorem dX0_changedSet_2 : decode cX0_changedSet 2 = .ok (.iload_n 1, 1) := by decide +kernel
theorem dX0_changedSet_3 : decode cX0_changedSet 3 = .ok (.bipush 101, 2) := by decide +kernel
theorem dX0_changedSet_5 : decode cX0_changedSet 5 = .ok (.if_icmp .ne 9, 3) := by decide +kernel
theorem dX0_changedSet_8 : decode cX0_changedSet 8 = .ok (.bipush 103, 2) := by decide +kernel
theorem dX0_changedSet_10 : decode cX0_changedSet 10 = .ok (.istore_n 2, 1) := by decide +kernel
theorem dX0_changedSet_11 : decode cX0_changedSet 11 = .ok (.goto 24, 3) := by decide +kernel
theorem dX0_changedSet_14 : decode cX0_changedSet 14 = .ok (.iload_n 1, 1) := by decide +kernel
theorem dX0_changedSet_15 : decode cX0_changedSet 15 = .ok (.bipush 100, 2) := by decide +kernel
theorem dX0_changedSet_17 : decode cX0_changedSet 17 = .ok (.if_icmp .ne 9, 3) := by decide +kernel
theorem dX0_changedSet_20 : decode cX0_changedSet 20 = .ok (.bipush 104, 2) := by decide +kernel
theorem dX0_changedSet_22 : decode cX0_changedSet 22 = .ok (.istore_n 2, 1) := by decide +kernel
theorem dX0_changedSet_23 : decode cX0_changedSet 23 = .ok (.goto 12, 3) := by decide +kernel
theorem dX0_changedSet_26 : decode cX0_changedSet 26 = .ok (.iload_n 1, 1) := by decide +kernel
theorem dX0_changedSet_27 : decode cX0_changedSet 27 = .ok (.bipush 99, 2) := by decide +kernel
theorem dX0_changedSet_29 : decode cX0_changedSet 29 = .ok (.if_icmp .ne 6, 3) := by decide +kernel
theorem dX0_changedSet_32 : decode cX0_changedSet 32 = .ok (.bipush 105, 2) := by decide +kernel
theorem dX0_changedSet_34 : decode cX0_changedSet 34 = .ok (.istore_n 2, 1) := by decide +kernel
theorem dX0_changedSet_35 : decode cX0_changedSet 35 = .ok (.iload_n 2, 1) := by decide +kernel
theorem dX0_changedSet_36 : decode cX0_changedSet 36 = .ok (.iload_n 0, 1) := by decide +kernel
theorem dX0_changedSet_37 : decode cX0_changedSet 37 = .ok (.if_icmp .ne 7, 3) := by decide +kernel
theorem dX0_changedSet_40 : decode cX0_changedSet 40 = .ok (.iconst (-1), 1) := by decide +kernel
theorem dX0_changedSet_41 : decode cX0_changedSet 41 = .ok (.goto 4, 3) := by decide +kernel
theorem dX0_changedSet_44 : decode cX0_changedSet 44 = .ok (.iload_n 2, 1) := by decide +kernel
theorem dX0_changedSet_45 : decode cX0_changedSet 45 = .ok (.ireturn, 1) := by decide +kernel
theorem dX1_init_0 : decode cX1_init 0 = .ok (.aload_n 0, 1) := by decide +kernel
theorem dX1_init_1 : decode cX1_init 1 = .ok (.invokespecial 3, 3) := by decide +kernel
theorem dX1_init_4 : decode cX1_init 4 = .ok (.aload_n 0, 1) := by decide +kernel
theorem dX1_init_5 : decode cX1_init 5 = .ok (.getstatic 9, 3) := by decide +kernel
theorem dX1_init_8 : decode cX1_init 8 = .ok (.arraylength, 1) := by decide +kernel
theorem dX1_init_9 : decode cX1_init 9 = .ok (.newarray .int, 2) := by decide +kernel
theorem dX1_init_11 : decode cX1_init 11 = .ok (.putfield 15, 3) := by decide +kernel
theorem dX1_init_14 : decode cX1_init 14 = .ok (.iconst 0, 1) := by decide +kernel
theorem dX1_init_15 : decode cX1_init 15 = .ok (.istore_n 1, 1) := by decide +kernel
theorem dX1_init_16 : decode cX1_init 16 = .ok (.iload_n 1, 1) := by decide +kernel
theorem dX1_init_17 : decode cX1_init 17 = .ok (.getstatic 9, 3) := by decide +kernel
theorem dX1_init_20 : decode cX1_init 20 = .ok (.arraylength, 1) := by decide +kernel
theorem dX1_init_21 : decode cX1_init 21 = .ok (.if_icmp .ge 25, 3) := by decide +kernel
theorem dX1_init_24 : decode cX1_init 24 = .ok (.aload_n 0, 1) := by decide +kernel
theorem dX1_init_25 : decode cX1_init 25 = .ok (.getfield 15, 3) := by decide +kernel
theorem dX1_init_28 : decode cX1_init 28 = .ok (.iload_n 1, 1) := by decide +kernel
theorem dX1_init_29 : decode cX1_init 29 = .ok (.getstatic 9, 3) := by decide +kernel
theorem dX1_init_32 : decode cX1_init 32 = .ok (.iload_n 1, 1) := by decide +kernel
theorem dX1_init_33 : decode cX1_init 33 = .ok (.iaload, 1) := by decide +kernel
theorem dX1_init_34 : decode cX1_init 34 = .ok (.bipush 6, 2) := by decide +kernel
theorem dX1_init_36 : decode cX1_init 36 = .ok (.invokestatic 18, 3) := by decide +kernel
theorem dX1_init_39 : decode cX1_init 39 = .ok (.iastore, 1) := by decide +kernel
theorem dX1_init_40 : decode cX1_init 40 = .ok (.iinc 1 1, 3) := by decide +kernel
theorem dX1_init_43 : decode cX1_init 43 = .ok (.goto (-27), 3) := by decide +kernel
theorem dX1_init_46 : decode cX1_init 46 = .ok (.aload_n 0, 1) := by decide +kernel
theorem dX1_init_47 : decode cX1_init 47 = .ok (.ldc 22, 2) := by decide +kernel
theorem dX1_init_49 : decode cX1_init 49 = .ok (.bipush 7, 2) := by decide +kernel
theorem dX1_init_51 : decode cX1_init 51 = .ok (.invokestatic 18, 3) := by decide +kernel
theorem dX1_init_54 : decode cX1_init 54 = .ok (.putfield 23, 3) := by decide +kernel
theorem dX1_init_57 : decode cX1_init 57 = .ok (.return_, 1) := by decide +kernel
theorem dX1_pattern_0 : decode cX1_pattern 0 = .ok (.iconst 1, 1) := by decide +kernel
theorem dX1_pattern_1 : decode cX1_pattern 1 = .ok (.istore_n 2, 1) := by decide +kernel
theorem dX1_pattern_2 : decode cX1_pattern 2 = .ok (.iconst 1, 1) := by decide +kernel
theorem dX1_pattern_3 : decode cX1_pattern 3 = .ok (.istore_n 3, 1) := by decide +kernel
theorem dX1_pattern_4 : decode cX1_pattern 4 = .ok (.iload_n 3, 1) := by decide +kernel
theorem dX1_pattern_5 : decode cX1_pattern 5 = .ok (.iload_n 1, 1) := by decide +kernel
theorem dX1_pattern_6 : decode cX1_pattern 6 = .ok (.if_icmp .ge 14, 3) := by decide +kernel
theorem dX1_pattern_9 : decode cX1_pattern 9 = .ok (.iload_n 2, 1) := by decide +kernel
theorem dX1_pattern_10 : decode cX1_pattern 10 = .ok (.bipush 10, 2) := by decide +kernel
theorem dX1_pattern_12 : decode cX1_pattern 12 = .ok (.imul, 1) := by decide +kernel
theorem dX1_pattern_13 : decode cX1_pattern 13 = .ok (.istore_n 2, 1) := by decide +kernel
theorem dX1_pattern_14 : decode cX1_pattern 14 = .ok (.iinc 3 1, 3) := by decide +kernel
theorem dX1_pattern_17 : decode cX1_pattern 17 = .ok (.goto (-13), 3) := by decide +kernel
theorem dX1_pattern_20 : decode cX1_pattern 20 = .ok (.iconst 0, 1) := by decide +kernel
theorem dX1_pattern_21 : decode cX1_pattern 21 = .ok (.istore_n 3, 1) := by decide +kernel
theorem dX1_pattern_22 : decode cX1_pattern 22 = .ok (.iconst 0, 1) := by decide +kernel
theorem dX1_pattern_23 : decode cX1_pattern 23 = .ok (.istore 4, 2) := by decide +kernel
theorem dX1_pattern_25 : decode cX1_pattern 25 = .ok (.iload 4, 2) := by decide +kernel
theorem dX1_pattern_27 : decode cX1_pattern 27 = .ok (.iload_n 1, 1) := by decide +kernel
theorem dX1_pattern_28 : decode cX1_pattern 28 = .ok (.if_icmp .ge 59, 3) := by decide +kernel
theorem dX1_pattern_31 : decode cX1_pattern 31 = .ok (.iload_n 0, 1) := by decide +kernel
theorem dX1_pattern_32 : decode cX1_pattern 32 = .ok (.iload_n 2, 1) := by decide +kernel
theorem dX1_pattern_33 : decode cX1_pattern 33 = .ok (.idiv, 1) := by decide +kernel
theorem dX1_pattern_34 : decode cX1_pattern 34 = .ok (.bipush 10, 2) := by decide +kernel
theorem dX1_pattern_36 : decode cX1_pattern 36 = .ok (.irem, 1) := by decide +kernel
theorem dX1_pattern_37 : decode cX1_pattern 37 = .ok (.istore 5, 2) := by decide +kernel
theorem dX1_pattern_39 : decode cX1_pattern 39 = .ok (.iconst 0, 1) := by decide +kernel
theorem dX1_pattern_40 : decode cX1_pattern 40 = .ok (.istore 6, 2) := by decide +kernel
theorem dX1_pattern_42 : decode cX1_pattern 42 = .ok (.iload 6, 2) := by decide +kernel
theorem dX1_pattern_44 : decode cX1_pattern 44 = .ok (.iload 5, 2) := by decide +kernel
theorem dX1_pattern_46 : decode cX1_pattern 46 = .ok (.if_icmp .ge 26, 3) := by decide +kernel
theorem dX1_pattern_49 : decode cX1_pattern 49 = .ok (.iload_n 3, 1) := by decide +kernel
theorem dX1_pattern_50 : decode cX1_pattern 50 = .ok (.iconst 2, 1) := by decide +kernel
theorem dX1_pattern_51 : decode cX1_pattern 51 = .ok (.imul, 1) := by decide +kernel
theorem dX1_pattern_52 : decode cX1_pattern 52 = .ok (.iload 4, 2) := by decide +kernel
theorem dX1_pattern_54 : decode cX1_pattern 54 = .ok (.iconst 2, 1) := by decide +kernel
theorem dX1_pattern_55 : decode cX1_pattern 55 = .ok (.irem, 1) := by decide +kernel
theorem dX1_pattern_56 : decode cX1_pattern 56 = .ok (.ifCond .ne 7, 3) := by decide +kernel
theorem dX1_pattern_59 : decode cX1_pattern 59 = .ok (.iconst 1, 1) := by decide +kernel
theorem dX1_pattern_60 : decode cX1_pattern 60 = .ok (.goto 4, 3) := by decide +kernel
theorem dX1_pattern_63 : decode cX1_pattern 63 = .ok (.iconst 0, 1) := by decide +kernel
theorem dX1_pattern_64 : decode cX1_pattern 64 = .ok (.iadd, 1) := by decide +kernel
theorem dX1_pattern_65 : decode cX1_pattern 65 = .ok (.istore_n 3, 1) := by decide +kernel
theorem dX1_pattern_66 : decode cX1_pattern 66 = .ok (.iinc 6 1, 3) := by decide +kernel
theorem dX1_pattern_69 : decode cX1_pattern 69 = .ok (.goto (-27), 3) := by decide +kernel
theorem dX1_pattern_72 : decode cX1_pattern 72 = .ok (.iload_n 2, 1) := by decide +kernel
theorem dX1_pattern_73 : decode cX1_pattern 73 = .ok (.bipush 10, 2) := by decide +kernel
theorem dX1_pattern_75 : decode cX1_pattern 75 = .ok (.idiv, 1) := by decide +kernel
theorem dX1_pattern_76 : decode cX1_pattern 76 = .ok (.iconst 1, 1) := by decide +kernel
theorem dX1_pattern_77 : decode cX1_pattern 77 = .ok (.invokestatic 27, 3) := by decide +kernel
theorem dX1_pattern_80 : decode cX1_pattern 80 = .ok (.istore_n 2, 1) := by decide +kernel
theorem dX1_pattern_81 : decode cX1_pattern 81 = .ok (.iinc 4 1, 3) := by decide +kernel
theorem dX1_pattern_84 : decode cX1_pattern 84 = .ok (.goto (-59), 3) := by decide +kernel
theorem dX1_pattern_87 : decode cX1_pattern 87 = .ok (.iload_n 3, 1) := by decide +kernel
theorem dX1_pattern_88 : decode cX1_pattern 88 = .ok (.ireturn, 1) := by decide +kernel
theorem dX1_isStop_0 : decode cX1_isStop 0 = .ok (.iload_n 1, 1) := by decide +kernel
theorem dX1_isStop_1 : decode cX1_isStop 1 = .ok (.aload_n 0, 1) := by decide +kernel
theorem dX1_isStop_2 : decode cX1_isStop 2 = .ok (.getfield 23, 3) := by decide +kernel
theorem dX1_isStop_5 : decode cX1_isStop 5 = .ok (.if_icmp .ne 7, 3) := by decide +kernel
theorem dX1_isStop_8 : decode cX1_isStop 8 = .ok (.iconst 1, 1) := by decide +kernel
theorem dX1_isStop_9 : decode cX1_isStop 9 = .ok (.goto 4, 3) := by decide +kernel
theorem dX1_isStop_12 : decode cX1_isStop 12 = .ok (.iconst 0, 1) := by decide +kernel
theorem dX1_isStop_13 : decode cX1_isStop 13 = .ok (.ireturn, 1) := by decide +kernel
theorem dX1_characterOf_0 : decode cX1_characterOf 0 = .ok (.iconst 0, 1) := by decide +kernel
theorem dX1_characterOf_1 : decode cX1_characterOf 1 = .ok (.istore_n 2, 1) := by decide +kernel
theorem dX1_characterOf_2 : decode cX1_characterOf 2 = .ok (.iload_n 2, 1) := by decide +kernel
theorem dX1_characterOf_3 : decode cX1_characterOf 3 = .ok (.aload_n 0, 1) := by decide +kernel
theorem dX1_characterOf_4 : decode cX1_characterOf 4 = .ok (.getfield 15, 3) := by decide +kernel
theorem dX1_characterOf_7 : decode cX1_characterOf 7 = .ok (.arraylength, 1) := by decide +kernel
theorem dX1_characterOf_8 : decode cX1_characterOf 8 = .ok (.if_icmp .ge 21, 3) := by decide +kernel
theorem dX1_characterOf_11 : decode cX1_characterOf 11 = .ok (.aload_n 0, 1) := by decide +kernel
theorem dX1_characterOf_12 : decode cX1_characterOf 12 = .ok (.getfield 15, 3) := by decide +kernel
theorem dX1_characterOf_15 : decode cX1_characterOf 15 = .ok (.iload_n 2, 1) := by decide +kernel
theorem dX1_characterOf_16 : decode cX1_characterOf 16 = .ok (.iaload, 1) := by decide +kernel
theorem dX1_characterOf_17 : decode cX1_characterOf 17 = .ok (.iload_n 1, 1) := by decide +kernel
theorem dX1_characterOf_18 : decode cX1_characterOf 18 = .ok (.if_icmp .ne 5, 3) := by decide +kernel
theorem dX1_characterOf_21 : decode cX1_characterOf 21 = .ok (.iload_n 2, 1) := by decide +kernel
theorem dX1_characterOf_22 : decode cX1_characterOf 22 = .ok (.ireturn, 1) := by decide +kernel
theorem dX1_characterOf_23 : decode cX1_characterOf 23 = .ok (.iinc 2 1, 3) := by decide +kernel
theorem dX1_characterOf_26 : decode cX1_characterOf 26 = .ok (.goto (-24), 3) := by decide +kernel
theorem dX1_characterOf_29 : decode cX1_characterOf 29 = .ok (.iconst (-1), 1) := by decide +kernel
theorem dX1_characterOf_30 : decode cX1_characterOf 30 = .ok (.ireturn, 1) := by decide +kernel
theorem dX1_put_0 : decode cX1_put 0 = .ok (.iload_n 2, 1) := by decide +kernel
theorem dX1_put_1 : decode cX1_put 1 = .ok (.ifCond .lt 16, 3) := by decide +kernel
theorem dX1_put_4 : decode cX1_put 4 = .ok (.iload_n 2, 1) := by decide +kernel
theorem dX1_put_5 : decode cX1_put 5 = .ok (.aload_n 0, 1) := by decide +kernel
theorem dX1_put_6 : decode cX1_put 6 = .ok (.getfield 15, 3) := by decide +kernel
theorem dX1_put_9 : decode cX1_put 9 = .ok (.arraylength, 1) := by decide +kernel
theorem dX1_put_10 : decode cX1_put 10 = .ok (.if_icmp .ge 7, 3) := by decide +kernel
theorem dX1_put_13 : decode cX1_put 13 = .ok (.iconst 1, 1) := by decide +kernel
theorem dX1_put_14 : decode cX1_put 14 = .ok (.goto 4, 3) := by decide +kernel
theorem dX1_put_17 : decode cX1_put 17 = .ok (.iconst 0, 1) := by decide +kernel
theorem dX1_put_18 : decode cX1_put 18 = .ok (.istore_n 3, 1) := by decide +kernel
theorem dX1_put_19 : decode cX1_put 19 = .ok (.iload_n 3, 1) := by decide +kernel
theorem dX1_put_20 : decode cX1_put 20 = .ok (.ifCond .eq 12, 3) := by decide +kernel
theorem dX1_put_23 : decode cX1_put 23 = .ok (.aload_n 0, 1) := by decide +kernel
theorem dX1_put_24 : decode cX1_put 24 = .ok (.getfield 15, 3) := by decide +kernel
theorem dX1_put_27 : decode cX1_put 27 = .ok (.iload_n 2, 1) := by decide +kernel
theorem dX1_put_28 : decode cX1_put 28 = .ok (.iaload, 1) := by decide +kernel
theorem dX1_put_29 : decode cX1_put 29 = .ok (.goto 7, 3) := by decide +kernel
theorem dX1_put_32 : decode cX1_put 32 = .ok (.aload_n 0, 1) := by decide +kernel
theorem dX1_put_33 : decode cX1_put 33 = .ok (.getfield 23, 3) := by decide +kernel
theorem dX1_put_36 : decode cX1_put 36 = .ok (.istore 4, 2) := by decide +kernel
theorem dX1_put_38 : decode cX1_put 38 = .ok (.iload_n 3, 1) := by decide +kernel
theorem dX1_put_39 : decode cX1_put 39 = .ok (.ifCond .eq 8, 3) := by decide +kernel
theorem dX1_put_42 : decode cX1_put 42 = .ok (.bipush 11, 2) := by decide +kernel
theorem dX1_put_44 : decode cX1_put 44 = .ok (.goto 5, 3) := by decide +kernel
theorem dX1_put_47 : decode cX1_put 47 = .ok (.bipush 13, 2) := by decide +kernel
theorem dX1_put_49 : decode cX1_put 49 = .ok (.istore 5, 2) := by decide +kernel
theorem dX1_put_51 : decode cX1_put 51 = .ok (.iload 5, 2) := by decide +kernel
theorem dX1_put_53 : decode cX1_put 53 = .ok (.iconst 1, 1) := by decide +kernel
theorem dX1_put_54 : decode cX1_put 54 = .ok (.isub, 1) := by decide +kernel
theorem dX1_put_55 : decode cX1_put 55 = .ok (.istore 6, 2) := by decide +kernel
theorem dX1_put_57 : decode cX1_put 57 = .ok (.iload 6, 2) := by decide +kernel
theorem dX1_put_59 : decode cX1_put 59 = .ok (.ifCond .lt 20, 3) := by decide +kernel
theorem dX1_put_62 : decode cX1_put 62 = .ok (.aload_n 1, 1) := by decide +kernel
theorem dX1_put_63 : decode cX1_put 63 = .ok (.iload 4, 2) := by decide +kernel
theorem dX1_put_65 : decode cX1_put 65 = .ok (.iload 6, 2) := by decide +kernel
theorem dX1_put_67 : decode cX1_put 67 = .ok (.ishr, 1) := by decide +kernel
theorem dX1_put_68 : decode cX1_put 68 = .ok (.iconst 1, 1) := by decide +kernel
theorem dX1_put_69 : decode cX1_put 69 = .ok (.iand, 1) := by decide +kernel
theorem dX1_put_70 : decode cX1_put 70 = .ok (.invokevirtual 32, 3) := by decide +kernel
theorem dX1_put_73 : decode cX1_put 73 = .ok (.iinc 6 (-1), 3) := by decide +kernel
theorem dX1_put_76 : decode cX1_put 76 = .ok (.goto (-19), 3) := by decide +kernel
theorem dX1_put_79 : decode cX1_put 79 = .ok (.return_, 1) := by decide +kernel
theorem dX2_checkCharacter_0 : decode cX2_checkCharacter 0 = .ok (.aload_n 0, 1) := by decide +kernel
theorem dX2_checkCharacter_1 : decode cX2_checkCharacter 1 = .ok (.iconst 0, 1) := by decide +kernel
theorem dX2_checkCharacter_2 : decode cX2_checkCharacter 2 = .ok (.invokevirtual 7, 3) := by decide +kernel
theorem dX2_checkCharacter_5 : decode cX2_checkCharacter 5 = .ok (.istore_n 2, 1) := by decide +kernel
theorem dX2_checkCharacter_6 : decode cX2_checkCharacter 6 = .ok (.iconst 1, 1) := by decide +kernel
theorem dX2_checkCharacter_7 : decode cX2_checkCharacter 7 = .ok (.istore_n 3, 1) := by decide +kernel
theorem dX2_checkCharacter_8 : decode cX2_checkCharacter 8 = .ok (.iload_n 3, 1) := by decide +kernel
theorem dX2_checkCharacter_9 : decode cX2_checkCharacter 9 = .ok (.iload_n 1, 1) := by decide +kernel
theorem dX2_checkCharacter_10 : decode cX2_checkCharacter 10 = .ok (.if_icmp .ge 19, 3) := by decide +kernel
theorem dX2_checkCharacter_13 : decode cX2_checkCharacter 13 = .ok (.iload_n 2, 1) := by decide +kernel
theorem dX2_checkCharacter_14 : decode cX2_checkCharacter 14 = .ok (.aload_n 0, 1) := by decide +kernel
theorem dX2_checkCharacter_15 : decode cX2_checkCharacter 15 = .ok (.iload_n 3, 1) := by decide +kernel
theorem dX2_checkCharacter_16 : decode cX2_checkCharacter 16 = .ok (.invokevirtual 7, 3) := by decide +kernel
theorem dX2_checkCharacter_19 : decode cX2_checkCharacter 19 = .ok (.iload_n 3, 1) := by decide +kernel
theorem dX2_checkCharacter_20 : decode cX2_checkCharacter 20 = .ok (.imul, 1) := by decide +kernel
theorem dX2_checkCharacter_21 : decode cX2_checkCharacter 21 = .ok (.iadd, 1) := by decide +kernel
theorem dX2_checkCharacter_22 : decode cX2_checkCharacter 22 = .ok (.istore_n 2, 1) := by decide +kernel
theorem dX2_checkCharacter_23 : decode cX2_checkCharacter 23 = .ok (.iinc 3 1, 3) := by decide +kernel
theorem dX2_checkCharacter_26 : decode cX2_checkCharacter 26 = .ok (.goto (-18), 3) := by decide +kernel
theorem dX2_checkCharacter_29 : decode cX2_checkCharacter 29 = .ok (.iload_n 2, 1) := by decide +kernel
theorem dX2_checkCharacter_30 : decode cX2_checkCharacter 30 = .ok (.bipush 103, 2) := by decide +kernel
theorem dX2_checkCharacter_32 : decode cX2_checkCharacter 32 = .ok (.invokestatic 13, 3) := by decide +kernel
theorem dX2_checkCharacter_35 : decode cX2_checkCharacter 35 = .ok (.ireturn, 1) := by decide +kernel
theorem dX3_yearMeant_0 : decode cX3_yearMeant 0 = .ok (.iload_n 1, 1) := by decide +kernel
theorem dX3_yearMeant_1 : decode cX3_yearMeant 1 = .ok (.bipush 49, 2) := by decide +kernel
theorem dX3_yearMeant_3 : decode cX3_yearMeant 3 = .ok (.isub, 1) := by decide +kernel
theorem dX3_yearMeant_4 : decode cX3_yearMeant 4 = .ok (.istore_n 2, 1) := by decide +kernel
theorem dX3_yearMeant_5 : decode cX3_yearMeant 5 = .ok (.iload_n 2, 1) := by decide +kernel
theorem dX3_yearMeant_6 : decode cX3_yearMeant 6 = .ok (.iload_n 0, 1) := by decide +kernel
theorem dX3_yearMeant_7 : decode cX3_yearMeant 7 = .ok (.iload_n 2, 1) := by decide +kernel
theorem dX3_yearMeant_8 : decode cX3_yearMeant 8 = .ok (.isub, 1) := by decide +kernel
theorem dX3_yearMeant_9 : decode cX3_yearMeant 9 = .ok (.bipush 100, 2) := by decide +kernel
theorem dX3_yearMeant_11 : decode cX3_yearMeant 11 = .ok (.invokestatic 7, 3) := by decide +kernel
theorem dX3_yearMeant_14 : decode cX3_yearMeant 14 = .ok (.iadd, 1) := by decide +kernel
theorem dX3_yearMeant_15 : decode cX3_yearMeant 15 = .ok (.ireturn, 1) := by decide +kernel
theorem dX3_lastDay_0 : decode cX3_lastDay 0 = .ok (.iload_n 0, 1) := by decide +kernel
theorem dX3_lastDay_1 : decode cX3_lastDay 1 = .ok (.iconst 4, 1) := by decide +kernel
theorem dX3_lastDay_2 : decode cX3_lastDay 2 = .ok (.irem, 1) := by decide +kernel
theorem dX3_lastDay_3 : decode cX3_lastDay 3 = .ok (.ifCond .ne 22, 3) := by decide +kernel
theorem dX3_lastDay_6 : decode cX3_lastDay 6 = .ok (.iload_n 0, 1) := by decide +kernel
theorem dX3_lastDay_7 : decode cX3_lastDay 7 = .ok (.bipush 100, 2) := by decide +kernel
theorem dX3_lastDay_9 : decode cX3_lastDay 9 = .ok (.irem, 1) := by decide +kernel
theorem dX3_lastDay_10 : decode cX3_lastDay 10 = .ok (.ifCond .ne 11, 3) := by decide +kernel
theorem dX3_lastDay_13 : decode cX3_lastDay 13 = .ok (.iload_n 0, 1) := by decide +kernel
theorem dX3_lastDay_14 : decode cX3_lastDay 14 = .ok (.sipush 400, 3) := by decide +kernel
theorem dX3_lastDay_17 : decode cX3_lastDay 17 = .ok (.irem, 1) := by decide +kernel
theorem dX3_lastDay_18 : decode cX3_lastDay 18 = .ok (.ifCond .ne 7, 3) := by decide +kernel
theorem dX3_lastDay_21 : decode cX3_lastDay 21 = .ok (.iconst 1, 1) := by decide +kernel
theorem dX3_lastDay_22 : decode cX3_lastDay 22 = .ok (.goto 4, 3) := by decide +kernel
theorem dX3_lastDay_25 : decode cX3_lastDay 25 = .ok (.iconst 0, 1) := by decide +kernel
theorem dX3_lastDay_26 : decode cX3_lastDay 26 = .ok (.istore_n 2, 1) := by decide +kernel
theorem dX3_lastDay_27 : decode cX3_lastDay 27 = .ok (.iload_n 1, 1) := by decide +kernel
theorem dX3_lastDay_28 : decode cX3_lastDay 28 = .ok (.tableswitch 71 2 11 #[56, 71, 68, 71, 68, 71, 71, 68, 71, 68], 56) := by decide +kernel
theorem dX3_lastDay_84 : decode cX3_lastDay 84 = .ok (.iload_n 2, 1) := by decide +kernel
theorem dX3_lastDay_85 : decode cX3_lastDay 85 = .ok (.ifCond .eq 8, 3) := by decide +kernel
theorem dX3_lastDay_88 : decode cX3_lastDay 88 = .ok (.bipush 29, 2) := by decide +kernel
theorem dX3_lastDay_90 : decode cX3_lastDay 90 = .ok (.goto 5, 3) := by decide +kernel
theorem dX3_lastDay_93 : decode cX3_lastDay 93 = .ok (.bipush 28, 2) := by decide +kernel
theorem dX3_lastDay_95 : decode cX3_lastDay 95 = .ok (.ireturn, 1) := by decide +kernel
theorem dX3_lastDay_96 : decode cX3_lastDay 96 = .ok (.bipush 30, 2) := by decide +kernel
theorem dX3_lastDay_98 : decode cX3_lastDay 98 = .ok (.ireturn, 1) := by decide +kernel
theorem dX3_lastDay_99 : decode cX3_lastDay 99 = .ok (.bipush 31, 2) := by decide +kernel
theorem dX3_lastDay_101 : decode cX3_lastDay 101 = .ok (.ireturn, 1) := by decide +kernel
theorem dX3_isDate_0 : decode cX3_isDate 0 = .ok (.iload_n 1, 1) := by decide +kernel
theorem dX3_isDate_1 : decode cX3_isDate 1 = .ok (.iconst 1, 1) := by decide +kernel
theorem dX3_isDate_2 : decode cX3_isDate 2 = .ok (.if_icmp .lt 26, 3) := by decide +kernel
theorem dX3_isDate_5 : decode cX3_isDate 5 = .ok (.iload_n 1, 1) := by decide +kernel
theorem dX3_isDate_6 : decode cX3_isDate 6 = .ok (.bipush 12, 2) := by decide +kernel
theorem dX3_isDate_8 : decode cX3_isDate 8 = .ok (.if_icmp .gt 20, 3) := by decide +kernel
theorem dX3_isDate_11 : decode cX3_isDate 11 = .ok (.iload_n 2, 1) := by decide +kernel
theorem dX3_isDate_12 : decode cX3_isDate 12 = .ok (.ifCond .lt 16, 3) := by decide +kernel
theorem dX3_isDate_15 : decode cX3_isDate 15 = .ok (.iload_n 2, 1) := by decide +kernel
theorem dX3_isDate_16 : decode cX3_isDate 16 = .ok (.iload_n 0, 1) := by decide +kernel
theorem dX3_isDate_17 : decode cX3_isDate 17 = .ok (.iload_n 1, 1) := by decide +kernel
theorem dX3_isDate_18 : decode cX3_isDate 18 = .ok (.invokestatic 13, 3) := by decide +kernel
theorem dX3_isDate_21 : decode cX3_isDate 21 = .ok (.if_icmp .gt 7, 3) := by decide +kernel
theorem dX3_isDate_24 : decode cX3_isDate 24 = .ok (.iconst 1, 1) := by decide +kernel
theorem dX3_isDate_25 : decode cX3_isDate 25 = .ok (.goto 4, 3) := by decide +kernel
theorem dX3_isDate_28 : decode cX3_isDate 28 = .ok (.iconst 0, 1) := by decide +kernel
theorem dX3_isDate_29 : decode cX3_isDate 29 = .ok (.ireturn, 1) := by decide +kernel
theorem dX3_isTime_0 : decode cX3_isTime 0 = .ok (.iload_n 0, 1) := by decide +kernel
theorem dX3_isTime_1 : decode cX3_isTime 1 = .ok (.ifCond .lt 23, 3) := by decide +kernel
theorem dX3_isTime_4 : decode cX3_isTime 4 = .ok (.iload_n 0, 1) := by decide +kernel
theorem dX3_isTime_5 : decode cX3_isTime 5 = .ok (.bipush 23, 2) := by decide +kernel
theorem dX3_isTime_7 : decode cX3_isTime 7 = .ok (.if_icmp .gt 17, 3) := by decide +kernel
theorem dX3_isTime_10 : decode cX3_isTime 10 = .ok (.iload_n 1, 1) := by decide +kernel
theorem dX3_isTime_11 : decode cX3_isTime 11 = .ok (.ifCond .lt 13, 3) := by decide +kernel
theorem dX3_isTime_14 : decode cX3_isTime 14 = .ok (.iload_n 1, 1) := by decide +kernel
theorem dX3_isTime_15 : decode cX3_isTime 15 = .ok (.bipush 59, 2) := by decide +kernel
theorem dX3_isTime_17 : decode cX3_isTime 17 = .ok (.if_icmp .gt 7, 3) := by decide +kernel
theorem dX3_isTime_20 : decode cX3_isTime 20 = .ok (.iconst 1, 1) := by decide +kernel
theorem dX3_isTime_21 : decode cX3_isTime 21 = .ok (.goto 4, 3) := by decide +kernel
theorem dX3_isTime_24 : decode cX3_isTime 24 = .ok (.iconst 0, 1) := by decide +kernel
theorem dX3_isTime_25 : decode cX3_isTime 25 = .ok (.ireturn, 1) := by decide +kernel
theorem dX4_init_0 : decode cX4_init 0 = .ok (.aload_n 0, 1) := by decide +kernel
theorem dX4_init_1 : decode cX4_init 1 = .ok (.invokespecial 3, 3) := by decide +kernel
theorem dX4_init_4 : decode cX4_init 4 = .ok (.aload_n 0, 1) := by decide +kernel
theorem dX4_init_5 : decode cX4_init 5 = .ok (.new 9, 3) := by decide +kernel
theorem dX4_init_8 : decode cX4_init 8 = .ok (.dup, 1) := by decide +kernel
theorem dX4_init_9 : decode cX4_init 9 = .ok (.bipush 90, 2) := by decide +kernel
theorem dX4_init_11 : decode cX4_init 11 = .ok (.invokespecial 11, 3) := by decide +kernel
theorem dX4_init_14 : decode cX4_init 14 = .ok (.putfield 14, 3) := by decide +kernel
theorem dX4_init_17 : decode cX4_init 17 = .ok (.return_, 1) := by decide +kernel
theorem dX4_begin_0 : decode cX4_begin 0 = .ok (.aload_n 0, 1) := by decide +kernel
theorem dX4_begin_1 : decode cX4_begin 1 = .ok (.iload_n 1, 1) := by decide +kernel
theorem dX4_begin_2 : decode cX4_begin 2 = .ok (.putfield 20, 3) := by decide +kernel
theorem dX4_begin_5 : decode cX4_begin 5 = .ok (.aload_n 0, 1) := by decide +kernel
theorem dX4_begin_6 : decode cX4_begin 6 = .ok (.iload_n 2, 1) := by decide +kernel
theorem dX4_begin_7 : decode cX4_begin 7 = .ok (.putfield 24, 3) := by decide +kernel
theorem dX4_begin_10 : decode cX4_begin 10 = .ok (.aload_n 0, 1) := by decide +kernel
theorem dX4_begin_11 : decode cX4_begin 11 = .ok (.iload_n 3, 1) := by decide +kernel
theorem dX4_begin_12 : decode cX4_begin 12 = .ok (.putfield 27, 3) := by decide +kernel
theorem dX4_begin_15 : decode cX4_begin 15 = .ok (.aload_n 0, 1) := by decide +kernel
theorem dX4_begin_16 : decode cX4_begin 16 = .ok (.iload_n 3, 1) := by decide +kernel
theorem dX4_begin_17 : decode cX4_begin 17 = .ok (.invokestatic 30, 3) := by decide +kernel
theorem dX4_begin_20 : decode cX4_begin 20 = .ok (.ifCond .eq 10, 3) := by decide +kernel
theorem dX4_begin_23 : decode cX4_begin 23 = .ok (.iload_n 1, 1) := by decide +kernel
theorem dX4_begin_24 : decode cX4_begin 24 = .ok (.bipush 10, 2) := by decide +kernel
theorem dX4_begin_26 : decode cX4_begin 26 = .ok (.idiv, 1) := by decide +kernel
theorem dX4_begin_27 : decode cX4_begin 27 = .ok (.goto 4, 3) := by decide +kernel
theorem dX4_begin_30 : decode cX4_begin 30 = .ok (.iload_n 1, 1) := by decide +kernel
theorem dX4_begin_31 : decode cX4_begin 31 = .ok (.putfield 36, 3) := by decide +kernel
theorem dX4_begin_34 : decode cX4_begin 34 = .ok (.aload_n 0, 1) := by decide +kernel
theorem dX4_begin_35 : decode cX4_begin 35 = .ok (.iload 4, 2) := by decide +kernel
theorem dX4_begin_37 : decode cX4_begin 37 = .ok (.putfield 39, 3) := by decide +kernel
theorem dX4_begin_40 : decode cX4_begin 40 = .ok (.aload_n 0, 1) := by decide +kernel
theorem dX4_begin_41 : decode cX4_begin 41 = .ok (.getfield 14, 3) := by decide +kernel
theorem dX4_begin_44 : decode cX4_begin 44 = .ok (.invokevirtual 42, 3) := by decide +kernel
theorem dX4_begin_47 : decode cX4_begin 47 = .ok (.return_, 1) := by decide +kernel
theorem dX4_copyFrom_0 : decode cX4_copyFrom 0 = .ok (.aload_n 0, 1) := by decide +kernel
theorem dX4_copyFrom_1 : decode cX4_copyFrom 1 = .ok (.aload_n 1, 1) := by decide +kernel
theorem dX4_copyFrom_2 : decode cX4_copyFrom 2 = .ok (.getfield 20, 3) := by decide +kernel
theorem dX4_copyFrom_5 : decode cX4_copyFrom 5 = .ok (.putfield 20, 3) := by decide +kernel
theorem dX4_copyFrom_8 : decode cX4_copyFrom 8 = .ok (.aload_n 0, 1) := by decide +kernel
theorem dX4_copyFrom_9 : decode cX4_copyFrom 9 = .ok (.aload_n 1, 1) := by decide +kernel
theorem dX4_copyFrom_10 : decode cX4_copyFrom 10 = .ok (.getfield 24, 3) := by decide +kernel
theorem dX4_copyFrom_13 : decode cX4_copyFrom 13 = .ok (.putfield 24, 3) := by decide +kernel
theorem dX4_copyFrom_16 : decode cX4_copyFrom 16 = .ok (.aload_n 0, 1) := by decide +kernel
theorem dX4_copyFrom_17 : decode cX4_copyFrom 17 = .ok (.aload_n 1, 1) := by decide +kernel
theorem dX4_copyFrom_18 : decode cX4_copyFrom 18 = .ok (.getfield 27, 3) := by decide +kernel
theorem dX4_copyFrom_21 : decode cX4_copyFrom 21 = .ok (.putfield 27, 3) := by decide +kernel
theorem dX4_copyFrom_24 : decode cX4_copyFrom 24 = .ok (.aload_n 0, 1) := by decide +kernel
theorem dX4_copyFrom_25 : decode cX4_copyFrom 25 = .ok (.aload_n 1, 1) := by decide +kernel
theorem dX4_copyFrom_26 : decode cX4_copyFrom 26 = .ok (.getfield 36, 3) := by decide +kernel
theorem dX4_copyFrom_29 : decode cX4_copyFrom 29 = .ok (.putfield 36, 3) := by decide +kernel
theorem dX4_copyFrom_32 : decode cX4_copyFrom 32 = .ok (.aload_n 0, 1) := by decide +kernel
theorem dX4_copyFrom_33 : decode cX4_copyFrom 33 = .ok (.aload_n 1, 1) := by decide +kernel
theorem dX4_copyFrom_34 : decode cX4_copyFrom 34 = .ok (.getfield 39, 3) := by decide +kernel
theorem dX4_copyFrom_37 : decode cX4_copyFrom 37 = .ok (.putfield 39, 3) := by decide +kernel
theorem dX4_copyFrom_40 : decode cX4_copyFrom 40 = .ok (.aload_n 0, 1) := by decide +kernel
theorem dX4_copyFrom_41 : decode cX4_copyFrom 41 = .ok (.getfield 14, 3) := by decide +kernel
theorem dX4_copyFrom_44 : decode cX4_copyFrom 44 = .ok (.aload_n 1, 1) := by decide +kernel
theorem dX4_copyFrom_45 : decode cX4_copyFrom 45 = .ok (.getfield 14, 3) := by decide +kernel
theorem dX4_copyFrom_48 : decode cX4_copyFrom 48 = .ok (.invokevirtual 45, 3) := by decide +kernel
theorem dX4_copyFrom_51 : decode cX4_copyFrom 51 = .ok (.return_, 1) := by decide +kernel
theorem dX4_isSameAs_0 : decode cX4_isSameAs 0 = .ok (.aload_n 0, 1) := by decide +kernel
theorem dX4_isSameAs_1 : decode cX4_isSameAs 1 = .ok (.getfield 20, 3) := by decide +kernel
theorem dX4_isSameAs_4 : decode cX4_isSameAs 4 = .ok (.aload_n 1, 1) := by decide +kernel
theorem dX4_isSameAs_5 : decode cX4_isSameAs 5 = .ok (.getfield 20, 3) := by decide +kernel
theorem dX4_isSameAs_8 : decode cX4_isSameAs 8 = .ok (.if_icmp .ne 32, 3) := by decide +kernel
theorem dX4_isSameAs_11 : decode cX4_isSameAs 11 = .ok (.aload_n 0, 1) := by decide +kernel
theorem dX4_isSameAs_12 : decode cX4_isSameAs 12 = .ok (.getfield 24, 3) := by decide +kernel
theorem dX4_isSameAs_15 : decode cX4_isSameAs 15 = .ok (.aload_n 1, 1) := by decide +kernel
theorem dX4_isSameAs_16 : decode cX4_isSameAs 16 = .ok (.getfield 24, 3) := by decide +kernel
theorem dX4_isSameAs_19 : decode cX4_isSameAs 19 = .ok (.if_icmp .ne 21, 3) := by decide +kernel
theorem dX4_isSameAs_22 : decode cX4_isSameAs 22 = .ok (.aload_n 0, 1) := by decide +kernel
theorem dX4_isSameAs_23 : decode cX4_isSameAs 23 = .ok (.getfield 14, 3) := by decide +kernel
theorem dX4_isSameAs_26 : decode cX4_isSameAs 26 = .ok (.aload_n 1, 1) := by decide +kernel
theorem dX4_isSameAs_27 : decode cX4_isSameAs 27 = .ok (.getfield 14, 3) := by decide +kernel
theorem dX4_isSameAs_30 : decode cX4_isSameAs 30 = .ok (.invokevirtual 49, 3) := by decide +kernel
theorem dX4_isSameAs_33 : decode cX4_isSameAs 33 = .ok (.ifCond .eq 7, 3) := by decide +kernel
theorem dX4_isSameAs_36 : decode cX4_isSameAs 36 = .ok (.iconst 1, 1) := by decide +kernel
theorem dX4_isSameAs_37 : decode cX4_isSameAs 37 = .ok (.goto 4, 3) := by decide +kernel
theorem dX4_isSameAs_40 : decode cX4_isSameAs 40 = .ok (.iconst 0, 1) := by decide +kernel
theorem dX4_isSameAs_41 : decode cX4_isSameAs 41 = .ok (.ireturn, 1) := by decide +kernel
theorem dX4_ai_0 : decode cX4_ai 0 = .ok (.aload_n 0, 1) := by decide +kernel
theorem dX4_ai_1 : decode cX4_ai 1 = .ok (.getfield 20, 3) := by decide +kernel
theorem dX4_ai_4 : decode cX4_ai 4 = .ok (.ireturn, 1) := by decide +kernel
theorem dX4_digits_0 : decode cX4_digits 0 = .ok (.aload_n 0, 1) := by decide +kernel
theorem dX4_digits_1 : decode cX4_digits 1 = .ok (.getfield 24, 3) := by decide +kernel
theorem dX4_digits_4 : decode cX4_digits 4 = .ok (.ireturn, 1) := by decide +kernel
theorem dX4_line_0 : decode cX4_line 0 = .ok (.aload_n 0, 1) := by decide +kernel
theorem dX4_line_1 : decode cX4_line 1 = .ok (.getfield 27, 3) := by decide +kernel
theorem dX4_line_4 : decode cX4_line 4 = .ok (.ireturn, 1) := by decide +kernel
theorem dX4_clockYear_0 : decode cX4_clockYear 0 = .ok (.aload_n 0, 1) := by decide +kernel
theorem dX4_clockYear_1 : decode cX4_clockYear 1 = .ok (.getfield 39, 3) := by decide +kernel
theorem dX4_clockYear_4 : decode cX4_clockYear 4 = .ok (.ireturn, 1) := by decide +kernel
theorem dX4_value_0 : decode cX4_value 0 = .ok (.aload_n 0, 1) := by decide +kernel
theorem dX4_value_1 : decode cX4_value 1 = .ok (.getfield 14, 3) := by decide +kernel
theorem dX4_value_4 : decode cX4_value 4 = .ok (.areturn, 1) := by decide +kernel
theorem dX4_family_0 : decode cX4_family 0 = .ok (.aload_n 0, 1) := by decide +kernel
theorem dX4_family_1 : decode cX4_family 1 = .ok (.getfield 36, 3) := by decide +kernel
theorem dX4_family_4 : decode cX4_family 4 = .ok (.ireturn, 1) := by decide +kernel
theorem dX4_point_0 : decode cX4_point 0 = .ok (.aload_n 0, 1) := by decide +kernel
theorem dX4_point_1 : decode cX4_point 1 = .ok (.getfield 27, 3) := by decide +kernel
theorem dX4_point_4 : decode cX4_point 4 = .ok (.invokestatic 30, 3) := by decide +kernel
theorem dX4_point_7 : decode cX4_point 7 = .ok (.ifCond .eq 13, 3) := by decide +kernel
theorem dX4_point_10 : decode cX4_point 10 = .ok (.aload_n 0, 1) := by decide +kernel
theorem dX4_point_11 : decode cX4_point 11 = .ok (.getfield 20, 3) := by decide +kernel
theorem dX4_point_14 : decode cX4_point 14 = .ok (.bipush 10, 2) := by decide +kernel
theorem dX4_point_16 : decode cX4_point 16 = .ok (.irem, 1) := by decide +kernel
theorem dX4_point_17 : decode cX4_point 17 = .ok (.goto 4, 3) := by decide +kernel
theorem dX4_point_20 : decode cX4_point 20 = .ok (.iconst (-1), 1) := by decide +kernel
theorem dX4_point_21 : decode cX4_point 21 = .ok (.ireturn, 1) := by decide +kernel
theorem dX4_isFixed_0 : decode cX4_isFixed 0 = .ok (.aload_n 0, 1) := by decide +kernel
theorem dX4_isFixed_1 : decode cX4_isFixed 1 = .ok (.getfield 20, 3) := by decide +kernel
theorem dX4_isFixed_4 : decode cX4_isFixed 4 = .ok (.aload_n 0, 1) := by decide +kernel
theorem dX4_isFixed_5 : decode cX4_isFixed 5 = .ok (.getfield 24, 3) := by decide +kernel
theorem dX4_isFixed_8 : decode cX4_isFixed 8 = .ok (.invokestatic 53, 3) := by decide +kernel
theorem dX4_isFixed_11 : decode cX4_isFixed 11 = .ok (.ireturn, 1) := by decide +kernel
theorem dX4_parts_0 : decode cX4_parts 0 = .ok (.iconst 0, 1) := by decide +kernel
theorem dX4_parts_1 : decode cX4_parts 1 = .ok (.istore_n 1, 1) := by decide +kernel
theorem dX4_parts_2 : decode cX4_parts 2 = .ok (.iconst 0, 1) := by decide +kernel
theorem dX4_parts_3 : decode cX4_parts 3 = .ok (.istore_n 2, 1) := by decide +kernel
theorem dX4_parts_4 : decode cX4_parts 4 = .ok (.iload_n 2, 1) := by decide +kernel
theorem dX4_parts_5 : decode cX4_parts 5 = .ok (.iconst 4, 1) := by decide +kernel
theorem dX4_parts_6 : decode cX4_parts 6 = .ok (.if_icmp .ge 21, 3) := by decide +kernel
theorem dX4_parts_9 : decode cX4_parts 9 = .ok (.aload_n 0, 1) := by decide +kernel
theorem dX4_parts_10 : decode cX4_parts 10 = .ok (.iload_n 2, 1) := by decide +kernel
theorem dX4_parts_11 : decode cX4_parts 11 = .ok (.invokevirtual 57, 3) := by decide +kernel
theorem dX4_parts_14 : decode cX4_parts 14 = .ok (.iconst (-1), 1) := by decide +kernel
theorem dX4_parts_15 : decode cX4_parts 15 = .ok (.if_icmp .eq 6, 3) := by decide +kernel
theorem dX4_parts_18 : decode cX4_parts 18 = .ok (.iinc 1 1, 3) := by decide +kernel
theorem dX4_parts_21 : decode cX4_parts 21 = .ok (.iinc 2 1, 3) := by decide +kernel
theorem dX4_parts_24 : decode cX4_parts 24 = .ok (.goto (-20), 3) := by decide +kernel
theorem dX4_parts_27 : decode cX4_parts 27 = .ok (.iload_n 1, 1) := by decide +kernel
theorem dX4_parts_28 : decode cX4_parts 28 = .ok (.ireturn, 1) := by decide +kernel
theorem dX4_partBegin_0 : decode cX4_partBegin 0 = .ok (.aload_n 0, 1) := by decide +kernel
theorem dX4_partBegin_1 : decode cX4_partBegin 1 = .ok (.getfield 27, 3) := by decide +kernel
theorem dX4_partBegin_4 : decode cX4_partBegin 4 = .ok (.iload_n 1, 1) := by decide +kernel
theorem dX4_partBegin_5 : decode cX4_partBegin 5 = .ok (.invokestatic 61, 3) := by decide +kernel
theorem dX4_partBegin_8 : decode cX4_partBegin 8 = .ok (.ifCond .ne 5, 3) := by decide +kernel
theorem dX4_partBegin_11 : decode cX4_partBegin 11 = .ok (.iconst (-1), 1) := by decide +kernel
theorem dX4_partBegin_12 : decode cX4_partBegin 12 = .ok (.ireturn, 1) := by decide +kernel
theorem dX4_partBegin_13 : decode cX4_partBegin 13 = .ok (.iconst 0, 1) := by decide +kernel
theorem dX4_partBegin_14 : decode cX4_partBegin 14 = .ok (.istore_n 2, 1) := by decide +kernel
theorem dX4_partBegin_15 : decode cX4_partBegin 15 = .ok (.iconst 0, 1) := by decide +kernel
theorem dX4_partBegin_16 : decode cX4_partBegin 16 = .ok (.istore_n 3, 1) := by decide +kernel
theorem dX4_partBegin_17 : decode cX4_partBegin 17 = .ok (.iload_n 3, 1) := by decide +kernel
theorem dX4_partBegin_18 : decode cX4_partBegin 18 = .ok (.iload_n 1, 1) := by decide +kernel
theorem dX4_partBegin_19 : decode cX4_partBegin 19 = .ok (.if_icmp .ge 23, 3) := by decide +kernel
theorem dX4_partBegin_22 : decode cX4_partBegin 22 = .ok (.iload_n 2, 1) := by decide +kernel
theorem dX4_partBegin_23 : decode cX4_partBegin 23 = .ok (.aload_n 0, 1) := by decide +kernel
theorem dX4_partBegin_24 : decode cX4_partBegin 24 = .ok (.getfield 27, 3) := by decide +kernel
theorem dX4_partBegin_27 : decode cX4_partBegin 27 = .ok (.iload_n 3, 1) := by decide +kernel
theorem dX4_partBegin_28 : decode cX4_partBegin 28 = .ok (.invokestatic 61, 3) := by decide +kernel
theorem dX4_partBegin_31 : decode cX4_partBegin 31 = .ok (.invokestatic 65, 3) := by decide +kernel
theorem dX4_partBegin_34 : decode cX4_partBegin 34 = .ok (.iadd, 1) := by decide +kernel
theorem dX4_partBegin_35 : decode cX4_partBegin 35 = .ok (.istore_n 2, 1) := by decide +kernel
theorem dX4_partBegin_36 : decode cX4_partBegin 36 = .ok (.iinc 3 1, 3) := by decide +kernel
theorem dX4_partBegin_39 : decode cX4_partBegin 39 = .ok (.goto (-22), 3) := by decide +kernel
theorem dX4_partBegin_42 : decode cX4_partBegin 42 = .ok (.iload_n 2, 1) := by decide +kernel
theorem dX4_partBegin_43 : decode cX4_partBegin 43 = .ok (.aload_n 0, 1) := by decide +kernel
theorem dX4_partBegin_44 : decode cX4_partBegin 44 = .ok (.getfield 14, 3) := by decide +kernel
theorem dX4_partBegin_47 : decode cX4_partBegin 47 = .ok (.invokevirtual 68, 3) := by decide +kernel
theorem dX4_partBegin_50 : decode cX4_partBegin 50 = .ok (.if_icmp .ge 7, 3) := by decide +kernel
theorem dX4_partBegin_53 : decode cX4_partBegin 53 = .ok (.iload_n 2, 1) := by decide +kernel
theorem dX4_partBegin_54 : decode cX4_partBegin 54 = .ok (.goto 4, 3) := by decide +kernel
theorem dX4_partBegin_57 : decode cX4_partBegin 57 = .ok (.iconst (-1), 1) := by decide +kernel
theorem dX4_partBegin_58 : decode cX4_partBegin 58 = .ok (.ireturn, 1) := by decide +kernel
theorem dX4_partBytes_0 : decode cX4_partBytes 0 = .ok (.aload_n 0, 1) := by decide +kernel
theorem dX4_partBytes_1 : decode cX4_partBytes 1 = .ok (.iload_n 1, 1) := by decide +kernel
theorem dX4_partBytes_2 : decode cX4_partBytes 2 = .ok (.invokevirtual 57, 3) := by decide +kernel
theorem dX4_partBytes_5 : decode cX4_partBytes 5 = .ok (.istore_n 2, 1) := by decide +kernel
theorem dX4_partBytes_6 : decode cX4_partBytes 6 = .ok (.iload_n 2, 1) := by decide +kernel
theorem dX4_partBytes_7 : decode cX4_partBytes 7 = .ok (.iconst (-1), 1) := by decide +kernel
theorem dX4_partBytes_8 : decode cX4_partBytes 8 = .ok (.if_icmp .ne 5, 3) := by decide +kernel
theorem dX4_partBytes_11 : decode cX4_partBytes 11 = .ok (.iconst (-1), 1) := by decide +kernel
theorem dX4_partBytes_12 : decode cX4_partBytes 12 = .ok (.ireturn, 1) := by decide +kernel
theorem dX4_partBytes_13 : decode cX4_partBytes 13 = .ok (.aload_n 0, 1) := by decide +kernel
theorem dX4_partBytes_14 : decode cX4_partBytes 14 = .ok (.getfield 27, 3) := by decide +kernel
theorem dX4_partBytes_17 : decode cX4_partBytes 17 = .ok (.iload_n 1, 1) := by decide +kernel
theorem dX4_partBytes_18 : decode cX4_partBytes 18 = .ok (.invokestatic 61, 3) := by decide +kernel
theorem dX4_partBytes_21 : decode cX4_partBytes 21 = .ok (.invokestatic 65, 3) := by decide +kernel
theorem dX4_partBytes_24 : decode cX4_partBytes 24 = .ok (.aload_n 0, 1) := by decide +kernel
theorem dX4_partBytes_25 : decode cX4_partBytes 25 = .ok (.getfield 14, 3) := by decide +kernel
theorem dX4_partBytes_28 : decode cX4_partBytes 28 = .ok (.invokevirtual 68, 3) := by decide +kernel
theorem dX4_partBytes_31 : decode cX4_partBytes 31 = .ok (.iload_n 2, 1) := by decide +kernel
theorem dX4_partBytes_32 : decode cX4_partBytes 32 = .ok (.isub, 1) := by decide +kernel
theorem dX4_partBytes_33 : decode cX4_partBytes 33 = .ok (.invokestatic 72, 3) := by decide +kernel
theorem dX4_partBytes_36 : decode cX4_partBytes 36 = .ok (.ireturn, 1) := by decide +kernel
theorem dX4_partSort_0 : decode cX4_partSort 0 = .ok (.aload_n 0, 1) := by decide +kernel
theorem dX4_partSort_1 : decode cX4_partSort 1 = .ok (.getfield 27, 3) := by decide +kernel
theorem dX4_partSort_4 : decode cX4_partSort 4 = .ok (.iload_n 1, 1) := by decide +kernel
theorem dX4_partSort_5 : decode cX4_partSort 5 = .ok (.invokestatic 61, 3) := by decide +kernel
theorem dX4_partSort_8 : decode cX4_partSort 8 = .ok (.invokestatic 77, 3) := by decide +kernel
theorem dX4_partSort_11 : decode cX4_partSort 11 = .ok (.ireturn, 1) := by decide +kernel
theorem dX4_writeAi_0 : decode cX4_writeAi 0 = .ok (.aload_n 0, 1) := by decide +kernel
theorem dX4_writeAi_1 : decode cX4_writeAi 1 = .ok (.getfield 24, 3) := by decide +kernel
theorem dX4_writeAi_4 : decode cX4_writeAi 4 = .ok (.iconst 4, 1) := by decide +kernel
theorem dX4_writeAi_5 : decode cX4_writeAi 5 = .ok (.if_icmp .ne 9, 3) := by decide +kernel
theorem dX4_writeAi_8 : decode cX4_writeAi 8 = .ok (.sipush 1000, 3) := by decide +kernel
theorem dX4_writeAi_11 : decode cX4_writeAi 11 = .ok (.goto 18, 3) := by decide +kernel
theorem dX4_writeAi_14 : decode cX4_writeAi 14 = .ok (.aload_n 0, 1) := by decide +kernel
theorem dX4_writeAi_15 : decode cX4_writeAi 15 = .ok (.getfield 24, 3) := by decide +kernel
theorem dX4_writeAi_18 : decode cX4_writeAi 18 = .ok (.iconst 3, 1) := by decide +kernel
theorem dX4_writeAi_19 : decode cX4_writeAi 19 = .ok (.if_icmp .ne 8, 3) := by decide +kernel
theorem dX4_writeAi_22 : decode cX4_writeAi 22 = .ok (.bipush 100, 2) := by decide +kernel
theorem dX4_writeAi_24 : decode cX4_writeAi 24 = .ok (.goto 5, 3) := by decide +kernel
theorem dX4_writeAi_27 : decode cX4_writeAi 27 = .ok (.bipush 10, 2) := by decide +kernel
theorem dX4_writeAi_29 : decode cX4_writeAi 29 = .ok (.istore_n 2, 1) := by decide +kernel
theorem dX4_writeAi_30 : decode cX4_writeAi 30 = .ok (.iconst 0, 1) := by decide +kernel
theorem dX4_writeAi_31 : decode cX4_writeAi 31 = .ok (.istore_n 3, 1) := by decide +kernel
theorem dX4_writeAi_32 : decode cX4_writeAi 32 = .ok (.iload_n 3, 1) := by decide +kernel
theorem dX4_writeAi_33 : decode cX4_writeAi 33 = .ok (.aload_n 0, 1) := by decide +kernel
theorem dX4_writeAi_34 : decode cX4_writeAi 34 = .ok (.getfield 24, 3) := by decide +kernel
theorem dX4_writeAi_37 : decode cX4_writeAi 37 = .ok (.if_icmp .ge 34, 3) := by decide +kernel
theorem dX4_writeAi_40 : decode cX4_writeAi 40 = .ok (.aload_n 1, 1) := by decide +kernel
theorem dX4_writeAi_41 : decode cX4_writeAi 41 = .ok (.bipush 48, 2) := by decide +kernel
theorem dX4_writeAi_43 : decode cX4_writeAi 43 = .ok (.aload_n 0, 1) := by decide +kernel
theorem dX4_writeAi_44 : decode cX4_writeAi 44 = .ok (.getfield 20, 3) := by decide +kernel
theorem dX4_writeAi_47 : decode cX4_writeAi 47 = .ok (.iload_n 2, 1) := by decide +kernel
theorem dX4_writeAi_48 : decode cX4_writeAi 48 = .ok (.idiv, 1) := by decide +kernel
theorem dX4_writeAi_49 : decode cX4_writeAi 49 = .ok (.bipush 10, 2) := by decide +kernel
theorem dX4_writeAi_51 : decode cX4_writeAi 51 = .ok (.irem, 1) := by decide +kernel
theorem dX4_writeAi_52 : decode cX4_writeAi 52 = .ok (.iadd, 1) := by decide +kernel
theorem dX4_writeAi_53 : decode cX4_writeAi 53 = .ok (.invokevirtual 80, 3) := by decide +kernel
theorem dX4_writeAi_56 : decode cX4_writeAi 56 = .ok (.iload_n 2, 1) := by decide +kernel
theorem dX4_writeAi_57 : decode cX4_writeAi 57 = .ok (.bipush 10, 2) := by decide +kernel
theorem dX4_writeAi_59 : decode cX4_writeAi 59 = .ok (.idiv, 1) := by decide +kernel
theorem dX4_writeAi_60 : decode cX4_writeAi 60 = .ok (.iconst 1, 1) := by decide +kernel
theorem dX4_writeAi_61 : decode cX4_writeAi 61 = .ok (.invokestatic 83, 3) := by decide +kernel
theorem dX4_writeAi_64 : decode cX4_writeAi 64 = .ok (.istore_n 2, 1) := by decide +kernel
theorem dX4_writeAi_65 : decode cX4_writeAi 65 = .ok (.iinc 3 1, 3) := by decide +kernel
theorem dX4_writeAi_68 : decode cX4_writeAi 68 = .ok (.goto (-36), 3) := by decide +kernel
theorem dX4_writeAi_71 : decode cX4_writeAi 71 = .ok (.return_, 1) := by decide +kernel
theorem dX4_writeInBrackets_0 : decode cX4_writeInBrackets 0 = .ok (.aload_n 1, 1) := by decide +kernel
theorem dX4_writeInBrackets_1 : decode cX4_writeInBrackets 1 = .ok (.bipush 40, 2) := by decide +kernel
theorem dX4_writeInBrackets_3 : decode cX4_writeInBrackets 3 = .ok (.invokevirtual 80, 3) := by decide +kernel
theorem dX4_writeInBrackets_6 : decode cX4_writeInBrackets 6 = .ok (.aload_n 0, 1) := by decide +kernel
theorem dX4_writeInBrackets_7 : decode cX4_writeInBrackets 7 = .ok (.aload_n 1, 1) := by decide +kernel
theorem dX4_writeInBrackets_8 : decode cX4_writeInBrackets 8 = .ok (.invokevirtual 86, 3) := by decide +kernel
theorem dX4_writeInBrackets_11 : decode cX4_writeInBrackets 11 = .ok (.aload_n 1, 1) := by decide +kernel
theorem dX4_writeInBrackets_12 : decode cX4_writeInBrackets 12 = .ok (.bipush 41, 2) := by decide +kernel
theorem dX4_writeInBrackets_14 : decode cX4_writeInBrackets 14 = .ok (.invokevirtual 80, 3) := by decide +kernel
theorem dX4_writeInBrackets_17 : decode cX4_writeInBrackets 17 = .ok (.iconst 0, 1) := by decide +kernel
theorem dX4_writeInBrackets_18 : decode cX4_writeInBrackets 18 = .ok (.istore_n 2, 1) := by decide +kernel
theorem dX4_writeInBrackets_19 : decode cX4_writeInBrackets 19 = .ok (.iload_n 2, 1) := by decide +kernel
theorem dX4_writeInBrackets_20 : decode cX4_writeInBrackets 20 = .ok (.aload_n 0, 1) := by decide +kernel
theorem dX4_writeInBrackets_21 : decode cX4_writeInBrackets 21 = .ok (.getfield 14, 3) := by decide +kernel
theorem dX4_writeInBrackets_24 : decode cX4_writeInBrackets 24 = .ok (.invokevirtual 68, 3) := by decide +kernel
theorem dX4_writeInBrackets_27 : decode cX4_writeInBrackets 27 = .ok (.if_icmp .ge 40, 3) := by decide +kernel
theorem dX4_writeInBrackets_30 : decode cX4_writeInBrackets 30 = .ok (.aload_n 0, 1) := by decide +kernel
theorem dX4_writeInBrackets_31 : decode cX4_writeInBrackets 31 = .ok (.getfield 14, 3) := by decide +kernel
theorem dX4_writeInBrackets_34 : decode cX4_writeInBrackets 34 = .ok (.iload_n 2, 1) := by decide +kernel
theorem dX4_writeInBrackets_35 : decode cX4_writeInBrackets 35 = .ok (.invokevirtual 89, 3) := by decide +kernel
theorem dX4_writeInBrackets_38 : decode cX4_writeInBrackets 38 = .ok (.bipush 40, 2) := by decide +kernel
theorem dX4_writeInBrackets_40 : decode cX4_writeInBrackets 40 = .ok (.if_icmp .ne 9, 3) := by decide +kernel
theorem dX4_writeInBrackets_43 : decode cX4_writeInBrackets 43 = .ok (.aload_n 1, 1) := by decide +kernel
theorem dX4_writeInBrackets_44 : decode cX4_writeInBrackets 44 = .ok (.bipush 92, 2) := by decide +kernel
theorem dX4_writeInBrackets_46 : decode cX4_writeInBrackets 46 = .ok (.invokevirtual 80, 3) := by decide +kernel
theorem dX4_writeInBrackets_49 : decode cX4_writeInBrackets 49 = .ok (.aload_n 1, 1) := by decide +kernel
theorem dX4_writeInBrackets_50 : decode cX4_writeInBrackets 50 = .ok (.aload_n 0, 1) := by decide +kernel
theorem dX4_writeInBrackets_51 : decode cX4_writeInBrackets 51 = .ok (.getfield 14, 3) := by decide +kernel
theorem dX4_writeInBrackets_54 : decode cX4_writeInBrackets 54 = .ok (.iload_n 2, 1) := by decide +kernel
theorem dX4_writeInBrackets_55 : decode cX4_writeInBrackets 55 = .ok (.invokevirtual 89, 3) := by decide +kernel
theorem dX4_writeInBrackets_58 : decode cX4_writeInBrackets 58 = .ok (.invokevirtual 80, 3) := by decide +kernel
theorem dX4_writeInBrackets_61 : decode cX4_writeInBrackets 61 = .ok (.iinc 2 1, 3) := by decide +kernel
theorem dX4_writeInBrackets_64 : decode cX4_writeInBrackets 64 = .ok (.goto (-45), 3) := by decide +kernel
theorem dX4_writeInBrackets_67 : decode cX4_writeInBrackets 67 = .ok (.return_, 1) := by decide +kernel
theorem dX5_init_0 : decode cX5_init 0 = .ok (.aload_n 0, 1) := by decide +kernel
theorem dX5_init_1 : decode cX5_init 1 = .ok (.invokespecial 3, 3) := by decide +kernel
theorem dX5_init_4 : decode cX5_init 4 = .ok (.aload_n 0, 1) := by decide +kernel
theorem dX5_init_5 : decode cX5_init 5 = .ok (.bipush 50, 2) := by decide +kernel
theorem dX5_init_7 : decode cX5_init 7 = .ok (.newarray .int, 2) := by decide +kernel
theorem dX5_init_9 : decode cX5_init 9 = .ok (.putfield 9, 3) := by decide +kernel
theorem dX5_init_12 : decode cX5_init 12 = .ok (.aload_n 0, 1) := by decide +kernel
theorem dX5_init_13 : decode cX5_init 13 = .ok (.bipush 50, 2) := by decide +kernel
theorem dX5_init_15 : decode cX5_init 15 = .ok (.newarray .int, 2) := by decide +kernel
theorem dX5_init_17 : decode cX5_init 17 = .ok (.putfield 15, 3) := by decide +kernel
theorem dX5_init_20 : decode cX5_init 20 = .ok (.aload_n 0, 1) := by decide +kernel
theorem dX5_init_21 : decode cX5_init 21 = .ok (.new 18, 3) := by decide +kernel
theorem dX5_init_24 : decode cX5_init 24 = .ok (.dup, 1) := by decide +kernel
theorem dX5_init_25 : decode cX5_init 25 = .ok (.iconst 0, 1) := by decide +kernel
theorem dX5_init_26 : decode cX5_init 26 = .ok (.invokespecial 20, 3) := by decide +kernel
theorem dX5_init_29 : decode cX5_init 29 = .ok (.putfield 23, 3) := by decide +kernel
theorem dX5_init_32 : decode cX5_init 32 = .ok (.return_, 1) := by decide +kernel
theorem dX5_encode_0 : decode cX5_encode 0 = .ok (.aload_n 0, 1) := by decide +kernel
theorem dX5_encode_1 : decode cX5_encode 1 = .ok (.aload_n 1, 1) := by decide +kernel
theorem dX5_encode_2 : decode cX5_encode 2 = .ok (.putfield 23, 3) := by decide +kernel
theorem dX5_encode_5 : decode cX5_encode 5 = .ok (.aload_n 0, 1) := by decide +kernel
theorem dX5_encode_6 : decode cX5_encode 6 = .ok (.invokevirtual 27, 3) := by decide +kernel
theorem dX5_encode_9 : decode cX5_encode 9 = .ok (.aload_n 2, 1) := by decide +kernel
theorem dX5_encode_10 : decode cX5_encode 10 = .ok (.invokevirtual 30, 3) := by decide +kernel
theorem dX5_encode_13 : decode cX5_encode 13 = .ok (.aload_n 0, 1) := by decide +kernel
theorem dX5_encode_14 : decode cX5_encode 14 = .ok (.getfield 15, 3) := by decide +kernel
theorem dX5_encode_17 : decode cX5_encode 17 = .ok (.iconst 0, 1) := by decide +kernel
theorem dX5_encode_18 : decode cX5_encode 18 = .ok (.iaload, 1) := by decide +kernel
theorem dX5_encode_19 : decode cX5_encode 19 = .ok (.aload_n 0, 1) := by decide +kernel
theorem dX5_encode_20 : decode cX5_encode 20 = .ok (.getfield 9, 3) := by decide +kernel
theorem dX5_encode_23 : decode cX5_encode 23 = .ok (.iconst 0, 1) := by decide +kernel
theorem dX5_encode_24 : decode cX5_encode 24 = .ok (.iaload, 1) := by decide +kernel
theorem dX5_encode_25 : decode cX5_encode 25 = .ok (.if_icmp .ge 7, 3) := by decide +kernel
theorem dX5_encode_28 : decode cX5_encode 28 = .ok (.iconst 1, 1) := by decide +kernel
theorem dX5_encode_29 : decode cX5_encode 29 = .ok (.goto 4, 3) := by decide +kernel
theorem dX5_encode_32 : decode cX5_encode 32 = .ok (.iconst 0, 1) := by decide +kernel
theorem dX5_encode_33 : decode cX5_encode 33 = .ok (.istore_n 3, 1) := by decide +kernel
theorem dX5_encode_34 : decode cX5_encode 34 = .ok (.aload_n 2, 1) := by decide +kernel
theorem dX5_encode_35 : decode cX5_encode 35 = .ok (.iload_n 3, 1) := by decide +kernel
theorem dX5_encode_36 : decode cX5_encode 36 = .ok (.ifCond .eq 8, 3) := by decide +kernel
theorem dX5_encode_39 : decode cX5_encode 39 = .ok (.bipush 105, 2) := by decide +kernel
theorem dX5_encode_41 : decode cX5_encode 41 = .ok (.goto 5, 3) := by decide +kernel
theorem dX5_encode_44 : decode cX5_encode 44 = .ok (.bipush 104, 2) := by decide +kernel
theorem dX5_encode_46 : decode cX5_encode 46 = .ok (.invokevirtual 35, 3) := by decide +kernel
theorem dX5_encode_49 : decode cX5_encode 49 = .ok (.aload_n 2, 1) := by decide +kernel
theorem dX5_encode_50 : decode cX5_encode 50 = .ok (.bipush 102, 2) := by decide +kernel
theorem dX5_encode_52 : decode cX5_encode 52 = .ok (.invokevirtual 35, 3) := by decide +kernel
theorem dX5_encode_55 : decode cX5_encode 55 = .ok (.iconst 0, 1) := by decide +kernel
theorem dX5_encode_56 : decode cX5_encode 56 = .ok (.istore 4, 2) := by decide +kernel
theorem dX5_encode_58 : decode cX5_encode 58 = .ok (.iconst 0, 1) := by decide +kernel
theorem dX5_encode_59 : decode cX5_encode 59 = .ok (.istore 5, 2) := by decide +kernel
theorem dX5_encode_61 : decode cX5_encode 61 = .ok (.iload 5, 2) := by decide +kernel
theorem dX5_encode_63 : decode cX5_encode 63 = .ok (.bipush 96, 2) := by decide +kernel
theorem dX5_encode_65 : decode cX5_encode 65 = .ok (.if_icmp .ge 89, 3) := by decide +kernel
theorem dX5_encode_68 : decode cX5_encode 68 = .ok (.iload 4, 2) := by decide +kernel
theorem dX5_encode_70 : decode cX5_encode 70 = .ok (.aload_n 0, 1) := by decide +kernel
theorem dX5_encode_71 : decode cX5_encode 71 = .ok (.getfield 23, 3) := by decide +kernel
theorem dX5_encode_74 : decode cX5_encode 74 = .ok (.invokevirtual 38, 3) := by decide +kernel
theorem dX5_encode_77 : decode cX5_encode 77 = .ok (.if_icmp .ge 77, 3) := by decide +kernel
theorem dX5_encode_80 : decode cX5_encode 80 = .ok (.aload_n 0, 1) := by decide +kernel
theorem dX5_encode_81 : decode cX5_encode 81 = .ok (.iload 4, 2) := by decide +kernel
theorem dX5_encode_83 : decode cX5_encode 83 = .ok (.iload_n 3, 1) := by decide +kernel
theorem dX5_encode_84 : decode cX5_encode 84 = .ok (.invokevirtual 42, 3) := by decide +kernel
theorem dX5_encode_87 : decode cX5_encode 87 = .ok (.ifCond .eq 31, 3) := by decide +kernel
theorem dX5_encode_90 : decode cX5_encode 90 = .ok (.aload_n 2, 1) := by decide +kernel
theorem dX5_encode_91 : decode cX5_encode 91 = .ok (.iload_n 3, 1) := by decide +kernel
theorem dX5_encode_92 : decode cX5_encode 92 = .ok (.ifCond .eq 8, 3) := by decide +kernel
theorem dX5_encode_95 : decode cX5_encode 95 = .ok (.bipush 100, 2) := by decide +kernel
theorem dX5_encode_97 : decode cX5_encode 97 = .ok (.goto 5, 3) := by decide +kernel
theorem dX5_encode_100 : decode cX5_encode 100 = .ok (.bipush 99, 2) := by decide +kernel
theorem dX5_encode_102 : decode cX5_encode 102 = .ok (.invokevirtual 35, 3) := by decide +kernel
theorem dX5_encode_105 : decode cX5_encode 105 = .ok (.iload_n 3, 1) := by decide +kernel
theorem dX5_encode_106 : decode cX5_encode 106 = .ok (.ifCond .ne 7, 3) := by decide +kernel
theorem dX5_encode_109 : decode cX5_encode 109 = .ok (.iconst 1, 1) := by decide +kernel
theorem dX5_encode_110 : decode cX5_encode 110 = .ok (.goto 4, 3) := by decide +kernel
theorem dX5_encode_113 : decode cX5_encode 113 = .ok (.iconst 0, 1) := by decide +kernel
theorem dX5_encode_114 : decode cX5_encode 114 = .ok (.istore_n 3, 1) := by decide +kernel
theorem dX5_encode_115 : decode cX5_encode 115 = .ok (.goto 33, 3) := by decide +kernel
theorem dX5_encode_118 : decode cX5_encode 118 = .ok (.aload_n 2, 1) := by decide +kernel
theorem dX5_encode_119 : decode cX5_encode 119 = .ok (.aload_n 0, 1) := by decide +kernel
theorem dX5_encode_120 : decode cX5_encode 120 = .ok (.iload 4, 2) := by decide +kernel
theorem dX5_encode_122 : decode cX5_encode 122 = .ok (.iload_n 3, 1) := by decide +kernel
theorem dX5_encode_123 : decode cX5_encode 123 = .ok (.invokevirtual 46, 3) := by decide +kernel
theorem dX5_encode_126 : decode cX5_encode 126 = .ok (.invokevirtual 35, 3) := by decide +kernel
theorem dX5_encode_129 : decode cX5_encode 129 = .ok (.iload 4, 2) := by decide +kernel
theorem dX5_encode_131 : decode cX5_encode 131 = .ok (.iload_n 3, 1) := by decide +kernel
theorem dX5_encode_132 : decode cX5_encode 132 = .ok (.ifCond .eq 12, 3) := by decide +kernel
theorem dX5_encode_135 : decode cX5_encode 135 = .ok (.aload_n 0, 1) := by decide +kernel
theorem dX5_encode_136 : decode cX5_encode 136 = .ok (.iload 4, 2) := by decide +kernel
theorem dX5_encode_138 : decode cX5_encode 138 = .ok (.invokevirtual 50, 3) := by decide +kernel
theorem dX5_encode_141 : decode cX5_encode 141 = .ok (.goto 4, 3) := by decide +kernel
theorem dX5_encode_144 : decode cX5_encode 144 = .ok (.iconst 1, 1) := by decide +kernel
theorem dX5_encode_145 : decode cX5_encode 145 = .ok (.iadd, 1) := by decide +kernel
theorem dX5_encode_146 : decode cX5_encode 146 = .ok (.istore 4, 2) := by decide +kernel
theorem dX5_encode_148 : decode cX5_encode 148 = .ok (.iinc 5 1, 3) := by decide +kernel
theorem dX5_encode_151 : decode cX5_encode 151 = .ok (.goto (-90), 3) := by decide +kernel
theorem dX5_encode_154 : decode cX5_encode 154 = .ok (.aload_n 2, 1) := by decide +kernel
theorem dX5_encode_155 : decode cX5_encode 155 = .ok (.aload_n 2, 1) := by decide +kernel
theorem dX5_encode_156 : decode cX5_encode 156 = .ok (.aload_n 2, 1) := by decide +kernel
theorem dX5_encode_157 : decode cX5_encode 157 = .ok (.invokevirtual 38, 3) := by decide +kernel
theorem dX5_encode_160 : decode cX5_encode 160 = .ok (.invokestatic 54, 3) := by decide +kernel
theorem dX5_encode_163 : decode cX5_encode 163 = .ok (.invokevirtual 35, 3) := by decide +kernel
theorem dX5_encode_166 : decode cX5_encode 166 = .ok (.aload_n 2, 1) := by decide +kernel
theorem dX5_encode_167 : decode cX5_encode 167 = .ok (.bipush 106, 2) := by decide +kernel
theorem dX5_encode_169 : decode cX5_encode 169 = .ok (.invokevirtual 35, 3) := by decide +kernel
theorem dX5_encode_172 : decode cX5_encode 172 = .ok (.return_, 1) := by decide +kernel
theorem dX5_countBackwards_0 : decode cX5_countBackwards 0 = .ok (.aload_n 0, 1) := by decide +kernel
theorem dX5_countBackwards_1 : decode cX5_countBackwards 1 = .ok (.getfield 23, 3) := by decide +kernel
theorem dX5_countBackwards_4 : decode cX5_countBackwards 4 = .ok (.invokevirtual 38, 3) := by decide +kernel
theorem dX5_countBackwards_7 : decode cX5_countBackwards 7 = .ok (.bipush 48, 2) := by decide +kernel
theorem dX5_countBackwards_9 : decode cX5_countBackwards 9 = .ok (.invokestatic 58, 3) := by decide +kernel
theorem dX5_countBackwards_12 : decode cX5_countBackwards 12 = .ok (.istore_n 1, 1) := by decide +kernel
theorem dX5_countBackwards_13 : decode cX5_countBackwards 13 = .ok (.aload_n 0, 1) := by decide +kernel
theorem dX5_countBackwards_14 : decode cX5_countBackwards 14 = .ok (.getfield 9, 3) := by decide +kernel
theorem dX5_countBackwards_17 : decode cX5_countBackwards 17 = .ok (.iload_n 1, 1) := by decide +kernel
theorem dX5_countBackwards_18 : decode cX5_countBackwards 18 = .ok (.iconst 0, 1) := by decide +kernel
theorem dX5_countBackwards_19 : decode cX5_countBackwards 19 = .ok (.iastore, 1) := by decide +kernel
theorem dX5_countBackwards_20 : decode cX5_countBackwards 20 = .ok (.aload_n 0, 1) := by decide +kernel
theorem dX5_countBackwards_21 : decode cX5_countBackwards 21 = .ok (.getfield 15, 3) := by decide +kernel
theorem dX5_countBackwards_24 : decode cX5_countBackwards 24 = .ok (.iload_n 1, 1) := by decide +kernel
theorem dX5_countBackwards_25 : decode cX5_countBackwards 25 = .ok (.iconst 0, 1) := by decide +kernel
theorem dX5_countBackwards_26 : decode cX5_countBackwards 26 = .ok (.iastore, 1) := by decide +kernel
theorem dX5_countBackwards_27 : decode cX5_countBackwards 27 = .ok (.iload_n 1, 1) := by decide +kernel
theorem dX5_countBackwards_28 : decode cX5_countBackwards 28 = .ok (.iconst 1, 1) := by decide +kernel
theorem dX5_countBackwards_29 : decode cX5_countBackwards 29 = .ok (.isub, 1) := by decide +kernel
theorem dX5_countBackwards_30 : decode cX5_countBackwards 30 = .ok (.istore_n 2, 1) := by decide +kernel
theorem dX5_countBackwards_31 : decode cX5_countBackwards 31 = .ok (.iload_n 2, 1) := by decide +kernel
theorem dX5_countBackwards_32 : decode cX5_countBackwards 32 = .ok (.ifCond .lt 52, 3) := by decide +kernel
theorem dX5_countBackwards_35 : decode cX5_countBackwards 35 = .ok (.aload_n 0, 1) := by decide +kernel
theorem dX5_countBackwards_36 : decode cX5_countBackwards 36 = .ok (.iload_n 2, 1) := by decide +kernel
theorem dX5_countBackwards_37 : decode cX5_countBackwards 37 = .ok (.iconst 0, 1) := by decide +kernel
theorem dX5_countBackwards_38 : decode cX5_countBackwards 38 = .ok (.invokevirtual 64, 3) := by decide +kernel
theorem dX5_countBackwards_41 : decode cX5_countBackwards 41 = .ok (.istore_n 3, 1) := by decide +kernel
theorem dX5_countBackwards_42 : decode cX5_countBackwards 42 = .ok (.aload_n 0, 1) := by decide +kernel
theorem dX5_countBackwards_43 : decode cX5_countBackwards 43 = .ok (.iload_n 2, 1) := by decide +kernel
theorem dX5_countBackwards_44 : decode cX5_countBackwards 44 = .ok (.iconst 1, 1) := by decide +kernel
theorem dX5_countBackwards_45 : decode cX5_countBackwards 45 = .ok (.invokevirtual 64, 3) := by decide +kernel
theorem dX5_countBackwards_48 : decode cX5_countBackwards 48 = .ok (.istore 4, 2) := by decide +kernel
theorem dX5_countBackwards_50 : decode cX5_countBackwards 50 = .ok (.aload_n 0, 1) := by decide +kernel
theorem dX5_countBackwards_51 : decode cX5_countBackwards 51 = .ok (.getfield 9, 3) := by decide +kernel
theorem dX5_countBackwards_54 : decode cX5_countBackwards 54 = .ok (.iload_n 2, 1) := by decide +kernel
theorem dX5_countBackwards_55 : decode cX5_countBackwards 55 = .ok (.iload_n 3, 1) := by decide +kernel
theorem dX5_countBackwards_56 : decode cX5_countBackwards 56 = .ok (.iload 4, 2) := by decide +kernel
theorem dX5_countBackwards_58 : decode cX5_countBackwards 58 = .ok (.iconst 1, 1) := by decide +kernel
theorem dX5_countBackwards_59 : decode cX5_countBackwards 59 = .ok (.iadd, 1) := by decide +kernel
theorem dX5_countBackwards_60 : decode cX5_countBackwards 60 = .ok (.invokestatic 58, 3) := by decide +kernel
theorem dX5_countBackwards_63 : decode cX5_countBackwards 63 = .ok (.iastore, 1) := by decide +kernel
theorem dX5_countBackwards_64 : decode cX5_countBackwards 64 = .ok (.aload_n 0, 1) := by decide +kernel
theorem dX5_countBackwards_65 : decode cX5_countBackwards 65 = .ok (.getfield 15, 3) := by decide +kernel
theorem dX5_countBackwards_68 : decode cX5_countBackwards 68 = .ok (.iload_n 2, 1) := by decide +kernel
theorem dX5_countBackwards_69 : decode cX5_countBackwards 69 = .ok (.iload 4, 2) := by decide +kernel
theorem dX5_countBackwards_71 : decode cX5_countBackwards 71 = .ok (.iload_n 3, 1) := by decide +kernel
theorem dX5_countBackwards_72 : decode cX5_countBackwards 72 = .ok (.iconst 1, 1) := by decide +kernel
theorem dX5_countBackwards_73 : decode cX5_countBackwards 73 = .ok (.iadd, 1) := by decide +kernel
theorem dX5_countBackwards_74 : decode cX5_countBackwards 74 = .ok (.invokestatic 58, 3) := by decide +kernel
theorem dX5_countBackwards_77 : decode cX5_countBackwards 77 = .ok (.iastore, 1) := by decide +kernel
theorem dX5_countBackwards_78 : decode cX5_countBackwards 78 = .ok (.iinc 2 (-1), 3) := by decide +kernel
theorem dX5_countBackwards_81 : decode cX5_countBackwards 81 = .ok (.goto (-50), 3) := by decide +kernel
theorem dX5_countBackwards_84 : decode cX5_countBackwards 84 = .ok (.return_, 1) := by decide +kernel
theorem dX5_straightCost_0 : decode cX5_straightCost 0 = .ok (.iload_n 2, 1) := by decide +kernel
theorem dX5_straightCost_1 : decode cX5_straightCost 1 = .ok (.ifCond .ne 14, 3) := by decide +kernel
theorem dX5_straightCost_4 : decode cX5_straightCost 4 = .ok (.iconst 1, 1) := by decide +kernel
theorem dX5_straightCost_5 : decode cX5_straightCost 5 = .ok (.aload_n 0, 1) := by decide +kernel
theorem dX5_straightCost_6 : decode cX5_straightCost 6 = .ok (.iload_n 1, 1) := by decide +kernel
theorem dX5_straightCost_7 : decode cX5_straightCost 7 = .ok (.iconst 1, 1) := by decide +kernel
theorem dX5_straightCost_8 : decode cX5_straightCost 8 = .ok (.iadd, 1) := by decide +kernel
theorem dX5_straightCost_9 : decode cX5_straightCost 9 = .ok (.iconst 0, 1) := by decide +kernel
theorem dX5_straightCost_10 : decode cX5_straightCost 10 = .ok (.invokevirtual 67, 3) := by decide +kernel
theorem dX5_straightCost_13 : decode cX5_straightCost 13 = .ok (.iadd, 1) := by decide +kernel
theorem dX5_straightCost_14 : decode cX5_straightCost 14 = .ok (.ireturn, 1) := by decide +kernel
theorem dX5_straightCost_15 : decode cX5_straightCost 15 = .ok (.aload_n 0, 1) := by decide +kernel
theorem dX5_straightCost_16 : decode cX5_straightCost 16 = .ok (.iload_n 1, 1) := by decide +kernel
theorem dX5_straightCost_17 : decode cX5_straightCost 17 = .ok (.invokevirtual 50, 3) := by decide +kernel
theorem dX5_straightCost_20 : decode cX5_straightCost 20 = .ok (.istore_n 3, 1) := by decide +kernel
theorem dX5_straightCost_21 : decode cX5_straightCost 21 = .ok (.iload_n 3, 1) := by decide +kernel
theorem dX5_straightCost_22 : decode cX5_straightCost 22 = .ok (.ifCond .ne 8, 3) := by decide +kernel
theorem dX5_straightCost_25 : decode cX5_straightCost 25 = .ok (.ldc 70, 2) := by decide +kernel
theorem dX5_straightCost_27 : decode cX5_straightCost 27 = .ok (.goto 13, 3) := by decide +kernel
theorem dX5_straightCost_30 : decode cX5_straightCost 30 = .ok (.iconst 1, 1) := by decide +kernel
theorem dX5_straightCost_31 : decode cX5_straightCost 31 = .ok (.aload_n 0, 1) := by decide +kernel
theorem dX5_straightCost_32 : decode cX5_straightCost 32 = .ok (.iload_n 1, 1) := by decide +kernel
theorem dX5_straightCost_33 : decode cX5_straightCost 33 = .ok (.iload_n 3, 1) := by decide +kernel
theorem dX5_straightCost_34 : decode cX5_straightCost 34 = .ok (.iadd, 1) := by decide +kernel
theorem dX5_straightCost_35 : decode cX5_straightCost 35 = .ok (.iconst 1, 1) := by decide +kernel
theorem dX5_straightCost_36 : decode cX5_straightCost 36 = .ok (.invokevirtual 67, 3) := by decide +kernel
theorem dX5_straightCost_39 : decode cX5_straightCost 39 = .ok (.iadd, 1) := by decide +kernel
theorem dX5_straightCost_40 : decode cX5_straightCost 40 = .ok (.ireturn, 1) := by decide +kernel
theorem dX5_costAt_0 : decode cX5_costAt 0 = .ok (.iload_n 1, 1) := by decide +kernel
theorem dX5_costAt_1 : decode cX5_costAt 1 = .ok (.ifCond .lt 23, 3) := by decide +kernel
theorem dX5_costAt_4 : decode cX5_costAt 4 = .ok (.iload_n 1, 1) := by decide +kernel
theorem dX5_costAt_5 : decode cX5_costAt 5 = .ok (.aload_n 0, 1) := by decide +kernel
theorem dX5_costAt_6 : decode cX5_costAt 6 = .ok (.getfield 23, 3) := by decide +kernel
theorem dX5_costAt_9 : decode cX5_costAt 9 = .ok (.invokevirtual 38, 3) := by decide +kernel
theorem dX5_costAt_12 : decode cX5_costAt 12 = .ok (.if_icmp .gt 12, 3) := by decide +kernel
theorem dX5_costAt_15 : decode cX5_costAt 15 = .ok (.iload_n 1, 1) := by decide +kernel
theorem dX5_costAt_16 : decode cX5_costAt 16 = .ok (.aload_n 0, 1) := by decide +kernel
theorem dX5_costAt_17 : decode cX5_costAt 17 = .ok (.getfield 9, 3) := by decide +kernel
theorem dX5_costAt_20 : decode cX5_costAt 20 = .ok (.arraylength, 1) := by decide +kernel
theorem dX5_costAt_21 : decode cX5_costAt 21 = .ok (.if_icmp .lt 6, 3) := by decide +kernel
theorem dX5_costAt_24 : decode cX5_costAt 24 = .ok (.ldc 70, 2) := by decide +kernel
theorem dX5_costAt_26 : decode cX5_costAt 26 = .ok (.ireturn, 1) := by decide +kernel
theorem dX5_costAt_27 : decode cX5_costAt 27 = .ok (.iload_n 2, 1) := by decide +kernel
theorem dX5_costAt_28 : decode cX5_costAt 28 = .ok (.ifCond .eq 12, 3) := by decide +kernel
theorem dX5_costAt_31 : decode cX5_costAt 31 = .ok (.aload_n 0, 1) := by decide +kernel
theorem dX5_costAt_32 : decode cX5_costAt 32 = .ok (.getfield 15, 3) := by decide +kernel
theorem dX5_costAt_35 : decode cX5_costAt 35 = .ok (.iload_n 1, 1) := by decide +kernel
theorem dX5_costAt_36 : decode cX5_costAt 36 = .ok (.iaload, 1) := by decide +kernel
theorem dX5_costAt_37 : decode cX5_costAt 37 = .ok (.goto 9, 3) := by decide +kernel
theorem dX5_costAt_40 : decode cX5_costAt 40 = .ok (.aload_n 0, 1) := by decide +kernel
theorem dX5_costAt_41 : decode cX5_costAt 41 = .ok (.getfield 9, 3) := by decide +kernel
theorem dX5_costAt_44 : decode cX5_costAt 44 = .ok (.iload_n 1, 1) := by decide +kernel
theorem dX5_costAt_45 : decode cX5_costAt 45 = .ok (.iaload, 1) := by decide +kernel
theorem dX5_costAt_46 : decode cX5_costAt 46 = .ok (.ireturn, 1) := by decide +kernel
theorem dX5_bytesInC_0 : decode cX5_bytesInC 0 = .ok (.aload_n 0, 1) := by decide +kernel
theorem dX5_bytesInC_1 : decode cX5_bytesInC 1 = .ok (.getfield 23, 3) := by decide +kernel
theorem dX5_bytesInC_4 : decode cX5_bytesInC 4 = .ok (.iload_n 1, 1) := by decide +kernel
theorem dX5_bytesInC_5 : decode cX5_bytesInC 5 = .ok (.invokevirtual 71, 3) := by decide +kernel
theorem dX5_bytesInC_8 : decode cX5_bytesInC 8 = .ok (.bipush 29, 2) := by decide +kernel
theorem dX5_bytesInC_10 : decode cX5_bytesInC 10 = .ok (.if_icmp .ne 5, 3) := by decide +kernel
theorem dX5_bytesInC_13 : decode cX5_bytesInC 13 = .ok (.iconst 1, 1) := by decide +kernel
theorem dX5_bytesInC_14 : decode cX5_bytesInC 14 = .ok (.ireturn, 1) := by decide +kernel
theorem dX5_bytesInC_15 : decode cX5_bytesInC 15 = .ok (.aload_n 0, 1) := by decide +kernel
theorem dX5_bytesInC_16 : decode cX5_bytesInC 16 = .ok (.getfield 23, 3) := by decide +kernel
theorem dX5_bytesInC_19 : decode cX5_bytesInC 19 = .ok (.iload_n 1, 1) := by decide +kernel
theorem dX5_bytesInC_20 : decode cX5_bytesInC 20 = .ok (.iconst 2, 1) := by decide +kernel
theorem dX5_bytesInC_21 : decode cX5_bytesInC 21 = .ok (.invokevirtual 74, 3) := by decide +kernel
theorem dX5_bytesInC_24 : decode cX5_bytesInC 24 = .ok (.ifCond .eq 7, 3) := by decide +kernel
theorem dX5_bytesInC_27 : decode cX5_bytesInC 27 = .ok (.iconst 2, 1) := by decide +kernel
theorem dX5_bytesInC_28 : decode cX5_bytesInC 28 = .ok (.goto 4, 3) := by decide +kernel
theorem dX5_bytesInC_31 : decode cX5_bytesInC 31 = .ok (.iconst 0, 1) := by decide +kernel
theorem dX5_bytesInC_32 : decode cX5_bytesInC 32 = .ok (.ireturn, 1) := by decide +kernel
theorem dX5_straightCharacter_0 : decode cX5_straightCharacter 0 = .ok (.aload_n 0, 1) := by decide +kernel
theorem dX5_straightCharacter_1 : decode cX5_straightCharacter 1 = .ok (.getfield 23, 3) := by decide +kernel
theorem dX5_straightCharacter_4 : decode cX5_straightCharacter 4 = .ok (.iload_n 1, 1) := by decide +kernel
theorem dX5_straightCharacter_5 : decode cX5_straightCharacter 5 = .ok (.invokevirtual 71, 3) := by decide +kernel
theorem dX5_straightCharacter_8 : decode cX5_straightCharacter 8 = .ok (.bipush 29, 2) := by decide +kernel
theorem dX5_straightCharacter_10 : decode cX5_straightCharacter 10 = .ok (.if_icmp .ne 6, 3) := by decide +kernel
theorem dX5_straightCharacter_13 : decode cX5_straightCharacter 13 = .ok (.bipush 102, 2) := by decide +kernel
theorem dX5_straightCharacter_15 : decode cX5_straightCharacter 15 = .ok (.ireturn, 1) := by decide +kernel
theorem dX5_straightCharacter_16 : decode cX5_straightCharacter 16 = .ok (.iload_n 2, 1) := by decide +kernel
theorem dX5_straightCharacter_17 : decode cX5_straightCharacter 17 = .ok (.ifCond .eq 14, 3) := by decide +kernel
theorem dX5_straightCharacter_20 : decode cX5_straightCharacter 20 = .ok (.aload_n 0, 1) := by decide +kernel
theorem dX5_straightCharacter_21 : decode cX5_straightCharacter 21 = .ok (.getfield 23, 3) := by decide +kernel
theorem dX5_straightCharacter_24 : decode cX5_straightCharacter 24 = .ok (.iload_n 1, 1) := by decide +kernel
theorem dX5_straightCharacter_25 : decode cX5_straightCharacter 25 = .ok (.invokevirtual 78, 3) := by decide +kernel
theorem dX5_straightCharacter_28 : decode cX5_straightCharacter 28 = .ok (.goto 14, 3) := by decide +kernel
theorem dX5_straightCharacter_31 : decode cX5_straightCharacter 31 = .ok (.aload_n 0, 1) := by decide +kernel
theorem dX5_straightCharacter_32 : decode cX5_straightCharacter 32 = .ok (.getfield 23, 3) := by decide +kernel
theorem dX5_straightCharacter_35 : decode cX5_straightCharacter 35 = .ok (.iload_n 1, 1) := by decide +kernel
theorem dX5_straightCharacter_36 : decode cX5_straightCharacter 36 = .ok (.invokevirtual 71, 3) := by decide +kernel
theorem dX5_straightCharacter_39 : decode cX5_straightCharacter 39 = .ok (.bipush 32, 2) := by decide +kernel
theorem dX5_straightCharacter_41 : decode cX5_straightCharacter 41 = .ok (.isub, 1) := by decide +kernel
theorem dX5_straightCharacter_42 : decode cX5_straightCharacter 42 = .ok (.ireturn, 1) := by decide +kernel
theorem dX5_isChangeBest_0 : decode cX5_isChangeBest 0 = .ok (.aload_n 0, 1) := by decide +kernel
theorem dX5_isChangeBest_1 : decode cX5_isChangeBest 1 = .ok (.iload_n 1, 1) := by decide +kernel
theorem dX5_isChangeBest_2 : decode cX5_isChangeBest 2 = .ok (.iload_n 2, 1) := by decide +kernel
theorem dX5_isChangeBest_3 : decode cX5_isChangeBest 3 = .ok (.invokevirtual 64, 3) := by decide +kernel
theorem dX5_isChangeBest_6 : decode cX5_isChangeBest 6 = .ok (.istore_n 3, 1) := by decide +kernel
theorem dX5_isChangeBest_7 : decode cX5_isChangeBest 7 = .ok (.aload_n 0, 1) := by decide +kernel
theorem dX5_isChangeBest_8 : decode cX5_isChangeBest 8 = .ok (.iload_n 1, 1) := by decide +kernel
theorem dX5_isChangeBest_9 : decode cX5_isChangeBest 9 = .ok (.iload_n 2, 1) := by decide +kernel
theorem dX5_isChangeBest_10 : decode cX5_isChangeBest 10 = .ok (.ifCond .ne 7, 3) := by decide +kernel
theorem dX5_isChangeBest_13 : decode cX5_isChangeBest 13 = .ok (.iconst 1, 1) := by decide +kernel
theorem dX5_isChangeBest_14 : decode cX5_isChangeBest 14 = .ok (.goto 4, 3) := by decide +kernel
theorem dX5_isChangeBest_17 : decode cX5_isChangeBest 17 = .ok (.iconst 0, 1) := by decide +kernel
theorem dX5_isChangeBest_18 : decode cX5_isChangeBest 18 = .ok (.invokevirtual 64, 3) := by decide +kernel
theorem dX5_isChangeBest_21 : decode cX5_isChangeBest 21 = .ok (.iconst 1, 1) := by decide +kernel
theorem dX5_isChangeBest_22 : decode cX5_isChangeBest 22 = .ok (.iadd, 1) := by decide +kernel
theorem dX5_isChangeBest_23 : decode cX5_isChangeBest 23 = .ok (.istore 4, 2) := by decide +kernel
theorem dX5_isChangeBest_25 : decode cX5_isChangeBest 25 = .ok (.iload_n 3, 1) := by decide +kernel
theorem dX5_isChangeBest_26 : decode cX5_isChangeBest 26 = .ok (.iload 4, 2) := by decide +kernel
theorem dX5_isChangeBest_28 : decode cX5_isChangeBest 28 = .ok (.if_icmp .eq 15, 3) := by decide +kernel
theorem dX5_isChangeBest_31 : decode cX5_isChangeBest 31 = .ok (.iload 4, 2) := by decide +kernel
theorem dX5_isChangeBest_33 : decode cX5_isChangeBest 33 = .ok (.iload_n 3, 1) := by decide +kernel
theorem dX5_isChangeBest_34 : decode cX5_isChangeBest 34 = .ok (.if_icmp .ge 7, 3) := by decide +kernel
theorem dX5_isChangeBest_37 : decode cX5_isChangeBest 37 = .ok (.iconst 1, 1) := by decide +kernel
theorem dX5_isChangeBest_38 : decode cX5_isChangeBest 38 = .ok (.goto 4, 3) := by decide +kernel
theorem dX5_isChangeBest_41 : decode cX5_isChangeBest 41 = .ok (.iconst 0, 1) := by decide +kernel
theorem dX5_isChangeBest_42 : decode cX5_isChangeBest 42 = .ok (.ireturn, 1) := by decide +kernel
theorem dX5_isChangeBest_43 : decode cX5_isChangeBest 43 = .ok (.iload_n 2, 1) := by decide +kernel
theorem dX5_isChangeBest_44 : decode cX5_isChangeBest 44 = .ok (.ifCond .eq 8, 3) := by decide +kernel
theorem dX5_isChangeBest_47 : decode cX5_isChangeBest 47 = .ok (.bipush 100, 2) := by decide +kernel
theorem dX5_isChangeBest_49 : decode cX5_isChangeBest 49 = .ok (.goto 5, 3) := by decide +kernel
theorem dX5_isChangeBest_52 : decode cX5_isChangeBest 52 = .ok (.bipush 99, 2) := by decide +kernel
theorem dX5_isChangeBest_54 : decode cX5_isChangeBest 54 = .ok (.aload_n 0, 1) := by decide +kernel
theorem dX5_isChangeBest_55 : decode cX5_isChangeBest 55 = .ok (.iload_n 1, 1) := by decide +kernel
theorem dX5_isChangeBest_56 : decode cX5_isChangeBest 56 = .ok (.iload_n 2, 1) := by decide +kernel
theorem dX5_isChangeBest_57 : decode cX5_isChangeBest 57 = .ok (.invokevirtual 46, 3) := by decide +kernel
theorem dX5_isChangeBest_60 : decode cX5_isChangeBest 60 = .ok (.if_icmp .ge 7, 3) := by decide +kernel
theorem dX5_isChangeBest_63 : decode cX5_isChangeBest 63 = .ok (.iconst 1, 1) := by decide +kernel
theorem dX5_isChangeBest_64 : decode cX5_isChangeBest 64 = .ok (.goto 4, 3) := by decide +kernel
theorem dX5_isChangeBest_67 : decode cX5_isChangeBest 67 = .ok (.iconst 0, 1) := by decide +kernel
theorem dX5_isChangeBest_68 : decode cX5_isChangeBest 68 = .ok (.ireturn, 1) := by decide +kernel
theorem dX6_init_0 : decode cX6_init 0 = .ok (.aload_n 0, 1) := by decide +kernel
theorem dX6_init_1 : decode cX6_init 1 = .ok (.invokespecial 3, 3) := by decide +kernel
theorem dX6_init_4 : decode cX6_init 4 = .ok (.aload_n 0, 1) := by decide +kernel
theorem dX6_init_5 : decode cX6_init 5 = .ok (.bipush 20, 2) := by decide +kernel
theorem dX6_init_7 : decode cX6_init 7 = .ok (.anewarray 9, 3) := by decide +kernel
theorem dX6_init_10 : decode cX6_init 10 = .ok (.putfield 11, 3) := by decide +kernel
theorem dX6_init_13 : decode cX6_init 13 = .ok (.aload_n 0, 1) := by decide +kernel
theorem dX6_init_14 : decode cX6_init 14 = .ok (.bipush 20, 2) := by decide +kernel
theorem dX6_init_16 : decode cX6_init 16 = .ok (.anewarray 9, 3) := by decide +kernel
theorem dX6_init_19 : decode cX6_init 19 = .ok (.putfield 17, 3) := by decide +kernel
theorem dX6_init_22 : decode cX6_init 22 = .ok (.iconst 0, 1) := by decide +kernel
theorem dX6_init_23 : decode cX6_init 23 = .ok (.istore_n 1, 1) := by decide +kernel
theorem dX6_init_24 : decode cX6_init 24 = .ok (.iload_n 1, 1) := by decide +kernel
theorem dX6_init_25 : decode cX6_init 25 = .ok (.bipush 20, 2) := by decide +kernel
theorem dX6_init_27 : decode cX6_init 27 = .ok (.if_icmp .ge 22, 3) := by decide +kernel
theorem dX6_init_30 : decode cX6_init 30 = .ok (.aload_n 0, 1) := by decide +kernel
theorem dX6_init_31 : decode cX6_init 31 = .ok (.getfield 11, 3) := by decide +kernel
theorem dX6_init_34 : decode cX6_init 34 = .ok (.iload_n 1, 1) := by decide +kernel
theorem dX6_init_35 : decode cX6_init 35 = .ok (.new 9, 3) := by decide +kernel
theorem dX6_init_38 : decode cX6_init 38 = .ok (.dup, 1) := by decide +kernel
theorem dX6_init_39 : decode cX6_init 39 = .ok (.invokespecial 20, 3) := by decide +kernel
theorem dX6_init_42 : decode cX6_init 42 = .ok (.aastore, 1) := by decide +kernel
theorem dX6_init_43 : decode cX6_init 43 = .ok (.iinc 1 1, 3) := by decide +kernel
theorem dX6_init_46 : decode cX6_init 46 = .ok (.goto (-22), 3) := by decide +kernel
theorem dX6_init_49 : decode cX6_init 49 = .ok (.aload_n 0, 1) := by decide +kernel
theorem dX6_init_50 : decode cX6_init 50 = .ok (.iconst 0, 1) := by decide +kernel
theorem dX6_init_51 : decode cX6_init 51 = .ok (.putfield 21, 3) := by decide +kernel
theorem dX6_init_54 : decode cX6_init 54 = .ok (.return_, 1) := by decide +kernel
theorem dX6_count_0 : decode cX6_count 0 = .ok (.aload_n 0, 1) := by decide +kernel
theorem dX6_count_1 : decode cX6_count 1 = .ok (.getfield 21, 3) := by decide +kernel
theorem dX6_count_4 : decode cX6_count 4 = .ok (.ireturn, 1) := by decide +kernel
theorem dX6_clear_0 : decode cX6_clear 0 = .ok (.aload_n 0, 1) := by decide +kernel
theorem dX6_clear_1 : decode cX6_clear 1 = .ok (.iconst 0, 1) := by decide +kernel
theorem dX6_clear_2 : decode cX6_clear 2 = .ok (.putfield 21, 3) := by decide +kernel
theorem dX6_clear_5 : decode cX6_clear 5 = .ok (.return_, 1) := by decide +kernel
theorem dX6_at_0 : decode cX6_at 0 = .ok (.iload_n 1, 1) := by decide +kernel
theorem dX6_at_1 : decode cX6_at 1 = .ok (.ifCond .lt 11, 3) := by decide +kernel
theorem dX6_at_4 : decode cX6_at 4 = .ok (.iload_n 1, 1) := by decide +kernel
theorem dX6_at_5 : decode cX6_at 5 = .ok (.aload_n 0, 1) := by decide +kernel
theorem dX6_at_6 : decode cX6_at 6 = .ok (.getfield 21, 3) := by decide +kernel
theorem dX6_at_9 : decode cX6_at 9 = .ok (.if_icmp .lt 7, 3) := by decide +kernel
theorem dX6_at_12 : decode cX6_at 12 = .ok (.aconst_null, 1) := by decide +kernel
theorem dX6_at_13 : decode cX6_at 13 = .ok (.goto 9, 3) := by decide +kernel
theorem dX6_at_16 : decode cX6_at 16 = .ok (.aload_n 0, 1) := by decide +kernel
theorem dX6_at_17 : decode cX6_at 17 = .ok (.getfield 11, 3) := by decide +kernel
theorem dX6_at_20 : decode cX6_at 20 = .ok (.iload_n 1, 1) := by decide +kernel
theorem dX6_at_21 : decode cX6_at 21 = .ok (.aaload, 1) := by decide +kernel
theorem dX6_at_22 : decode cX6_at 22 = .ok (.areturn, 1) := by decide +kernel
theorem dX6_grow_0 : decode cX6_grow 0 = .ok (.aload_n 0, 1) := by decide +kernel
theorem dX6_grow_1 : decode cX6_grow 1 = .ok (.getfield 21, 3) := by decide +kernel
theorem dX6_grow_4 : decode cX6_grow 4 = .ok (.bipush 20, 2) := by decide +kernel
theorem dX6_grow_6 : decode cX6_grow 6 = .ok (.if_icmp .lt 5, 3) := by decide +kernel
theorem dX6_grow_9 : decode cX6_grow 9 = .ok (.aconst_null, 1) := by decide +kernel
theorem dX6_grow_10 : decode cX6_grow 10 = .ok (.areturn, 1) := by decide +kernel
theorem dX6_grow_11 : decode cX6_grow 11 = .ok (.aload_n 0, 1) := by decide +kernel
theorem dX6_grow_12 : decode cX6_grow 12 = .ok (.dup, 1) := by decide +kernel
theorem dX6_grow_13 : decode cX6_grow 13 = .ok (.getfield 21, 3) := by decide +kernel
theorem dX6_grow_16 : decode cX6_grow 16 = .ok (.iconst 1, 1) := by decide +kernel
theorem dX6_grow_17 : decode cX6_grow 17 = .ok (.iadd, 1) := by decide +kernel
theorem dX6_grow_18 : decode cX6_grow 18 = .ok (.putfield 21, 3) := by decide +kernel
theorem dX6_grow_21 : decode cX6_grow 21 = .ok (.aload_n 0, 1) := by decide +kernel
theorem dX6_grow_22 : decode cX6_grow 22 = .ok (.getfield 11, 3) := by decide +kernel
theorem dX6_grow_25 : decode cX6_grow 25 = .ok (.aload_n 0, 1) := by decide +kernel
theorem dX6_grow_26 : decode cX6_grow 26 = .ok (.getfield 21, 3) := by decide +kernel
theorem dX6_grow_29 : decode cX6_grow 29 = .ok (.iconst 1, 1) := by decide +kernel
theorem dX6_grow_30 : decode cX6_grow 30 = .ok (.isub, 1) := by decide +kernel
theorem dX6_grow_31 : decode cX6_grow 31 = .ok (.aaload, 1) := by decide +kernel
theorem dX6_grow_32 : decode cX6_grow 32 = .ok (.areturn, 1) := by decide +kernel
theorem dX6_copyFrom_0 : decode cX6_copyFrom 0 = .ok (.iconst 0, 1) := by decide +kernel
theorem dX6_copyFrom_1 : decode cX6_copyFrom 1 = .ok (.istore_n 2, 1) := by decide +kernel
theorem dX6_copyFrom_2 : decode cX6_copyFrom 2 = .ok (.iload_n 2, 1) := by decide +kernel
theorem dX6_copyFrom_3 : decode cX6_copyFrom 3 = .ok (.aload_n 1, 1) := by decide +kernel
theorem dX6_copyFrom_4 : decode cX6_copyFrom 4 = .ok (.getfield 21, 3) := by decide +kernel
theorem dX6_copyFrom_7 : decode cX6_copyFrom 7 = .ok (.if_icmp .ge 24, 3) := by decide +kernel
theorem dX6_copyFrom_10 : decode cX6_copyFrom 10 = .ok (.aload_n 0, 1) := by decide +kernel
theorem dX6_copyFrom_11 : decode cX6_copyFrom 11 = .ok (.getfield 11, 3) := by decide +kernel
theorem dX6_copyFrom_14 : decode cX6_copyFrom 14 = .ok (.iload_n 2, 1) := by decide +kernel
theorem dX6_copyFrom_15 : decode cX6_copyFrom 15 = .ok (.aaload, 1) := by decide +kernel
theorem dX6_copyFrom_16 : decode cX6_copyFrom 16 = .ok (.aload_n 1, 1) := by decide +kernel
theorem dX6_copyFrom_17 : decode cX6_copyFrom 17 = .ok (.getfield 11, 3) := by decide +kernel
theorem dX6_copyFrom_20 : decode cX6_copyFrom 20 = .ok (.iload_n 2, 1) := by decide +kernel
theorem dX6_copyFrom_21 : decode cX6_copyFrom 21 = .ok (.aaload, 1) := by decide +kernel
theorem dX6_copyFrom_22 : decode cX6_copyFrom 22 = .ok (.invokevirtual 25, 3) := by decide +kernel
theorem dX6_copyFrom_25 : decode cX6_copyFrom 25 = .ok (.iinc 2 1, 3) := by decide +kernel
theorem dX6_copyFrom_28 : decode cX6_copyFrom 28 = .ok (.goto (-26), 3) := by decide +kernel
theorem dX6_copyFrom_31 : decode cX6_copyFrom 31 = .ok (.aload_n 0, 1) := by decide +kernel
theorem dX6_copyFrom_32 : decode cX6_copyFrom 32 = .ok (.aload_n 1, 1) := by decide +kernel
theorem dX6_copyFrom_33 : decode cX6_copyFrom 33 = .ok (.getfield 21, 3) := by decide +kernel
theorem dX6_copyFrom_36 : decode cX6_copyFrom 36 = .ok (.putfield 21, 3) := by decide +kernel
theorem dX6_copyFrom_39 : decode cX6_copyFrom 39 = .ok (.return_, 1) := by decide +kernel
theorem dX6_append_0 : decode cX6_append 0 = .ok (.aload_n 0, 1) := by decide +kernel
theorem dX6_append_1 : decode cX6_append 1 = .ok (.getfield 21, 3) := by decide +kernel
theorem dX6_append_4 : decode cX6_append 4 = .ok (.aload_n 1, 1) := by decide +kernel
theorem dX6_append_5 : decode cX6_append 5 = .ok (.getfield 21, 3) := by decide +kernel
theorem dX6_append_8 : decode cX6_append 8 = .ok (.iadd, 1) := by decide +kernel
theorem dX6_append_9 : decode cX6_append 9 = .ok (.bipush 20, 2) := by decide +kernel
theorem dX6_append_11 : decode cX6_append 11 = .ok (.if_icmp .le 5, 3) := by decide +kernel
theorem dX6_append_14 : decode cX6_append 14 = .ok (.iconst 0, 1) := by decide +kernel
theorem dX6_append_15 : decode cX6_append 15 = .ok (.ireturn, 1) := by decide +kernel
theorem dX6_append_16 : decode cX6_append 16 = .ok (.iconst 0, 1) := by decide +kernel
theorem dX6_append_17 : decode cX6_append 17 = .ok (.istore_n 2, 1) := by decide +kernel
theorem dX6_append_18 : decode cX6_append 18 = .ok (.iload_n 2, 1) := by decide +kernel
theorem dX6_append_19 : decode cX6_append 19 = .ok (.aload_n 1, 1) := by decide +kernel
theorem dX6_append_20 : decode cX6_append 20 = .ok (.getfield 21, 3) := by decide +kernel
theorem dX6_append_23 : decode cX6_append 23 = .ok (.if_icmp .ge 29, 3) := by decide +kernel
theorem dX6_append_26 : decode cX6_append 26 = .ok (.aload_n 0, 1) := by decide +kernel
theorem dX6_append_27 : decode cX6_append 27 = .ok (.getfield 11, 3) := by decide +kernel
theorem dX6_append_30 : decode cX6_append 30 = .ok (.aload_n 0, 1) := by decide +kernel
theorem dX6_append_31 : decode cX6_append 31 = .ok (.getfield 21, 3) := by decide +kernel
theorem dX6_append_34 : decode cX6_append 34 = .ok (.iload_n 2, 1) := by decide +kernel
theorem dX6_append_35 : decode cX6_append 35 = .ok (.iadd, 1) := by decide +kernel
theorem dX6_append_36 : decode cX6_append 36 = .ok (.aaload, 1) := by decide +kernel
theorem dX6_append_37 : decode cX6_append 37 = .ok (.aload_n 1, 1) := by decide +kernel
theorem dX6_append_38 : decode cX6_append 38 = .ok (.getfield 11, 3) := by decide +kernel
theorem dX6_append_41 : decode cX6_append 41 = .ok (.iload_n 2, 1) := by decide +kernel
theorem dX6_append_42 : decode cX6_append 42 = .ok (.aaload, 1) := by decide +kernel
theorem dX6_append_43 : decode cX6_append 43 = .ok (.invokevirtual 25, 3) := by decide +kernel
theorem dX6_append_46 : decode cX6_append 46 = .ok (.iinc 2 1, 3) := by decide +kernel
theorem dX6_append_49 : decode cX6_append 49 = .ok (.goto (-31), 3) := by decide +kernel
theorem dX6_append_52 : decode cX6_append 52 = .ok (.aload_n 0, 1) := by decide +kernel
theorem dX6_append_53 : decode cX6_append 53 = .ok (.dup, 1) := by decide +kernel
theorem dX6_append_54 : decode cX6_append 54 = .ok (.getfield 21, 3) := by decide +kernel
theorem dX6_append_57 : decode cX6_append 57 = .ok (.aload_n 1, 1) := by decide +kernel
theorem dX6_append_58 : decode cX6_append 58 = .ok (.getfield 21, 3) := by decide +kernel
theorem dX6_append_61 : decode cX6_append 61 = .ok (.iadd, 1) := by decide +kernel
theorem dX6_append_62 : decode cX6_append 62 = .ok (.putfield 21, 3) := by decide +kernel
theorem dX6_append_65 : decode cX6_append 65 = .ok (.iconst 1, 1) := by decide +kernel
theorem dX6_append_66 : decode cX6_append 66 = .ok (.ireturn, 1) := by decide +kernel
theorem dX6_isSameAs_0 : decode cX6_isSameAs 0 = .ok (.aload_n 0, 1) := by decide +kernel
theorem dX6_isSameAs_1 : decode cX6_isSameAs 1 = .ok (.getfield 21, 3) := by decide +kernel
theorem dX6_isSameAs_4 : decode cX6_isSameAs 4 = .ok (.aload_n 1, 1) := by decide +kernel
theorem dX6_isSameAs_5 : decode cX6_isSameAs 5 = .ok (.getfield 21, 3) := by decide +kernel
theorem dX6_isSameAs_8 : decode cX6_isSameAs 8 = .ok (.if_icmp .eq 5, 3) := by decide +kernel
theorem dX6_isSameAs_11 : decode cX6_isSameAs 11 = .ok (.iconst 0, 1) := by decide +kernel
theorem dX6_isSameAs_12 : decode cX6_isSameAs 12 = .ok (.ireturn, 1) := by decide +kernel
theorem dX6_isSameAs_13 : decode cX6_isSameAs 13 = .ok (.iconst 0, 1) := by decide +kernel
theorem dX6_isSameAs_14 : decode cX6_isSameAs 14 = .ok (.istore_n 2, 1) := by decide +kernel
theorem dX6_isSameAs_15 : decode cX6_isSameAs 15 = .ok (.iload_n 2, 1) := by decide +kernel
theorem dX6_isSameAs_16 : decode cX6_isSameAs 16 = .ok (.aload_n 0, 1) := by decide +kernel
theorem dX6_isSameAs_17 : decode cX6_isSameAs 17 = .ok (.getfield 21, 3) := by decide +kernel
theorem dX6_isSameAs_20 : decode cX6_isSameAs 20 = .ok (.if_icmp .ge 29, 3) := by decide +kernel
theorem dX6_isSameAs_23 : decode cX6_isSameAs 23 = .ok (.aload_n 0, 1) := by decide +kernel
theorem dX6_isSameAs_24 : decode cX6_isSameAs 24 = .ok (.getfield 11, 3) := by decide +kernel
theorem dX6_isSameAs_27 : decode cX6_isSameAs 27 = .ok (.iload_n 2, 1) := by decide +kernel
theorem dX6_isSameAs_28 : decode cX6_isSameAs 28 = .ok (.aaload, 1) := by decide +kernel
theorem dX6_isSameAs_29 : decode cX6_isSameAs 29 = .ok (.aload_n 1, 1) := by decide +kernel
theorem dX6_isSameAs_30 : decode cX6_isSameAs 30 = .ok (.getfield 11, 3) := by decide +kernel
theorem dX6_isSameAs_33 : decode cX6_isSameAs 33 = .ok (.iload_n 2, 1) := by decide +kernel
theorem dX6_isSameAs_34 : decode cX6_isSameAs 34 = .ok (.aaload, 1) := by decide +kernel
theorem dX6_isSameAs_35 : decode cX6_isSameAs 35 = .ok (.invokevirtual 29, 3) := by decide +kernel
theorem dX6_isSameAs_38 : decode cX6_isSameAs 38 = .ok (.ifCond .ne 5, 3) := by decide +kernel
theorem dX6_isSameAs_41 : decode cX6_isSameAs 41 = .ok (.iconst 0, 1) := by decide +kernel
theorem dX6_isSameAs_42 : decode cX6_isSameAs 42 = .ok (.ireturn, 1) := by decide +kernel
theorem dX6_isSameAs_43 : decode cX6_isSameAs 43 = .ok (.iinc 2 1, 3) := by decide +kernel
theorem dX6_isSameAs_46 : decode cX6_isSameAs 46 = .ok (.goto (-31), 3) := by decide +kernel
theorem dX6_isSameAs_49 : decode cX6_isSameAs 49 = .ok (.iconst 1, 1) := by decide +kernel
theorem dX6_isSameAs_50 : decode cX6_isSameAs 50 = .ok (.ireturn, 1) := by decide +kernel
theorem dX6_placeOf_0 : decode cX6_placeOf 0 = .ok (.iconst 0, 1) := by decide +kernel
theorem dX6_placeOf_1 : decode cX6_placeOf 1 = .ok (.istore_n 3, 1) := by decide +kernel
theorem dX6_placeOf_2 : decode cX6_placeOf 2 = .ok (.iload_n 3, 1) := by decide +kernel
theorem dX6_placeOf_3 : decode cX6_placeOf 3 = .ok (.aload_n 0, 1) := by decide +kernel
theorem dX6_placeOf_4 : decode cX6_placeOf 4 = .ok (.getfield 21, 3) := by decide +kernel
theorem dX6_placeOf_7 : decode cX6_placeOf 7 = .ok (.if_icmp .ge 37, 3) := by decide +kernel
theorem dX6_placeOf_10 : decode cX6_placeOf 10 = .ok (.aload_n 0, 1) := by decide +kernel
theorem dX6_placeOf_11 : decode cX6_placeOf 11 = .ok (.getfield 11, 3) := by decide +kernel
theorem dX6_placeOf_14 : decode cX6_placeOf 14 = .ok (.iload_n 3, 1) := by decide +kernel
theorem dX6_placeOf_15 : decode cX6_placeOf 15 = .ok (.aaload, 1) := by decide +kernel
theorem dX6_placeOf_16 : decode cX6_placeOf 16 = .ok (.invokevirtual 33, 3) := by decide +kernel
theorem dX6_placeOf_19 : decode cX6_placeOf 19 = .ok (.iload_n 1, 1) := by decide +kernel
theorem dX6_placeOf_20 : decode cX6_placeOf 20 = .ok (.if_icmp .ne 18, 3) := by decide +kernel
theorem dX6_placeOf_23 : decode cX6_placeOf 23 = .ok (.aload_n 0, 1) := by decide +kernel
theorem dX6_placeOf_24 : decode cX6_placeOf 24 = .ok (.getfield 11, 3) := by decide +kernel
theorem dX6_placeOf_27 : decode cX6_placeOf 27 = .ok (.iload_n 3, 1) := by decide +kernel
theorem dX6_placeOf_28 : decode cX6_placeOf 28 = .ok (.aaload, 1) := by decide +kernel
theorem dX6_placeOf_29 : decode cX6_placeOf 29 = .ok (.invokevirtual 37, 3) := by decide +kernel
theorem dX6_placeOf_32 : decode cX6_placeOf 32 = .ok (.iload_n 2, 1) := by decide +kernel
theorem dX6_placeOf_33 : decode cX6_placeOf 33 = .ok (.if_icmp .ne 5, 3) := by decide +kernel
theorem dX6_placeOf_36 : decode cX6_placeOf 36 = .ok (.iload_n 3, 1) := by decide +kernel
theorem dX6_placeOf_37 : decode cX6_placeOf 37 = .ok (.ireturn, 1) := by decide +kernel
theorem dX6_placeOf_38 : decode cX6_placeOf 38 = .ok (.iinc 3 1, 3) := by decide +kernel
theorem dX6_placeOf_41 : decode cX6_placeOf 41 = .ok (.goto (-39), 3) := by decide +kernel
theorem dX6_placeOf_44 : decode cX6_placeOf 44 = .ok (.iconst (-1), 1) := by decide +kernel
theorem dX6_placeOf_45 : decode cX6_placeOf 45 = .ok (.ireturn, 1) := by decide +kernel
theorem dX6_placeOfFamily_0 : decode cX6_placeOfFamily 0 = .ok (.iconst 0, 1) := by decide +kernel
theorem dX6_placeOfFamily_1 : decode cX6_placeOfFamily 1 = .ok (.istore_n 2, 1) := by decide +kernel
theorem dX6_placeOfFamily_2 : decode cX6_placeOfFamily 2 = .ok (.iload_n 2, 1) := by decide +kernel
theorem dX6_placeOfFamily_3 : decode cX6_placeOfFamily 3 = .ok (.aload_n 0, 1) := by decide +kernel
theorem dX6_placeOfFamily_4 : decode cX6_placeOfFamily 4 = .ok (.getfield 21, 3) := by decide +kernel
theorem dX6_placeOfFamily_7 : decode cX6_placeOfFamily 7 = .ok (.if_icmp .ge 24, 3) := by decide +kernel
theorem dX6_placeOfFamily_10 : decode cX6_placeOfFamily 10 = .ok (.aload_n 0, 1) := by decide +kernel
theorem dX6_placeOfFamily_11 : decode cX6_placeOfFamily 11 = .ok (.getfield 11, 3) := by decide +kernel
theorem dX6_placeOfFamily_14 : decode cX6_placeOfFamily 14 = .ok (.iload_n 2, 1) := by decide +kernel
theorem dX6_placeOfFamily_15 : decode cX6_placeOfFamily 15 = .ok (.aaload, 1) := by decide +kernel
theorem dX6_placeOfFamily_16 : decode cX6_placeOfFamily 16 = .ok (.invokevirtual 40, 3) := by decide +kernel
theorem dX6_placeOfFamily_19 : decode cX6_placeOfFamily 19 = .ok (.iload_n 1, 1) := by decide +kernel
theorem dX6_placeOfFamily_20 : decode cX6_placeOfFamily 20 = .ok (.if_icmp .ne 5, 3) := by decide +kernel
theorem dX6_placeOfFamily_23 : decode cX6_placeOfFamily 23 = .ok (.iload_n 2, 1) := by decide +kernel
theorem dX6_placeOfFamily_24 : decode cX6_placeOfFamily 24 = .ok (.ireturn, 1) := by decide +kernel
theorem dX6_placeOfFamily_25 : decode cX6_placeOfFamily 25 = .ok (.iinc 2 1, 3) := by decide +kernel
theorem dX6_placeOfFamily_28 : decode cX6_placeOfFamily 28 = .ok (.goto (-26), 3) := by decide +kernel
theorem dX6_placeOfFamily_31 : decode cX6_placeOfFamily 31 = .ok (.iconst (-1), 1) := by decide +kernel
theorem dX6_placeOfFamily_32 : decode cX6_placeOfFamily 32 = .ok (.ireturn, 1) := by decide +kernel
theorem dX6_isRepeated_0 : decode cX6_isRepeated 0 = .ok (.iload_n 1, 1) := by decide +kernel
theorem dX6_isRepeated_1 : decode cX6_isRepeated 1 = .ok (.ifCond .lt 32, 3) := by decide +kernel
theorem dX6_isRepeated_4 : decode cX6_isRepeated 4 = .ok (.iload_n 1, 1) := by decide +kernel
theorem dX6_isRepeated_5 : decode cX6_isRepeated 5 = .ok (.aload_n 0, 1) := by decide +kernel
theorem dX6_isRepeated_6 : decode cX6_isRepeated 6 = .ok (.getfield 21, 3) := by decide +kernel
theorem dX6_isRepeated_9 : decode cX6_isRepeated 9 = .ok (.if_icmp .ge 24, 3) := by decide +kernel
theorem dX6_isRepeated_12 : decode cX6_isRepeated 12 = .ok (.aload_n 0, 1) := by decide +kernel
theorem dX6_isRepeated_13 : decode cX6_isRepeated 13 = .ok (.aload_n 0, 1) := by decide +kernel
theorem dX6_isRepeated_14 : decode cX6_isRepeated 14 = .ok (.getfield 11, 3) := by decide +kernel
theorem dX6_isRepeated_17 : decode cX6_isRepeated 17 = .ok (.iload_n 1, 1) := by decide +kernel
theorem dX6_isRepeated_18 : decode cX6_isRepeated 18 = .ok (.aaload, 1) := by decide +kernel
theorem dX6_isRepeated_19 : decode cX6_isRepeated 19 = .ok (.invokevirtual 40, 3) := by decide +kernel
theorem dX6_isRepeated_22 : decode cX6_isRepeated 22 = .ok (.invokevirtual 43, 3) := by decide +kernel
theorem dX6_isRepeated_25 : decode cX6_isRepeated 25 = .ok (.iload_n 1, 1) := by decide +kernel
theorem dX6_isRepeated_26 : decode cX6_isRepeated 26 = .ok (.if_icmp .eq 7, 3) := by decide +kernel
theorem dX6_isRepeated_29 : decode cX6_isRepeated 29 = .ok (.iconst 1, 1) := by decide +kernel
theorem dX6_isRepeated_30 : decode cX6_isRepeated 30 = .ok (.goto 4, 3) := by decide +kernel
theorem dX6_isRepeated_33 : decode cX6_isRepeated 33 = .ok (.iconst 0, 1) := by decide +kernel
theorem dX6_isRepeated_34 : decode cX6_isRepeated 34 = .ok (.ireturn, 1) := by decide +kernel
theorem dX6_isWantMet_0 : decode cX6_isWantMet 0 = .ok (.iload_n 1, 1) := by decide +kernel
theorem dX6_isWantMet_1 : decode cX6_isWantMet 1 = .ok (.ifCond .lt 11, 3) := by decide +kernel
theorem dX6_isWantMet_4 : decode cX6_isWantMet 4 = .ok (.iload_n 1, 1) := by decide +kernel
theorem dX6_isWantMet_5 : decode cX6_isWantMet 5 = .ok (.aload_n 0, 1) := by decide +kernel
theorem dX6_isWantMet_6 : decode cX6_isWantMet 6 = .ok (.getfield 21, 3) := by decide +kernel
theorem dX6_isWantMet_9 : decode cX6_isWantMet 9 = .ok (.if_icmp .lt 5, 3) := by decide +kernel
theorem dX6_isWantMet_12 : decode cX6_isWantMet 12 = .ok (.iconst 1, 1) := by decide +kernel
theorem dX6_isWantMet_13 : decode cX6_isWantMet 13 = .ok (.ireturn, 1) := by decide +kernel
theorem dX6_isWantMet_14 : decode cX6_isWantMet 14 = .ok (.iconst 0, 1) := by decide +kernel
theorem dX6_isWantMet_15 : decode cX6_isWantMet 15 = .ok (.istore_n 2, 1) := by decide +kernel
theorem dX6_isWantMet_16 : decode cX6_isWantMet 16 = .ok (.iload_n 2, 1) := by decide +kernel
theorem dX6_isWantMet_17 : decode cX6_isWantMet 17 = .ok (.invokestatic 47, 3) := by decide +kernel
theorem dX6_isWantMet_20 : decode cX6_isWantMet 20 = .ok (.if_icmp .ge 39, 3) := by decide +kernel
theorem dX6_isWantMet_23 : decode cX6_isWantMet 23 = .ok (.iload_n 2, 1) := by decide +kernel
theorem dX6_isWantMet_24 : decode cX6_isWantMet 24 = .ok (.aload_n 0, 1) := by decide +kernel
theorem dX6_isWantMet_25 : decode cX6_isWantMet 25 = .ok (.getfield 11, 3) := by decide +kernel
theorem dX6_isWantMet_28 : decode cX6_isWantMet 28 = .ok (.iload_n 1, 1) := by decide +kernel
theorem dX6_isWantMet_29 : decode cX6_isWantMet 29 = .ok (.aaload, 1) := by decide +kernel
theorem dX6_isWantMet_30 : decode cX6_isWantMet 30 = .ok (.invokevirtual 40, 3) := by decide +kernel
theorem dX6_isWantMet_33 : decode cX6_isWantMet 33 = .ok (.invokestatic 52, 3) := by decide +kernel
theorem dX6_isWantMet_36 : decode cX6_isWantMet 36 = .ok (.ifCond .eq 17, 3) := by decide +kernel
theorem dX6_isWantMet_39 : decode cX6_isWantMet 39 = .ok (.aload_n 0, 1) := by decide +kernel
theorem dX6_isWantMet_40 : decode cX6_isWantMet 40 = .ok (.iload_n 2, 1) := by decide +kernel
theorem dX6_isWantMet_41 : decode cX6_isWantMet 41 = .ok (.invokevirtual 56, 3) := by decide +kernel
theorem dX6_isWantMet_44 : decode cX6_isWantMet 44 = .ok (.iload_n 2, 1) := by decide +kernel
theorem dX6_isWantMet_45 : decode cX6_isWantMet 45 = .ok (.invokestatic 60, 3) := by decide +kernel
theorem dX6_isWantMet_48 : decode cX6_isWantMet 48 = .ok (.if_icmp .eq 5, 3) := by decide +kernel
theorem dX6_isWantMet_51 : decode cX6_isWantMet 51 = .ok (.iconst 0, 1) := by decide +kernel
theorem dX6_isWantMet_52 : decode cX6_isWantMet 52 = .ok (.ireturn, 1) := by decide +kernel
theorem dX6_isWantMet_53 : decode cX6_isWantMet 53 = .ok (.iinc 2 1, 3) := by decide +kernel
theorem dX6_isWantMet_56 : decode cX6_isWantMet 56 = .ok (.goto (-40), 3) := by decide +kernel
theorem dX6_isWantMet_59 : decode cX6_isWantMet 59 = .ok (.iconst 1, 1) := by decide +kernel
theorem dX6_isWantMet_60 : decode cX6_isWantMet 60 = .ok (.ireturn, 1) := by decide +kernel
theorem dX6_hasWanted_0 : decode cX6_hasWanted 0 = .ok (.iconst 0, 1) := by decide +kernel
theorem dX6_hasWanted_1 : decode cX6_hasWanted 1 = .ok (.istore_n 2, 1) := by decide +kernel
theorem dX6_hasWanted_2 : decode cX6_hasWanted 2 = .ok (.iload_n 2, 1) := by decide +kernel
theorem dX6_hasWanted_3 : decode cX6_hasWanted 3 = .ok (.bipush 7, 2) := by decide +kernel
theorem dX6_hasWanted_5 : decode cX6_hasWanted 5 = .ok (.if_icmp .ge 31, 3) := by decide +kernel
theorem dX6_hasWanted_8 : decode cX6_hasWanted 8 = .ok (.iload_n 1, 1) := by decide +kernel
theorem dX6_hasWanted_9 : decode cX6_hasWanted 9 = .ok (.iload_n 2, 1) := by decide +kernel
theorem dX6_hasWanted_10 : decode cX6_hasWanted 10 = .ok (.invokestatic 63, 3) := by decide +kernel
theorem dX6_hasWanted_13 : decode cX6_hasWanted 13 = .ok (.istore_n 3, 1) := by decide +kernel
theorem dX6_hasWanted_14 : decode cX6_hasWanted 14 = .ok (.iload_n 3, 1) := by decide +kernel
theorem dX6_hasWanted_15 : decode cX6_hasWanted 15 = .ok (.iconst (-1), 1) := by decide +kernel
theorem dX6_hasWanted_16 : decode cX6_hasWanted 16 = .ok (.if_icmp .eq 14, 3) := by decide +kernel
theorem dX6_hasWanted_19 : decode cX6_hasWanted 19 = .ok (.aload_n 0, 1) := by decide +kernel
theorem dX6_hasWanted_20 : decode cX6_hasWanted 20 = .ok (.iload_n 3, 1) := by decide +kernel
theorem dX6_hasWanted_21 : decode cX6_hasWanted 21 = .ok (.invokevirtual 43, 3) := by decide +kernel
theorem dX6_hasWanted_24 : decode cX6_hasWanted 24 = .ok (.iconst (-1), 1) := by decide +kernel
theorem dX6_hasWanted_25 : decode cX6_hasWanted 25 = .ok (.if_icmp .eq 5, 3) := by decide +kernel
theorem dX6_hasWanted_28 : decode cX6_hasWanted 28 = .ok (.iconst 1, 1) := by decide +kernel
theorem dX6_hasWanted_29 : decode cX6_hasWanted 29 = .ok (.ireturn, 1) := by decide +kernel
theorem dX6_hasWanted_30 : decode cX6_hasWanted 30 = .ok (.iinc 2 1, 3) := by decide +kernel
theorem dX6_hasWanted_33 : decode cX6_hasWanted 33 = .ok (.goto (-31), 3) := by decide +kernel
theorem dX6_hasWanted_36 : decode cX6_hasWanted 36 = .ok (.iconst 0, 1) := by decide +kernel
theorem dX6_hasWanted_37 : decode cX6_hasWanted 37 = .ok (.ireturn, 1) := by decide +kernel
theorem dX6_goesTogether_0 : decode cX6_goesTogether 0 = .ok (.iconst 0, 1) := by decide +kernel
theorem dX6_goesTogether_1 : decode cX6_goesTogether 1 = .ok (.istore_n 1, 1) := by decide +kernel
theorem dX6_goesTogether_2 : decode cX6_goesTogether 2 = .ok (.iload_n 1, 1) := by decide +kernel
theorem dX6_goesTogether_3 : decode cX6_goesTogether 3 = .ok (.aload_n 0, 1) := by decide +kernel
theorem dX6_goesTogether_4 : decode cX6_goesTogether 4 = .ok (.getfield 21, 3) := by decide +kernel
theorem dX6_goesTogether_7 : decode cX6_goesTogether 7 = .ok (.if_icmp .ge 27, 3) := by decide +kernel
theorem dX6_goesTogether_10 : decode cX6_goesTogether 10 = .ok (.aload_n 0, 1) := by decide +kernel
theorem dX6_goesTogether_11 : decode cX6_goesTogether 11 = .ok (.iload_n 1, 1) := by decide +kernel
theorem dX6_goesTogether_12 : decode cX6_goesTogether 12 = .ok (.invokevirtual 67, 3) := by decide +kernel
theorem dX6_goesTogether_15 : decode cX6_goesTogether 15 = .ok (.ifCond .ne 11, 3) := by decide +kernel
theorem dX6_goesTogether_18 : decode cX6_goesTogether 18 = .ok (.aload_n 0, 1) := by decide +kernel
theorem dX6_goesTogether_19 : decode cX6_goesTogether 19 = .ok (.iload_n 1, 1) := by decide +kernel
theorem dX6_goesTogether_20 : decode cX6_goesTogether 20 = .ok (.invokevirtual 70, 3) := by decide +kernel
theorem dX6_goesTogether_23 : decode cX6_goesTogether 23 = .ok (.ifCond .ne 5, 3) := by decide +kernel
theorem dX6_goesTogether_26 : decode cX6_goesTogether 26 = .ok (.iconst 0, 1) := by decide +kernel
theorem dX6_goesTogether_27 : decode cX6_goesTogether 27 = .ok (.ireturn, 1) := by decide +kernel
theorem dX6_goesTogether_28 : decode cX6_goesTogether 28 = .ok (.iinc 1 1, 3) := by decide +kernel
theorem dX6_goesTogether_31 : decode cX6_goesTogether 31 = .ok (.goto (-29), 3) := by decide +kernel
theorem dX6_goesTogether_34 : decode cX6_goesTogether 34 = .ok (.iconst 1, 1) := by decide +kernel
theorem dX6_goesTogether_35 : decode cX6_goesTogether 35 = .ok (.ireturn, 1) := by decide +kernel
theorem dX6_fixedAhead_0 : decode cX6_fixedAhead 0 = .ok (.iconst 0, 1) := by decide +kernel
theorem dX6_fixedAhead_1 : decode cX6_fixedAhead 1 = .ok (.istore_n 1, 1) := by decide +kernel
theorem dX6_fixedAhead_2 : decode cX6_fixedAhead 2 = .ok (.iconst 0, 1) := by decide +kernel
theorem dX6_fixedAhead_3 : decode cX6_fixedAhead 3 = .ok (.istore_n 2, 1) := by decide +kernel
theorem dX6_fixedAhead_4 : decode cX6_fixedAhead 4 = .ok (.iconst 0, 1) := by decide +kernel
theorem dX6_fixedAhead_5 : decode cX6_fixedAhead 5 = .ok (.istore_n 3, 1) := by decide +kernel
theorem dX6_fixedAhead_6 : decode cX6_fixedAhead 6 = .ok (.iload_n 3, 1) := by decide +kernel
theorem dX6_fixedAhead_7 : decode cX6_fixedAhead 7 = .ok (.iconst 2, 1) := by decide +kernel
theorem dX6_fixedAhead_8 : decode cX6_fixedAhead 8 = .ok (.if_icmp .ge 79, 3) := by decide +kernel
theorem dX6_fixedAhead_11 : decode cX6_fixedAhead 11 = .ok (.iconst 0, 1) := by decide +kernel
theorem dX6_fixedAhead_12 : decode cX6_fixedAhead 12 = .ok (.istore 4, 2) := by decide +kernel
theorem dX6_fixedAhead_14 : decode cX6_fixedAhead 14 = .ok (.iload 4, 2) := by decide +kernel
theorem dX6_fixedAhead_16 : decode cX6_fixedAhead 16 = .ok (.aload_n 0, 1) := by decide +kernel
theorem dX6_fixedAhead_17 : decode cX6_fixedAhead 17 = .ok (.getfield 21, 3) := by decide +kernel
theorem dX6_fixedAhead_20 : decode cX6_fixedAhead 20 = .ok (.if_icmp .ge 61, 3) := by decide +kernel
theorem dX6_fixedAhead_23 : decode cX6_fixedAhead 23 = .ok (.aload_n 0, 1) := by decide +kernel
theorem dX6_fixedAhead_24 : decode cX6_fixedAhead 24 = .ok (.getfield 11, 3) := by decide +kernel
theorem dX6_fixedAhead_27 : decode cX6_fixedAhead 27 = .ok (.iload 4, 2) := by decide +kernel
theorem dX6_fixedAhead_29 : decode cX6_fixedAhead 29 = .ok (.aaload, 1) := by decide +kernel
theorem dX6_fixedAhead_30 : decode cX6_fixedAhead 30 = .ok (.invokevirtual 73, 3) := by decide +kernel
theorem dX6_fixedAhead_33 : decode cX6_fixedAhead 33 = .ok (.iload_n 3, 1) := by decide +kernel
theorem dX6_fixedAhead_34 : decode cX6_fixedAhead 34 = .ok (.ifCond .ne 7, 3) := by decide +kernel
theorem dX6_fixedAhead_37 : decode cX6_fixedAhead 37 = .ok (.iconst 1, 1) := by decide +kernel
theorem dX6_fixedAhead_38 : decode cX6_fixedAhead 38 = .ok (.goto 4, 3) := by decide +kernel
theorem dX6_fixedAhead_41 : decode cX6_fixedAhead 41 = .ok (.iconst 0, 1) := by decide +kernel
theorem dX6_fixedAhead_42 : decode cX6_fixedAhead 42 = .ok (.if_icmp .ne 33, 3) := by decide +kernel
theorem dX6_fixedAhead_45 : decode cX6_fixedAhead 45 = .ok (.iload_n 2, 1) := by decide +kernel
theorem dX6_fixedAhead_46 : decode cX6_fixedAhead 46 = .ok (.iload_n 1, 1) := by decide +kernel
theorem dX6_fixedAhead_47 : decode cX6_fixedAhead 47 = .ok (.iload 4, 2) := by decide +kernel
theorem dX6_fixedAhead_49 : decode cX6_fixedAhead 49 = .ok (.if_icmp .ne 7, 3) := by decide +kernel
theorem dX6_fixedAhead_52 : decode cX6_fixedAhead 52 = .ok (.iconst 0, 1) := by decide +kernel
theorem dX6_fixedAhead_53 : decode cX6_fixedAhead 53 = .ok (.goto 4, 3) := by decide +kernel
theorem dX6_fixedAhead_56 : decode cX6_fixedAhead 56 = .ok (.iconst 1, 1) := by decide +kernel
theorem dX6_fixedAhead_57 : decode cX6_fixedAhead 57 = .ok (.iadd, 1) := by decide +kernel
theorem dX6_fixedAhead_58 : decode cX6_fixedAhead 58 = .ok (.istore_n 2, 1) := by decide +kernel
theorem dX6_fixedAhead_59 : decode cX6_fixedAhead 59 = .ok (.aload_n 0, 1) := by decide +kernel
theorem dX6_fixedAhead_60 : decode cX6_fixedAhead 60 = .ok (.getfield 17, 3) := by decide +kernel
theorem dX6_fixedAhead_63 : decode cX6_fixedAhead 63 = .ok (.iload_n 1, 1) := by decide +kernel
theorem dX6_fixedAhead_64 : decode cX6_fixedAhead 64 = .ok (.aload_n 0, 1) := by decide +kernel
theorem dX6_fixedAhead_65 : decode cX6_fixedAhead 65 = .ok (.getfield 11, 3) := by decide +kernel
theorem dX6_fixedAhead_68 : decode cX6_fixedAhead 68 = .ok (.iload 4, 2) := by decide +kernel
theorem dX6_fixedAhead_70 : decode cX6_fixedAhead 70 = .ok (.aaload, 1) := by decide +kernel
theorem dX6_fixedAhead_71 : decode cX6_fixedAhead 71 = .ok (.aastore, 1) := by decide +kernel
theorem dX6_fixedAhead_72 : decode cX6_fixedAhead 72 = .ok (.iinc 1 1, 3) := by decide +kernel
theorem dX6_fixedAhead_75 : decode cX6_fixedAhead 75 = .ok (.iinc 4 1, 3) := by decide +kernel
theorem dX6_fixedAhead_78 : decode cX6_fixedAhead 78 = .ok (.goto (-64), 3) := by decide +kernel
theorem dX6_fixedAhead_81 : decode cX6_fixedAhead 81 = .ok (.iinc 3 1, 3) := by decide +kernel
theorem dX6_fixedAhead_84 : decode cX6_fixedAhead 84 = .ok (.goto (-78), 3) := by decide +kernel
theorem dX6_fixedAhead_87 : decode cX6_fixedAhead 87 = .ok (.iconst 0, 1) := by decide +kernel
theorem dX6_fixedAhead_88 : decode cX6_fixedAhead 88 = .ok (.istore_n 3, 1) := by decide +kernel
theorem dX6_fixedAhead_89 : decode cX6_fixedAhead 89 = .ok (.iload_n 3, 1) := by decide +kernel
theorem dX6_fixedAhead_90 : decode cX6_fixedAhead 90 = .ok (.aload_n 0, 1) := by decide +kernel
theorem dX6_fixedAhead_91 : decode cX6_fixedAhead 91 = .ok (.getfield 21, 3) := by decide +kernel
theorem dX6_fixedAhead_94 : decode cX6_fixedAhead 94 = .ok (.if_icmp .ge 21, 3) := by decide +kernel
theorem dX6_fixedAhead_97 : decode cX6_fixedAhead 97 = .ok (.aload_n 0, 1) := by decide +kernel
theorem dX6_fixedAhead_98 : decode cX6_fixedAhead 98 = .ok (.getfield 11, 3) := by decide +kernel
theorem dX6_fixedAhead_101 : decode cX6_fixedAhead 101 = .ok (.iload_n 3, 1) := by decide +kernel
theorem dX6_fixedAhead_102 : decode cX6_fixedAhead 102 = .ok (.aload_n 0, 1) := by decide +kernel
theorem dX6_fixedAhead_103 : decode cX6_fixedAhead 103 = .ok (.getfield 17, 3) := by decide +kernel
theorem dX6_fixedAhead_106 : decode cX6_fixedAhead 106 = .ok (.iload_n 3, 1) := by decide +kernel
theorem dX6_fixedAhead_107 : decode cX6_fixedAhead 107 = .ok (.aaload, 1) := by decide +kernel
theorem dX6_fixedAhead_108 : decode cX6_fixedAhead 108 = .ok (.aastore, 1) := by decide +kernel
theorem dX6_fixedAhead_109 : decode cX6_fixedAhead 109 = .ok (.iinc 3 1, 3) := by decide +kernel
theorem dX6_fixedAhead_112 : decode cX6_fixedAhead 112 = .ok (.goto (-23), 3) := by decide +kernel
theorem dX6_fixedAhead_115 : decode cX6_fixedAhead 115 = .ok (.iload_n 2, 1) := by decide +kernel
theorem dX6_fixedAhead_116 : decode cX6_fixedAhead 116 = .ok (.ireturn, 1) := by decide +kernel
theorem dX6_bytesOf_0 : decode cX6_bytesOf 0 = .ok (.iload_n 1, 1) := by decide +kernel
theorem dX6_bytesOf_1 : decode cX6_bytesOf 1 = .ok (.iload_n 2, 1) := by decide +kernel
theorem dX6_bytesOf_2 : decode cX6_bytesOf 2 = .ok (.if_icmp .le 21, 3) := by decide +kernel
theorem dX6_bytesOf_5 : decode cX6_bytesOf 5 = .ok (.aload_n 0, 1) := by decide +kernel
theorem dX6_bytesOf_6 : decode cX6_bytesOf 6 = .ok (.getfield 11, 3) := by decide +kernel
theorem dX6_bytesOf_9 : decode cX6_bytesOf 9 = .ok (.iload_n 1, 1) := by decide +kernel
theorem dX6_bytesOf_10 : decode cX6_bytesOf 10 = .ok (.iconst 1, 1) := by decide +kernel
theorem dX6_bytesOf_11 : decode cX6_bytesOf 11 = .ok (.isub, 1) := by decide +kernel
theorem dX6_bytesOf_12 : decode cX6_bytesOf 12 = .ok (.aaload, 1) := by decide +kernel
theorem dX6_bytesOf_13 : decode cX6_bytesOf 13 = .ok (.invokevirtual 73, 3) := by decide +kernel
theorem dX6_bytesOf_16 : decode cX6_bytesOf 16 = .ok (.ifCond .ne 7, 3) := by decide +kernel
theorem dX6_bytesOf_19 : decode cX6_bytesOf 19 = .ok (.iconst 1, 1) := by decide +kernel
theorem dX6_bytesOf_20 : decode cX6_bytesOf 20 = .ok (.goto 4, 3) := by decide +kernel
theorem dX6_bytesOf_23 : decode cX6_bytesOf 23 = .ok (.iconst 0, 1) := by decide +kernel
theorem dX6_bytesOf_24 : decode cX6_bytesOf 24 = .ok (.istore_n 3, 1) := by decide +kernel
theorem dX6_bytesOf_25 : decode cX6_bytesOf 25 = .ok (.iload_n 3, 1) := by decide +kernel
theorem dX6_bytesOf_26 : decode cX6_bytesOf 26 = .ok (.aload_n 0, 1) := by decide +kernel
theorem dX6_bytesOf_27 : decode cX6_bytesOf 27 = .ok (.getfield 11, 3) := by decide +kernel
theorem dX6_bytesOf_30 : decode cX6_bytesOf 30 = .ok (.iload_n 1, 1) := by decide +kernel
theorem dX6_bytesOf_31 : decode cX6_bytesOf 31 = .ok (.aaload, 1) := by decide +kernel
theorem dX6_bytesOf_32 : decode cX6_bytesOf 32 = .ok (.invokevirtual 37, 3) := by decide +kernel
theorem dX6_bytesOf_35 : decode cX6_bytesOf 35 = .ok (.iadd, 1) := by decide +kernel
theorem dX6_bytesOf_36 : decode cX6_bytesOf 36 = .ok (.aload_n 0, 1) := by decide +kernel
theorem dX6_bytesOf_37 : decode cX6_bytesOf 37 = .ok (.getfield 11, 3) := by decide +kernel
theorem dX6_bytesOf_40 : decode cX6_bytesOf 40 = .ok (.iload_n 1, 1) := by decide +kernel
theorem dX6_bytesOf_41 : decode cX6_bytesOf 41 = .ok (.aaload, 1) := by decide +kernel
theorem dX6_bytesOf_42 : decode cX6_bytesOf 42 = .ok (.invokevirtual 77, 3) := by decide +kernel
theorem dX6_bytesOf_45 : decode cX6_bytesOf 45 = .ok (.invokevirtual 81, 3) := by decide +kernel
theorem dX6_bytesOf_48 : decode cX6_bytesOf 48 = .ok (.iadd, 1) := by decide +kernel
theorem dX6_bytesOf_49 : decode cX6_bytesOf 49 = .ok (.ireturn, 1) := by decide +kernel
theorem dX6_stringBytes_0 : decode cX6_stringBytes 0 = .ok (.iconst 0, 1) := by decide +kernel
theorem dX6_stringBytes_1 : decode cX6_stringBytes 1 = .ok (.istore_n 1, 1) := by decide +kernel
theorem dX6_stringBytes_2 : decode cX6_stringBytes 2 = .ok (.iconst 0, 1) := by decide +kernel
theorem dX6_stringBytes_3 : decode cX6_stringBytes 3 = .ok (.istore_n 2, 1) := by decide +kernel
theorem dX6_stringBytes_4 : decode cX6_stringBytes 4 = .ok (.iload_n 2, 1) := by decide +kernel
theorem dX6_stringBytes_5 : decode cX6_stringBytes 5 = .ok (.aload_n 0, 1) := by decide +kernel
theorem dX6_stringBytes_6 : decode cX6_stringBytes 6 = .ok (.getfield 21, 3) := by decide +kernel
theorem dX6_stringBytes_9 : decode cX6_stringBytes 9 = .ok (.if_icmp .ge 18, 3) := by decide +kernel
theorem dX6_stringBytes_12 : decode cX6_stringBytes 12 = .ok (.iload_n 1, 1) := by decide +kernel
theorem dX6_stringBytes_13 : decode cX6_stringBytes 13 = .ok (.aload_n 0, 1) := by decide +kernel
theorem dX6_stringBytes_14 : decode cX6_stringBytes 14 = .ok (.iload_n 2, 1) := by decide +kernel
theorem dX6_stringBytes_15 : decode cX6_stringBytes 15 = .ok (.iconst 0, 1) := by decide +kernel
theorem dX6_stringBytes_16 : decode cX6_stringBytes 16 = .ok (.invokevirtual 85, 3) := by decide +kernel
theorem dX6_stringBytes_19 : decode cX6_stringBytes 19 = .ok (.iadd, 1) := by decide +kernel
theorem dX6_stringBytes_20 : decode cX6_stringBytes 20 = .ok (.istore_n 1, 1) := by decide +kernel
theorem dX6_stringBytes_21 : decode cX6_stringBytes 21 = .ok (.iinc 2 1, 3) := by decide +kernel
theorem dX6_stringBytes_24 : decode cX6_stringBytes 24 = .ok (.goto (-20), 3) := by decide +kernel
theorem dX6_stringBytes_27 : decode cX6_stringBytes 27 = .ok (.iload_n 1, 1) := by decide +kernel
theorem dX6_stringBytes_28 : decode cX6_stringBytes 28 = .ok (.ireturn, 1) := by decide +kernel
theorem dX6_symbolEnd_0 : decode cX6_symbolEnd 0 = .ok (.iconst 0, 1) := by decide +kernel
theorem dX6_symbolEnd_1 : decode cX6_symbolEnd 1 = .ok (.istore_n 2, 1) := by decide +kernel
theorem dX6_symbolEnd_2 : decode cX6_symbolEnd 2 = .ok (.iload_n 1, 1) := by decide +kernel
theorem dX6_symbolEnd_3 : decode cX6_symbolEnd 3 = .ok (.iconst 0, 1) := by decide +kernel
theorem dX6_symbolEnd_4 : decode cX6_symbolEnd 4 = .ok (.invokestatic 88, 3) := by decide +kernel
theorem dX6_symbolEnd_7 : decode cX6_symbolEnd 7 = .ok (.istore_n 3, 1) := by decide +kernel
theorem dX6_symbolEnd_8 : decode cX6_symbolEnd 8 = .ok (.iload_n 3, 1) := by decide +kernel
theorem dX6_symbolEnd_9 : decode cX6_symbolEnd 9 = .ok (.aload_n 0, 1) := by decide +kernel
theorem dX6_symbolEnd_10 : decode cX6_symbolEnd 10 = .ok (.getfield 21, 3) := by decide +kernel
theorem dX6_symbolEnd_13 : decode cX6_symbolEnd 13 = .ok (.if_icmp .ge 26, 3) := by decide +kernel
theorem dX6_symbolEnd_16 : decode cX6_symbolEnd 16 = .ok (.iload_n 2, 1) := by decide +kernel
theorem dX6_symbolEnd_17 : decode cX6_symbolEnd 17 = .ok (.aload_n 0, 1) := by decide +kernel
theorem dX6_symbolEnd_18 : decode cX6_symbolEnd 18 = .ok (.iload_n 3, 1) := by decide +kernel
theorem dX6_symbolEnd_19 : decode cX6_symbolEnd 19 = .ok (.iload_n 1, 1) := by decide +kernel
theorem dX6_symbolEnd_20 : decode cX6_symbolEnd 20 = .ok (.invokevirtual 85, 3) := by decide +kernel
theorem dX6_symbolEnd_23 : decode cX6_symbolEnd 23 = .ok (.iadd, 1) := by decide +kernel
theorem dX6_symbolEnd_24 : decode cX6_symbolEnd 24 = .ok (.istore_n 2, 1) := by decide +kernel
theorem dX6_symbolEnd_25 : decode cX6_symbolEnd 25 = .ok (.iload_n 2, 1) := by decide +kernel
theorem dX6_symbolEnd_26 : decode cX6_symbolEnd 26 = .ok (.bipush 48, 2) := by decide +kernel
theorem dX6_symbolEnd_28 : decode cX6_symbolEnd 28 = .ok (.if_icmp .le 5, 3) := by decide +kernel
theorem dX6_symbolEnd_31 : decode cX6_symbolEnd 31 = .ok (.iload_n 3, 1) := by decide +kernel
theorem dX6_symbolEnd_32 : decode cX6_symbolEnd 32 = .ok (.ireturn, 1) := by decide +kernel
theorem dX6_symbolEnd_33 : decode cX6_symbolEnd 33 = .ok (.iinc 3 1, 3) := by decide +kernel
theorem dX6_symbolEnd_36 : decode cX6_symbolEnd 36 = .ok (.goto (-28), 3) := by decide +kernel
theorem dX6_symbolEnd_39 : decode cX6_symbolEnd 39 = .ok (.aload_n 0, 1) := by decide +kernel
theorem dX6_symbolEnd_40 : decode cX6_symbolEnd 40 = .ok (.getfield 21, 3) := by decide +kernel
theorem dX6_symbolEnd_43 : decode cX6_symbolEnd 43 = .ok (.ireturn, 1) := by decide +kernel
theorem dX6_symbols_0 : decode cX6_symbols 0 = .ok (.iconst 0, 1) := by decide +kernel
theorem dX6_symbols_1 : decode cX6_symbols 1 = .ok (.istore_n 1, 1) := by decide +kernel
theorem dX6_symbols_2 : decode cX6_symbols 2 = .ok (.iconst 0, 1) := by decide +kernel
theorem dX6_symbols_3 : decode cX6_symbols 3 = .ok (.istore_n 2, 1) := by decide +kernel
theorem dX6_symbols_4 : decode cX6_symbols 4 = .ok (.iload_n 2, 1) := by decide +kernel
theorem dX6_symbols_5 : decode cX6_symbols 5 = .ok (.bipush 20, 2) := by decide +kernel
theorem dX6_symbols_7 : decode cX6_symbols 7 = .ok (.if_icmp .gt 34, 3) := by decide +kernel
theorem dX6_symbols_10 : decode cX6_symbols 10 = .ok (.iload_n 1, 1) := by decide +kernel
theorem dX6_symbols_11 : decode cX6_symbols 11 = .ok (.aload_n 0, 1) := by decide +kernel
theorem dX6_symbols_12 : decode cX6_symbols 12 = .ok (.getfield 21, 3) := by decide +kernel
theorem dX6_symbols_15 : decode cX6_symbols 15 = .ok (.if_icmp .lt 5, 3) := by decide +kernel
theorem dX6_symbols_18 : decode cX6_symbols 18 = .ok (.iload_n 2, 1) := by decide +kernel
theorem dX6_symbols_19 : decode cX6_symbols 19 = .ok (.ireturn, 1) := by decide +kernel
theorem dX6_symbols_20 : decode cX6_symbols 20 = .ok (.aload_n 0, 1) := by decide +kernel
theorem dX6_symbols_21 : decode cX6_symbols 21 = .ok (.iload_n 1, 1) := by decide +kernel
theorem dX6_symbols_22 : decode cX6_symbols 22 = .ok (.invokevirtual 93, 3) := by decide +kernel
theorem dX6_symbols_25 : decode cX6_symbols 25 = .ok (.istore_n 3, 1) := by decide +kernel
theorem dX6_symbols_26 : decode cX6_symbols 26 = .ok (.iload_n 3, 1) := by decide +kernel
theorem dX6_symbols_27 : decode cX6_symbols 27 = .ok (.iload_n 1, 1) := by decide +kernel
theorem dX6_symbols_28 : decode cX6_symbols 28 = .ok (.if_icmp .ne 5, 3) := by decide +kernel
theorem dX6_symbols_31 : decode cX6_symbols 31 = .ok (.iconst (-1), 1) := by decide +kernel
theorem dX6_symbols_32 : decode cX6_symbols 32 = .ok (.ireturn, 1) := by decide +kernel
theorem dX6_symbols_33 : decode cX6_symbols 33 = .ok (.iload_n 3, 1) := by decide +kernel
theorem dX6_symbols_34 : decode cX6_symbols 34 = .ok (.istore_n 1, 1) := by decide +kernel
theorem dX6_symbols_35 : decode cX6_symbols 35 = .ok (.iinc 2 1, 3) := by decide +kernel
theorem dX6_symbols_38 : decode cX6_symbols 38 = .ok (.goto (-34), 3) := by decide +kernel
theorem dX6_symbols_41 : decode cX6_symbols 41 = .ok (.iconst (-1), 1) := by decide +kernel
theorem dX6_symbols_42 : decode cX6_symbols 42 = .ok (.ireturn, 1) := by decide +kernel
theorem dX6_writeString_0 : decode cX6_writeString 0 = .ok (.iload_n 2, 1) := by decide +kernel
theorem dX6_writeString_1 : decode cX6_writeString 1 = .ok (.iconst 0, 1) := by decide +kernel
theorem dX6_writeString_2 : decode cX6_writeString 2 = .ok (.invokestatic 88, 3) := by decide +kernel
theorem dX6_writeString_5 : decode cX6_writeString 5 = .ok (.istore 4, 2) := by decide +kernel
theorem dX6_writeString_7 : decode cX6_writeString 7 = .ok (.iload 4, 2) := by decide +kernel
theorem dX6_writeString_9 : decode cX6_writeString 9 = .ok (.iload_n 3, 1) := by decide +kernel
theorem dX6_writeString_10 : decode cX6_writeString 10 = .ok (.if_icmp .ge 70, 3) := by decide +kernel
theorem dX6_writeString_13 : decode cX6_writeString 13 = .ok (.iload 4, 2) := by decide +kernel
theorem dX6_writeString_15 : decode cX6_writeString 15 = .ok (.aload_n 0, 1) := by decide +kernel
theorem dX6_writeString_16 : decode cX6_writeString 16 = .ok (.getfield 21, 3) := by decide +kernel
theorem dX6_writeString_19 : decode cX6_writeString 19 = .ok (.if_icmp .ge 61, 3) := by decide +kernel
theorem dX6_writeString_22 : decode cX6_writeString 22 = .ok (.iload 4, 2) := by decide +kernel
theorem dX6_writeString_24 : decode cX6_writeString 24 = .ok (.iload_n 2, 1) := by decide +kernel
theorem dX6_writeString_25 : decode cX6_writeString 25 = .ok (.if_icmp .le 24, 3) := by decide +kernel
theorem dX6_writeString_28 : decode cX6_writeString 28 = .ok (.aload_n 0, 1) := by decide +kernel
theorem dX6_writeString_29 : decode cX6_writeString 29 = .ok (.getfield 11, 3) := by decide +kernel
theorem dX6_writeString_32 : decode cX6_writeString 32 = .ok (.iload 4, 2) := by decide +kernel
theorem dX6_writeString_34 : decode cX6_writeString 34 = .ok (.iconst 1, 1) := by decide +kernel
theorem dX6_writeString_35 : decode cX6_writeString 35 = .ok (.isub, 1) := by decide +kernel
theorem dX6_writeString_36 : decode cX6_writeString 36 = .ok (.aaload, 1) := by decide +kernel
theorem dX6_writeString_37 : decode cX6_writeString 37 = .ok (.invokevirtual 73, 3) := by decide +kernel
theorem dX6_writeString_40 : decode cX6_writeString 40 = .ok (.ifCond .ne 9, 3) := by decide +kernel
theorem dX6_writeString_43 : decode cX6_writeString 43 = .ok (.aload_n 1, 1) := by decide +kernel
theorem dX6_writeString_44 : decode cX6_writeString 44 = .ok (.bipush 29, 2) := by decide +kernel
theorem dX6_writeString_46 : decode cX6_writeString 46 = .ok (.invokevirtual 96, 3) := by decide +kernel
theorem dX6_writeString_49 : decode cX6_writeString 49 = .ok (.aload_n 0, 1) := by decide +kernel
theorem dX6_writeString_50 : decode cX6_writeString 50 = .ok (.getfield 11, 3) := by decide +kernel
theorem dX6_writeString_53 : decode cX6_writeString 53 = .ok (.iload 4, 2) := by decide +kernel
theorem dX6_writeString_55 : decode cX6_writeString 55 = .ok (.aaload, 1) := by decide +kernel
theorem dX6_writeString_56 : decode cX6_writeString 56 = .ok (.aload_n 1, 1) := by decide +kernel
theorem dX6_writeString_57 : decode cX6_writeString 57 = .ok (.invokevirtual 100, 3) := by decide +kernel
theorem dX6_writeString_60 : decode cX6_writeString 60 = .ok (.aload_n 1, 1) := by decide +kernel
theorem dX6_writeString_61 : decode cX6_writeString 61 = .ok (.aload_n 0, 1) := by decide +kernel
theorem dX6_writeString_62 : decode cX6_writeString 62 = .ok (.getfield 11, 3) := by decide +kernel
theorem dX6_writeString_65 : decode cX6_writeString 65 = .ok (.iload 4, 2) := by decide +kernel
theorem dX6_writeString_67 : decode cX6_writeString 67 = .ok (.aaload, 1) := by decide +kernel
theorem dX6_writeString_68 : decode cX6_writeString 68 = .ok (.invokevirtual 77, 3) := by decide +kernel
theorem dX6_writeString_71 : decode cX6_writeString 71 = .ok (.invokevirtual 104, 3) := by decide +kernel
theorem dX6_writeString_74 : decode cX6_writeString 74 = .ok (.iinc 4 1, 3) := by decide +kernel
theorem dX6_writeString_77 : decode cX6_writeString 77 = .ok (.goto (-70), 3) := by decide +kernel
theorem dX6_writeString_80 : decode cX6_writeString 80 = .ok (.return_, 1) := by decide +kernel
theorem dX6_writeInBrackets_0 : decode cX6_writeInBrackets 0 = .ok (.iconst 0, 1) := by decide +kernel
theorem dX6_writeInBrackets_1 : decode cX6_writeInBrackets 1 = .ok (.istore_n 2, 1) := by decide +kernel
theorem dX6_writeInBrackets_2 : decode cX6_writeInBrackets 2 = .ok (.iload_n 2, 1) := by decide +kernel
theorem dX6_writeInBrackets_3 : decode cX6_writeInBrackets 3 = .ok (.aload_n 0, 1) := by decide +kernel
theorem dX6_writeInBrackets_4 : decode cX6_writeInBrackets 4 = .ok (.getfield 21, 3) := by decide +kernel
theorem dX6_writeInBrackets_7 : decode cX6_writeInBrackets 7 = .ok (.if_icmp .ge 19, 3) := by decide +kernel
theorem dX6_writeInBrackets_10 : decode cX6_writeInBrackets 10 = .ok (.aload_n 0, 1) := by decide +kernel
theorem dX6_writeInBrackets_11 : decode cX6_writeInBrackets 11 = .ok (.getfield 11, 3) := by decide +kernel
theorem dX6_writeInBrackets_14 : decode cX6_writeInBrackets 14 = .ok (.iload_n 2, 1) := by decide +kernel
theorem dX6_writeInBrackets_15 : decode cX6_writeInBrackets 15 = .ok (.aaload, 1) := by decide +kernel
theorem dX6_writeInBrackets_16 : decode cX6_writeInBrackets 16 = .ok (.aload_n 1, 1) := by decide +kernel
theorem dX6_writeInBrackets_17 : decode cX6_writeInBrackets 17 = .ok (.invokevirtual 107, 3) := by decide +kernel
theorem dX6_writeInBrackets_20 : decode cX6_writeInBrackets 20 = .ok (.iinc 2 1, 3) := by decide +kernel
theorem dX6_writeInBrackets_23 : decode cX6_writeInBrackets 23 = .ok (.goto (-21), 3) := by decide +kernel
theorem dX6_writeInBrackets_26 : decode cX6_writeInBrackets 26 = .ok (.return_, 1) := by decide +kernel
theorem dX7_init_0 : decode cX7_init 0 = .ok (.aload_n 0, 1) := by decide +kernel
theorem dX7_init_1 : decode cX7_init 1 = .ok (.invokespecial 3, 3) := by decide +kernel
theorem dX7_init_4 : decode cX7_init 4 = .ok (.aload_n 0, 1) := by decide +kernel
theorem dX7_init_5 : decode cX7_init 5 = .ok (.iload_n 1, 1) := by decide +kernel
theorem dX7_init_6 : decode cX7_init 6 = .ok (.iconst 0, 1) := by decide +kernel
theorem dX7_init_7 : decode cX7_init 7 = .ok (.invokestatic 9, 3) := by decide +kernel
theorem dX7_init_10 : decode cX7_init 10 = .ok (.newarray .int, 2) := by decide +kernel
theorem dX7_init_12 : decode cX7_init 12 = .ok (.putfield 15, 3) := by decide +kernel
theorem dX7_init_15 : decode cX7_init 15 = .ok (.aload_n 0, 1) := by decide +kernel
theorem dX7_init_16 : decode cX7_init 16 = .ok (.iconst 0, 1) := by decide +kernel
theorem dX7_init_17 : decode cX7_init 17 = .ok (.putfield 21, 3) := by decide +kernel
theorem dX7_init_20 : decode cX7_init 20 = .ok (.return_, 1) := by decide +kernel
theorem dX7_count_0 : decode cX7_count 0 = .ok (.aload_n 0, 1) := by decide +kernel
theorem dX7_count_1 : decode cX7_count 1 = .ok (.getfield 21, 3) := by decide +kernel
theorem dX7_count_4 : decode cX7_count 4 = .ok (.ireturn, 1) := by decide +kernel
theorem dX7_at_0 : decode cX7_at 0 = .ok (.iload_n 1, 1) := by decide +kernel
theorem dX7_at_1 : decode cX7_at 1 = .ok (.ifCond .lt 11, 3) := by decide +kernel
theorem dX7_at_4 : decode cX7_at 4 = .ok (.iload_n 1, 1) := by decide +kernel
theorem dX7_at_5 : decode cX7_at 5 = .ok (.aload_n 0, 1) := by decide +kernel
theorem dX7_at_6 : decode cX7_at 6 = .ok (.getfield 21, 3) := by decide +kernel
theorem dX7_at_9 : decode cX7_at 9 = .ok (.if_icmp .lt 7, 3) := by decide +kernel
theorem dX7_at_12 : decode cX7_at 12 = .ok (.iconst (-1), 1) := by decide +kernel
theorem dX7_at_13 : decode cX7_at 13 = .ok (.goto 9, 3) := by decide +kernel
theorem dX7_at_16 : decode cX7_at 16 = .ok (.aload_n 0, 1) := by decide +kernel
theorem dX7_at_17 : decode cX7_at 17 = .ok (.getfield 15, 3) := by decide +kernel
theorem dX7_at_20 : decode cX7_at 20 = .ok (.iload_n 1, 1) := by decide +kernel
theorem dX7_at_21 : decode cX7_at 21 = .ok (.iaload, 1) := by decide +kernel
theorem dX7_at_22 : decode cX7_at 22 = .ok (.ireturn, 1) := by decide +kernel
theorem dX7_put_0 : decode cX7_put 0 = .ok (.aload_n 0, 1) := by decide +kernel
theorem dX7_put_1 : decode cX7_put 1 = .ok (.getfield 21, 3) := by decide +kernel
theorem dX7_put_4 : decode cX7_put 4 = .ok (.aload_n 0, 1) := by decide +kernel
theorem dX7_put_5 : decode cX7_put 5 = .ok (.getfield 15, 3) := by decide +kernel
theorem dX7_put_8 : decode cX7_put 8 = .ok (.arraylength, 1) := by decide +kernel
theorem dX7_put_9 : decode cX7_put 9 = .ok (.if_icmp .ge 23, 3) := by decide +kernel
theorem dX7_put_12 : decode cX7_put 12 = .ok (.aload_n 0, 1) := by decide +kernel
theorem dX7_put_13 : decode cX7_put 13 = .ok (.getfield 15, 3) := by decide +kernel
theorem dX7_put_16 : decode cX7_put 16 = .ok (.aload_n 0, 1) := by decide +kernel
theorem dX7_put_17 : decode cX7_put 17 = .ok (.getfield 21, 3) := by decide +kernel
theorem dX7_put_20 : decode cX7_put 20 = .ok (.iload_n 1, 1) := by decide +kernel
theorem dX7_put_21 : decode cX7_put 21 = .ok (.iastore, 1) := by decide +kernel
theorem dX7_put_22 : decode cX7_put 22 = .ok (.aload_n 0, 1) := by decide +kernel
theorem dX7_put_23 : decode cX7_put 23 = .ok (.dup, 1) := by decide +kernel
theorem dX7_put_24 : decode cX7_put 24 = .ok (.getfield 21, 3) := by decide +kernel
theorem dX7_put_27 : decode cX7_put 27 = .ok (.iconst 1, 1) := by decide +kernel
theorem dX7_put_28 : decode cX7_put 28 = .ok (.iadd, 1) := by decide +kernel
theorem dX7_put_29 : decode cX7_put 29 = .ok (.putfield 21, 3) := by decide +kernel
theorem dX7_put_32 : decode cX7_put 32 = .ok (.return_, 1) := by decide +kernel
theorem dX7_replace_0 : decode cX7_replace 0 = .ok (.iload_n 1, 1) := by decide +kernel
theorem dX7_replace_1 : decode cX7_replace 1 = .ok (.ifCond .lt 11, 3) := by decide +kernel
theorem dX7_replace_4 : decode cX7_replace 4 = .ok (.iload_n 1, 1) := by decide +kernel
theorem dX7_replace_5 : decode cX7_replace 5 = .ok (.aload_n 0, 1) := by decide +kernel
theorem dX7_replace_6 : decode cX7_replace 6 = .ok (.getfield 21, 3) := by decide +kernel
theorem dX7_replace_9 : decode cX7_replace 9 = .ok (.if_icmp .lt 5, 3) := by decide +kernel
theorem dX7_replace_12 : decode cX7_replace 12 = .ok (.iconst (-1), 1) := by decide +kernel
theorem dX7_replace_13 : decode cX7_replace 13 = .ok (.ireturn, 1) := by decide +kernel
theorem dX7_replace_14 : decode cX7_replace 14 = .ok (.aload_n 0, 1) := by decide +kernel
theorem dX7_replace_15 : decode cX7_replace 15 = .ok (.getfield 15, 3) := by decide +kernel
theorem dX7_replace_18 : decode cX7_replace 18 = .ok (.iload_n 1, 1) := by decide +kernel
theorem dX7_replace_19 : decode cX7_replace 19 = .ok (.iaload, 1) := by decide +kernel
theorem dX7_replace_20 : decode cX7_replace 20 = .ok (.istore_n 3, 1) := by decide +kernel
theorem dX7_replace_21 : decode cX7_replace 21 = .ok (.aload_n 0, 1) := by decide +kernel
theorem dX7_replace_22 : decode cX7_replace 22 = .ok (.getfield 15, 3) := by decide +kernel
theorem dX7_replace_25 : decode cX7_replace 25 = .ok (.iload_n 1, 1) := by decide +kernel
theorem dX7_replace_26 : decode cX7_replace 26 = .ok (.iload_n 2, 1) := by decide +kernel
theorem dX7_replace_27 : decode cX7_replace 27 = .ok (.iastore, 1) := by decide +kernel
theorem dX7_replace_28 : decode cX7_replace 28 = .ok (.iload_n 3, 1) := by decide +kernel
theorem dX7_replace_29 : decode cX7_replace 29 = .ok (.ireturn, 1) := by decide +kernel
theorem dX7_clear_0 : decode cX7_clear 0 = .ok (.aload_n 0, 1) := by decide +kernel
theorem dX7_clear_1 : decode cX7_clear 1 = .ok (.iconst 0, 1) := by decide +kernel
theorem dX7_clear_2 : decode cX7_clear 2 = .ok (.putfield 21, 3) := by decide +kernel
theorem dX7_clear_5 : decode cX7_clear 5 = .ok (.return_, 1) := by decide +kernel
theorem dX7_shorten_0 : decode cX7_shorten 0 = .ok (.iload_n 1, 1) := by decide +kernel
theorem dX7_shorten_1 : decode cX7_shorten 1 = .ok (.ifCond .lt 11, 3) := by decide +kernel
theorem dX7_shorten_4 : decode cX7_shorten 4 = .ok (.iload_n 1, 1) := by decide +kernel
theorem dX7_shorten_5 : decode cX7_shorten 5 = .ok (.aload_n 0, 1) := by decide +kernel
theorem dX7_shorten_6 : decode cX7_shorten 6 = .ok (.getfield 21, 3) := by decide +kernel
theorem dX7_shorten_9 : decode cX7_shorten 9 = .ok (.if_icmp .le 5, 3) := by decide +kernel
theorem dX7_shorten_12 : decode cX7_shorten 12 = .ok (.iconst 0, 1) := by decide +kernel
theorem dX7_shorten_13 : decode cX7_shorten 13 = .ok (.ireturn, 1) := by decide +kernel
theorem dX7_shorten_14 : decode cX7_shorten 14 = .ok (.aload_n 0, 1) := by decide +kernel
theorem dX7_shorten_15 : decode cX7_shorten 15 = .ok (.iload_n 1, 1) := by decide +kernel
theorem dX7_shorten_16 : decode cX7_shorten 16 = .ok (.putfield 21, 3) := by decide +kernel
theorem dX7_shorten_19 : decode cX7_shorten 19 = .ok (.iconst 1, 1) := by decide +kernel
theorem dX7_shorten_20 : decode cX7_shorten 20 = .ok (.ireturn, 1) := by decide +kernel
theorem dX7_copyFrom_0 : decode cX7_copyFrom 0 = .ok (.aload_n 1, 1) := by decide +kernel
theorem dX7_copyFrom_1 : decode cX7_copyFrom 1 = .ok (.getfield 21, 3) := by decide +kernel
theorem dX7_copyFrom_4 : decode cX7_copyFrom 4 = .ok (.aload_n 0, 1) := by decide +kernel
theorem dX7_copyFrom_5 : decode cX7_copyFrom 5 = .ok (.getfield 15, 3) := by decide +kernel
theorem dX7_copyFrom_8 : decode cX7_copyFrom 8 = .ok (.arraylength, 1) := by decide +kernel
theorem dX7_copyFrom_9 : decode cX7_copyFrom 9 = .ok (.invokestatic 25, 3) := by decide +kernel
theorem dX7_copyFrom_12 : decode cX7_copyFrom 12 = .ok (.istore_n 2, 1) := by decide +kernel
theorem dX7_copyFrom_13 : decode cX7_copyFrom 13 = .ok (.aload_n 1, 1) := by decide +kernel
theorem dX7_copyFrom_14 : decode cX7_copyFrom 14 = .ok (.getfield 15, 3) := by decide +kernel
theorem dX7_copyFrom_17 : decode cX7_copyFrom 17 = .ok (.iconst 0, 1) := by decide +kernel
theorem dX7_copyFrom_18 : decode cX7_copyFrom 18 = .ok (.aload_n 0, 1) := by decide +kernel
theorem dX7_copyFrom_19 : decode cX7_copyFrom 19 = .ok (.getfield 15, 3) := by decide +kernel
theorem dX7_copyFrom_22 : decode cX7_copyFrom 22 = .ok (.iconst 0, 1) := by decide +kernel
theorem dX7_copyFrom_23 : decode cX7_copyFrom 23 = .ok (.iload_n 2, 1) := by decide +kernel
theorem dX7_copyFrom_24 : decode cX7_copyFrom 24 = .ok (.invokestatic 28, 3) := by decide +kernel
theorem dX7_copyFrom_27 : decode cX7_copyFrom 27 = .ok (.aload_n 0, 1) := by decide +kernel
theorem dX7_copyFrom_28 : decode cX7_copyFrom 28 = .ok (.iload_n 2, 1) := by decide +kernel
theorem dX7_copyFrom_29 : decode cX7_copyFrom 29 = .ok (.putfield 21, 3) := by decide +kernel
theorem dX7_copyFrom_32 : decode cX7_copyFrom 32 = .ok (.return_, 1) := by decide +kernel
theorem dX7_append_0 : decode cX7_append 0 = .ok (.iconst 0, 1) := by decide +kernel
theorem dX7_append_1 : decode cX7_append 1 = .ok (.istore_n 2, 1) := by decide +kernel
theorem dX7_append_2 : decode cX7_append 2 = .ok (.iload_n 2, 1) := by decide +kernel
theorem dX7_append_3 : decode cX7_append 3 = .ok (.aload_n 1, 1) := by decide +kernel
theorem dX7_append_4 : decode cX7_append 4 = .ok (.getfield 21, 3) := by decide +kernel
theorem dX7_append_7 : decode cX7_append 7 = .ok (.if_icmp .ge 19, 3) := by decide +kernel
theorem dX7_append_10 : decode cX7_append 10 = .ok (.aload_n 0, 1) := by decide +kernel
theorem dX7_append_11 : decode cX7_append 11 = .ok (.aload_n 1, 1) := by decide +kernel
theorem dX7_append_12 : decode cX7_append 12 = .ok (.getfield 15, 3) := by decide +kernel
theorem dX7_append_15 : decode cX7_append 15 = .ok (.iload_n 2, 1) := by decide +kernel
theorem dX7_append_16 : decode cX7_append 16 = .ok (.iaload, 1) := by decide +kernel
theorem dX7_append_17 : decode cX7_append 17 = .ok (.invokevirtual 34, 3) := by decide +kernel
theorem dX7_append_20 : decode cX7_append 20 = .ok (.iinc 2 1, 3) := by decide +kernel
theorem dX7_append_23 : decode cX7_append 23 = .ok (.goto (-21), 3) := by decide +kernel
theorem dX7_append_26 : decode cX7_append 26 = .ok (.return_, 1) := by decide +kernel
theorem dX7_turnRound_0 : decode cX7_turnRound 0 = .ok (.iconst 0, 1) := by decide +kernel
theorem dX7_turnRound_1 : decode cX7_turnRound 1 = .ok (.istore_n 1, 1) := by decide +kernel
theorem dX7_turnRound_2 : decode cX7_turnRound 2 = .ok (.iload_n 1, 1) := by decide +kernel
theorem dX7_turnRound_3 : decode cX7_turnRound 3 = .ok (.aload_n 0, 1) := by decide +kernel
theorem dX7_turnRound_4 : decode cX7_turnRound 4 = .ok (.getfield 21, 3) := by decide +kernel
theorem dX7_turnRound_7 : decode cX7_turnRound 7 = .ok (.iconst 2, 1) := by decide +kernel
theorem dX7_turnRound_8 : decode cX7_turnRound 8 = .ok (.idiv, 1) := by decide +kernel
theorem dX7_turnRound_9 : decode cX7_turnRound 9 = .ok (.if_icmp .ge 44, 3) := by decide +kernel
theorem dX7_turnRound_12 : decode cX7_turnRound 12 = .ok (.aload_n 0, 1) := by decide +kernel
theorem dX7_turnRound_13 : decode cX7_turnRound 13 = .ok (.getfield 21, 3) := by decide +kernel
theorem dX7_turnRound_16 : decode cX7_turnRound 16 = .ok (.iconst 1, 1) := by decide +kernel
theorem dX7_turnRound_17 : decode cX7_turnRound 17 = .ok (.isub, 1) := by decide +kernel
theorem dX7_turnRound_18 : decode cX7_turnRound 18 = .ok (.iload_n 1, 1) := by decide +kernel
theorem dX7_turnRound_19 : decode cX7_turnRound 19 = .ok (.isub, 1) := by decide +kernel
theorem dX7_turnRound_20 : decode cX7_turnRound 20 = .ok (.istore_n 2, 1) := by decide +kernel
theorem dX7_turnRound_21 : decode cX7_turnRound 21 = .ok (.aload_n 0, 1) := by decide +kernel
theorem dX7_turnRound_22 : decode cX7_turnRound 22 = .ok (.getfield 15, 3) := by decide +kernel
theorem dX7_turnRound_25 : decode cX7_turnRound 25 = .ok (.iload_n 1, 1) := by decide +kernel
theorem dX7_turnRound_26 : decode cX7_turnRound 26 = .ok (.iaload, 1) := by decide +kernel
theorem dX7_turnRound_27 : decode cX7_turnRound 27 = .ok (.istore_n 3, 1) := by decide +kernel
theorem dX7_turnRound_28 : decode cX7_turnRound 28 = .ok (.aload_n 0, 1) := by decide +kernel
theorem dX7_turnRound_29 : decode cX7_turnRound 29 = .ok (.getfield 15, 3) := by decide +kernel
theorem dX7_turnRound_32 : decode cX7_turnRound 32 = .ok (.iload_n 1, 1) := by decide +kernel
theorem dX7_turnRound_33 : decode cX7_turnRound 33 = .ok (.aload_n 0, 1) := by decide +kernel
theorem dX7_turnRound_34 : decode cX7_turnRound 34 = .ok (.getfield 15, 3) := by decide +kernel
theorem dX7_turnRound_37 : decode cX7_turnRound 37 = .ok (.iload_n 2, 1) := by decide +kernel
theorem dX7_turnRound_38 : decode cX7_turnRound 38 = .ok (.iaload, 1) := by decide +kernel
theorem dX7_turnRound_39 : decode cX7_turnRound 39 = .ok (.iastore, 1) := by decide +kernel
theorem dX7_turnRound_40 : decode cX7_turnRound 40 = .ok (.aload_n 0, 1) := by decide +kernel
theorem dX7_turnRound_41 : decode cX7_turnRound 41 = .ok (.getfield 15, 3) := by decide +kernel
theorem dX7_turnRound_44 : decode cX7_turnRound 44 = .ok (.iload_n 2, 1) := by decide +kernel
theorem dX7_turnRound_45 : decode cX7_turnRound 45 = .ok (.iload_n 3, 1) := by decide +kernel
theorem dX7_turnRound_46 : decode cX7_turnRound 46 = .ok (.iastore, 1) := by decide +kernel
theorem dX7_turnRound_47 : decode cX7_turnRound 47 = .ok (.iinc 1 1, 3) := by decide +kernel
theorem dX7_turnRound_50 : decode cX7_turnRound 50 = .ok (.goto (-48), 3) := by decide +kernel
theorem dX7_turnRound_53 : decode cX7_turnRound 53 = .ok (.return_, 1) := by decide +kernel
theorem dX7_isSameAs_0 : decode cX7_isSameAs 0 = .ok (.aload_n 0, 1) := by decide +kernel
theorem dX7_isSameAs_1 : decode cX7_isSameAs 1 = .ok (.getfield 21, 3) := by decide +kernel
theorem dX7_isSameAs_4 : decode cX7_isSameAs 4 = .ok (.aload_n 1, 1) := by decide +kernel
theorem dX7_isSameAs_5 : decode cX7_isSameAs 5 = .ok (.getfield 21, 3) := by decide +kernel
theorem dX7_isSameAs_8 : decode cX7_isSameAs 8 = .ok (.if_icmp .eq 5, 3) := by decide +kernel
theorem dX7_isSameAs_11 : decode cX7_isSameAs 11 = .ok (.iconst 0, 1) := by decide +kernel
theorem dX7_isSameAs_12 : decode cX7_isSameAs 12 = .ok (.ireturn, 1) := by decide +kernel
theorem dX7_isSameAs_13 : decode cX7_isSameAs 13 = .ok (.iconst 0, 1) := by decide +kernel
theorem dX7_isSameAs_14 : decode cX7_isSameAs 14 = .ok (.istore_n 2, 1) := by decide +kernel
theorem dX7_isSameAs_15 : decode cX7_isSameAs 15 = .ok (.iload_n 2, 1) := by decide +kernel
theorem dX7_isSameAs_16 : decode cX7_isSameAs 16 = .ok (.aload_n 0, 1) := by decide +kernel
theorem dX7_isSameAs_17 : decode cX7_isSameAs 17 = .ok (.getfield 21, 3) := by decide +kernel
theorem dX7_isSameAs_20 : decode cX7_isSameAs 20 = .ok (.if_icmp .ge 26, 3) := by decide +kernel
theorem dX7_isSameAs_23 : decode cX7_isSameAs 23 = .ok (.aload_n 0, 1) := by decide +kernel
theorem dX7_isSameAs_24 : decode cX7_isSameAs 24 = .ok (.getfield 15, 3) := by decide +kernel
theorem dX7_isSameAs_27 : decode cX7_isSameAs 27 = .ok (.iload_n 2, 1) := by decide +kernel
theorem dX7_isSameAs_28 : decode cX7_isSameAs 28 = .ok (.iaload, 1) := by decide +kernel
theorem dX7_isSameAs_29 : decode cX7_isSameAs 29 = .ok (.aload_n 1, 1) := by decide +kernel
theorem dX7_isSameAs_30 : decode cX7_isSameAs 30 = .ok (.getfield 15, 3) := by decide +kernel
theorem dX7_isSameAs_33 : decode cX7_isSameAs 33 = .ok (.iload_n 2, 1) := by decide +kernel
theorem dX7_isSameAs_34 : decode cX7_isSameAs 34 = .ok (.iaload, 1) := by decide +kernel
theorem dX7_isSameAs_35 : decode cX7_isSameAs 35 = .ok (.if_icmp .eq 5, 3) := by decide +kernel
theorem dX7_isSameAs_38 : decode cX7_isSameAs 38 = .ok (.iconst 0, 1) := by decide +kernel
theorem dX7_isSameAs_39 : decode cX7_isSameAs 39 = .ok (.ireturn, 1) := by decide +kernel
theorem dX7_isSameAs_40 : decode cX7_isSameAs 40 = .ok (.iinc 2 1, 3) := by decide +kernel
theorem dX7_isSameAs_43 : decode cX7_isSameAs 43 = .ok (.goto (-28), 3) := by decide +kernel
theorem dX7_isSameAs_46 : decode cX7_isSameAs 46 = .ok (.iconst 1, 1) := by decide +kernel
theorem dX7_isSameAs_47 : decode cX7_isSameAs 47 = .ok (.ireturn, 1) := by decide +kernel
theorem dX7_areDigits_0 : decode cX7_areDigits 0 = .ok (.iload_n 1, 1) := by decide +kernel
theorem dX7_areDigits_1 : decode cX7_areDigits 1 = .ok (.ifCond .lt 17, 3) := by decide +kernel
theorem dX7_areDigits_4 : decode cX7_areDigits 4 = .ok (.iload_n 2, 1) := by decide +kernel
theorem dX7_areDigits_5 : decode cX7_areDigits 5 = .ok (.ifCond .lt 13, 3) := by decide +kernel
theorem dX7_areDigits_8 : decode cX7_areDigits 8 = .ok (.iload_n 2, 1) := by decide +kernel
theorem dX7_areDigits_9 : decode cX7_areDigits 9 = .ok (.aload_n 0, 1) := by decide +kernel
theorem dX7_areDigits_10 : decode cX7_areDigits 10 = .ok (.getfield 21, 3) := by decide +kernel
theorem dX7_areDigits_13 : decode cX7_areDigits 13 = .ok (.iload_n 1, 1) := by decide +kernel
theorem dX7_areDigits_14 : decode cX7_areDigits 14 = .ok (.isub, 1) := by decide +kernel
theorem dX7_areDigits_15 : decode cX7_areDigits 15 = .ok (.if_icmp .le 5, 3) := by decide +kernel
theorem dX7_areDigits_18 : decode cX7_areDigits 18 = .ok (.iconst 0, 1) := by decide +kernel
theorem dX7_areDigits_19 : decode cX7_areDigits 19 = .ok (.ireturn, 1) := by decide +kernel
theorem dX7_areDigits_20 : decode cX7_areDigits 20 = .ok (.iload_n 1, 1) := by decide +kernel
theorem dX7_areDigits_21 : decode cX7_areDigits 21 = .ok (.istore_n 3, 1) := by decide +kernel
theorem dX7_areDigits_22 : decode cX7_areDigits 22 = .ok (.iload_n 3, 1) := by decide +kernel
theorem dX7_areDigits_23 : decode cX7_areDigits 23 = .ok (.iload_n 1, 1) := by decide +kernel
theorem dX7_areDigits_24 : decode cX7_areDigits 24 = .ok (.iload_n 2, 1) := by decide +kernel
theorem dX7_areDigits_25 : decode cX7_areDigits 25 = .ok (.iadd, 1) := by decide +kernel
theorem dX7_areDigits_26 : decode cX7_areDigits 26 = .ok (.if_icmp .ge 33, 3) := by decide +kernel
theorem dX7_areDigits_29 : decode cX7_areDigits 29 = .ok (.aload_n 0, 1) := by decide +kernel
theorem dX7_areDigits_30 : decode cX7_areDigits 30 = .ok (.getfield 15, 3) := by decide +kernel
theorem dX7_areDigits_33 : decode cX7_areDigits 33 = .ok (.iload_n 3, 1) := by decide +kernel
theorem dX7_areDigits_34 : decode cX7_areDigits 34 = .ok (.iaload, 1) := by decide +kernel
theorem dX7_areDigits_35 : decode cX7_areDigits 35 = .ok (.bipush 48, 2) := by decide +kernel
theorem dX7_areDigits_37 : decode cX7_areDigits 37 = .ok (.if_icmp .lt 14, 3) := by decide +kernel
theorem dX7_areDigits_40 : decode cX7_areDigits 40 = .ok (.aload_n 0, 1) := by decide +kernel
theorem dX7_areDigits_41 : decode cX7_areDigits 41 = .ok (.getfield 15, 3) := by decide +kernel
theorem dX7_areDigits_44 : decode cX7_areDigits 44 = .ok (.iload_n 3, 1) := by decide +kernel
theorem dX7_areDigits_45 : decode cX7_areDigits 45 = .ok (.iaload, 1) := by decide +kernel
theorem dX7_areDigits_46 : decode cX7_areDigits 46 = .ok (.bipush 57, 2) := by decide +kernel
theorem dX7_areDigits_48 : decode cX7_areDigits 48 = .ok (.if_icmp .le 5, 3) := by decide +kernel
theorem dX7_areDigits_51 : decode cX7_areDigits 51 = .ok (.iconst 0, 1) := by decide +kernel
theorem dX7_areDigits_52 : decode cX7_areDigits 52 = .ok (.ireturn, 1) := by decide +kernel
theorem dX7_areDigits_53 : decode cX7_areDigits 53 = .ok (.iinc 3 1, 3) := by decide +kernel
theorem dX7_areDigits_56 : decode cX7_areDigits 56 = .ok (.goto (-34), 3) := by decide +kernel
theorem dX7_areDigits_59 : decode cX7_areDigits 59 = .ok (.iconst 1, 1) := by decide +kernel
theorem dX7_areDigits_60 : decode cX7_areDigits 60 = .ok (.ireturn, 1) := by decide +kernel
theorem dX7_digitsAt_0 : decode cX7_digitsAt 0 = .ok (.aload_n 0, 1) := by decide +kernel
theorem dX7_digitsAt_1 : decode cX7_digitsAt 1 = .ok (.iload_n 1, 1) := by decide +kernel
theorem dX7_digitsAt_2 : decode cX7_digitsAt 2 = .ok (.iload_n 2, 1) := by decide +kernel
theorem dX7_digitsAt_3 : decode cX7_digitsAt 3 = .ok (.invokevirtual 38, 3) := by decide +kernel
theorem dX7_digitsAt_6 : decode cX7_digitsAt 6 = .ok (.ifCond .ne 7, 3) := by decide +kernel
theorem dX7_digitsAt_9 : decode cX7_digitsAt 9 = .ok (.ldc2_w 42, 3) := by decide +kernel
theorem dX7_digitsAt_12 : decode cX7_digitsAt 12 = .ok (.lreturn, 1) := by decide +kernel
theorem dX7_digitsAt_13 : decode cX7_digitsAt 13 = .ok (.lconst 0, 1) := by decide +kernel
theorem dX7_digitsAt_14 : decode cX7_digitsAt 14 = .ok (.lstore_n 3, 1) := by decide +kernel
theorem dX7_digitsAt_15 : decode cX7_digitsAt 15 = .ok (.iload_n 1, 1) := by decide +kernel
theorem dX7_digitsAt_16 : decode cX7_digitsAt 16 = .ok (.istore 5, 2) := by decide +kernel
theorem dX7_digitsAt_18 : decode cX7_digitsAt 18 = .ok (.iload 5, 2) := by decide +kernel
theorem dX7_digitsAt_20 : decode cX7_digitsAt 20 = .ok (.iload_n 1, 1) := by decide +kernel
theorem dX7_digitsAt_21 : decode cX7_digitsAt 21 = .ok (.iload_n 2, 1) := by decide +kernel
theorem dX7_digitsAt_22 : decode cX7_digitsAt 22 = .ok (.iadd, 1) := by decide +kernel
theorem dX7_digitsAt_23 : decode cX7_digitsAt 23 = .ok (.if_icmp .ge 27, 3) := by decide +kernel
theorem dX7_digitsAt_26 : decode cX7_digitsAt 26 = .ok (.lload_n 3, 1) := by decide +kernel
theorem dX7_digitsAt_27 : decode cX7_digitsAt 27 = .ok (.ldc2_w 44, 3) := by decide +kernel
theorem dX7_digitsAt_30 : decode cX7_digitsAt 30 = .ok (.lmul, 1) := by decide +kernel
theorem dX7_digitsAt_31 : decode cX7_digitsAt 31 = .ok (.aload_n 0, 1) := by decide +kernel
theorem dX7_digitsAt_32 : decode cX7_digitsAt 32 = .ok (.getfield 15, 3) := by decide +kernel
theorem dX7_digitsAt_35 : decode cX7_digitsAt 35 = .ok (.iload 5, 2) := by decide +kernel
theorem dX7_digitsAt_37 : decode cX7_digitsAt 37 = .ok (.iaload, 1) := by decide +kernel
theorem dX7_digitsAt_38 : decode cX7_digitsAt 38 = .ok (.bipush 48, 2) := by decide +kernel
theorem dX7_digitsAt_40 : decode cX7_digitsAt 40 = .ok (.isub, 1) := by decide +kernel
theorem dX7_digitsAt_41 : decode cX7_digitsAt 41 = .ok (.i2l, 1) := by decide +kernel
theorem dX7_digitsAt_42 : decode cX7_digitsAt 42 = .ok (.ladd, 1) := by decide +kernel
theorem dX7_digitsAt_43 : decode cX7_digitsAt 43 = .ok (.lstore_n 3, 1) := by decide +kernel
theorem dX7_digitsAt_44 : decode cX7_digitsAt 44 = .ok (.iinc 5 1, 3) := by decide +kernel
theorem dX7_digitsAt_47 : decode cX7_digitsAt 47 = .ok (.goto (-29), 3) := by decide +kernel
theorem dX7_digitsAt_50 : decode cX7_digitsAt 50 = .ok (.lload_n 3, 1) := by decide +kernel
theorem dX7_digitsAt_51 : decode cX7_digitsAt 51 = .ok (.lreturn, 1) := by decide +kernel
theorem dX7_twoDigits_0 : decode cX7_twoDigits 0 = .ok (.aload_n 0, 1) := by decide +kernel
theorem dX7_twoDigits_1 : decode cX7_twoDigits 1 = .ok (.iload_n 1, 1) := by decide +kernel
theorem dX7_twoDigits_2 : decode cX7_twoDigits 2 = .ok (.iconst 2, 1) := by decide +kernel
theorem dX7_twoDigits_3 : decode cX7_twoDigits 3 = .ok (.invokevirtual 38, 3) := by decide +kernel
theorem dX7_twoDigits_6 : decode cX7_twoDigits 6 = .ok (.ifCond .eq 30, 3) := by decide +kernel
theorem dX7_twoDigits_9 : decode cX7_twoDigits 9 = .ok (.aload_n 0, 1) := by decide +kernel
theorem dX7_twoDigits_10 : decode cX7_twoDigits 10 = .ok (.getfield 15, 3) := by decide +kernel
theorem dX7_twoDigits_13 : decode cX7_twoDigits 13 = .ok (.iload_n 1, 1) := by decide +kernel
theorem dX7_twoDigits_14 : decode cX7_twoDigits 14 = .ok (.iaload, 1) := by decide +kernel
theorem dX7_twoDigits_15 : decode cX7_twoDigits 15 = .ok (.bipush 48, 2) := by decide +kernel
theorem dX7_twoDigits_17 : decode cX7_twoDigits 17 = .ok (.isub, 1) := by decide +kernel
theorem dX7_twoDigits_18 : decode cX7_twoDigits 18 = .ok (.bipush 10, 2) := by decide +kernel
theorem dX7_twoDigits_20 : decode cX7_twoDigits 20 = .ok (.imul, 1) := by decide +kernel
theorem dX7_twoDigits_21 : decode cX7_twoDigits 21 = .ok (.aload_n 0, 1) := by decide +kernel
theorem dX7_twoDigits_22 : decode cX7_twoDigits 22 = .ok (.getfield 15, 3) := by decide +kernel
theorem dX7_twoDigits_25 : decode cX7_twoDigits 25 = .ok (.iload_n 1, 1) := by decide +kernel
theorem dX7_twoDigits_26 : decode cX7_twoDigits 26 = .ok (.iconst 1, 1) := by decide +kernel
theorem dX7_twoDigits_27 : decode cX7_twoDigits 27 = .ok (.iadd, 1) := by decide +kernel
theorem dX7_twoDigits_28 : decode cX7_twoDigits 28 = .ok (.iaload, 1) := by decide +kernel
theorem dX7_twoDigits_29 : decode cX7_twoDigits 29 = .ok (.iadd, 1) := by decide +kernel
theorem dX7_twoDigits_30 : decode cX7_twoDigits 30 = .ok (.bipush 48, 2) := by decide +kernel
theorem dX7_twoDigits_32 : decode cX7_twoDigits 32 = .ok (.isub, 1) := by decide +kernel
theorem dX7_twoDigits_33 : decode cX7_twoDigits 33 = .ok (.goto 4, 3) := by decide +kernel
theorem dX7_twoDigits_36 : decode cX7_twoDigits 36 = .ok (.iconst (-1), 1) := by decide +kernel
theorem dX7_twoDigits_37 : decode cX7_twoDigits 37 = .ok (.ireturn, 1) := by decide +kernel
theorem dX7_checkDigit_0 : decode cX7_checkDigit 0 = .ok (.aload_n 0, 1) := by decide +kernel
theorem dX7_checkDigit_1 : decode cX7_checkDigit 1 = .ok (.iload_n 1, 1) := by decide +kernel
theorem dX7_checkDigit_2 : decode cX7_checkDigit 2 = .ok (.iload_n 2, 1) := by decide +kernel
theorem dX7_checkDigit_3 : decode cX7_checkDigit 3 = .ok (.invokevirtual 38, 3) := by decide +kernel
theorem dX7_checkDigit_6 : decode cX7_checkDigit 6 = .ok (.ifCond .ne 5, 3) := by decide +kernel
theorem dX7_checkDigit_9 : decode cX7_checkDigit 9 = .ok (.iconst (-1), 1) := by decide +kernel
theorem dX7_checkDigit_10 : decode cX7_checkDigit 10 = .ok (.ireturn, 1) := by decide +kernel
theorem dX7_checkDigit_11 : decode cX7_checkDigit 11 = .ok (.iconst 0, 1) := by decide +kernel
theorem dX7_checkDigit_12 : decode cX7_checkDigit 12 = .ok (.istore_n 3, 1) := by decide +kernel
theorem dX7_checkDigit_13 : decode cX7_checkDigit 13 = .ok (.iconst 3, 1) := by decide +kernel
theorem dX7_checkDigit_14 : decode cX7_checkDigit 14 = .ok (.istore 4, 2) := by decide +kernel
theorem dX7_checkDigit_16 : decode cX7_checkDigit 16 = .ok (.iload_n 1, 1) := by decide +kernel
theorem dX7_checkDigit_17 : decode cX7_checkDigit 17 = .ok (.iload_n 2, 1) := by decide +kernel
theorem dX7_checkDigit_18 : decode cX7_checkDigit 18 = .ok (.iadd, 1) := by decide +kernel
theorem dX7_checkDigit_19 : decode cX7_checkDigit 19 = .ok (.iconst 1, 1) := by decide +kernel
theorem dX7_checkDigit_20 : decode cX7_checkDigit 20 = .ok (.isub, 1) := by decide +kernel
theorem dX7_checkDigit_21 : decode cX7_checkDigit 21 = .ok (.istore 5, 2) := by decide +kernel
theorem dX7_checkDigit_23 : decode cX7_checkDigit 23 = .ok (.iload 5, 2) := by decide +kernel
theorem dX7_checkDigit_25 : decode cX7_checkDigit 25 = .ok (.iload_n 1, 1) := by decide +kernel
theorem dX7_checkDigit_26 : decode cX7_checkDigit 26 = .ok (.if_icmp .lt 31, 3) := by decide +kernel
theorem dX7_checkDigit_29 : decode cX7_checkDigit 29 = .ok (.iload_n 3, 1) := by decide +kernel
theorem dX7_checkDigit_30 : decode cX7_checkDigit 30 = .ok (.aload_n 0, 1) := by decide +kernel
theorem dX7_checkDigit_31 : decode cX7_checkDigit 31 = .ok (.getfield 15, 3) := by decide +kernel
theorem dX7_checkDigit_34 : decode cX7_checkDigit 34 = .ok (.iload 5, 2) := by decide +kernel
theorem dX7_checkDigit_36 : decode cX7_checkDigit 36 = .ok (.iaload, 1) := by decide +kernel
theorem dX7_checkDigit_37 : decode cX7_checkDigit 37 = .ok (.bipush 48, 2) := by decide +kernel
theorem dX7_checkDigit_39 : decode cX7_checkDigit 39 = .ok (.isub, 1) := by decide +kernel
theorem dX7_checkDigit_40 : decode cX7_checkDigit 40 = .ok (.iload 4, 2) := by decide +kernel
theorem dX7_checkDigit_42 : decode cX7_checkDigit 42 = .ok (.imul, 1) := by decide +kernel
theorem dX7_checkDigit_43 : decode cX7_checkDigit 43 = .ok (.iadd, 1) := by decide +kernel
theorem dX7_checkDigit_44 : decode cX7_checkDigit 44 = .ok (.istore_n 3, 1) := by decide +kernel
theorem dX7_checkDigit_45 : decode cX7_checkDigit 45 = .ok (.iconst 4, 1) := by decide +kernel
theorem dX7_checkDigit_46 : decode cX7_checkDigit 46 = .ok (.iload 4, 2) := by decide +kernel
theorem dX7_checkDigit_48 : decode cX7_checkDigit 48 = .ok (.isub, 1) := by decide +kernel
theorem dX7_checkDigit_49 : decode cX7_checkDigit 49 = .ok (.istore 4, 2) := by decide +kernel
theorem dX7_checkDigit_51 : decode cX7_checkDigit 51 = .ok (.iinc 5 (-1), 3) := by decide +kernel
theorem dX7_checkDigit_54 : decode cX7_checkDigit 54 = .ok (.goto (-31), 3) := by decide +kernel
theorem dX7_checkDigit_57 : decode cX7_checkDigit 57 = .ok (.bipush 10, 2) := by decide +kernel
theorem dX7_checkDigit_59 : decode cX7_checkDigit 59 = .ok (.iload_n 3, 1) := by decide +kernel
theorem dX7_checkDigit_60 : decode cX7_checkDigit 60 = .ok (.bipush 10, 2) := by decide +kernel
theorem dX7_checkDigit_62 : decode cX7_checkDigit 62 = .ok (.irem, 1) := by decide +kernel
theorem dX7_checkDigit_63 : decode cX7_checkDigit 63 = .ok (.isub, 1) := by decide +kernel
theorem dX7_checkDigit_64 : decode cX7_checkDigit 64 = .ok (.bipush 10, 2) := by decide +kernel
theorem dX7_checkDigit_66 : decode cX7_checkDigit 66 = .ok (.irem, 1) := by decide +kernel
theorem dX7_checkDigit_67 : decode cX7_checkDigit 67 = .ok (.ireturn, 1) := by decide +kernel
theorem dX8_lineOf_0 : decode cX8_lineOf 0 = .ok (.iconst 0, 1) := by decide +kernel
theorem dX8_lineOf_1 : decode cX8_lineOf 1 = .ok (.istore_n 2, 1) := by decide +kernel
theorem dX8_lineOf_2 : decode cX8_lineOf 2 = .ok (.iload_n 2, 1) := by decide +kernel
theorem dX8_lineOf_3 : decode cX8_lineOf 3 = .ok (.bipush 8, 2) := by decide +kernel
theorem dX8_lineOf_5 : decode cX8_lineOf 5 = .ok (.iadd, 1) := by decide +kernel
theorem dX8_lineOf_6 : decode cX8_lineOf 6 = .ok (.getstatic 11, 3) := by decide +kernel
theorem dX8_lineOf_9 : decode cX8_lineOf 9 = .ok (.arraylength, 1) := by decide +kernel
theorem dX8_lineOf_10 : decode cX8_lineOf 10 = .ok (.if_icmp .gt 110, 3) := by decide +kernel
theorem dX8_lineOf_13 : decode cX8_lineOf 13 = .ok (.getstatic 11, 3) := by decide +kernel
theorem dX8_lineOf_16 : decode cX8_lineOf 16 = .ok (.iload_n 2, 1) := by decide +kernel
theorem dX8_lineOf_17 : decode cX8_lineOf 17 = .ok (.iconst 3, 1) := by decide +kernel
theorem dX8_lineOf_18 : decode cX8_lineOf 18 = .ok (.iadd, 1) := by decide +kernel
theorem dX8_lineOf_19 : decode cX8_lineOf 19 = .ok (.iaload, 1) := by decide +kernel
theorem dX8_lineOf_20 : decode cX8_lineOf 20 = .ok (.istore_n 3, 1) := by decide +kernel
theorem dX8_lineOf_21 : decode cX8_lineOf 21 = .ok (.iload_n 3, 1) := by decide +kernel
theorem dX8_lineOf_22 : decode cX8_lineOf 22 = .ok (.iconst (-1), 1) := by decide +kernel
theorem dX8_lineOf_23 : decode cX8_lineOf 23 = .ok (.if_icmp .ne 7, 3) := by decide +kernel
theorem dX8_lineOf_26 : decode cX8_lineOf 26 = .ok (.iload_n 0, 1) := by decide +kernel
theorem dX8_lineOf_27 : decode cX8_lineOf 27 = .ok (.goto 7, 3) := by decide +kernel
theorem dX8_lineOf_30 : decode cX8_lineOf 30 = .ok (.iload_n 0, 1) := by decide +kernel
theorem dX8_lineOf_31 : decode cX8_lineOf 31 = .ok (.bipush 10, 2) := by decide +kernel
theorem dX8_lineOf_33 : decode cX8_lineOf 33 = .ok (.idiv, 1) := by decide +kernel
theorem dX8_lineOf_34 : decode cX8_lineOf 34 = .ok (.istore 4, 2) := by decide +kernel
theorem dX8_lineOf_36 : decode cX8_lineOf 36 = .ok (.iload_n 3, 1) := by decide +kernel
theorem dX8_lineOf_37 : decode cX8_lineOf 37 = .ok (.iconst (-1), 1) := by decide +kernel
theorem dX8_lineOf_38 : decode cX8_lineOf 38 = .ok (.if_icmp .ne 7, 3) := by decide +kernel
theorem dX8_lineOf_41 : decode cX8_lineOf 41 = .ok (.iload_n 1, 1) := by decide +kernel
theorem dX8_lineOf_42 : decode cX8_lineOf 42 = .ok (.goto 6, 3) := by decide +kernel
theorem dX8_lineOf_45 : decode cX8_lineOf 45 = .ok (.iload_n 1, 1) := by decide +kernel
theorem dX8_lineOf_46 : decode cX8_lineOf 46 = .ok (.iconst 1, 1) := by decide +kernel
theorem dX8_lineOf_47 : decode cX8_lineOf 47 = .ok (.isub, 1) := by decide +kernel
theorem dX8_lineOf_48 : decode cX8_lineOf 48 = .ok (.istore 5, 2) := by decide +kernel
theorem dX8_lineOf_50 : decode cX8_lineOf 50 = .ok (.iload_n 3, 1) := by decide +kernel
theorem dX8_lineOf_51 : decode cX8_lineOf 51 = .ok (.iconst (-1), 1) := by decide +kernel
theorem dX8_lineOf_52 : decode cX8_lineOf 52 = .ok (.if_icmp .eq 11, 3) := by decide +kernel
theorem dX8_lineOf_55 : decode cX8_lineOf 55 = .ok (.iload_n 0, 1) := by decide +kernel
theorem dX8_lineOf_56 : decode cX8_lineOf 56 = .ok (.bipush 10, 2) := by decide +kernel
theorem dX8_lineOf_58 : decode cX8_lineOf 58 = .ok (.irem, 1) := by decide +kernel
theorem dX8_lineOf_59 : decode cX8_lineOf 59 = .ok (.iload_n 3, 1) := by decide +kernel
theorem dX8_lineOf_60 : decode cX8_lineOf 60 = .ok (.if_icmp .gt 7, 3) := by decide +kernel
theorem dX8_lineOf_63 : decode cX8_lineOf 63 = .ok (.iconst 1, 1) := by decide +kernel
theorem dX8_lineOf_64 : decode cX8_lineOf 64 = .ok (.goto 4, 3) := by decide +kernel
theorem dX8_lineOf_67 : decode cX8_lineOf 67 = .ok (.iconst 0, 1) := by decide +kernel
theorem dX8_lineOf_68 : decode cX8_lineOf 68 = .ok (.istore 6, 2) := by decide +kernel
theorem dX8_lineOf_70 : decode cX8_lineOf 70 = .ok (.iload 4, 2) := by decide +kernel
theorem dX8_lineOf_72 : decode cX8_lineOf 72 = .ok (.getstatic 11, 3) := by decide +kernel
theorem dX8_lineOf_75 : decode cX8_lineOf 75 = .ok (.iload_n 2, 1) := by decide +kernel
theorem dX8_lineOf_76 : decode cX8_lineOf 76 = .ok (.iaload, 1) := by decide +kernel
theorem dX8_lineOf_77 : decode cX8_lineOf 77 = .ok (.if_icmp .lt 37, 3) := by decide +kernel
theorem dX8_lineOf_80 : decode cX8_lineOf 80 = .ok (.iload 4, 2) := by decide +kernel
theorem dX8_lineOf_82 : decode cX8_lineOf 82 = .ok (.getstatic 11, 3) := by decide +kernel
theorem dX8_lineOf_85 : decode cX8_lineOf 85 = .ok (.iload_n 2, 1) := by decide +kernel
theorem dX8_lineOf_86 : decode cX8_lineOf 86 = .ok (.iconst 1, 1) := by decide +kernel
theorem dX8_lineOf_87 : decode cX8_lineOf 87 = .ok (.iadd, 1) := by decide +kernel
theorem dX8_lineOf_88 : decode cX8_lineOf 88 = .ok (.iaload, 1) := by decide +kernel
theorem dX8_lineOf_89 : decode cX8_lineOf 89 = .ok (.if_icmp .gt 25, 3) := by decide +kernel
theorem dX8_lineOf_92 : decode cX8_lineOf 92 = .ok (.iload 5, 2) := by decide +kernel
theorem dX8_lineOf_94 : decode cX8_lineOf 94 = .ok (.getstatic 11, 3) := by decide +kernel
theorem dX8_lineOf_97 : decode cX8_lineOf 97 = .ok (.iload_n 2, 1) := by decide +kernel
theorem dX8_lineOf_98 : decode cX8_lineOf 98 = .ok (.iconst 2, 1) := by decide +kernel
theorem dX8_lineOf_99 : decode cX8_lineOf 99 = .ok (.iadd, 1) := by decide +kernel
theorem dX8_lineOf_100 : decode cX8_lineOf 100 = .ok (.iaload, 1) := by decide +kernel
theorem dX8_lineOf_101 : decode cX8_lineOf 101 = .ok (.if_icmp .ne 13, 3) := by decide +kernel
theorem dX8_lineOf_104 : decode cX8_lineOf 104 = .ok (.iload 6, 2) := by decide +kernel
theorem dX8_lineOf_106 : decode cX8_lineOf 106 = .ok (.ifCond .eq 8, 3) := by decide +kernel
theorem dX8_lineOf_109 : decode cX8_lineOf 109 = .ok (.iload_n 2, 1) := by decide +kernel
theorem dX8_lineOf_110 : decode cX8_lineOf 110 = .ok (.bipush 8, 2) := by decide +kernel
theorem dX8_lineOf_112 : decode cX8_lineOf 112 = .ok (.idiv, 1) := by decide +kernel
theorem dX8_lineOf_113 : decode cX8_lineOf 113 = .ok (.ireturn, 1) := by decide +kernel
theorem dX8_lineOf_114 : decode cX8_lineOf 114 = .ok (.iinc 2 8, 3) := by decide +kernel
theorem dX8_lineOf_117 : decode cX8_lineOf 117 = .ok (.goto (-115), 3) := by decide +kernel
theorem dX8_lineOf_120 : decode cX8_lineOf 120 = .ok (.iconst (-1), 1) := by decide +kernel
theorem dX8_lineOf_121 : decode cX8_lineOf 121 = .ok (.ireturn, 1) := by decide +kernel
theorem dX8_cell_0 : decode cX8_cell 0 = .ok (.iload_n 0, 1) := by decide +kernel
theorem dX8_cell_1 : decode cX8_cell 1 = .ok (.bipush 8, 2) := by decide +kernel
theorem dX8_cell_3 : decode cX8_cell 3 = .ok (.imul, 1) := by decide +kernel
theorem dX8_cell_4 : decode cX8_cell 4 = .ok (.iload_n 1, 1) := by decide +kernel
theorem dX8_cell_5 : decode cX8_cell 5 = .ok (.iadd, 1) := by decide +kernel
theorem dX8_cell_6 : decode cX8_cell 6 = .ok (.istore_n 2, 1) := by decide +kernel
theorem dX8_cell_7 : decode cX8_cell 7 = .ok (.iload_n 0, 1) := by decide +kernel
theorem dX8_cell_8 : decode cX8_cell 8 = .ok (.ifCond .lt 15, 3) := by decide +kernel
theorem dX8_cell_11 : decode cX8_cell 11 = .ok (.iload_n 2, 1) := by decide +kernel
theorem dX8_cell_12 : decode cX8_cell 12 = .ok (.ifCond .lt 11, 3) := by decide +kernel
theorem dX8_cell_15 : decode cX8_cell 15 = .ok (.iload_n 2, 1) := by decide +kernel
theorem dX8_cell_16 : decode cX8_cell 16 = .ok (.getstatic 11, 3) := by decide +kernel
theorem dX8_cell_19 : decode cX8_cell 19 = .ok (.arraylength, 1) := by decide +kernel
theorem dX8_cell_20 : decode cX8_cell 20 = .ok (.if_icmp .lt 7, 3) := by decide +kernel
theorem dX8_cell_23 : decode cX8_cell 23 = .ok (.iconst 0, 1) := by decide +kernel
theorem dX8_cell_24 : decode cX8_cell 24 = .ok (.goto 8, 3) := by decide +kernel
theorem dX8_cell_27 : decode cX8_cell 27 = .ok (.getstatic 11, 3) := by decide +kernel
theorem dX8_cell_30 : decode cX8_cell 30 = .ok (.iload_n 2, 1) := by decide +kernel
theorem dX8_cell_31 : decode cX8_cell 31 = .ok (.iaload, 1) := by decide +kernel
theorem dX8_cell_32 : decode cX8_cell 32 = .ok (.ireturn, 1) := by decide +kernel
theorem dX8_hasPoint_0 : decode cX8_hasPoint 0 = .ok (.iload_n 0, 1) := by decide +kernel
theorem dX8_hasPoint_1 : decode cX8_hasPoint 1 = .ok (.iconst 3, 1) := by decide +kernel
theorem dX8_hasPoint_2 : decode cX8_hasPoint 2 = .ok (.invokestatic 15, 3) := by decide +kernel
theorem dX8_hasPoint_5 : decode cX8_hasPoint 5 = .ok (.iconst (-1), 1) := by decide +kernel
theorem dX8_hasPoint_6 : decode cX8_hasPoint 6 = .ok (.if_icmp .eq 7, 3) := by decide +kernel
theorem dX8_hasPoint_9 : decode cX8_hasPoint 9 = .ok (.iconst 1, 1) := by decide +kernel
theorem dX8_hasPoint_10 : decode cX8_hasPoint 10 = .ok (.goto 4, 3) := by decide +kernel
theorem dX8_hasPoint_13 : decode cX8_hasPoint 13 = .ok (.iconst 0, 1) := by decide +kernel
theorem dX8_hasPoint_14 : decode cX8_hasPoint 14 = .ok (.ireturn, 1) := by decide +kernel
theorem dX8_isFixed_0 : decode cX8_isFixed 0 = .ok (.iload_n 1, 1) := by decide +kernel
theorem dX8_isFixed_1 : decode cX8_isFixed 1 = .ok (.iconst 4, 1) := by decide +kernel
theorem dX8_isFixed_2 : decode cX8_isFixed 2 = .ok (.if_icmp .ne 10, 3) := by decide +kernel
theorem dX8_isFixed_5 : decode cX8_isFixed 5 = .ok (.iload_n 0, 1) := by decide +kernel
theorem dX8_isFixed_6 : decode cX8_isFixed 6 = .ok (.bipush 100, 2) := by decide +kernel
theorem dX8_isFixed_8 : decode cX8_isFixed 8 = .ok (.idiv, 1) := by decide +kernel
theorem dX8_isFixed_9 : decode cX8_isFixed 9 = .ok (.goto 16, 3) := by decide +kernel
theorem dX8_isFixed_12 : decode cX8_isFixed 12 = .ok (.iload_n 1, 1) := by decide +kernel
theorem dX8_isFixed_13 : decode cX8_isFixed 13 = .ok (.iconst 3, 1) := by decide +kernel
theorem dX8_isFixed_14 : decode cX8_isFixed 14 = .ok (.if_icmp .ne 10, 3) := by decide +kernel
theorem dX8_isFixed_17 : decode cX8_isFixed 17 = .ok (.iload_n 0, 1) := by decide +kernel
theorem dX8_isFixed_18 : decode cX8_isFixed 18 = .ok (.bipush 10, 2) := by decide +kernel
theorem dX8_isFixed_20 : decode cX8_isFixed 20 = .ok (.idiv, 1) := by decide +kernel
theorem dX8_isFixed_21 : decode cX8_isFixed 21 = .ok (.goto 4, 3) := by decide +kernel
theorem dX8_isFixed_24 : decode cX8_isFixed 24 = .ok (.iload_n 0, 1) := by decide +kernel
theorem dX8_isFixed_25 : decode cX8_isFixed 25 = .ok (.istore_n 2, 1) := by decide +kernel
theorem dX8_isFixed_26 : decode cX8_isFixed 26 = .ok (.iload_n 2, 1) := by decide +kernel
theorem dX8_isFixed_27 : decode cX8_isFixed 27 = .ok (.iconst 2, 1) := by decide +kernel
theorem dX8_isFixed_28 : decode cX8_isFixed 28 = .ok (.if_icmp .le 39, 3) := by decide +kernel
theorem dX8_isFixed_31 : decode cX8_isFixed 31 = .ok (.iload_n 2, 1) := by decide +kernel
theorem dX8_isFixed_32 : decode cX8_isFixed 32 = .ok (.bipush 11, 2) := by decide +kernel
theorem dX8_isFixed_34 : decode cX8_isFixed 34 = .ok (.if_icmp .lt 9, 3) := by decide +kernel
theorem dX8_isFixed_37 : decode cX8_isFixed 37 = .ok (.iload_n 2, 1) := by decide +kernel
theorem dX8_isFixed_38 : decode cX8_isFixed 38 = .ok (.bipush 17, 2) := by decide +kernel
theorem dX8_isFixed_40 : decode cX8_isFixed 40 = .ok (.if_icmp .le 27, 3) := by decide +kernel
theorem dX8_isFixed_43 : decode cX8_isFixed 43 = .ok (.iload_n 2, 1) := by decide +kernel
theorem dX8_isFixed_44 : decode cX8_isFixed 44 = .ok (.bipush 20, 2) := by decide +kernel
theorem dX8_isFixed_46 : decode cX8_isFixed 46 = .ok (.if_icmp .eq 21, 3) := by decide +kernel
theorem dX8_isFixed_49 : decode cX8_isFixed 49 = .ok (.iload_n 2, 1) := by decide +kernel
theorem dX8_isFixed_50 : decode cX8_isFixed 50 = .ok (.bipush 31, 2) := by decide +kernel
theorem dX8_isFixed_52 : decode cX8_isFixed 52 = .ok (.if_icmp .lt 9, 3) := by decide +kernel
theorem dX8_isFixed_55 : decode cX8_isFixed 55 = .ok (.iload_n 2, 1) := by decide +kernel
theorem dX8_isFixed_56 : decode cX8_isFixed 56 = .ok (.bipush 36, 2) := by decide +kernel
theorem dX8_isFixed_58 : decode cX8_isFixed 58 = .ok (.if_icmp .le 9, 3) := by decide +kernel
theorem dX8_isFixed_61 : decode cX8_isFixed 61 = .ok (.iload_n 2, 1) := by decide +kernel
theorem dX8_isFixed_62 : decode cX8_isFixed 62 = .ok (.bipush 41, 2) := by decide +kernel
theorem dX8_isFixed_64 : decode cX8_isFixed 64 = .ok (.if_icmp .ne 7, 3) := by decide +kernel
theorem dX8_isFixed_67 : decode cX8_isFixed 67 = .ok (.iconst 1, 1) := by decide +kernel
theorem dX8_isFixed_68 : decode cX8_isFixed 68 = .ok (.goto 4, 3) := by decide +kernel
theorem dX8_isFixed_71 : decode cX8_isFixed 71 = .ok (.iconst 0, 1) := by decide +kernel
theorem dX8_isFixed_72 : decode cX8_isFixed 72 = .ok (.ireturn, 1) := by decide +kernel
theorem dX8_partAt_0 : decode cX8_partAt 0 = .ok (.iload_n 1, 1) := by decide +kernel
theorem dX8_partAt_1 : decode cX8_partAt 1 = .ok (.ifCond .lt 8, 3) := by decide +kernel
theorem dX8_partAt_4 : decode cX8_partAt 4 = .ok (.iload_n 1, 1) := by decide +kernel
theorem dX8_partAt_5 : decode cX8_partAt 5 = .ok (.iconst 4, 1) := by decide +kernel
theorem dX8_partAt_6 : decode cX8_partAt 6 = .ok (.if_icmp .lt 7, 3) := by decide +kernel
theorem dX8_partAt_9 : decode cX8_partAt 9 = .ok (.iconst 0, 1) := by decide +kernel
theorem dX8_partAt_10 : decode cX8_partAt 10 = .ok (.goto 10, 3) := by decide +kernel
theorem dX8_partAt_13 : decode cX8_partAt 13 = .ok (.iload_n 0, 1) := by decide +kernel
theorem dX8_partAt_14 : decode cX8_partAt 14 = .ok (.iconst 4, 1) := by decide +kernel
theorem dX8_partAt_15 : decode cX8_partAt 15 = .ok (.iload_n 1, 1) := by decide +kernel
theorem dX8_partAt_16 : decode cX8_partAt 16 = .ok (.iadd, 1) := by decide +kernel
theorem dX8_partAt_17 : decode cX8_partAt 17 = .ok (.invokestatic 15, 3) := by decide +kernel
theorem dX8_partAt_20 : decode cX8_partAt 20 = .ok (.ireturn, 1) := by decide +kernel
theorem dX8_sort_0 : decode cX8_sort 0 = .ok (.iload_n 0, 1) := by decide +kernel
theorem dX8_sort_1 : decode cX8_sort 1 = .ok (.sipush 1000, 3) := by decide +kernel
theorem dX8_sort_4 : decode cX8_sort 4 = .ok (.idiv, 1) := by decide +kernel
theorem dX8_sort_5 : decode cX8_sort 5 = .ok (.ireturn, 1) := by decide +kernel
theorem dX8_mostBytes_0 : decode cX8_mostBytes 0 = .ok (.iload_n 0, 1) := by decide +kernel
theorem dX8_mostBytes_1 : decode cX8_mostBytes 1 = .ok (.bipush 10, 2) := by decide +kernel
theorem dX8_mostBytes_3 : decode cX8_mostBytes 3 = .ok (.idiv, 1) := by decide +kernel
theorem dX8_mostBytes_4 : decode cX8_mostBytes 4 = .ok (.bipush 100, 2) := by decide +kernel
theorem dX8_mostBytes_6 : decode cX8_mostBytes 6 = .ok (.irem, 1) := by decide +kernel
theorem dX8_mostBytes_7 : decode cX8_mostBytes 7 = .ok (.ireturn, 1) := by decide +kernel
theorem dX8_mayBeShorter_0 : decode cX8_mayBeShorter 0 = .ok (.iload_n 0, 1) := by decide +kernel
theorem dX8_mayBeShorter_1 : decode cX8_mayBeShorter 1 = .ok (.iconst 1, 1) := by decide +kernel
theorem dX8_mayBeShorter_2 : decode cX8_mayBeShorter 2 = .ok (.iand, 1) := by decide +kernel
theorem dX8_mayBeShorter_3 : decode cX8_mayBeShorter 3 = .ok (.ifCond .eq 7, 3) := by decide +kernel
theorem dX8_mayBeShorter_6 : decode cX8_mayBeShorter 6 = .ok (.iconst 1, 1) := by decide +kernel
theorem dX8_mayBeShorter_7 : decode cX8_mayBeShorter 7 = .ok (.goto 4, 3) := by decide +kernel
theorem dX8_mayBeShorter_10 : decode cX8_mayBeShorter 10 = .ok (.iconst 0, 1) := by decide +kernel
theorem dX8_mayBeShorter_11 : decode cX8_mayBeShorter 11 = .ok (.ireturn, 1) := by decide +kernel
theorem dX8_mayBeLeftOut_0 : decode cX8_mayBeLeftOut 0 = .ok (.iload_n 0, 1) := by decide +kernel
theorem dX8_mayBeLeftOut_1 : decode cX8_mayBeLeftOut 1 = .ok (.bipush 10, 2) := by decide +kernel
theorem dX8_mayBeLeftOut_3 : decode cX8_mayBeLeftOut 3 = .ok (.irem, 1) := by decide +kernel
theorem dX8_mayBeLeftOut_4 : decode cX8_mayBeLeftOut 4 = .ok (.iconst 2, 1) := by decide +kernel
theorem dX8_mayBeLeftOut_5 : decode cX8_mayBeLeftOut 5 = .ok (.if_icmp .lt 7, 3) := by decide +kernel
theorem dX8_mayBeLeftOut_8 : decode cX8_mayBeLeftOut 8 = .ok (.iconst 1, 1) := by decide +kernel
theorem dX8_mayBeLeftOut_9 : decode cX8_mayBeLeftOut 9 = .ok (.goto 4, 3) := by decide +kernel
theorem dX8_mayBeLeftOut_12 : decode cX8_mayBeLeftOut 12 = .ok (.iconst 0, 1) := by decide +kernel
theorem dX8_mayBeLeftOut_13 : decode cX8_mayBeLeftOut 13 = .ok (.ireturn, 1) := by decide +kernel
theorem dX8_fits_0 : decode cX8_fits 0 = .ok (.iload_n 0, 1) := by decide +kernel
theorem dX8_fits_1 : decode cX8_fits 1 = .ok (.bipush 48, 2) := by decide +kernel
theorem dX8_fits_3 : decode cX8_fits 3 = .ok (.if_icmp .lt 9, 3) := by decide +kernel
theorem dX8_fits_6 : decode cX8_fits 6 = .ok (.iload_n 0, 1) := by decide +kernel
theorem dX8_fits_7 : decode cX8_fits 7 = .ok (.bipush 57, 2) := by decide +kernel
theorem dX8_fits_9 : decode cX8_fits 9 = .ok (.if_icmp .le 15, 3) := by decide +kernel
theorem dX8_fits_12 : decode cX8_fits 12 = .ok (.iload_n 1, 1) := by decide +kernel
theorem dX8_fits_13 : decode cX8_fits 13 = .ok (.iconst 2, 1) := by decide +kernel
theorem dX8_fits_14 : decode cX8_fits 14 = .ok (.if_icmp .ne 14, 3) := by decide +kernel
theorem dX8_fits_17 : decode cX8_fits 17 = .ok (.iload_n 0, 1) := by decide +kernel
theorem dX8_fits_18 : decode cX8_fits 18 = .ok (.invokestatic 19, 3) := by decide +kernel
theorem dX8_fits_21 : decode cX8_fits 21 = .ok (.ifCond .eq 7, 3) := by decide +kernel
theorem dX8_fits_24 : decode cX8_fits 24 = .ok (.iconst 1, 1) := by decide +kernel
theorem dX8_fits_25 : decode cX8_fits 25 = .ok (.goto 4, 3) := by decide +kernel
theorem dX8_fits_28 : decode cX8_fits 28 = .ok (.iconst 0, 1) := by decide +kernel
theorem dX8_fits_29 : decode cX8_fits 29 = .ok (.ireturn, 1) := by decide +kernel
theorem dX8_isLetterOrMark_0 : decode cX8_isLetterOrMark 0 = .ok (.iload_n 0, 1) := by decide +kernel
theorem dX8_isLetterOrMark_1 : decode cX8_isLetterOrMark 1 = .ok (.bipush 65, 2) := by decide +kernel
theorem dX8_isLetterOrMark_3 : decode cX8_isLetterOrMark 3 = .ok (.if_icmp .lt 9, 3) := by decide +kernel
theorem dX8_isLetterOrMark_6 : decode cX8_isLetterOrMark 6 = .ok (.iload_n 0, 1) := by decide +kernel
theorem dX8_isLetterOrMark_7 : decode cX8_isLetterOrMark 7 = .ok (.bipush 90, 2) := by decide +kernel
theorem dX8_isLetterOrMark_9 : decode cX8_isLetterOrMark 9 = .ok (.if_icmp .le 29, 3) := by decide +kernel
theorem dX8_isLetterOrMark_12 : decode cX8_isLetterOrMark 12 = .ok (.iload_n 0, 1) := by decide +kernel
theorem dX8_isLetterOrMark_13 : decode cX8_isLetterOrMark 13 = .ok (.bipush 97, 2) := by decide +kernel
theorem dX8_isLetterOrMark_15 : decode cX8_isLetterOrMark 15 = .ok (.if_icmp .lt 9, 3) := by decide +kernel
theorem dX8_isLetterOrMark_18 : decode cX8_isLetterOrMark 18 = .ok (.iload_n 0, 1) := by decide +kernel
theorem dX8_isLetterOrMark_19 : decode cX8_isLetterOrMark 19 = .ok (.bipush 122, 2) := by decide +kernel
theorem dX8_isLetterOrMark_21 : decode cX8_isLetterOrMark 21 = .ok (.if_icmp .le 17, 3) := by decide +kernel
theorem dX8_isLetterOrMark_24 : decode cX8_isLetterOrMark 24 = .ok (.iload_n 0, 1) := by decide +kernel
theorem dX8_isLetterOrMark_25 : decode cX8_isLetterOrMark 25 = .ok (.ifCond .lt 17, 3) := by decide +kernel
theorem dX8_isLetterOrMark_28 : decode cX8_isLetterOrMark 28 = .ok (.ldc 23, 2) := by decide +kernel
theorem dX8_isLetterOrMark_30 : decode cX8_isLetterOrMark 30 = .ok (.iload_n 0, 1) := by decide +kernel
theorem dX8_isLetterOrMark_31 : decode cX8_isLetterOrMark 31 = .ok (.i2c, 1) := by decide +kernel
theorem dX8_isLetterOrMark_32 : decode cX8_isLetterOrMark 32 = .ok (.invokevirtual 25, 3) := by decide +kernel
theorem dX8_isLetterOrMark_35 : decode cX8_isLetterOrMark 35 = .ok (.ifCond .lt 7, 3) := by decide +kernel
theorem dX8_isLetterOrMark_38 : decode cX8_isLetterOrMark 38 = .ok (.iconst 1, 1) := by decide +kernel
theorem dX8_isLetterOrMark_39 : decode cX8_isLetterOrMark 39 = .ok (.goto 4, 3) := by decide +kernel
theorem dX8_isLetterOrMark_42 : decode cX8_isLetterOrMark 42 = .ok (.iconst 0, 1) := by decide +kernel
theorem dX8_isLetterOrMark_43 : decode cX8_isLetterOrMark 43 = .ok (.ireturn, 1) := by decide +kernel
theorem dX8_wants_0 : decode cX8_wants 0 = .ok (.getstatic 31, 3) := by decide +kernel
theorem dX8_wants_3 : decode cX8_wants 3 = .ok (.arraylength, 1) := by decide +kernel
theorem dX8_wants_4 : decode cX8_wants 4 = .ok (.bipush 7, 2) := by decide +kernel
theorem dX8_wants_6 : decode cX8_wants 6 = .ok (.idiv, 1) := by decide +kernel
theorem dX8_wants_7 : decode cX8_wants 7 = .ok (.ireturn, 1) := by decide +kernel
theorem dX8_isWantOf_0 : decode cX8_isWantOf 0 = .ok (.iload_n 1, 1) := by decide +kernel
theorem dX8_isWantOf_1 : decode cX8_isWantOf 1 = .ok (.iload_n 0, 1) := by decide +kernel
theorem dX8_isWantOf_2 : decode cX8_isWantOf 2 = .ok (.iconst 0, 1) := by decide +kernel
theorem dX8_isWantOf_3 : decode cX8_isWantOf 3 = .ok (.invokestatic 34, 3) := by decide +kernel
theorem dX8_isWantOf_6 : decode cX8_isWantOf 6 = .ok (.if_icmp .lt 16, 3) := by decide +kernel
theorem dX8_isWantOf_9 : decode cX8_isWantOf 9 = .ok (.iload_n 1, 1) := by decide +kernel
theorem dX8_isWantOf_10 : decode cX8_isWantOf 10 = .ok (.iload_n 0, 1) := by decide +kernel
theorem dX8_isWantOf_11 : decode cX8_isWantOf 11 = .ok (.iconst 1, 1) := by decide +kernel
theorem dX8_isWantOf_12 : decode cX8_isWantOf 12 = .ok (.invokestatic 34, 3) := by decide +kernel
theorem dX8_isWantOf_15 : decode cX8_isWantOf 15 = .ok (.if_icmp .gt 7, 3) := by decide +kernel
theorem dX8_isWantOf_18 : decode cX8_isWantOf 18 = .ok (.iconst 1, 1) := by decide +kernel
theorem dX8_isWantOf_19 : decode cX8_isWantOf 19 = .ok (.goto 4, 3) := by decide +kernel
theorem dX8_isWantOf_22 : decode cX8_isWantOf 22 = .ok (.iconst 0, 1) := by decide +kernel
theorem dX8_isWantOf_23 : decode cX8_isWantOf 23 = .ok (.ireturn, 1) := by decide +kernel
theorem dX8_wantsOne_0 : decode cX8_wantsOne 0 = .ok (.iload_n 0, 1) := by decide +kernel
theorem dX8_wantsOne_1 : decode cX8_wantsOne 1 = .ok (.iconst 2, 1) := by decide +kernel
theorem dX8_wantsOne_2 : decode cX8_wantsOne 2 = .ok (.invokestatic 34, 3) := by decide +kernel
theorem dX8_wantsOne_5 : decode cX8_wantsOne 5 = .ok (.iconst 1, 1) := by decide +kernel
theorem dX8_wantsOne_6 : decode cX8_wantsOne 6 = .ok (.if_icmp .ne 7, 3) := by decide +kernel
theorem dX8_wantsOne_9 : decode cX8_wantsOne 9 = .ok (.iconst 1, 1) := by decide +kernel
theorem dX8_wantsOne_10 : decode cX8_wantsOne 10 = .ok (.goto 4, 3) := by decide +kernel
theorem dX8_wantsOne_13 : decode cX8_wantsOne 13 = .ok (.iconst 0, 1) := by decide +kernel
theorem dX8_wantsOne_14 : decode cX8_wantsOne 14 = .ok (.ireturn, 1) := by decide +kernel
theorem dX8_wanted_0 : decode cX8_wanted 0 = .ok (.iload_n 1, 1) := by decide +kernel
theorem dX8_wanted_1 : decode cX8_wanted 1 = .ok (.ifCond .lt 8, 3) := by decide +kernel
theorem dX8_wanted_4 : decode cX8_wanted 4 = .ok (.iload_n 1, 1) := by decide +kernel
theorem dX8_wanted_5 : decode cX8_wanted 5 = .ok (.iconst 4, 1) := by decide +kernel
theorem dX8_wanted_6 : decode cX8_wanted 6 = .ok (.if_icmp .lt 7, 3) := by decide +kernel
theorem dX8_wanted_9 : decode cX8_wanted 9 = .ok (.iconst (-1), 1) := by decide +kernel
theorem dX8_wanted_10 : decode cX8_wanted 10 = .ok (.goto 10, 3) := by decide +kernel
theorem dX8_wanted_13 : decode cX8_wanted 13 = .ok (.iload_n 0, 1) := by decide +kernel
theorem dX8_wanted_14 : decode cX8_wanted 14 = .ok (.iconst 3, 1) := by decide +kernel
theorem dX8_wanted_15 : decode cX8_wanted 15 = .ok (.iload_n 1, 1) := by decide +kernel
theorem dX8_wanted_16 : decode cX8_wanted 16 = .ok (.iadd, 1) := by decide +kernel
theorem dX8_wanted_17 : decode cX8_wanted 17 = .ok (.invokestatic 34, 3) := by decide +kernel
theorem dX8_wanted_20 : decode cX8_wanted 20 = .ok (.ireturn, 1) := by decide +kernel
theorem dX8_wantCell_0 : decode cX8_wantCell 0 = .ok (.iload_n 0, 1) := by decide +kernel
theorem dX8_wantCell_1 : decode cX8_wantCell 1 = .ok (.bipush 7, 2) := by decide +kernel
theorem dX8_wantCell_3 : decode cX8_wantCell 3 = .ok (.imul, 1) := by decide +kernel
theorem dX8_wantCell_4 : decode cX8_wantCell 4 = .ok (.iload_n 1, 1) := by decide +kernel
theorem dX8_wantCell_5 : decode cX8_wantCell 5 = .ok (.iadd, 1) := by decide +kernel
theorem dX8_wantCell_6 : decode cX8_wantCell 6 = .ok (.istore_n 2, 1) := by decide +kernel
theorem dX8_wantCell_7 : decode cX8_wantCell 7 = .ok (.iload_n 0, 1) := by decide +kernel
theorem dX8_wantCell_8 : decode cX8_wantCell 8 = .ok (.ifCond .lt 15, 3) := by decide +kernel
theorem dX8_wantCell_11 : decode cX8_wantCell 11 = .ok (.iload_n 2, 1) := by decide +kernel
theorem dX8_wantCell_12 : decode cX8_wantCell 12 = .ok (.ifCond .lt 11, 3) := by decide +kernel
theorem dX8_wantCell_15 : decode cX8_wantCell 15 = .ok (.iload_n 2, 1) := by decide +kernel
theorem dX8_wantCell_16 : decode cX8_wantCell 16 = .ok (.getstatic 31, 3) := by decide +kernel
theorem dX8_wantCell_19 : decode cX8_wantCell 19 = .ok (.arraylength, 1) := by decide +kernel
theorem dX8_wantCell_20 : decode cX8_wantCell 20 = .ok (.if_icmp .lt 7, 3) := by decide +kernel
theorem dX8_wantCell_23 : decode cX8_wantCell 23 = .ok (.iconst (-1), 1) := by decide +kernel
theorem dX8_wantCell_24 : decode cX8_wantCell 24 = .ok (.goto 8, 3) := by decide +kernel
theorem dX8_wantCell_27 : decode cX8_wantCell 27 = .ok (.getstatic 31, 3) := by decide +kernel
theorem dX8_wantCell_30 : decode cX8_wantCell 30 = .ok (.iload_n 2, 1) := by decide +kernel
theorem dX8_wantCell_31 : decode cX8_wantCell 31 = .ok (.iaload, 1) := by decide +kernel
theorem dX8_wantCell_32 : decode cX8_wantCell 32 = .ok (.ireturn, 1) := by decide +kernel
theorem dX9_init_0 : decode cX9_init 0 = .ok (.aload_n 0, 1) := by decide +kernel
theorem dX9_init_1 : decode cX9_init 1 = .ok (.invokespecial 3, 3) := by decide +kernel
theorem dX9_init_4 : decode cX9_init 4 = .ok (.aload_n 0, 1) := by decide +kernel
theorem dX9_init_5 : decode cX9_init 5 = .ok (.new 9, 3) := by decide +kernel
theorem dX9_init_8 : decode cX9_init 8 = .ok (.dup, 1) := by decide +kernel
theorem dX9_init_9 : decode cX9_init 9 = .ok (.invokespecial 11, 3) := by decide +kernel
theorem dX9_init_12 : decode cX9_init 12 = .ok (.putfield 12, 3) := by decide +kernel
theorem dX9_init_15 : decode cX9_init 15 = .ok (.aload_n 0, 1) := by decide +kernel
theorem dX9_init_16 : decode cX9_init 16 = .ok (.new 18, 3) := by decide +kernel
theorem dX9_init_19 : decode cX9_init 19 = .ok (.dup, 1) := by decide +kernel
theorem dX9_init_20 : decode cX9_init 20 = .ok (.bipush 20, 2) := by decide +kernel
theorem dX9_init_22 : decode cX9_init 22 = .ok (.invokespecial 20, 3) := by decide +kernel
theorem dX9_init_25 : decode cX9_init 25 = .ok (.putfield 23, 3) := by decide +kernel
theorem dX9_init_28 : decode cX9_init 28 = .ok (.aload_n 0, 1) := by decide +kernel
theorem dX9_init_29 : decode cX9_init 29 = .ok (.new 18, 3) := by decide +kernel
theorem dX9_init_32 : decode cX9_init 32 = .ok (.dup, 1) := by decide +kernel
theorem dX9_init_33 : decode cX9_init 33 = .ok (.iconst 0, 1) := by decide +kernel
theorem dX9_init_34 : decode cX9_init 34 = .ok (.invokespecial 20, 3) := by decide +kernel
theorem dX9_init_37 : decode cX9_init 37 = .ok (.putfield 27, 3) := by decide +kernel
theorem dX9_init_40 : decode cX9_init 40 = .ok (.return_, 1) := by decide +kernel
theorem dX9_label_0 : decode cX9_label 0 = .ok (.aload_n 0, 1) := by decide +kernel
theorem dX9_label_1 : decode cX9_label 1 = .ok (.getfield 12, 3) := by decide +kernel
theorem dX9_label_4 : decode cX9_label 4 = .ok (.areturn, 1) := by decide +kernel
theorem dX9_faultSort_0 : decode cX9_faultSort 0 = .ok (.aload_n 0, 1) := by decide +kernel
theorem dX9_faultSort_1 : decode cX9_faultSort 1 = .ok (.getfield 30, 3) := by decide +kernel
theorem dX9_faultSort_4 : decode cX9_faultSort 4 = .ok (.ireturn, 1) := by decide +kernel
theorem dX9_faultPlace_0 : decode cX9_faultPlace 0 = .ok (.aload_n 0, 1) := by decide +kernel
theorem dX9_faultPlace_1 : decode cX9_faultPlace 1 = .ok (.getfield 34, 3) := by decide +kernel
theorem dX9_faultPlace_4 : decode cX9_faultPlace 4 = .ok (.ireturn, 1) := by decide +kernel
theorem dX9_readText_0 : decode cX9_readText 0 = .ok (.aload_n 0, 1) := by decide +kernel
theorem dX9_readText_1 : decode cX9_readText 1 = .ok (.aload_n 1, 1) := by decide +kernel
theorem dX9_readText_2 : decode cX9_readText 2 = .ok (.putfield 27, 3) := by decide +kernel
theorem dX9_readText_5 : decode cX9_readText 5 = .ok (.aload_n 0, 1) := by decide +kernel
theorem dX9_readText_6 : decode cX9_readText 6 = .ok (.iload_n 2, 1) := by decide +kernel
theorem dX9_readText_7 : decode cX9_readText 7 = .ok (.putfield 37, 3) := by decide +kernel
theorem dX9_readText_10 : decode cX9_readText 10 = .ok (.aload_n 0, 1) := by decide +kernel
theorem dX9_readText_11 : decode cX9_readText 11 = .ok (.iload 4, 2) := by decide +kernel
theorem dX9_readText_13 : decode cX9_readText 13 = .ok (.putfield 41, 3) := by decide +kernel
theorem dX9_readText_16 : decode cX9_readText 16 = .ok (.aload_n 0, 1) := by decide +kernel
theorem dX9_readText_17 : decode cX9_readText 17 = .ok (.iconst 0, 1) := by decide +kernel
theorem dX9_readText_18 : decode cX9_readText 18 = .ok (.putfield 44, 3) := by decide +kernel
theorem dX9_readText_21 : decode cX9_readText 21 = .ok (.aload_n 0, 1) := by decide +kernel
theorem dX9_readText_22 : decode cX9_readText 22 = .ok (.iconst 0, 1) := by decide +kernel
theorem dX9_readText_23 : decode cX9_readText 23 = .ok (.putfield 30, 3) := by decide +kernel
theorem dX9_readText_26 : decode cX9_readText 26 = .ok (.aload_n 0, 1) := by decide +kernel
theorem dX9_readText_27 : decode cX9_readText 27 = .ok (.iconst (-1), 1) := by decide +kernel
theorem dX9_readText_28 : decode cX9_readText 28 = .ok (.putfield 34, 3) := by decide +kernel
theorem dX9_readText_31 : decode cX9_readText 31 = .ok (.aload_n 0, 1) := by decide +kernel
theorem dX9_readText_32 : decode cX9_readText 32 = .ok (.getfield 12, 3) := by decide +kernel
theorem dX9_readText_35 : decode cX9_readText 35 = .ok (.invokevirtual 47, 3) := by decide +kernel
theorem dX9_readText_38 : decode cX9_readText 38 = .ok (.aload_n 0, 1) := by decide +kernel
theorem dX9_readText_39 : decode cX9_readText 39 = .ok (.getfield 23, 3) := by decide +kernel
theorem dX9_readText_42 : decode cX9_readText 42 = .ok (.invokevirtual 50, 3) := by decide +kernel
theorem dX9_readText_45 : decode cX9_readText 45 = .ok (.iconst 0, 1) := by decide +kernel
theorem dX9_readText_46 : decode cX9_readText 46 = .ok (.istore 5, 2) := by decide +kernel
theorem dX9_readText_48 : decode cX9_readText 48 = .ok (.iload 5, 2) := by decide +kernel
theorem dX9_readText_50 : decode cX9_readText 50 = .ok (.bipush 20, 2) := by decide +kernel
theorem dX9_readText_52 : decode cX9_readText 52 = .ok (.if_icmp .gt 94, 3) := by decide +kernel
theorem dX9_readText_55 : decode cX9_readText 55 = .ok (.aload_n 0, 1) := by decide +kernel
theorem dX9_readText_56 : decode cX9_readText 56 = .ok (.getfield 37, 3) := by decide +kernel
theorem dX9_readText_59 : decode cX9_readText 59 = .ok (.ifCond .eq 10, 3) := by decide +kernel
theorem dX9_readText_62 : decode cX9_readText 62 = .ok (.aload_n 0, 1) := by decide +kernel
theorem dX9_readText_63 : decode cX9_readText 63 = .ok (.invokevirtual 51, 3) := by decide +kernel
theorem dX9_readText_66 : decode cX9_readText 66 = .ok (.goto 7, 3) := by decide +kernel
theorem dX9_readText_69 : decode cX9_readText 69 = .ok (.aload_n 0, 1) := by decide +kernel
theorem dX9_readText_70 : decode cX9_readText 70 = .ok (.invokevirtual 55, 3) := by decide +kernel
theorem dX9_readText_73 : decode cX9_readText 73 = .ok (.astore 6, 2) := by decide +kernel
theorem dX9_readText_75 : decode cX9_readText 75 = .ok (.aload 6, 2) := by decide +kernel
theorem dX9_readText_77 : decode cX9_readText 77 = .ok (.ifnull 12, 3) := by decide +kernel
theorem dX9_readText_80 : decode cX9_readText 80 = .ok (.aload_n 0, 1) := by decide +kernel
theorem dX9_readText_81 : decode cX9_readText 81 = .ok (.aload 6, 2) := by decide +kernel
theorem dX9_readText_83 : decode cX9_readText 83 = .ok (.invokevirtual 58, 3) := by decide +kernel
theorem dX9_readText_86 : decode cX9_readText 86 = .ok (.ifCond .ne 4, 3) := by decide +kernel
theorem dX9_readText_89 : decode cX9_readText 89 = .ok (.return_, 1) := by decide +kernel
theorem dX9_readText_90 : decode cX9_readText 90 = .ok (.aload_n 0, 1) := by decide +kernel
theorem dX9_readText_91 : decode cX9_readText 91 = .ok (.getfield 44, 3) := by decide +kernel
theorem dX9_readText_94 : decode cX9_readText 94 = .ok (.aload_n 0, 1) := by decide +kernel
theorem dX9_readText_95 : decode cX9_readText 95 = .ok (.getfield 27, 3) := by decide +kernel
theorem dX9_readText_98 : decode cX9_readText 98 = .ok (.invokevirtual 62, 3) := by decide +kernel
theorem dX9_readText_101 : decode cX9_readText 101 = .ok (.if_icmp .lt 6, 3) := by decide +kernel
theorem dX9_readText_104 : decode cX9_readText 104 = .ok (.goto 42, 3) := by decide +kernel
theorem dX9_readText_107 : decode cX9_readText 107 = .ok (.aload_n 0, 1) := by decide +kernel
theorem dX9_readText_108 : decode cX9_readText 108 = .ok (.getfield 37, 3) := by decide +kernel
theorem dX9_readText_111 : decode cX9_readText 111 = .ok (.ifCond .ne 29, 3) := by decide +kernel
theorem dX9_readText_114 : decode cX9_readText 114 = .ok (.aload_n 0, 1) := by decide +kernel
theorem dX9_readText_115 : decode cX9_readText 115 = .ok (.getfield 27, 3) := by decide +kernel
theorem dX9_readText_118 : decode cX9_readText 118 = .ok (.aload_n 0, 1) := by decide +kernel
theorem dX9_readText_119 : decode cX9_readText 119 = .ok (.getfield 44, 3) := by decide +kernel
theorem dX9_readText_122 : decode cX9_readText 122 = .ok (.invokevirtual 66, 3) := by decide +kernel
theorem dX9_readText_125 : decode cX9_readText 125 = .ok (.bipush 29, 2) := by decide +kernel
theorem dX9_readText_127 : decode cX9_readText 127 = .ok (.if_icmp .ne 13, 3) := by decide +kernel
theorem dX9_readText_130 : decode cX9_readText 130 = .ok (.aload_n 0, 1) := by decide +kernel
theorem dX9_readText_131 : decode cX9_readText 131 = .ok (.dup, 1) := by decide +kernel
theorem dX9_readText_132 : decode cX9_readText 132 = .ok (.getfield 44, 3) := by decide +kernel
theorem dX9_readText_135 : decode cX9_readText 135 = .ok (.iconst 1, 1) := by decide +kernel
theorem dX9_readText_136 : decode cX9_readText 136 = .ok (.iadd, 1) := by decide +kernel
theorem dX9_readText_137 : decode cX9_readText 137 = .ok (.putfield 44, 3) := by decide +kernel
theorem dX9_readText_140 : decode cX9_readText 140 = .ok (.iinc 5 1, 3) := by decide +kernel
theorem dX9_readText_143 : decode cX9_readText 143 = .ok (.goto (-95), 3) := by decide +kernel
theorem dX9_readText_146 : decode cX9_readText 146 = .ok (.aload_n 0, 1) := by decide +kernel
theorem dX9_readText_147 : decode cX9_readText 147 = .ok (.iload_n 3, 1) := by decide +kernel
theorem dX9_readText_148 : decode cX9_readText 148 = .ok (.invokevirtual 70, 3) := by decide +kernel
theorem dX9_readText_151 : decode cX9_readText 151 = .ok (.return_, 1) := by decide +kernel
theorem dX9_refuse_0 : decode cX9_refuse 0 = .ok (.aload_n 0, 1) := by decide +kernel
theorem dX9_refuse_1 : decode cX9_refuse 1 = .ok (.iload_n 1, 1) := by decide +kernel
theorem dX9_refuse_2 : decode cX9_refuse 2 = .ok (.putfield 30, 3) := by decide +kernel
theorem dX9_refuse_5 : decode cX9_refuse 5 = .ok (.aload_n 0, 1) := by decide +kernel
theorem dX9_refuse_6 : decode cX9_refuse 6 = .ok (.iload_n 2, 1) := by decide +kernel
theorem dX9_refuse_7 : decode cX9_refuse 7 = .ok (.putfield 34, 3) := by decide +kernel
theorem dX9_refuse_10 : decode cX9_refuse 10 = .ok (.iconst 0, 1) := by decide +kernel
theorem dX9_refuse_11 : decode cX9_refuse 11 = .ok (.ireturn, 1) := by decide +kernel
theorem dX9_readBracketedAi_0 : decode cX9_readBracketedAi 0 = .ok (.aload_n 0, 1) := by decide +kernel
theorem dX9_readBracketedAi_1 : decode cX9_readBracketedAi 1 = .ok (.getfield 27, 3) := by decide +kernel
theorem dX9_readBracketedAi_4 : decode cX9_readBracketedAi 4 = .ok (.aload_n 0, 1) := by decide +kernel
theorem dX9_readBracketedAi_5 : decode cX9_readBracketedAi 5 = .ok (.getfield 44, 3) := by decide +kernel
theorem dX9_readBracketedAi_8 : decode cX9_readBracketedAi 8 = .ok (.invokevirtual 66, 3) := by decide +kernel
theorem dX9_readBracketedAi_11 : decode cX9_readBracketedAi 11 = .ok (.bipush 40, 2) := by decide +kernel
theorem dX9_readBracketedAi_13 : decode cX9_readBracketedAi 13 = .ok (.if_icmp .eq 15, 3) := by decide +kernel
theorem dX9_readBracketedAi_16 : decode cX9_readBracketedAi 16 = .ok (.aload_n 0, 1) := by decide +kernel
theorem dX9_readBracketedAi_17 : decode cX9_readBracketedAi 17 = .ok (.iconst 1, 1) := by decide +kernel
theorem dX9_readBracketedAi_18 : decode cX9_readBracketedAi 18 = .ok (.aload_n 0, 1) := by decide +kernel
theorem dX9_readBracketedAi_19 : decode cX9_readBracketedAi 19 = .ok (.getfield 44, 3) := by decide +kernel
theorem dX9_readBracketedAi_22 : decode cX9_readBracketedAi 22 = .ok (.invokevirtual 74, 3) := by decide +kernel
theorem dX9_readBracketedAi_25 : decode cX9_readBracketedAi 25 = .ok (.pop, 1) := by decide +kernel
theorem dX9_readBracketedAi_26 : decode cX9_readBracketedAi 26 = .ok (.aconst_null, 1) := by decide +kernel
theorem dX9_readBracketedAi_27 : decode cX9_readBracketedAi 27 = .ok (.areturn, 1) := by decide +kernel
theorem dX9_readBracketedAi_28 : decode cX9_readBracketedAi 28 = .ok (.aload_n 0, 1) := by decide +kernel
theorem dX9_readBracketedAi_29 : decode cX9_readBracketedAi 29 = .ok (.dup, 1) := by decide +kernel
theorem dX9_readBracketedAi_30 : decode cX9_readBracketedAi 30 = .ok (.getfield 44, 3) := by decide +kernel
theorem dX9_readBracketedAi_33 : decode cX9_readBracketedAi 33 = .ok (.iconst 1, 1) := by decide +kernel
theorem dX9_readBracketedAi_34 : decode cX9_readBracketedAi 34 = .ok (.iadd, 1) := by decide +kernel
theorem dX9_readBracketedAi_35 : decode cX9_readBracketedAi 35 = .ok (.putfield 44, 3) := by decide +kernel
theorem dX9_readBracketedAi_38 : decode cX9_readBracketedAi 38 = .ok (.aload_n 0, 1) := by decide +kernel
theorem dX9_readBracketedAi_39 : decode cX9_readBracketedAi 39 = .ok (.getfield 44, 3) := by decide +kernel
theorem dX9_readBracketedAi_42 : decode cX9_readBracketedAi 42 = .ok (.aload_n 0, 1) := by decide +kernel
theorem dX9_readBracketedAi_43 : decode cX9_readBracketedAi 43 = .ok (.getfield 27, 3) := by decide +kernel
theorem dX9_readBracketedAi_46 : decode cX9_readBracketedAi 46 = .ok (.invokevirtual 62, 3) := by decide +kernel
theorem dX9_readBracketedAi_49 : decode cX9_readBracketedAi 49 = .ok (.if_icmp .lt 15, 3) := by decide +kernel
theorem dX9_readBracketedAi_52 : decode cX9_readBracketedAi 52 = .ok (.aload_n 0, 1) := by decide +kernel
theorem dX9_readBracketedAi_53 : decode cX9_readBracketedAi 53 = .ok (.iconst 1, 1) := by decide +kernel
theorem dX9_readBracketedAi_54 : decode cX9_readBracketedAi 54 = .ok (.aload_n 0, 1) := by decide +kernel
theorem dX9_readBracketedAi_55 : decode cX9_readBracketedAi 55 = .ok (.getfield 44, 3) := by decide +kernel
theorem dX9_readBracketedAi_58 : decode cX9_readBracketedAi 58 = .ok (.invokevirtual 74, 3) := by decide +kernel
theorem dX9_readBracketedAi_61 : decode cX9_readBracketedAi 61 = .ok (.pop, 1) := by decide +kernel
theorem dX9_readBracketedAi_62 : decode cX9_readBracketedAi 62 = .ok (.aconst_null, 1) := by decide +kernel
theorem dX9_readBracketedAi_63 : decode cX9_readBracketedAi 63 = .ok (.areturn, 1) := by decide +kernel
theorem dX9_readBracketedAi_64 : decode cX9_readBracketedAi 64 = .ok (.aload_n 0, 1) := by decide +kernel
theorem dX9_readBracketedAi_65 : decode cX9_readBracketedAi 65 = .ok (.getfield 44, 3) := by decide +kernel
theorem dX9_readBracketedAi_68 : decode cX9_readBracketedAi 68 = .ok (.istore_n 1, 1) := by decide +kernel
theorem dX9_readBracketedAi_69 : decode cX9_readBracketedAi 69 = .ok (.iload_n 1, 1) := by decide +kernel
theorem dX9_readBracketedAi_70 : decode cX9_readBracketedAi 70 = .ok (.aload_n 0, 1) := by decide +kernel
theorem dX9_readBracketedAi_71 : decode cX9_readBracketedAi 71 = .ok (.getfield 27, 3) := by decide +kernel
theorem dX9_readBracketedAi_74 : decode cX9_readBracketedAi 74 = .ok (.invokevirtual 62, 3) := by decide +kernel
theorem dX9_readBracketedAi_77 : decode cX9_readBracketedAi 77 = .ok (.if_icmp .ge 22, 3) := by decide +kernel
theorem dX9_readBracketedAi_80 : decode cX9_readBracketedAi 80 = .ok (.aload_n 0, 1) := by decide +kernel
theorem dX9_readBracketedAi_81 : decode cX9_readBracketedAi 81 = .ok (.getfield 27, 3) := by decide +kernel
theorem dX9_readBracketedAi_84 : decode cX9_readBracketedAi 84 = .ok (.iload_n 1, 1) := by decide +kernel
theorem dX9_readBracketedAi_85 : decode cX9_readBracketedAi 85 = .ok (.invokevirtual 66, 3) := by decide +kernel
theorem dX9_readBracketedAi_88 : decode cX9_readBracketedAi 88 = .ok (.bipush 41, 2) := by decide +kernel
theorem dX9_readBracketedAi_90 : decode cX9_readBracketedAi 90 = .ok (.if_icmp .eq 9, 3) := by decide +kernel
theorem dX9_readBracketedAi_93 : decode cX9_readBracketedAi 93 = .ok (.iinc 1 1, 3) := by decide +kernel
theorem dX9_readBracketedAi_96 : decode cX9_readBracketedAi 96 = .ok (.goto (-27), 3) := by decide +kernel
theorem dX9_readBracketedAi_99 : decode cX9_readBracketedAi 99 = .ok (.aload_n 0, 1) := by decide +kernel
theorem dX9_readBracketedAi_100 : decode cX9_readBracketedAi 100 = .ok (.iload_n 1, 1) := by decide +kernel
theorem dX9_readBracketedAi_101 : decode cX9_readBracketedAi 101 = .ok (.aload_n 0, 1) := by decide +kernel
theorem dX9_readBracketedAi_102 : decode cX9_readBracketedAi 102 = .ok (.getfield 44, 3) := by decide +kernel
theorem dX9_readBracketedAi_105 : decode cX9_readBracketedAi 105 = .ok (.isub, 1) := by decide +kernel
theorem dX9_readBracketedAi_106 : decode cX9_readBracketedAi 106 = .ok (.invokevirtual 78, 3) := by decide +kernel
theorem dX9_readBracketedAi_109 : decode cX9_readBracketedAi 109 = .ok (.astore_n 2, 1) := by decide +kernel
theorem dX9_readBracketedAi_110 : decode cX9_readBracketedAi 110 = .ok (.aload_n 2, 1) := by decide +kernel
theorem dX9_readBracketedAi_111 : decode cX9_readBracketedAi 111 = .ok (.ifnonnull 5, 3) := by decide +kernel
theorem dX9_readBracketedAi_114 : decode cX9_readBracketedAi 114 = .ok (.aconst_null, 1) := by decide +kernel
theorem dX9_readBracketedAi_115 : decode cX9_readBracketedAi 115 = .ok (.areturn, 1) := by decide +kernel
theorem dX9_readBracketedAi_116 : decode cX9_readBracketedAi 116 = .ok (.aload_n 0, 1) := by decide +kernel
theorem dX9_readBracketedAi_117 : decode cX9_readBracketedAi 117 = .ok (.iload_n 1, 1) := by decide +kernel
theorem dX9_readBracketedAi_118 : decode cX9_readBracketedAi 118 = .ok (.putfield 44, 3) := by decide +kernel
theorem dX9_readBracketedAi_121 : decode cX9_readBracketedAi 121 = .ok (.aload_n 0, 1) := by decide +kernel
theorem dX9_readBracketedAi_122 : decode cX9_readBracketedAi 122 = .ok (.getfield 44, 3) := by decide +kernel
theorem dX9_readBracketedAi_125 : decode cX9_readBracketedAi 125 = .ok (.aload_n 0, 1) := by decide +kernel
theorem dX9_readBracketedAi_126 : decode cX9_readBracketedAi 126 = .ok (.getfield 27, 3) := by decide +kernel
theorem dX9_readBracketedAi_129 : decode cX9_readBracketedAi 129 = .ok (.invokevirtual 62, 3) := by decide +kernel
theorem dX9_readBracketedAi_132 : decode cX9_readBracketedAi 132 = .ok (.if_icmp .lt 15, 3) := by decide +kernel
theorem dX9_readBracketedAi_135 : decode cX9_readBracketedAi 135 = .ok (.aload_n 0, 1) := by decide +kernel
theorem dX9_readBracketedAi_136 : decode cX9_readBracketedAi 136 = .ok (.iconst 1, 1) := by decide +kernel
theorem dX9_readBracketedAi_137 : decode cX9_readBracketedAi 137 = .ok (.aload_n 0, 1) := by decide +kernel
theorem dX9_readBracketedAi_138 : decode cX9_readBracketedAi 138 = .ok (.getfield 44, 3) := by decide +kernel
theorem dX9_readBracketedAi_141 : decode cX9_readBracketedAi 141 = .ok (.invokevirtual 74, 3) := by decide +kernel
theorem dX9_readBracketedAi_144 : decode cX9_readBracketedAi 144 = .ok (.pop, 1) := by decide +kernel
theorem dX9_readBracketedAi_145 : decode cX9_readBracketedAi 145 = .ok (.aconst_null, 1) := by decide +kernel
theorem dX9_readBracketedAi_146 : decode cX9_readBracketedAi 146 = .ok (.areturn, 1) := by decide +kernel
theorem dX9_readBracketedAi_147 : decode cX9_readBracketedAi 147 = .ok (.aload_n 0, 1) := by decide +kernel
theorem dX9_readBracketedAi_148 : decode cX9_readBracketedAi 148 = .ok (.dup, 1) := by decide +kernel
theorem dX9_readBracketedAi_149 : decode cX9_readBracketedAi 149 = .ok (.getfield 44, 3) := by decide +kernel
theorem dX9_readBracketedAi_152 : decode cX9_readBracketedAi 152 = .ok (.iconst 1, 1) := by decide +kernel
theorem dX9_readBracketedAi_153 : decode cX9_readBracketedAi 153 = .ok (.iadd, 1) := by decide +kernel
theorem dX9_readBracketedAi_154 : decode cX9_readBracketedAi 154 = .ok (.putfield 44, 3) := by decide +kernel
theorem dX9_readBracketedAi_157 : decode cX9_readBracketedAi 157 = .ok (.aload_n 2, 1) := by decide +kernel
theorem dX9_readBracketedAi_158 : decode cX9_readBracketedAi 158 = .ok (.areturn, 1) := by decide +kernel
theorem dX9_readPlainAi_0 : decode cX9_readPlainAi 0 = .ok (.aload_n 0, 1) := by decide +kernel
theorem dX9_readPlainAi_1 : decode cX9_readPlainAi 1 = .ok (.getfield 44, 3) := by decide +kernel
theorem dX9_readPlainAi_4 : decode cX9_readPlainAi 4 = .ok (.aload_n 0, 1) := by decide +kernel
theorem dX9_readPlainAi_5 : decode cX9_readPlainAi 5 = .ok (.getfield 27, 3) := by decide +kernel
theorem dX9_readPlainAi_8 : decode cX9_readPlainAi 8 = .ok (.invokevirtual 62, 3) := by decide +kernel
theorem dX9_readPlainAi_11 : decode cX9_readPlainAi 11 = .ok (.if_icmp .lt 15, 3) := by decide +kernel
theorem dX9_readPlainAi_14 : decode cX9_readPlainAi 14 = .ok (.aload_n 0, 1) := by decide +kernel
theorem dX9_readPlainAi_15 : decode cX9_readPlainAi 15 = .ok (.iconst 1, 1) := by decide +kernel
theorem dX9_readPlainAi_16 : decode cX9_readPlainAi 16 = .ok (.aload_n 0, 1) := by decide +kernel
theorem dX9_readPlainAi_17 : decode cX9_readPlainAi 17 = .ok (.getfield 44, 3) := by decide +kernel
theorem dX9_readPlainAi_20 : decode cX9_readPlainAi 20 = .ok (.invokevirtual 74, 3) := by decide +kernel
theorem dX9_readPlainAi_23 : decode cX9_readPlainAi 23 = .ok (.pop, 1) := by decide +kernel
theorem dX9_readPlainAi_24 : decode cX9_readPlainAi 24 = .ok (.aconst_null, 1) := by decide +kernel
theorem dX9_readPlainAi_25 : decode cX9_readPlainAi 25 = .ok (.areturn, 1) := by decide +kernel
theorem dX9_readPlainAi_26 : decode cX9_readPlainAi 26 = .ok (.iconst 2, 1) := by decide +kernel
theorem dX9_readPlainAi_27 : decode cX9_readPlainAi 27 = .ok (.istore_n 1, 1) := by decide +kernel
theorem dX9_readPlainAi_28 : decode cX9_readPlainAi 28 = .ok (.iload_n 1, 1) := by decide +kernel
theorem dX9_readPlainAi_29 : decode cX9_readPlainAi 29 = .ok (.iconst 4, 1) := by decide +kernel
theorem dX9_readPlainAi_30 : decode cX9_readPlainAi 30 = .ok (.if_icmp .ge 18, 3) := by decide +kernel
theorem dX9_readPlainAi_33 : decode cX9_readPlainAi 33 = .ok (.aload_n 0, 1) := by decide +kernel
theorem dX9_readPlainAi_34 : decode cX9_readPlainAi 34 = .ok (.iload_n 1, 1) := by decide +kernel
theorem dX9_readPlainAi_35 : decode cX9_readPlainAi 35 = .ok (.invokevirtual 82, 3) := by decide +kernel
theorem dX9_readPlainAi_38 : decode cX9_readPlainAi 38 = .ok (.iconst (-1), 1) := by decide +kernel
theorem dX9_readPlainAi_39 : decode cX9_readPlainAi 39 = .ok (.if_icmp .ne 9, 3) := by decide +kernel
theorem dX9_readPlainAi_42 : decode cX9_readPlainAi 42 = .ok (.iinc 1 1, 3) := by decide +kernel
theorem dX9_readPlainAi_45 : decode cX9_readPlainAi 45 = .ok (.goto (-17), 3) := by decide +kernel
theorem dX9_readPlainAi_48 : decode cX9_readPlainAi 48 = .ok (.aload_n 0, 1) := by decide +kernel
theorem dX9_readPlainAi_49 : decode cX9_readPlainAi 49 = .ok (.iload_n 1, 1) := by decide +kernel
theorem dX9_readPlainAi_50 : decode cX9_readPlainAi 50 = .ok (.invokevirtual 78, 3) := by decide +kernel
theorem dX9_readPlainAi_53 : decode cX9_readPlainAi 53 = .ok (.astore_n 2, 1) := by decide +kernel
theorem dX9_readPlainAi_54 : decode cX9_readPlainAi 54 = .ok (.aload_n 2, 1) := by decide +kernel
theorem dX9_readPlainAi_55 : decode cX9_readPlainAi 55 = .ok (.ifnull 13, 3) := by decide +kernel
theorem dX9_readPlainAi_58 : decode cX9_readPlainAi 58 = .ok (.aload_n 0, 1) := by decide +kernel
theorem dX9_readPlainAi_59 : decode cX9_readPlainAi 59 = .ok (.dup, 1) := by decide +kernel
theorem dX9_readPlainAi_60 : decode cX9_readPlainAi 60 = .ok (.getfield 44, 3) := by decide +kernel
theorem dX9_readPlainAi_63 : decode cX9_readPlainAi 63 = .ok (.iload_n 1, 1) := by decide +kernel
theorem dX9_readPlainAi_64 : decode cX9_readPlainAi 64 = .ok (.iadd, 1) := by decide +kernel
theorem dX9_readPlainAi_65 : decode cX9_readPlainAi 65 = .ok (.putfield 44, 3) := by decide +kernel
theorem dX9_readPlainAi_68 : decode cX9_readPlainAi 68 = .ok (.aload_n 2, 1) := by decide +kernel
theorem dX9_readPlainAi_69 : decode cX9_readPlainAi 69 = .ok (.areturn, 1) := by decide +kernel
theorem dX9_lineAt_0 : decode cX9_lineAt 0 = .ok (.iload_n 1, 1) := by decide +kernel
theorem dX9_lineAt_1 : decode cX9_lineAt 1 = .ok (.iconst 4, 1) := by decide +kernel
theorem dX9_lineAt_2 : decode cX9_lineAt 2 = .ok (.if_icmp .gt 18, 3) := by decide +kernel
theorem dX9_lineAt_5 : decode cX9_lineAt 5 = .ok (.aload_n 0, 1) := by decide +kernel
theorem dX9_lineAt_6 : decode cX9_lineAt 6 = .ok (.getfield 27, 3) := by decide +kernel
theorem dX9_lineAt_9 : decode cX9_lineAt 9 = .ok (.aload_n 0, 1) := by decide +kernel
theorem dX9_lineAt_10 : decode cX9_lineAt 10 = .ok (.getfield 44, 3) := by decide +kernel
theorem dX9_lineAt_13 : decode cX9_lineAt 13 = .ok (.iload_n 1, 1) := by decide +kernel
theorem dX9_lineAt_14 : decode cX9_lineAt 14 = .ok (.invokevirtual 85, 3) := by decide +kernel
theorem dX9_lineAt_17 : decode cX9_lineAt 17 = .ok (.ifCond .ne 5, 3) := by decide +kernel
theorem dX9_lineAt_20 : decode cX9_lineAt 20 = .ok (.iconst (-1), 1) := by decide +kernel
theorem dX9_lineAt_21 : decode cX9_lineAt 21 = .ok (.ireturn, 1) := by decide +kernel
theorem dX9_lineAt_22 : decode cX9_lineAt 22 = .ok (.aload_n 0, 1) := by decide +kernel
theorem dX9_lineAt_23 : decode cX9_lineAt 23 = .ok (.getfield 27, 3) := by decide +kernel
theorem dX9_lineAt_26 : decode cX9_lineAt 26 = .ok (.aload_n 0, 1) := by decide +kernel
theorem dX9_lineAt_27 : decode cX9_lineAt 27 = .ok (.getfield 44, 3) := by decide +kernel
theorem dX9_lineAt_30 : decode cX9_lineAt 30 = .ok (.iload_n 1, 1) := by decide +kernel
theorem dX9_lineAt_31 : decode cX9_lineAt 31 = .ok (.invokevirtual 88, 3) := by decide +kernel
theorem dX9_lineAt_34 : decode cX9_lineAt 34 = .ok (.l2i, 1) := by decide +kernel
theorem dX9_lineAt_35 : decode cX9_lineAt 35 = .ok (.iload_n 1, 1) := by decide +kernel
theorem dX9_lineAt_36 : decode cX9_lineAt 36 = .ok (.invokestatic 92, 3) := by decide +kernel
theorem dX9_lineAt_39 : decode cX9_lineAt 39 = .ok (.ireturn, 1) := by decide +kernel
theorem dX9_newElement_0 : decode cX9_newElement 0 = .ok (.aload_n 0, 1) := by decide +kernel
theorem dX9_newElement_1 : decode cX9_newElement 1 = .ok (.iload_n 1, 1) := by decide +kernel
theorem dX9_newElement_2 : decode cX9_newElement 2 = .ok (.invokevirtual 82, 3) := by decide +kernel
theorem dX9_newElement_5 : decode cX9_newElement 5 = .ok (.istore_n 2, 1) := by decide +kernel
theorem dX9_newElement_6 : decode cX9_newElement 6 = .ok (.iload_n 2, 1) := by decide +kernel
theorem dX9_newElement_7 : decode cX9_newElement 7 = .ok (.iconst (-1), 1) := by decide +kernel
theorem dX9_newElement_8 : decode cX9_newElement 8 = .ok (.if_icmp .ne 15, 3) := by decide +kernel
theorem dX9_newElement_11 : decode cX9_newElement 11 = .ok (.aload_n 0, 1) := by decide +kernel
theorem dX9_newElement_12 : decode cX9_newElement 12 = .ok (.iconst 2, 1) := by decide +kernel
theorem dX9_newElement_13 : decode cX9_newElement 13 = .ok (.aload_n 0, 1) := by decide +kernel
theorem dX9_newElement_14 : decode cX9_newElement 14 = .ok (.getfield 44, 3) := by decide +kernel
theorem dX9_newElement_17 : decode cX9_newElement 17 = .ok (.invokevirtual 74, 3) := by decide +kernel
theorem dX9_newElement_20 : decode cX9_newElement 20 = .ok (.pop, 1) := by decide +kernel
theorem dX9_newElement_21 : decode cX9_newElement 21 = .ok (.aconst_null, 1) := by decide +kernel
theorem dX9_newElement_22 : decode cX9_newElement 22 = .ok (.areturn, 1) := by decide +kernel
theorem dX9_newElement_23 : decode cX9_newElement 23 = .ok (.aload_n 0, 1) := by decide +kernel
theorem dX9_newElement_24 : decode cX9_newElement 24 = .ok (.getfield 12, 3) := by decide +kernel
theorem dX9_newElement_27 : decode cX9_newElement 27 = .ok (.invokevirtual 98, 3) := by decide +kernel
theorem dX9_newElement_30 : decode cX9_newElement 30 = .ok (.astore_n 3, 1) := by decide +kernel
theorem dX9_newElement_31 : decode cX9_newElement 31 = .ok (.aload_n 3, 1) := by decide +kernel
theorem dX9_newElement_32 : decode cX9_newElement 32 = .ok (.ifnonnull 16, 3) := by decide +kernel
theorem dX9_newElement_35 : decode cX9_newElement 35 = .ok (.aload_n 0, 1) := by decide +kernel
theorem dX9_newElement_36 : decode cX9_newElement 36 = .ok (.bipush 9, 2) := by decide +kernel
theorem dX9_newElement_38 : decode cX9_newElement 38 = .ok (.aload_n 0, 1) := by decide +kernel
theorem dX9_newElement_39 : decode cX9_newElement 39 = .ok (.getfield 44, 3) := by decide +kernel
theorem dX9_newElement_42 : decode cX9_newElement 42 = .ok (.invokevirtual 74, 3) := by decide +kernel
theorem dX9_newElement_45 : decode cX9_newElement 45 = .ok (.pop, 1) := by decide +kernel
theorem dX9_newElement_46 : decode cX9_newElement 46 = .ok (.aconst_null, 1) := by decide +kernel
theorem dX9_newElement_47 : decode cX9_newElement 47 = .ok (.areturn, 1) := by decide +kernel
theorem dX9_newElement_48 : decode cX9_newElement 48 = .ok (.aload_n 3, 1) := by decide +kernel
theorem dX9_newElement_49 : decode cX9_newElement 49 = .ok (.aload_n 0, 1) := by decide +kernel
theorem dX9_newElement_50 : decode cX9_newElement 50 = .ok (.getfield 27, 3) := by decide +kernel
theorem dX9_newElement_53 : decode cX9_newElement 53 = .ok (.aload_n 0, 1) := by decide +kernel
theorem dX9_newElement_54 : decode cX9_newElement 54 = .ok (.getfield 44, 3) := by decide +kernel
theorem dX9_newElement_57 : decode cX9_newElement 57 = .ok (.iload_n 1, 1) := by decide +kernel
theorem dX9_newElement_58 : decode cX9_newElement 58 = .ok (.invokevirtual 88, 3) := by decide +kernel
theorem dX9_newElement_61 : decode cX9_newElement 61 = .ok (.l2i, 1) := by decide +kernel
theorem dX9_newElement_62 : decode cX9_newElement 62 = .ok (.iload_n 1, 1) := by decide +kernel
theorem dX9_newElement_63 : decode cX9_newElement 63 = .ok (.iload_n 2, 1) := by decide +kernel
theorem dX9_newElement_64 : decode cX9_newElement 64 = .ok (.aload_n 0, 1) := by decide +kernel
theorem dX9_newElement_65 : decode cX9_newElement 65 = .ok (.getfield 41, 3) := by decide +kernel
theorem dX9_newElement_68 : decode cX9_newElement 68 = .ok (.invokevirtual 101, 3) := by decide +kernel
theorem dX9_newElement_71 : decode cX9_newElement 71 = .ok (.aload_n 0, 1) := by decide +kernel
theorem dX9_newElement_72 : decode cX9_newElement 72 = .ok (.getfield 23, 3) := by decide +kernel
theorem dX9_newElement_75 : decode cX9_newElement 75 = .ok (.aload_n 0, 1) := by decide +kernel
theorem dX9_newElement_76 : decode cX9_newElement 76 = .ok (.getfield 44, 3) := by decide +kernel
theorem dX9_newElement_79 : decode cX9_newElement 79 = .ok (.invokevirtual 107, 3) := by decide +kernel
theorem dX9_newElement_82 : decode cX9_newElement 82 = .ok (.aload_n 3, 1) := by decide +kernel
theorem dX9_newElement_83 : decode cX9_newElement 83 = .ok (.areturn, 1) := by decide +kernel
theorem dX9_readValue_0 : decode cX9_readValue 0 = .ok (.aload_n 1, 1) := by decide +kernel
theorem dX9_readValue_1 : decode cX9_readValue 1 = .ok (.invokevirtual 110, 3) := by decide +kernel
theorem dX9_readValue_4 : decode cX9_readValue 4 = .ok (.astore_n 2, 1) := by decide +kernel
theorem dX9_readValue_5 : decode cX9_readValue 5 = .ok (.iconst 0, 1) := by decide +kernel
theorem dX9_readValue_6 : decode cX9_readValue 6 = .ok (.istore_n 3, 1) := by decide +kernel
theorem dX9_readValue_7 : decode cX9_readValue 7 = .ok (.iload_n 3, 1) := by decide +kernel
theorem dX9_readValue_8 : decode cX9_readValue 8 = .ok (.iconst 4, 1) := by decide +kernel
theorem dX9_readValue_9 : decode cX9_readValue 9 = .ok (.if_icmp .ge 80, 3) := by decide +kernel
theorem dX9_readValue_12 : decode cX9_readValue 12 = .ok (.aload_n 1, 1) := by decide +kernel
theorem dX9_readValue_13 : decode cX9_readValue 13 = .ok (.invokevirtual 114, 3) := by decide +kernel
theorem dX9_readValue_16 : decode cX9_readValue 16 = .ok (.iload_n 3, 1) := by decide +kernel
theorem dX9_readValue_17 : decode cX9_readValue 17 = .ok (.invokestatic 117, 3) := by decide +kernel
theorem dX9_readValue_20 : decode cX9_readValue 20 = .ok (.istore 4, 2) := by decide +kernel
theorem dX9_readValue_22 : decode cX9_readValue 22 = .ok (.iload 4, 2) := by decide +kernel
theorem dX9_readValue_24 : decode cX9_readValue 24 = .ok (.ifCond .eq 65, 3) := by decide +kernel
theorem dX9_readValue_27 : decode cX9_readValue 27 = .ok (.iload 4, 2) := by decide +kernel
theorem dX9_readValue_29 : decode cX9_readValue 29 = .ok (.invokestatic 120, 3) := by decide +kernel
theorem dX9_readValue_32 : decode cX9_readValue 32 = .ok (.ifCond .eq 13, 3) := by decide +kernel
theorem dX9_readValue_35 : decode cX9_readValue 35 = .ok (.aload_n 0, 1) := by decide +kernel
theorem dX9_readValue_36 : decode cX9_readValue 36 = .ok (.invokevirtual 124, 3) := by decide +kernel
theorem dX9_readValue_39 : decode cX9_readValue 39 = .ok (.ifCond .eq 6, 3) := by decide +kernel
theorem dX9_readValue_42 : decode cX9_readValue 42 = .ok (.goto 47, 3) := by decide +kernel
theorem dX9_readValue_45 : decode cX9_readValue 45 = .ok (.aload_n 2, 1) := by decide +kernel
theorem dX9_readValue_46 : decode cX9_readValue 46 = .ok (.invokevirtual 62, 3) := by decide +kernel
theorem dX9_readValue_49 : decode cX9_readValue 49 = .ok (.istore 5, 2) := by decide +kernel
theorem dX9_readValue_51 : decode cX9_readValue 51 = .ok (.aload_n 0, 1) := by decide +kernel
theorem dX9_readValue_52 : decode cX9_readValue 52 = .ok (.getfield 44, 3) := by decide +kernel
theorem dX9_readValue_55 : decode cX9_readValue 55 = .ok (.istore 6, 2) := by decide +kernel
theorem dX9_readValue_57 : decode cX9_readValue 57 = .ok (.aload_n 0, 1) := by decide +kernel
theorem dX9_readValue_58 : decode cX9_readValue 58 = .ok (.aload_n 2, 1) := by decide +kernel
theorem dX9_readValue_59 : decode cX9_readValue 59 = .ok (.iload 4, 2) := by decide +kernel
theorem dX9_readValue_61 : decode cX9_readValue 61 = .ok (.invokevirtual 128, 3) := by decide +kernel
theorem dX9_readValue_64 : decode cX9_readValue 64 = .ok (.ifCond .eq 17, 3) := by decide +kernel
theorem dX9_readValue_67 : decode cX9_readValue 67 = .ok (.aload_n 0, 1) := by decide +kernel
theorem dX9_readValue_68 : decode cX9_readValue 68 = .ok (.aload_n 2, 1) := by decide +kernel
theorem dX9_readValue_69 : decode cX9_readValue 69 = .ok (.iload 4, 2) := by decide +kernel
theorem dX9_readValue_71 : decode cX9_readValue 71 = .ok (.iload 5, 2) := by decide +kernel
theorem dX9_readValue_73 : decode cX9_readValue 73 = .ok (.iload 6, 2) := by decide +kernel
theorem dX9_readValue_75 : decode cX9_readValue 75 = .ok (.invokevirtual 132, 3) := by decide +kernel
theorem dX9_readValue_78 : decode cX9_readValue 78 = .ok (.ifCond .ne 5, 3) := by decide +kernel
theorem dX9_readValue_81 : decode cX9_readValue 81 = .ok (.iconst 0, 1) := by decide +kernel
theorem dX9_readValue_82 : decode cX9_readValue 82 = .ok (.ireturn, 1) := by decide +kernel
theorem dX9_readValue_83 : decode cX9_readValue 83 = .ok (.iinc 3 1, 3) := by decide +kernel
theorem dX9_readValue_86 : decode cX9_readValue 86 = .ok (.goto (-79), 3) := by decide +kernel
theorem dX9_readValue_89 : decode cX9_readValue 89 = .ok (.aload_n 0, 1) := by decide +kernel
theorem dX9_readValue_90 : decode cX9_readValue 90 = .ok (.getfield 37, 3) := by decide +kernel
theorem dX9_readValue_93 : decode cX9_readValue 93 = .ok (.ifCond .ne 14, 3) := by decide +kernel
theorem dX9_readValue_96 : decode cX9_readValue 96 = .ok (.aload_n 1, 1) := by decide +kernel
theorem dX9_readValue_97 : decode cX9_readValue 97 = .ok (.invokevirtual 136, 3) := by decide +kernel
theorem dX9_readValue_100 : decode cX9_readValue 100 = .ok (.ifCond .eq 7, 3) := by decide +kernel
theorem dX9_readValue_103 : decode cX9_readValue 103 = .ok (.iconst 1, 1) := by decide +kernel
theorem dX9_readValue_104 : decode cX9_readValue 104 = .ok (.goto 4, 3) := by decide +kernel
theorem dX9_readValue_107 : decode cX9_readValue 107 = .ok (.iconst 0, 1) := by decide +kernel
theorem dX9_readValue_108 : decode cX9_readValue 108 = .ok (.istore_n 3, 1) := by decide +kernel
theorem dX9_readValue_109 : decode cX9_readValue 109 = .ok (.iload_n 3, 1) := by decide +kernel
theorem dX9_readValue_110 : decode cX9_readValue 110 = .ok (.ifCond .ne 22, 3) := by decide +kernel
theorem dX9_readValue_113 : decode cX9_readValue 113 = .ok (.aload_n 0, 1) := by decide +kernel
theorem dX9_readValue_114 : decode cX9_readValue 114 = .ok (.invokevirtual 124, 3) := by decide +kernel
theorem dX9_readValue_117 : decode cX9_readValue 117 = .ok (.ifCond .ne 15, 3) := by decide +kernel
theorem dX9_readValue_120 : decode cX9_readValue 120 = .ok (.aload_n 0, 1) := by decide +kernel
theorem dX9_readValue_121 : decode cX9_readValue 121 = .ok (.iconst 3, 1) := by decide +kernel
theorem dX9_readValue_122 : decode cX9_readValue 122 = .ok (.aload_n 0, 1) := by decide +kernel
theorem dX9_readValue_123 : decode cX9_readValue 123 = .ok (.getfield 44, 3) := by decide +kernel
theorem dX9_readValue_126 : decode cX9_readValue 126 = .ok (.invokevirtual 74, 3) := by decide +kernel
theorem dX9_readValue_129 : decode cX9_readValue 129 = .ok (.ifCond .eq 7, 3) := by decide +kernel
theorem dX9_readValue_132 : decode cX9_readValue 132 = .ok (.iconst 1, 1) := by decide +kernel
theorem dX9_readValue_133 : decode cX9_readValue 133 = .ok (.goto 4, 3) := by decide +kernel
theorem dX9_readValue_136 : decode cX9_readValue 136 = .ok (.iconst 0, 1) := by decide +kernel
theorem dX9_readValue_137 : decode cX9_readValue 137 = .ok (.ireturn, 1) := by decide +kernel
theorem dX9_isValueOver_0 : decode cX9_isValueOver 0 = .ok (.aload_n 0, 1) := by decide +kernel
theorem dX9_isValueOver_1 : decode cX9_isValueOver 1 = .ok (.getfield 44, 3) := by decide +kernel
theorem dX9_isValueOver_4 : decode cX9_isValueOver 4 = .ok (.aload_n 0, 1) := by decide +kernel
theorem dX9_isValueOver_5 : decode cX9_isValueOver 5 = .ok (.getfield 27, 3) := by decide +kernel
theorem dX9_isValueOver_8 : decode cX9_isValueOver 8 = .ok (.invokevirtual 62, 3) := by decide +kernel
theorem dX9_isValueOver_11 : decode cX9_isValueOver 11 = .ok (.if_icmp .ge 31, 3) := by decide +kernel
theorem dX9_isValueOver_14 : decode cX9_isValueOver 14 = .ok (.aload_n 0, 1) := by decide +kernel
theorem dX9_isValueOver_15 : decode cX9_isValueOver 15 = .ok (.getfield 27, 3) := by decide +kernel
theorem dX9_isValueOver_18 : decode cX9_isValueOver 18 = .ok (.aload_n 0, 1) := by decide +kernel
theorem dX9_isValueOver_19 : decode cX9_isValueOver 19 = .ok (.getfield 44, 3) := by decide +kernel
theorem dX9_isValueOver_22 : decode cX9_isValueOver 22 = .ok (.invokevirtual 66, 3) := by decide +kernel
theorem dX9_isValueOver_25 : decode cX9_isValueOver 25 = .ok (.aload_n 0, 1) := by decide +kernel
theorem dX9_isValueOver_26 : decode cX9_isValueOver 26 = .ok (.getfield 37, 3) := by decide +kernel
theorem dX9_isValueOver_29 : decode cX9_isValueOver 29 = .ok (.ifCond .eq 8, 3) := by decide +kernel
theorem dX9_isValueOver_32 : decode cX9_isValueOver 32 = .ok (.bipush 40, 2) := by decide +kernel
theorem dX9_isValueOver_34 : decode cX9_isValueOver 34 = .ok (.goto 5, 3) := by decide +kernel
theorem dX9_isValueOver_37 : decode cX9_isValueOver 37 = .ok (.bipush 29, 2) := by decide +kernel
theorem dX9_isValueOver_39 : decode cX9_isValueOver 39 = .ok (.if_icmp .ne 7, 3) := by decide +kernel
theorem dX9_isValueOver_42 : decode cX9_isValueOver 42 = .ok (.iconst 1, 1) := by decide +kernel
theorem dX9_isValueOver_43 : decode cX9_isValueOver 43 = .ok (.goto 4, 3) := by decide +kernel
theorem dX9_isValueOver_46 : decode cX9_isValueOver 46 = .ok (.iconst 0, 1) := by decide +kernel
theorem dX9_isValueOver_47 : decode cX9_isValueOver 47 = .ok (.ireturn, 1) := by decide +kernel
theorem dX9_readPart_0 : decode cX9_readPart 0 = .ok (.iconst 0, 1) := by decide +kernel
theorem dX9_readPart_1 : decode cX9_readPart 1 = .ok (.istore_n 3, 1) := by decide +kernel
theorem dX9_readPart_2 : decode cX9_readPart 2 = .ok (.iload_n 3, 1) := by decide +kernel
theorem dX9_readPart_3 : decode cX9_readPart 3 = .ok (.iload_n 2, 1) := by decide +kernel
theorem dX9_readPart_4 : decode cX9_readPart 4 = .ok (.invokestatic 139, 3) := by decide +kernel
theorem dX9_readPart_7 : decode cX9_readPart 7 = .ok (.if_icmp .ge 116, 3) := by decide +kernel
theorem dX9_readPart_10 : decode cX9_readPart 10 = .ok (.aload_n 0, 1) := by decide +kernel
theorem dX9_readPart_11 : decode cX9_readPart 11 = .ok (.invokevirtual 124, 3) := by decide +kernel
theorem dX9_readPart_14 : decode cX9_readPart 14 = .ok (.ifCond .eq 27, 3) := by decide +kernel
theorem dX9_readPart_17 : decode cX9_readPart 17 = .ok (.iload_n 3, 1) := by decide +kernel
theorem dX9_readPart_18 : decode cX9_readPart 18 = .ok (.ifCond .le 13, 3) := by decide +kernel
theorem dX9_readPart_21 : decode cX9_readPart 21 = .ok (.iload_n 2, 1) := by decide +kernel
theorem dX9_readPart_22 : decode cX9_readPart 22 = .ok (.invokestatic 142, 3) := by decide +kernel
theorem dX9_readPart_25 : decode cX9_readPart 25 = .ok (.ifCond .eq 6, 3) := by decide +kernel
theorem dX9_readPart_28 : decode cX9_readPart 28 = .ok (.goto 95, 3) := by decide +kernel
theorem dX9_readPart_31 : decode cX9_readPart 31 = .ok (.aload_n 0, 1) := by decide +kernel
theorem dX9_readPart_32 : decode cX9_readPart 32 = .ok (.iconst 3, 1) := by decide +kernel
theorem dX9_readPart_33 : decode cX9_readPart 33 = .ok (.aload_n 0, 1) := by decide +kernel
theorem dX9_readPart_34 : decode cX9_readPart 34 = .ok (.getfield 44, 3) := by decide +kernel
theorem dX9_readPart_37 : decode cX9_readPart 37 = .ok (.invokevirtual 74, 3) := by decide +kernel
theorem dX9_readPart_40 : decode cX9_readPart 40 = .ok (.ireturn, 1) := by decide +kernel
theorem dX9_readPart_41 : decode cX9_readPart 41 = .ok (.aload_n 0, 1) := by decide +kernel
theorem dX9_readPart_42 : decode cX9_readPart 42 = .ok (.invokevirtual 145, 3) := by decide +kernel
theorem dX9_readPart_45 : decode cX9_readPart 45 = .ok (.istore 4, 2) := by decide +kernel
theorem dX9_readPart_47 : decode cX9_readPart 47 = .ok (.iload 4, 2) := by decide +kernel
theorem dX9_readPart_49 : decode cX9_readPart 49 = .ok (.ifCond .eq 8, 3) := by decide +kernel
theorem dX9_readPart_52 : decode cX9_readPart 52 = .ok (.bipush 40, 2) := by decide +kernel
theorem dX9_readPart_54 : decode cX9_readPart 54 = .ok (.goto 14, 3) := by decide +kernel
theorem dX9_readPart_57 : decode cX9_readPart 57 = .ok (.aload_n 0, 1) := by decide +kernel
theorem dX9_readPart_58 : decode cX9_readPart 58 = .ok (.getfield 27, 3) := by decide +kernel
theorem dX9_readPart_61 : decode cX9_readPart 61 = .ok (.aload_n 0, 1) := by decide +kernel
theorem dX9_readPart_62 : decode cX9_readPart 62 = .ok (.getfield 44, 3) := by decide +kernel
theorem dX9_readPart_65 : decode cX9_readPart 65 = .ok (.invokevirtual 66, 3) := by decide +kernel
theorem dX9_readPart_68 : decode cX9_readPart 68 = .ok (.istore 5, 2) := by decide +kernel
theorem dX9_readPart_70 : decode cX9_readPart 70 = .ok (.iload 5, 2) := by decide +kernel
theorem dX9_readPart_72 : decode cX9_readPart 72 = .ok (.iload_n 2, 1) := by decide +kernel
theorem dX9_readPart_73 : decode cX9_readPart 73 = .ok (.invokestatic 148, 3) := by decide +kernel
theorem dX9_readPart_76 : decode cX9_readPart 76 = .ok (.invokestatic 151, 3) := by decide +kernel
theorem dX9_readPart_79 : decode cX9_readPart 79 = .ok (.ifCond .ne 13, 3) := by decide +kernel
theorem dX9_readPart_82 : decode cX9_readPart 82 = .ok (.aload_n 0, 1) := by decide +kernel
theorem dX9_readPart_83 : decode cX9_readPart 83 = .ok (.iconst 4, 1) := by decide +kernel
theorem dX9_readPart_84 : decode cX9_readPart 84 = .ok (.aload_n 0, 1) := by decide +kernel
theorem dX9_readPart_85 : decode cX9_readPart 85 = .ok (.getfield 44, 3) := by decide +kernel
theorem dX9_readPart_88 : decode cX9_readPart 88 = .ok (.invokevirtual 74, 3) := by decide +kernel
theorem dX9_readPart_91 : decode cX9_readPart 91 = .ok (.ireturn, 1) := by decide +kernel
theorem dX9_readPart_92 : decode cX9_readPart 92 = .ok (.aload_n 1, 1) := by decide +kernel
theorem dX9_readPart_93 : decode cX9_readPart 93 = .ok (.iload 5, 2) := by decide +kernel
theorem dX9_readPart_95 : decode cX9_readPart 95 = .ok (.invokevirtual 107, 3) := by decide +kernel
theorem dX9_readPart_98 : decode cX9_readPart 98 = .ok (.aload_n 0, 1) := by decide +kernel
theorem dX9_readPart_99 : decode cX9_readPart 99 = .ok (.dup, 1) := by decide +kernel
theorem dX9_readPart_100 : decode cX9_readPart 100 = .ok (.getfield 44, 3) := by decide +kernel
theorem dX9_readPart_103 : decode cX9_readPart 103 = .ok (.iload 4, 2) := by decide +kernel
theorem dX9_readPart_105 : decode cX9_readPart 105 = .ok (.ifCond .eq 7, 3) := by decide +kernel
theorem dX9_readPart_108 : decode cX9_readPart 108 = .ok (.iconst 2, 1) := by decide +kernel
theorem dX9_readPart_109 : decode cX9_readPart 109 = .ok (.goto 4, 3) := by decide +kernel
theorem dX9_readPart_112 : decode cX9_readPart 112 = .ok (.iconst 1, 1) := by decide +kernel
theorem dX9_readPart_113 : decode cX9_readPart 113 = .ok (.iadd, 1) := by decide +kernel
theorem dX9_readPart_114 : decode cX9_readPart 114 = .ok (.putfield 44, 3) := by decide +kernel
theorem dX9_readPart_117 : decode cX9_readPart 117 = .ok (.iinc 3 1, 3) := by decide +kernel
theorem dX9_readPart_120 : decode cX9_readPart 120 = .ok (.goto (-118), 3) := by decide +kernel
theorem dX9_readPart_123 : decode cX9_readPart 123 = .ok (.iconst 1, 1) := by decide +kernel
theorem dX9_readPart_124 : decode cX9_readPart 124 = .ok (.ireturn, 1) := by decide +kernel
theorem dX9_isEscapedBracket_0 : decode cX9_isEscapedBracket 0 = .ok (.aload_n 0, 1) := by decide +kernel
theorem dX9_isEscapedBracket_1 : decode cX9_isEscapedBracket 1 = .ok (.getfield 37, 3) := by decide +kernel
theorem dX9_isEscapedBracket_4 : decode cX9_isEscapedBracket 4 = .ok (.ifCond .eq 41, 3) := by decide +kernel
theorem dX9_isEscapedBracket_7 : decode cX9_isEscapedBracket 7 = .ok (.aload_n 0, 1) := by decide +kernel
theorem dX9_isEscapedBracket_8 : decode cX9_isEscapedBracket 8 = .ok (.getfield 27, 3) := by decide +kernel
theorem dX9_isEscapedBracket_11 : decode cX9_isEscapedBracket 11 = .ok (.aload_n 0, 1) := by decide +kernel
theorem dX9_isEscapedBracket_12 : decode cX9_isEscapedBracket 12 = .ok (.getfield 44, 3) := by decide +kernel
theorem dX9_isEscapedBracket_15 : decode cX9_isEscapedBracket 15 = .ok (.invokevirtual 66, 3) := by decide +kernel
theorem dX9_isEscapedBracket_18 : decode cX9_isEscapedBracket 18 = .ok (.bipush 92, 2) := by decide +kernel
theorem dX9_isEscapedBracket_20 : decode cX9_isEscapedBracket 20 = .ok (.if_icmp .ne 25, 3) := by decide +kernel
theorem dX9_isEscapedBracket_23 : decode cX9_isEscapedBracket 23 = .ok (.aload_n 0, 1) := by decide +kernel
theorem dX9_isEscapedBracket_24 : decode cX9_isEscapedBracket 24 = .ok (.getfield 27, 3) := by decide +kernel
theorem dX9_isEscapedBracket_27 : decode cX9_isEscapedBracket 27 = .ok (.aload_n 0, 1) := by decide +kernel
theorem dX9_isEscapedBracket_28 : decode cX9_isEscapedBracket 28 = .ok (.getfield 44, 3) := by decide +kernel
theorem dX9_isEscapedBracket_31 : decode cX9_isEscapedBracket 31 = .ok (.iconst 1, 1) := by decide +kernel
theorem dX9_isEscapedBracket_32 : decode cX9_isEscapedBracket 32 = .ok (.iadd, 1) := by decide +kernel
theorem dX9_isEscapedBracket_33 : decode cX9_isEscapedBracket 33 = .ok (.invokevirtual 66, 3) := by decide +kernel
theorem dX9_isEscapedBracket_36 : decode cX9_isEscapedBracket 36 = .ok (.bipush 40, 2) := by decide +kernel
theorem dX9_isEscapedBracket_38 : decode cX9_isEscapedBracket 38 = .ok (.if_icmp .ne 7, 3) := by decide +kernel
theorem dX9_isEscapedBracket_41 : decode cX9_isEscapedBracket 41 = .ok (.iconst 1, 1) := by decide +kernel
theorem dX9_isEscapedBracket_42 : decode cX9_isEscapedBracket 42 = .ok (.goto 4, 3) := by decide +kernel
theorem dX9_isEscapedBracket_45 : decode cX9_isEscapedBracket 45 = .ok (.iconst 0, 1) := by decide +kernel
theorem dX9_isEscapedBracket_46 : decode cX9_isEscapedBracket 46 = .ok (.ireturn, 1) := by decide +kernel
theorem dX9_judgePart_0 : decode cX9_judgePart 0 = .ok (.iload_n 2, 1) := by decide +kernel
theorem dX9_judgePart_1 : decode cX9_judgePart 1 = .ok (.invokestatic 148, 3) := by decide +kernel
theorem dX9_judgePart_4 : decode cX9_judgePart 4 = .ok (.tableswitch 109 3 5 #[28, 57, 83], 28) := by decide +kernel
theorem dX9_judgePart_32 : decode cX9_judgePart 32 = .ok (.aload_n 0, 1) := by decide +kernel
theorem dX9_judgePart_33 : decode cX9_judgePart 33 = .ok (.aload_n 1, 1) := by decide +kernel
theorem dX9_judgePart_34 : decode cX9_judgePart 34 = .ok (.iload_n 3, 1) := by decide +kernel
theorem dX9_judgePart_35 : decode cX9_judgePart 35 = .ok (.invokevirtual 154, 3) := by decide +kernel
theorem dX9_judgePart_38 : decode cX9_judgePart 38 = .ok (.ifCond .ne 17, 3) := by decide +kernel
theorem dX9_judgePart_41 : decode cX9_judgePart 41 = .ok (.aload_n 0, 1) := by decide +kernel
theorem dX9_judgePart_42 : decode cX9_judgePart 42 = .ok (.iconst 5, 1) := by decide +kernel
theorem dX9_judgePart_43 : decode cX9_judgePart 43 = .ok (.aload_n 0, 1) := by decide +kernel
theorem dX9_judgePart_44 : decode cX9_judgePart 44 = .ok (.getfield 44, 3) := by decide +kernel
theorem dX9_judgePart_47 : decode cX9_judgePart 47 = .ok (.iconst 1, 1) := by decide +kernel
theorem dX9_judgePart_48 : decode cX9_judgePart 48 = .ok (.isub, 1) := by decide +kernel
theorem dX9_judgePart_49 : decode cX9_judgePart 49 = .ok (.invokevirtual 74, 3) := by decide +kernel
theorem dX9_judgePart_52 : decode cX9_judgePart 52 = .ok (.ifCond .eq 7, 3) := by decide +kernel
theorem dX9_judgePart_55 : decode cX9_judgePart 55 = .ok (.iconst 1, 1) := by decide +kernel
theorem dX9_judgePart_56 : decode cX9_judgePart 56 = .ok (.goto 4, 3) := by decide +kernel
theorem dX9_judgePart_59 : decode cX9_judgePart 59 = .ok (.iconst 0, 1) := by decide +kernel
theorem dX9_judgePart_60 : decode cX9_judgePart 60 = .ok (.ireturn, 1) := by decide +kernel
theorem dX9_judgePart_61 : decode cX9_judgePart 61 = .ok (.aload_n 0, 1) := by decide +kernel
theorem dX9_judgePart_62 : decode cX9_judgePart 62 = .ok (.aload_n 1, 1) := by decide +kernel
theorem dX9_judgePart_63 : decode cX9_judgePart 63 = .ok (.iload_n 3, 1) := by decide +kernel
theorem dX9_judgePart_64 : decode cX9_judgePart 64 = .ok (.invokevirtual 157, 3) := by decide +kernel
theorem dX9_judgePart_67 : decode cX9_judgePart 67 = .ok (.ifCond .ne 14, 3) := by decide +kernel
theorem dX9_judgePart_70 : decode cX9_judgePart 70 = .ok (.aload_n 0, 1) := by decide +kernel
theorem dX9_judgePart_71 : decode cX9_judgePart 71 = .ok (.bipush 6, 2) := by decide +kernel
theorem dX9_judgePart_73 : decode cX9_judgePart 73 = .ok (.iload 4, 2) := by decide +kernel
theorem dX9_judgePart_75 : decode cX9_judgePart 75 = .ok (.invokevirtual 74, 3) := by decide +kernel
theorem dX9_judgePart_78 : decode cX9_judgePart 78 = .ok (.ifCond .eq 7, 3) := by decide +kernel
theorem dX9_judgePart_81 : decode cX9_judgePart 81 = .ok (.iconst 1, 1) := by decide +kernel
theorem dX9_judgePart_82 : decode cX9_judgePart 82 = .ok (.goto 4, 3) := by decide +kernel
theorem dX9_judgePart_85 : decode cX9_judgePart 85 = .ok (.iconst 0, 1) := by decide +kernel
theorem dX9_judgePart_86 : decode cX9_judgePart 86 = .ok (.ireturn, 1) := by decide +kernel
theorem dX9_judgePart_87 : decode cX9_judgePart 87 = .ok (.aload_n 0, 1) := by decide +kernel
theorem dX9_judgePart_88 : decode cX9_judgePart 88 = .ok (.aload_n 1, 1) := by decide +kernel
theorem dX9_judgePart_89 : decode cX9_judgePart 89 = .ok (.iload_n 3, 1) := by decide +kernel
theorem dX9_judgePart_90 : decode cX9_judgePart 90 = .ok (.invokevirtual 160, 3) := by decide +kernel
theorem dX9_judgePart_93 : decode cX9_judgePart 93 = .ok (.ifCond .ne 14, 3) := by decide +kernel
theorem dX9_judgePart_96 : decode cX9_judgePart 96 = .ok (.aload_n 0, 1) := by decide +kernel
theorem dX9_judgePart_97 : decode cX9_judgePart 97 = .ok (.bipush 6, 2) := by decide +kernel
theorem dX9_judgePart_99 : decode cX9_judgePart 99 = .ok (.iload 4, 2) := by decide +kernel
theorem dX9_judgePart_101 : decode cX9_judgePart 101 = .ok (.invokevirtual 74, 3) := by decide +kernel
theorem dX9_judgePart_104 : decode cX9_judgePart 104 = .ok (.ifCond .eq 7, 3) := by decide +kernel
theorem dX9_judgePart_107 : decode cX9_judgePart 107 = .ok (.iconst 1, 1) := by decide +kernel
theorem dX9_judgePart_108 : decode cX9_judgePart 108 = .ok (.goto 4, 3) := by decide +kernel
theorem dX9_judgePart_111 : decode cX9_judgePart 111 = .ok (.iconst 0, 1) := by decide +kernel
theorem dX9_judgePart_112 : decode cX9_judgePart 112 = .ok (.ireturn, 1) := by decide +kernel
theorem dX9_judgePart_113 : decode cX9_judgePart 113 = .ok (.iconst 1, 1) := by decide +kernel
theorem dX9_judgePart_114 : decode cX9_judgePart 114 = .ok (.ireturn, 1) := by decide +kernel
theorem dX9_isKey_0 : decode cX9_isKey 0 = .ok (.aload_n 1, 1) := by decide +kernel
theorem dX9_isKey_1 : decode cX9_isKey 1 = .ok (.invokevirtual 62, 3) := by decide +kernel
theorem dX9_isKey_4 : decode cX9_isKey 4 = .ok (.iconst 1, 1) := by decide +kernel
theorem dX9_isKey_5 : decode cX9_isKey 5 = .ok (.isub, 1) := by decide +kernel
theorem dX9_isKey_6 : decode cX9_isKey 6 = .ok (.istore_n 3, 1) := by decide +kernel
theorem dX9_isKey_7 : decode cX9_isKey 7 = .ok (.aload_n 1, 1) := by decide +kernel
theorem dX9_isKey_8 : decode cX9_isKey 8 = .ok (.iload_n 3, 1) := by decide +kernel
theorem dX9_isKey_9 : decode cX9_isKey 9 = .ok (.invokevirtual 66, 3) := by decide +kernel
theorem dX9_isKey_12 : decode cX9_isKey 12 = .ok (.bipush 48, 2) := by decide +kernel
theorem dX9_isKey_14 : decode cX9_isKey 14 = .ok (.isub, 1) := by decide +kernel
theorem dX9_isKey_15 : decode cX9_isKey 15 = .ok (.aload_n 1, 1) := by decide +kernel
theorem dX9_isKey_16 : decode cX9_isKey 16 = .ok (.iload_n 2, 1) := by decide +kernel
theorem dX9_isKey_17 : decode cX9_isKey 17 = .ok (.iload_n 3, 1) := by decide +kernel
theorem dX9_isKey_18 : decode cX9_isKey 18 = .ok (.iload_n 2, 1) := by decide +kernel
theorem dX9_isKey_19 : decode cX9_isKey 19 = .ok (.isub, 1) := by decide +kernel
theorem dX9_isKey_20 : decode cX9_isKey 20 = .ok (.invokevirtual 163, 3) := by decide +kernel
theorem dX9_isKey_23 : decode cX9_isKey 23 = .ok (.if_icmp .ne 7, 3) := by decide +kernel
theorem dX9_isKey_26 : decode cX9_isKey 26 = .ok (.iconst 1, 1) := by decide +kernel
theorem dX9_isKey_27 : decode cX9_isKey 27 = .ok (.goto 4, 3) := by decide +kernel
theorem dX9_isKey_30 : decode cX9_isKey 30 = .ok (.iconst 0, 1) := by decide +kernel
theorem dX9_isKey_31 : decode cX9_isKey 31 = .ok (.ireturn, 1) := by decide +kernel
theorem dX9_isDate_0 : decode cX9_isDate 0 = .ok (.aload_n 1, 1) := by decide +kernel
theorem dX9_isDate_1 : decode cX9_isDate 1 = .ok (.iload_n 2, 1) := by decide +kernel
theorem dX9_isDate_2 : decode cX9_isDate 2 = .ok (.invokevirtual 166, 3) := by decide +kernel
theorem dX9_isDate_5 : decode cX9_isDate 5 = .ok (.aload_n 0, 1) := by decide +kernel
theorem dX9_isDate_6 : decode cX9_isDate 6 = .ok (.getfield 41, 3) := by decide +kernel
theorem dX9_isDate_9 : decode cX9_isDate 9 = .ok (.invokestatic 169, 3) := by decide +kernel
theorem dX9_isDate_12 : decode cX9_isDate 12 = .ok (.istore_n 3, 1) := by decide +kernel
theorem dX9_isDate_13 : decode cX9_isDate 13 = .ok (.iload_n 3, 1) := by decide +kernel
theorem dX9_isDate_14 : decode cX9_isDate 14 = .ok (.aload_n 1, 1) := by decide +kernel
theorem dX9_isDate_15 : decode cX9_isDate 15 = .ok (.iload_n 2, 1) := by decide +kernel
theorem dX9_isDate_16 : decode cX9_isDate 16 = .ok (.iconst 2, 1) := by decide +kernel
theorem dX9_isDate_17 : decode cX9_isDate 17 = .ok (.iadd, 1) := by decide +kernel
theorem dX9_isDate_18 : decode cX9_isDate 18 = .ok (.invokevirtual 166, 3) := by decide +kernel
theorem dX9_isDate_21 : decode cX9_isDate 21 = .ok (.aload_n 1, 1) := by decide +kernel
theorem dX9_isDate_22 : decode cX9_isDate 22 = .ok (.iload_n 2, 1) := by decide +kernel
theorem dX9_isDate_23 : decode cX9_isDate 23 = .ok (.iconst 4, 1) := by decide +kernel
theorem dX9_isDate_24 : decode cX9_isDate 24 = .ok (.iadd, 1) := by decide +kernel
theorem dX9_isDate_25 : decode cX9_isDate 25 = .ok (.invokevirtual 166, 3) := by decide +kernel
theorem dX9_isDate_28 : decode cX9_isDate 28 = .ok (.invokestatic 174, 3) := by decide +kernel
theorem dX9_isDate_31 : decode cX9_isDate 31 = .ok (.ireturn, 1) := by decide +kernel
theorem dX9_isTime_0 : decode cX9_isTime 0 = .ok (.aload_n 1, 1) := by decide +kernel
theorem dX9_isTime_1 : decode cX9_isTime 1 = .ok (.iload_n 2, 1) := by decide +kernel
theorem dX9_isTime_2 : decode cX9_isTime 2 = .ok (.invokevirtual 166, 3) := by decide +kernel
theorem dX9_isTime_5 : decode cX9_isTime 5 = .ok (.aload_n 1, 1) := by decide +kernel
theorem dX9_isTime_6 : decode cX9_isTime 6 = .ok (.iload_n 2, 1) := by decide +kernel
theorem dX9_isTime_7 : decode cX9_isTime 7 = .ok (.iconst 2, 1) := by decide +kernel
theorem dX9_isTime_8 : decode cX9_isTime 8 = .ok (.iadd, 1) := by decide +kernel
theorem dX9_isTime_9 : decode cX9_isTime 9 = .ok (.invokevirtual 166, 3) := by decide +kernel
theorem dX9_isTime_12 : decode cX9_isTime 12 = .ok (.invokestatic 177, 3) := by decide +kernel
theorem dX9_isTime_15 : decode cX9_isTime 15 = .ok (.ireturn, 1) := by decide +kernel
theorem dX9_judgeTogether_0 : decode cX9_judgeTogether 0 = .ok (.iconst 0, 1) := by decide +kernel
theorem dX9_judgeTogether_1 : decode cX9_judgeTogether 1 = .ok (.istore_n 2, 1) := by decide +kernel
theorem dX9_judgeTogether_2 : decode cX9_judgeTogether 2 = .ok (.iload_n 2, 1) := by decide +kernel
theorem dX9_judgeTogether_3 : decode cX9_judgeTogether 3 = .ok (.aload_n 0, 1) := by decide +kernel
theorem dX9_judgeTogether_4 : decode cX9_judgeTogether 4 = .ok (.getfield 12, 3) := by decide +kernel
theorem dX9_judgeTogether_7 : decode cX9_judgeTogether 7 = .ok (.invokevirtual 179, 3) := by decide +kernel
theorem dX9_judgeTogether_10 : decode cX9_judgeTogether 10 = .ok (.if_icmp .ge 67, 3) := by decide +kernel
theorem dX9_judgeTogether_13 : decode cX9_judgeTogether 13 = .ok (.aload_n 0, 1) := by decide +kernel
theorem dX9_judgeTogether_14 : decode cX9_judgeTogether 14 = .ok (.getfield 12, 3) := by decide +kernel
theorem dX9_judgeTogether_17 : decode cX9_judgeTogether 17 = .ok (.iload_n 2, 1) := by decide +kernel
theorem dX9_judgeTogether_18 : decode cX9_judgeTogether 18 = .ok (.invokevirtual 180, 3) := by decide +kernel
theorem dX9_judgeTogether_21 : decode cX9_judgeTogether 21 = .ok (.ifCond .eq 19, 3) := by decide +kernel
theorem dX9_judgeTogether_24 : decode cX9_judgeTogether 24 = .ok (.aload_n 0, 1) := by decide +kernel
theorem dX9_judgeTogether_25 : decode cX9_judgeTogether 25 = .ok (.bipush 7, 2) := by decide +kernel
theorem dX9_judgeTogether_27 : decode cX9_judgeTogether 27 = .ok (.aload_n 0, 1) := by decide +kernel
theorem dX9_judgeTogether_28 : decode cX9_judgeTogether 28 = .ok (.getfield 23, 3) := by decide +kernel
theorem dX9_judgeTogether_31 : decode cX9_judgeTogether 31 = .ok (.iload_n 2, 1) := by decide +kernel
theorem dX9_judgeTogether_32 : decode cX9_judgeTogether 32 = .ok (.invokevirtual 66, 3) := by decide +kernel
theorem dX9_judgeTogether_35 : decode cX9_judgeTogether 35 = .ok (.invokevirtual 74, 3) := by decide +kernel
theorem dX9_judgeTogether_38 : decode cX9_judgeTogether 38 = .ok (.pop, 1) := by decide +kernel
theorem dX9_judgeTogether_39 : decode cX9_judgeTogether 39 = .ok (.return_, 1) := by decide +kernel
theorem dX9_judgeTogether_40 : decode cX9_judgeTogether 40 = .ok (.iload_n 1, 1) := by decide +kernel
theorem dX9_judgeTogether_41 : decode cX9_judgeTogether 41 = .ok (.ifCond .eq 30, 3) := by decide +kernel
theorem dX9_judgeTogether_44 : decode cX9_judgeTogether 44 = .ok (.aload_n 0, 1) := by decide +kernel
theorem dX9_judgeTogether_45 : decode cX9_judgeTogether 45 = .ok (.getfield 12, 3) := by decide +kernel
theorem dX9_judgeTogether_48 : decode cX9_judgeTogether 48 = .ok (.iload_n 2, 1) := by decide +kernel
theorem dX9_judgeTogether_49 : decode cX9_judgeTogether 49 = .ok (.invokevirtual 183, 3) := by decide +kernel
theorem dX9_judgeTogether_52 : decode cX9_judgeTogether 52 = .ok (.ifCond .ne 19, 3) := by decide +kernel
theorem dX9_judgeTogether_55 : decode cX9_judgeTogether 55 = .ok (.aload_n 0, 1) := by decide +kernel
theorem dX9_judgeTogether_56 : decode cX9_judgeTogether 56 = .ok (.bipush 8, 2) := by decide +kernel
theorem dX9_judgeTogether_58 : decode cX9_judgeTogether 58 = .ok (.aload_n 0, 1) := by decide +kernel
theorem dX9_judgeTogether_59 : decode cX9_judgeTogether 59 = .ok (.getfield 23, 3) := by decide +kernel
theorem dX9_judgeTogether_62 : decode cX9_judgeTogether 62 = .ok (.iload_n 2, 1) := by decide +kernel
theorem dX9_judgeTogether_63 : decode cX9_judgeTogether 63 = .ok (.invokevirtual 66, 3) := by decide +kernel
theorem dX9_judgeTogether_66 : decode cX9_judgeTogether 66 = .ok (.invokevirtual 74, 3) := by decide +kernel
theorem dX9_judgeTogether_69 : decode cX9_judgeTogether 69 = .ok (.pop, 1) := by decide +kernel
theorem dX9_judgeTogether_70 : decode cX9_judgeTogether 70 = .ok (.return_, 1) := by decide +kernel
theorem dX9_judgeTogether_71 : decode cX9_judgeTogether 71 = .ok (.iinc 2 1, 3) := by decide +kernel
theorem dX9_judgeTogether_74 : decode cX9_judgeTogether 74 = .ok (.goto (-72), 3) := by decide +kernel
theorem dX9_judgeTogether_77 : decode cX9_judgeTogether 77 = .ok (.return_, 1) := by decide +kernel
theorem dX10_init_0 : decode cX10_init 0 = .ok (.aload_n 0, 1) := by decide +kernel
theorem dX10_init_1 : decode cX10_init 1 = .ok (.invokespecial 1, 3) := by decide +kernel
theorem dX10_init_4 : decode cX10_init 4 = .ok (.aload_n 0, 1) := by decide +kernel
theorem dX10_init_5 : decode cX10_init 5 = .ok (.new 7, 3) := by decide +kernel
theorem dX10_init_8 : decode cX10_init 8 = .ok (.dup, 1) := by decide +kernel
theorem dX10_init_9 : decode cX10_init 9 = .ok (.sipush 600, 3) := by decide +kernel
theorem dX10_init_12 : decode cX10_init 12 = .ok (.invokespecial 11, 3) := by decide +kernel
theorem dX10_init_15 : decode cX10_init 15 = .ok (.putfield 14, 3) := by decide +kernel
theorem dX10_init_18 : decode cX10_init 18 = .ok (.aload_n 0, 1) := by decide +kernel
theorem dX10_init_19 : decode cX10_init 19 = .ok (.new 7, 3) := by decide +kernel
theorem dX10_init_22 : decode cX10_init 22 = .ok (.dup, 1) := by decide +kernel
theorem dX10_init_23 : decode cX10_init 23 = .ok (.sipush 3720, 3) := by decide +kernel
theorem dX10_init_26 : decode cX10_init 26 = .ok (.invokespecial 11, 3) := by decide +kernel
theorem dX10_init_29 : decode cX10_init 29 = .ok (.putfield 18, 3) := by decide +kernel
theorem dX10_init_32 : decode cX10_init 32 = .ok (.aload_n 0, 1) := by decide +kernel
theorem dX10_init_33 : decode cX10_init 33 = .ok (.new 7, 3) := by decide +kernel
theorem dX10_init_36 : decode cX10_init 36 = .ok (.dup, 1) := by decide +kernel
theorem dX10_init_37 : decode cX10_init 37 = .ok (.sipush 2000, 3) := by decide +kernel
theorem dX10_init_40 : decode cX10_init 40 = .ok (.invokespecial 11, 3) := by decide +kernel
theorem dX10_init_43 : decode cX10_init 43 = .ok (.putfield 21, 3) := by decide +kernel
theorem dX10_init_46 : decode cX10_init 46 = .ok (.aload_n 0, 1) := by decide +kernel
theorem dX10_init_47 : decode cX10_init 47 = .ok (.new 7, 3) := by decide +kernel
theorem dX10_init_50 : decode cX10_init 50 = .ok (.dup, 1) := by decide +kernel
theorem dX10_init_51 : decode cX10_init 51 = .ok (.sipush 1900, 3) := by decide +kernel
theorem dX10_init_54 : decode cX10_init 54 = .ok (.invokespecial 11, 3) := by decide +kernel
theorem dX10_init_57 : decode cX10_init 57 = .ok (.putfield 24, 3) := by decide +kernel
theorem dX10_init_60 : decode cX10_init 60 = .ok (.aload_n 0, 1) := by decide +kernel
theorem dX10_init_61 : decode cX10_init 61 = .ok (.new 7, 3) := by decide +kernel
theorem dX10_init_64 : decode cX10_init 64 = .ok (.dup, 1) := by decide +kernel
theorem dX10_init_65 : decode cX10_init 65 = .ok (.bipush 100, 2) := by decide +kernel
theorem dX10_init_67 : decode cX10_init 67 = .ok (.invokespecial 11, 3) := by decide +kernel
theorem dX10_init_70 : decode cX10_init 70 = .ok (.putfield 27, 3) := by decide +kernel
theorem dX10_init_73 : decode cX10_init 73 = .ok (.aload_n 0, 1) := by decide +kernel
theorem dX10_init_74 : decode cX10_init 74 = .ok (.new 30, 3) := by decide +kernel
theorem dX10_init_77 : decode cX10_init 77 = .ok (.dup, 1) := by decide +kernel
theorem dX10_init_78 : decode cX10_init 78 = .ok (.invokespecial 32, 3) := by decide +kernel
theorem dX10_init_81 : decode cX10_init 81 = .ok (.putfield 33, 3) := by decide +kernel
theorem dX10_init_84 : decode cX10_init 84 = .ok (.aload_n 0, 1) := by decide +kernel
theorem dX10_init_85 : decode cX10_init 85 = .ok (.new 30, 3) := by decide +kernel
theorem dX10_init_88 : decode cX10_init 88 = .ok (.dup, 1) := by decide +kernel
theorem dX10_init_89 : decode cX10_init 89 = .ok (.invokespecial 32, 3) := by decide +kernel
theorem dX10_init_92 : decode cX10_init 92 = .ok (.putfield 37, 3) := by decide +kernel
theorem dX10_init_95 : decode cX10_init 95 = .ok (.aload_n 0, 1) := by decide +kernel
theorem dX10_init_96 : decode cX10_init 96 = .ok (.bipush 8, 2) := by decide +kernel
theorem dX10_init_98 : decode cX10_init 98 = .ok (.anewarray 30, 3) := by decide +kernel
theorem dX10_init_101 : decode cX10_init 101 = .ok (.putfield 40, 3) := by decide +kernel
theorem dX10_init_104 : decode cX10_init 104 = .ok (.iconst 0, 1) := by decide +kernel
theorem dX10_init_105 : decode cX10_init 105 = .ok (.istore_n 1, 1) := by decide +kernel
theorem dX10_init_106 : decode cX10_init 106 = .ok (.iload_n 1, 1) := by decide +kernel
theorem dX10_init_107 : decode cX10_init 107 = .ok (.bipush 8, 2) := by decide +kernel
theorem dX10_init_109 : decode cX10_init 109 = .ok (.if_icmp .ge 22, 3) := by decide +kernel
theorem dX10_init_112 : decode cX10_init 112 = .ok (.aload_n 0, 1) := by decide +kernel
theorem dX10_init_113 : decode cX10_init 113 = .ok (.getfield 40, 3) := by decide +kernel
theorem dX10_init_116 : decode cX10_init 116 = .ok (.iload_n 1, 1) := by decide +kernel
theorem dX10_init_117 : decode cX10_init 117 = .ok (.new 30, 3) := by decide +kernel
theorem dX10_init_120 : decode cX10_init 120 = .ok (.dup, 1) := by decide +kernel
theorem dX10_init_121 : decode cX10_init 121 = .ok (.invokespecial 32, 3) := by decide +kernel
theorem dX10_init_124 : decode cX10_init 124 = .ok (.aastore, 1) := by decide +kernel
theorem dX10_init_125 : decode cX10_init 125 = .ok (.iinc 1 1, 3) := by decide +kernel
theorem dX10_init_128 : decode cX10_init 128 = .ok (.goto (-22), 3) := by decide +kernel
theorem dX10_init_131 : decode cX10_init 131 = .ok (.aload_n 0, 1) := by decide +kernel
theorem dX10_init_132 : decode cX10_init 132 = .ok (.new 44, 3) := by decide +kernel
theorem dX10_init_135 : decode cX10_init 135 = .ok (.dup, 1) := by decide +kernel
theorem dX10_init_136 : decode cX10_init 136 = .ok (.invokespecial 46, 3) := by decide +kernel
theorem dX10_init_139 : decode cX10_init 139 = .ok (.putfield 47, 3) := by decide +kernel
theorem dX10_init_142 : decode cX10_init 142 = .ok (.aload_n 0, 1) := by decide +kernel
theorem dX10_init_143 : decode cX10_init 143 = .ok (.new 51, 3) := by decide +kernel
theorem dX10_init_146 : decode cX10_init 146 = .ok (.dup, 1) := by decide +kernel
theorem dX10_init_147 : decode cX10_init 147 = .ok (.invokespecial 53, 3) := by decide +kernel
theorem dX10_init_150 : decode cX10_init 150 = .ok (.putfield 54, 3) := by decide +kernel
theorem dX10_init_153 : decode cX10_init 153 = .ok (.aload_n 0, 1) := by decide +kernel
theorem dX10_init_154 : decode cX10_init 154 = .ok (.new 58, 3) := by decide +kernel
theorem dX10_init_157 : decode cX10_init 157 = .ok (.dup, 1) := by decide +kernel
theorem dX10_init_158 : decode cX10_init 158 = .ok (.invokespecial 60, 3) := by decide +kernel
theorem dX10_init_161 : decode cX10_init 161 = .ok (.putfield 61, 3) := by decide +kernel
theorem dX10_init_164 : decode cX10_init 164 = .ok (.aload_n 0, 1) := by decide +kernel
theorem dX10_init_165 : decode cX10_init 165 = .ok (.new 65, 3) := by decide +kernel
theorem dX10_init_168 : decode cX10_init 168 = .ok (.dup, 1) := by decide +kernel
theorem dX10_init_169 : decode cX10_init 169 = .ok (.aload_n 0, 1) := by decide +kernel
theorem dX10_init_170 : decode cX10_init 170 = .ok (.getfield 61, 3) := by decide +kernel
theorem dX10_init_173 : decode cX10_init 173 = .ok (.invokespecial 67, 3) := by decide +kernel
theorem dX10_init_176 : decode cX10_init 176 = .ok (.putfield 70, 3) := by decide +kernel
theorem dX10_init_179 : decode cX10_init 179 = .ok (.aload_n 0, 1) := by decide +kernel
theorem dX10_init_180 : decode cX10_init 180 = .ok (.sipush 2025, 3) := by decide +kernel
theorem dX10_init_183 : decode cX10_init 183 = .ok (.putfield 74, 3) := by decide +kernel
theorem dX10_init_186 : decode cX10_init 186 = .ok (.aload_n 0, 1) := by decide +kernel
theorem dX10_init_187 : decode cX10_init 187 = .ok (.iconst 0, 1) := by decide +kernel
theorem dX10_init_188 : decode cX10_init 188 = .ok (.putfield 78, 3) := by decide +kernel
theorem dX10_init_191 : decode cX10_init 191 = .ok (.aload_n 0, 1) := by decide +kernel
theorem dX10_init_192 : decode cX10_init 192 = .ok (.iconst (-1), 1) := by decide +kernel
theorem dX10_init_193 : decode cX10_init 193 = .ok (.putfield 81, 3) := by decide +kernel
theorem dX10_init_196 : decode cX10_init 196 = .ok (.return_, 1) := by decide +kernel
theorem dX10_feed_0 : decode cX10_feed 0 = .ok (.aload_n 0, 1) := by decide +kernel
theorem dX10_feed_1 : decode cX10_feed 1 = .ok (.getfield 14, 3) := by decide +kernel
theorem dX10_feed_4 : decode cX10_feed 4 = .ok (.invokevirtual 84, 3) := by decide +kernel
theorem dX10_feed_7 : decode cX10_feed 7 = .ok (.bipush 20, 2) := by decide +kernel
theorem dX10_feed_9 : decode cX10_feed 9 = .ok (.iadd, 1) := by decide +kernel
theorem dX10_feed_10 : decode cX10_feed 10 = .ok (.sipush 600, 3) := by decide +kernel
theorem dX10_feed_13 : decode cX10_feed 13 = .ok (.if_icmp .le 5, 3) := by decide +kernel
theorem dX10_feed_16 : decode cX10_feed 16 = .ok (.iconst (-1), 1) := by decide +kernel
theorem dX10_feed_17 : decode cX10_feed 17 = .ok (.ireturn, 1) := by decide +kernel
theorem dX10_feed_18 : decode cX10_feed 18 = .ok (.aload_n 0, 1) := by decide +kernel
theorem dX10_feed_19 : decode cX10_feed 19 = .ok (.iload_n 1, 1) := by decide +kernel
theorem dX10_feed_20 : decode cX10_feed 20 = .ok (.invokevirtual 88, 3) := by decide +kernel
theorem dX10_feed_23 : decode cX10_feed 23 = .ok (.aload_n 0, 1) := by decide +kernel
theorem dX10_feed_24 : decode cX10_feed 24 = .ok (.iload_n 2, 1) := by decide +kernel
theorem dX10_feed_25 : decode cX10_feed 25 = .ok (.invokevirtual 88, 3) := by decide +kernel
theorem dX10_feed_28 : decode cX10_feed 28 = .ok (.aload_n 0, 1) := by decide +kernel
theorem dX10_feed_29 : decode cX10_feed 29 = .ok (.iload_n 3, 1) := by decide +kernel
theorem dX10_feed_30 : decode cX10_feed 30 = .ok (.invokevirtual 88, 3) := by decide +kernel
theorem dX10_feed_33 : decode cX10_feed 33 = .ok (.aload_n 0, 1) := by decide +kernel
theorem dX10_feed_34 : decode cX10_feed 34 = .ok (.iload 4, 2) := by decide +kernel
theorem dX10_feed_36 : decode cX10_feed 36 = .ok (.invokevirtual 88, 3) := by decide +kernel
theorem dX10_feed_39 : decode cX10_feed 39 = .ok (.aload_n 0, 1) := by decide +kernel
theorem dX10_feed_40 : decode cX10_feed 40 = .ok (.iload 5, 2) := by decide +kernel
theorem dX10_feed_42 : decode cX10_feed 42 = .ok (.invokevirtual 88, 3) := by decide +kernel
theorem dX10_feed_45 : decode cX10_feed 45 = .ok (.aload_n 0, 1) := by decide +kernel
