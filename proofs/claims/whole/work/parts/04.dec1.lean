theorem dX10_feed_46 : decode cX10_feed 46 = .ok (.getfield 14, 3) := by decide +kernel
theorem dX10_feed_49 : decode cX10_feed 49 = .ok (.invokevirtual 84, 3) := by decide +kernel
theorem dX10_feed_52 : decode cX10_feed 52 = .ok (.ireturn, 1) := by decide +kernel
theorem dX10_putBytes_0 : decode cX10_putBytes 0 = .ok (.bipush 24, 2) := by decide +kernel
theorem dX10_putBytes_2 : decode cX10_putBytes 2 = .ok (.istore_n 2, 1) := by decide +kernel
theorem dX10_putBytes_3 : decode cX10_putBytes 3 = .ok (.iload_n 2, 1) := by decide +kernel
theorem dX10_putBytes_4 : decode cX10_putBytes 4 = .ok (.ifCond .lt 23, 3) := by decide +kernel
theorem dX10_putBytes_7 : decode cX10_putBytes 7 = .ok (.aload_n 0, 1) := by decide +kernel
theorem dX10_putBytes_8 : decode cX10_putBytes 8 = .ok (.getfield 14, 3) := by decide +kernel
theorem dX10_putBytes_11 : decode cX10_putBytes 11 = .ok (.iload_n 1, 1) := by decide +kernel
theorem dX10_putBytes_12 : decode cX10_putBytes 12 = .ok (.iload_n 2, 1) := by decide +kernel
theorem dX10_putBytes_13 : decode cX10_putBytes 13 = .ok (.ishr, 1) := by decide +kernel
theorem dX10_putBytes_14 : decode cX10_putBytes 14 = .ok (.sipush 255, 3) := by decide +kernel
theorem dX10_putBytes_17 : decode cX10_putBytes 17 = .ok (.iand, 1) := by decide +kernel
theorem dX10_putBytes_18 : decode cX10_putBytes 18 = .ok (.invokevirtual 91, 3) := by decide +kernel
theorem dX10_putBytes_21 : decode cX10_putBytes 21 = .ok (.iinc 2 (-8), 3) := by decide +kernel
theorem dX10_putBytes_24 : decode cX10_putBytes 24 = .ok (.goto (-21), 3) := by decide +kernel
theorem dX10_putBytes_27 : decode cX10_putBytes 27 = .ok (.return_, 1) := by decide +kernel
theorem dX10_end_0 : decode cX10_end 0 = .ok (.aload_n 0, 1) := by decide +kernel
theorem dX10_end_1 : decode cX10_end 1 = .ok (.getfield 14, 3) := by decide +kernel
theorem dX10_end_4 : decode cX10_end 4 = .ok (.iload_n 1, 1) := by decide +kernel
theorem dX10_end_5 : decode cX10_end 5 = .ok (.invokevirtual 94, 3) := by decide +kernel
theorem dX10_end_8 : decode cX10_end 8 = .ok (.ireturn, 1) := by decide +kernel
theorem dX10_take_0 : decode cX10_take 0 = .ok (.aload_n 0, 1) := by decide +kernel
theorem dX10_take_1 : decode cX10_take 1 = .ok (.getfield 14, 3) := by decide +kernel
theorem dX10_take_4 : decode cX10_take 4 = .ok (.aload_n 0, 1) := by decide +kernel
theorem dX10_take_5 : decode cX10_take 5 = .ok (.getfield 18, 3) := by decide +kernel
theorem dX10_take_8 : decode cX10_take 8 = .ok (.invokevirtual 98, 3) := by decide +kernel
theorem dX10_take_11 : decode cX10_take 11 = .ok (.aload_n 0, 1) := by decide +kernel
theorem dX10_take_12 : decode cX10_take 12 = .ok (.getfield 14, 3) := by decide +kernel
theorem dX10_take_15 : decode cX10_take 15 = .ok (.invokevirtual 84, 3) := by decide +kernel
theorem dX10_take_18 : decode cX10_take 18 = .ok (.ireturn, 1) := by decide +kernel
theorem dX10_clock_0 : decode cX10_clock 0 = .ok (.iload_n 1, 1) := by decide +kernel
theorem dX10_clock_1 : decode cX10_clock 1 = .ok (.sipush 1950, 3) := by decide +kernel
theorem dX10_clock_4 : decode cX10_clock 4 = .ok (.if_icmp .lt 10, 3) := by decide +kernel
theorem dX10_clock_7 : decode cX10_clock 7 = .ok (.iload_n 1, 1) := by decide +kernel
theorem dX10_clock_8 : decode cX10_clock 8 = .ok (.sipush 2200, 3) := by decide +kernel
theorem dX10_clock_11 : decode cX10_clock 11 = .ok (.if_icmp .le 5, 3) := by decide +kernel
theorem dX10_clock_14 : decode cX10_clock 14 = .ok (.iconst 0, 1) := by decide +kernel
theorem dX10_clock_15 : decode cX10_clock 15 = .ok (.ireturn, 1) := by decide +kernel
theorem dX10_clock_16 : decode cX10_clock 16 = .ok (.aload_n 0, 1) := by decide +kernel
theorem dX10_clock_17 : decode cX10_clock 17 = .ok (.iload_n 1, 1) := by decide +kernel
theorem dX10_clock_18 : decode cX10_clock 18 = .ok (.putfield 74, 3) := by decide +kernel
theorem dX10_clock_21 : decode cX10_clock 21 = .ok (.iconst 1, 1) := by decide +kernel
theorem dX10_clock_22 : decode cX10_clock 22 = .ok (.ireturn, 1) := by decide +kernel
theorem dX10_read_0 : decode cX10_read 0 = .ok (.aload_n 0, 1) := by decide +kernel
theorem dX10_read_1 : decode cX10_read 1 = .ok (.getfield 47, 3) := by decide +kernel
theorem dX10_read_4 : decode cX10_read 4 = .ok (.aload_n 0, 1) := by decide +kernel
theorem dX10_read_5 : decode cX10_read 5 = .ok (.getfield 14, 3) := by decide +kernel
theorem dX10_read_8 : decode cX10_read 8 = .ok (.iload_n 1, 1) := by decide +kernel
theorem dX10_read_9 : decode cX10_read 9 = .ok (.iconst 1, 1) := by decide +kernel
theorem dX10_read_10 : decode cX10_read 10 = .ok (.aload_n 0, 1) := by decide +kernel
theorem dX10_read_11 : decode cX10_read 11 = .ok (.getfield 74, 3) := by decide +kernel
theorem dX10_read_14 : decode cX10_read 14 = .ok (.invokevirtual 102, 3) := by decide +kernel
theorem dX10_read_17 : decode cX10_read 17 = .ok (.aload_n 0, 1) := by decide +kernel
theorem dX10_read_18 : decode cX10_read 18 = .ok (.getfield 14, 3) := by decide +kernel
theorem dX10_read_21 : decode cX10_read 21 = .ok (.invokevirtual 106, 3) := by decide +kernel
theorem dX10_read_24 : decode cX10_read 24 = .ok (.aload_n 0, 1) := by decide +kernel
theorem dX10_read_25 : decode cX10_read 25 = .ok (.invokevirtual 109, 3) := by decide +kernel
theorem dX10_read_28 : decode cX10_read 28 = .ok (.ireturn, 1) := by decide +kernel
theorem dX10_acceptText_0 : decode cX10_acceptText 0 = .ok (.aload_n 0, 1) := by decide +kernel
theorem dX10_acceptText_1 : decode cX10_acceptText 1 = .ok (.aload_n 0, 1) := by decide +kernel
theorem dX10_acceptText_2 : decode cX10_acceptText 2 = .ok (.getfield 47, 3) := by decide +kernel
theorem dX10_acceptText_5 : decode cX10_acceptText 5 = .ok (.invokevirtual 112, 3) := by decide +kernel
theorem dX10_acceptText_8 : decode cX10_acceptText 8 = .ok (.aload_n 0, 1) := by decide +kernel
theorem dX10_acceptText_9 : decode cX10_acceptText 9 = .ok (.getfield 47, 3) := by decide +kernel
theorem dX10_acceptText_12 : decode cX10_acceptText 12 = .ok (.invokevirtual 114, 3) := by decide +kernel
theorem dX10_acceptText_15 : decode cX10_acceptText 15 = .ok (.invokevirtual 116, 3) := by decide +kernel
theorem dX10_acceptText_18 : decode cX10_acceptText 18 = .ok (.aload_n 0, 1) := by decide +kernel
theorem dX10_acceptText_19 : decode cX10_acceptText 19 = .ok (.getfield 78, 3) := by decide +kernel
theorem dX10_acceptText_22 : decode cX10_acceptText 22 = .ok (.ifCond .eq 5, 3) := by decide +kernel
theorem dX10_acceptText_25 : decode cX10_acceptText 25 = .ok (.iconst (-1), 1) := by decide +kernel
theorem dX10_acceptText_26 : decode cX10_acceptText 26 = .ok (.ireturn, 1) := by decide +kernel
theorem dX10_acceptText_27 : decode cX10_acceptText 27 = .ok (.aload_n 0, 1) := by decide +kernel
theorem dX10_acceptText_28 : decode cX10_acceptText 28 = .ok (.getfield 33, 3) := by decide +kernel
theorem dX10_acceptText_31 : decode cX10_acceptText 31 = .ok (.aload_n 0, 1) := by decide +kernel
theorem dX10_acceptText_32 : decode cX10_acceptText 32 = .ok (.getfield 47, 3) := by decide +kernel
theorem dX10_acceptText_35 : decode cX10_acceptText 35 = .ok (.invokevirtual 120, 3) := by decide +kernel
theorem dX10_acceptText_38 : decode cX10_acceptText 38 = .ok (.invokevirtual 124, 3) := by decide +kernel
theorem dX10_acceptText_41 : decode cX10_acceptText 41 = .ok (.aload_n 0, 1) := by decide +kernel
theorem dX10_acceptText_42 : decode cX10_acceptText 42 = .ok (.getfield 33, 3) := by decide +kernel
theorem dX10_acceptText_45 : decode cX10_acceptText 45 = .ok (.invokevirtual 127, 3) := by decide +kernel
theorem dX10_acceptText_48 : decode cX10_acceptText 48 = .ok (.ireturn, 1) := by decide +kernel
theorem dX10_noteFault_0 : decode cX10_noteFault 0 = .ok (.aload_n 0, 1) := by decide +kernel
theorem dX10_noteFault_1 : decode cX10_noteFault 1 = .ok (.iload_n 1, 1) := by decide +kernel
theorem dX10_noteFault_2 : decode cX10_noteFault 2 = .ok (.putfield 78, 3) := by decide +kernel
theorem dX10_noteFault_5 : decode cX10_noteFault 5 = .ok (.aload_n 0, 1) := by decide +kernel
theorem dX10_noteFault_6 : decode cX10_noteFault 6 = .ok (.iload_n 2, 1) := by decide +kernel
theorem dX10_noteFault_7 : decode cX10_noteFault 7 = .ok (.putfield 81, 3) := by decide +kernel
theorem dX10_noteFault_10 : decode cX10_noteFault 10 = .ok (.return_, 1) := by decide +kernel
theorem dX10_fault_0 : decode cX10_fault 0 = .ok (.iload_n 1, 1) := by decide +kernel
theorem dX10_fault_1 : decode cX10_fault 1 = .ok (.lookupswitch 37 #[(0, 27), (1, 32)], 27) := by decide +kernel
theorem dX10_fault_28 : decode cX10_fault 28 = .ok (.aload_n 0, 1) := by decide +kernel
theorem dX10_fault_29 : decode cX10_fault 29 = .ok (.getfield 78, 3) := by decide +kernel
theorem dX10_fault_32 : decode cX10_fault 32 = .ok (.ireturn, 1) := by decide +kernel
theorem dX10_fault_33 : decode cX10_fault 33 = .ok (.aload_n 0, 1) := by decide +kernel
theorem dX10_fault_34 : decode cX10_fault 34 = .ok (.getfield 81, 3) := by decide +kernel
theorem dX10_fault_37 : decode cX10_fault 37 = .ok (.ireturn, 1) := by decide +kernel
theorem dX10_fault_38 : decode cX10_fault 38 = .ok (.iconst (-1), 1) := by decide +kernel
theorem dX10_fault_39 : decode cX10_fault 39 = .ok (.ireturn, 1) := by decide +kernel
theorem dX10_list_0 : decode cX10_list 0 = .ok (.iload_n 1, 1) := by decide +kernel
theorem dX10_list_1 : decode cX10_list 1 = .ok (.tableswitch 51 0 2 #[27, 35, 43], 27) := by decide +kernel
theorem dX10_list_28 : decode cX10_list 28 = .ok (.aload_n 0, 1) := by decide +kernel
theorem dX10_list_29 : decode cX10_list 29 = .ok (.getfield 33, 3) := by decide +kernel
theorem dX10_list_32 : decode cX10_list 32 = .ok (.invokevirtual 127, 3) := by decide +kernel
theorem dX10_list_35 : decode cX10_list 35 = .ok (.ireturn, 1) := by decide +kernel
theorem dX10_list_36 : decode cX10_list 36 = .ok (.aload_n 0, 1) := by decide +kernel
theorem dX10_list_37 : decode cX10_list 37 = .ok (.getfield 33, 3) := by decide +kernel
theorem dX10_list_40 : decode cX10_list 40 = .ok (.invokevirtual 128, 3) := by decide +kernel
theorem dX10_list_43 : decode cX10_list 43 = .ok (.ireturn, 1) := by decide +kernel
theorem dX10_list_44 : decode cX10_list 44 = .ok (.aload_n 0, 1) := by decide +kernel
theorem dX10_list_45 : decode cX10_list 45 = .ok (.getfield 33, 3) := by decide +kernel
theorem dX10_list_48 : decode cX10_list 48 = .ok (.invokevirtual 131, 3) := by decide +kernel
theorem dX10_list_51 : decode cX10_list 51 = .ok (.ireturn, 1) := by decide +kernel
theorem dX10_list_52 : decode cX10_list 52 = .ok (.iconst (-1), 1) := by decide +kernel
theorem dX10_list_53 : decode cX10_list 53 = .ok (.ireturn, 1) := by decide +kernel
theorem dX10_element_0 : decode cX10_element 0 = .ok (.aload_n 0, 1) := by decide +kernel
theorem dX10_element_1 : decode cX10_element 1 = .ok (.iload_n 1, 1) := by decide +kernel
theorem dX10_element_2 : decode cX10_element 2 = .ok (.invokevirtual 134, 3) := by decide +kernel
theorem dX10_element_5 : decode cX10_element 5 = .ok (.astore_n 3, 1) := by decide +kernel
theorem dX10_element_6 : decode cX10_element 6 = .ok (.iload_n 2, 1) := by decide +kernel
theorem dX10_element_7 : decode cX10_element 7 = .ok (.tableswitch 78 0 5 #[37, 42, 47, 55, 60, 65], 37) := by decide +kernel
theorem dX10_element_44 : decode cX10_element 44 = .ok (.aload_n 3, 1) := by decide +kernel
theorem dX10_element_45 : decode cX10_element 45 = .ok (.invokevirtual 138, 3) := by decide +kernel
theorem dX10_element_48 : decode cX10_element 48 = .ok (.ireturn, 1) := by decide +kernel
theorem dX10_element_49 : decode cX10_element 49 = .ok (.aload_n 3, 1) := by decide +kernel
theorem dX10_element_50 : decode cX10_element 50 = .ok (.invokevirtual 143, 3) := by decide +kernel
theorem dX10_element_53 : decode cX10_element 53 = .ok (.ireturn, 1) := by decide +kernel
theorem dX10_element_54 : decode cX10_element 54 = .ok (.aload_n 3, 1) := by decide +kernel
theorem dX10_element_55 : decode cX10_element 55 = .ok (.invokevirtual 146, 3) := by decide +kernel
theorem dX10_element_58 : decode cX10_element 58 = .ok (.invokevirtual 84, 3) := by decide +kernel
theorem dX10_element_61 : decode cX10_element 61 = .ok (.ireturn, 1) := by decide +kernel
theorem dX10_element_62 : decode cX10_element 62 = .ok (.aload_n 3, 1) := by decide +kernel
theorem dX10_element_63 : decode cX10_element 63 = .ok (.invokevirtual 150, 3) := by decide +kernel
theorem dX10_element_66 : decode cX10_element 66 = .ok (.ireturn, 1) := by decide +kernel
theorem dX10_element_67 : decode cX10_element 67 = .ok (.aload_n 3, 1) := by decide +kernel
theorem dX10_element_68 : decode cX10_element 68 = .ok (.invokevirtual 153, 3) := by decide +kernel
theorem dX10_element_71 : decode cX10_element 71 = .ok (.ireturn, 1) := by decide +kernel
theorem dX10_element_72 : decode cX10_element 72 = .ok (.aload_n 3, 1) := by decide +kernel
theorem dX10_element_73 : decode cX10_element 73 = .ok (.invokevirtual 156, 3) := by decide +kernel
theorem dX10_element_76 : decode cX10_element 76 = .ok (.ifCond .eq 7, 3) := by decide +kernel
theorem dX10_element_79 : decode cX10_element 79 = .ok (.iconst 1, 1) := by decide +kernel
theorem dX10_element_80 : decode cX10_element 80 = .ok (.goto 4, 3) := by decide +kernel
theorem dX10_element_83 : decode cX10_element 83 = .ok (.iconst 0, 1) := by decide +kernel
theorem dX10_element_84 : decode cX10_element 84 = .ok (.ireturn, 1) := by decide +kernel
theorem dX10_element_85 : decode cX10_element 85 = .ok (.iconst (-1), 1) := by decide +kernel
theorem dX10_element_86 : decode cX10_element 86 = .ok (.ireturn, 1) := by decide +kernel
theorem dX10_elementAt_0 : decode cX10_elementAt 0 = .ok (.aload_n 0, 1) := by decide +kernel
theorem dX10_elementAt_1 : decode cX10_elementAt 1 = .ok (.getfield 33, 3) := by decide +kernel
theorem dX10_elementAt_4 : decode cX10_elementAt 4 = .ok (.iload_n 1, 1) := by decide +kernel
theorem dX10_elementAt_5 : decode cX10_elementAt 5 = .ok (.invokevirtual 160, 3) := by decide +kernel
theorem dX10_elementAt_8 : decode cX10_elementAt 8 = .ok (.astore_n 2, 1) := by decide +kernel
theorem dX10_elementAt_9 : decode cX10_elementAt 9 = .ok (.aload_n 2, 1) := by decide +kernel
theorem dX10_elementAt_10 : decode cX10_elementAt 10 = .ok (.ifnonnull 13, 3) := by decide +kernel
theorem dX10_elementAt_13 : decode cX10_elementAt 13 = .ok (.new 163, 3) := by decide +kernel
theorem dX10_elementAt_16 : decode cX10_elementAt 16 = .ok (.dup, 1) := by decide +kernel
theorem dX10_elementAt_17 : decode cX10_elementAt 17 = .ok (.ldc 165, 2) := by decide +kernel
theorem dX10_elementAt_19 : decode cX10_elementAt 19 = .ok (.invokespecial 167, 3) := by decide +kernel
theorem dX10_elementAt_22 : decode cX10_elementAt 22 = .ok (.athrow, 1) := by decide +kernel
theorem dX10_elementAt_23 : decode cX10_elementAt 23 = .ok (.aload_n 2, 1) := by decide +kernel
theorem dX10_elementAt_24 : decode cX10_elementAt 24 = .ok (.areturn, 1) := by decide +kernel
theorem dX10_letter_0 : decode cX10_letter 0 = .ok (.aload_n 0, 1) := by decide +kernel
theorem dX10_letter_1 : decode cX10_letter 1 = .ok (.iload_n 1, 1) := by decide +kernel
theorem dX10_letter_2 : decode cX10_letter 2 = .ok (.invokevirtual 134, 3) := by decide +kernel
theorem dX10_letter_5 : decode cX10_letter 5 = .ok (.invokevirtual 146, 3) := by decide +kernel
theorem dX10_letter_8 : decode cX10_letter 8 = .ok (.iload_n 2, 1) := by decide +kernel
theorem dX10_letter_9 : decode cX10_letter 9 = .ok (.invokevirtual 170, 3) := by decide +kernel
theorem dX10_letter_12 : decode cX10_letter 12 = .ok (.ireturn, 1) := by decide +kernel
theorem dX10_part_0 : decode cX10_part 0 = .ok (.aload_n 0, 1) := by decide +kernel
theorem dX10_part_1 : decode cX10_part 1 = .ok (.iload_n 1, 1) := by decide +kernel
theorem dX10_part_2 : decode cX10_part 2 = .ok (.invokevirtual 134, 3) := by decide +kernel
theorem dX10_part_5 : decode cX10_part 5 = .ok (.astore 4, 2) := by decide +kernel
theorem dX10_part_7 : decode cX10_part 7 = .ok (.aload 4, 2) := by decide +kernel
theorem dX10_part_9 : decode cX10_part 9 = .ok (.iload_n 2, 1) := by decide +kernel
theorem dX10_part_10 : decode cX10_part 10 = .ok (.invokevirtual 173, 3) := by decide +kernel
theorem dX10_part_13 : decode cX10_part 13 = .ok (.iconst (-1), 1) := by decide +kernel
theorem dX10_part_14 : decode cX10_part 14 = .ok (.if_icmp .ne 5, 3) := by decide +kernel
theorem dX10_part_17 : decode cX10_part 17 = .ok (.iconst (-1), 1) := by decide +kernel
theorem dX10_part_18 : decode cX10_part 18 = .ok (.ireturn, 1) := by decide +kernel
theorem dX10_part_19 : decode cX10_part 19 = .ok (.iload_n 3, 1) := by decide +kernel
theorem dX10_part_20 : decode cX10_part 20 = .ok (.tableswitch 49 0 2 #[28, 35, 42], 28) := by decide +kernel
theorem dX10_part_48 : decode cX10_part 48 = .ok (.aload 4, 2) := by decide +kernel
theorem dX10_part_50 : decode cX10_part 50 = .ok (.iload_n 2, 1) := by decide +kernel
theorem dX10_part_51 : decode cX10_part 51 = .ok (.invokevirtual 176, 3) := by decide +kernel
theorem dX10_part_54 : decode cX10_part 54 = .ok (.ireturn, 1) := by decide +kernel
theorem dX10_part_55 : decode cX10_part 55 = .ok (.aload 4, 2) := by decide +kernel
theorem dX10_part_57 : decode cX10_part 57 = .ok (.iload_n 2, 1) := by decide +kernel
theorem dX10_part_58 : decode cX10_part 58 = .ok (.invokevirtual 173, 3) := by decide +kernel
theorem dX10_part_61 : decode cX10_part 61 = .ok (.ireturn, 1) := by decide +kernel
theorem dX10_part_62 : decode cX10_part 62 = .ok (.aload 4, 2) := by decide +kernel
theorem dX10_part_64 : decode cX10_part 64 = .ok (.iload_n 2, 1) := by decide +kernel
theorem dX10_part_65 : decode cX10_part 65 = .ok (.invokevirtual 179, 3) := by decide +kernel
theorem dX10_part_68 : decode cX10_part 68 = .ok (.ireturn, 1) := by decide +kernel
theorem dX10_part_69 : decode cX10_part 69 = .ok (.iconst (-1), 1) := by decide +kernel
theorem dX10_part_70 : decode cX10_part 70 = .ok (.ireturn, 1) := by decide +kernel
theorem dX10_number_0 : decode cX10_number 0 = .ok (.aload_n 0, 1) := by decide +kernel
theorem dX10_number_1 : decode cX10_number 1 = .ok (.iload_n 1, 1) := by decide +kernel
theorem dX10_number_2 : decode cX10_number 2 = .ok (.invokevirtual 134, 3) := by decide +kernel
theorem dX10_number_5 : decode cX10_number 5 = .ok (.astore_n 3, 1) := by decide +kernel
theorem dX10_number_6 : decode cX10_number 6 = .ok (.aload_n 3, 1) := by decide +kernel
theorem dX10_number_7 : decode cX10_number 7 = .ok (.iload_n 2, 1) := by decide +kernel
theorem dX10_number_8 : decode cX10_number 8 = .ok (.invokevirtual 173, 3) := by decide +kernel
theorem dX10_number_11 : decode cX10_number 11 = .ok (.iconst (-1), 1) := by decide +kernel
theorem dX10_number_12 : decode cX10_number 12 = .ok (.if_icmp .ne 13, 3) := by decide +kernel
theorem dX10_number_15 : decode cX10_number 15 = .ok (.new 182, 3) := by decide +kernel
theorem dX10_number_18 : decode cX10_number 18 = .ok (.dup, 1) := by decide +kernel
theorem dX10_number_19 : decode cX10_number 19 = .ok (.ldc 184, 2) := by decide +kernel
theorem dX10_number_21 : decode cX10_number 21 = .ok (.invokespecial 186, 3) := by decide +kernel
theorem dX10_number_24 : decode cX10_number 24 = .ok (.athrow, 1) := by decide +kernel
theorem dX10_number_25 : decode cX10_number 25 = .ok (.aload_n 3, 1) := by decide +kernel
theorem dX10_number_26 : decode cX10_number 26 = .ok (.iload_n 2, 1) := by decide +kernel
theorem dX10_number_27 : decode cX10_number 27 = .ok (.invokevirtual 176, 3) := by decide +kernel
theorem dX10_number_30 : decode cX10_number 30 = .ok (.iconst 2, 1) := by decide +kernel
theorem dX10_number_31 : decode cX10_number 31 = .ok (.if_icmp .ne 7, 3) := by decide +kernel
theorem dX10_number_34 : decode cX10_number 34 = .ok (.ldc2_w 189, 3) := by decide +kernel
theorem dX10_number_37 : decode cX10_number 37 = .ok (.lreturn, 1) := by decide +kernel
theorem dX10_number_38 : decode cX10_number 38 = .ok (.aload_n 3, 1) := by decide +kernel
theorem dX10_number_39 : decode cX10_number 39 = .ok (.invokevirtual 146, 3) := by decide +kernel
theorem dX10_number_42 : decode cX10_number 42 = .ok (.aload_n 3, 1) := by decide +kernel
theorem dX10_number_43 : decode cX10_number 43 = .ok (.iload_n 2, 1) := by decide +kernel
theorem dX10_number_44 : decode cX10_number 44 = .ok (.invokevirtual 173, 3) := by decide +kernel
theorem dX10_number_47 : decode cX10_number 47 = .ok (.aload_n 3, 1) := by decide +kernel
theorem dX10_number_48 : decode cX10_number 48 = .ok (.iload_n 2, 1) := by decide +kernel
theorem dX10_number_49 : decode cX10_number 49 = .ok (.invokevirtual 179, 3) := by decide +kernel
theorem dX10_number_52 : decode cX10_number 52 = .ok (.invokevirtual 191, 3) := by decide +kernel
theorem dX10_number_55 : decode cX10_number 55 = .ok (.lreturn, 1) := by decide +kernel
theorem dX10_date_0 : decode cX10_date 0 = .ok (.aload_n 0, 1) := by decide +kernel
theorem dX10_date_1 : decode cX10_date 1 = .ok (.iload_n 1, 1) := by decide +kernel
theorem dX10_date_2 : decode cX10_date 2 = .ok (.invokevirtual 134, 3) := by decide +kernel
theorem dX10_date_5 : decode cX10_date 5 = .ok (.astore 4, 2) := by decide +kernel
theorem dX10_date_7 : decode cX10_date 7 = .ok (.aload 4, 2) := by decide +kernel
theorem dX10_date_9 : decode cX10_date 9 = .ok (.iload_n 2, 1) := by decide +kernel
theorem dX10_date_10 : decode cX10_date 10 = .ok (.invokevirtual 173, 3) := by decide +kernel
theorem dX10_date_13 : decode cX10_date 13 = .ok (.iconst (-1), 1) := by decide +kernel
theorem dX10_date_14 : decode cX10_date 14 = .ok (.if_icmp .eq 13, 3) := by decide +kernel
theorem dX10_date_17 : decode cX10_date 17 = .ok (.aload 4, 2) := by decide +kernel
theorem dX10_date_19 : decode cX10_date 19 = .ok (.iload_n 2, 1) := by decide +kernel
theorem dX10_date_20 : decode cX10_date 20 = .ok (.invokevirtual 176, 3) := by decide +kernel
theorem dX10_date_23 : decode cX10_date 23 = .ok (.iconst 4, 1) := by decide +kernel
theorem dX10_date_24 : decode cX10_date 24 = .ok (.if_icmp .eq 13, 3) := by decide +kernel
theorem dX10_date_27 : decode cX10_date 27 = .ok (.new 182, 3) := by decide +kernel
theorem dX10_date_30 : decode cX10_date 30 = .ok (.dup, 1) := by decide +kernel
theorem dX10_date_31 : decode cX10_date 31 = .ok (.ldc 195, 2) := by decide +kernel
theorem dX10_date_33 : decode cX10_date 33 = .ok (.invokespecial 186, 3) := by decide +kernel
theorem dX10_date_36 : decode cX10_date 36 = .ok (.athrow, 1) := by decide +kernel
theorem dX10_date_37 : decode cX10_date 37 = .ok (.aload 4, 2) := by decide +kernel
theorem dX10_date_39 : decode cX10_date 39 = .ok (.iload_n 2, 1) := by decide +kernel
theorem dX10_date_40 : decode cX10_date 40 = .ok (.invokevirtual 173, 3) := by decide +kernel
theorem dX10_date_43 : decode cX10_date 43 = .ok (.istore 5, 2) := by decide +kernel
theorem dX10_date_45 : decode cX10_date 45 = .ok (.aload 4, 2) := by decide +kernel
theorem dX10_date_47 : decode cX10_date 47 = .ok (.invokevirtual 146, 3) := by decide +kernel
theorem dX10_date_50 : decode cX10_date 50 = .ok (.astore 6, 2) := by decide +kernel
theorem dX10_date_52 : decode cX10_date 52 = .ok (.aload 6, 2) := by decide +kernel
theorem dX10_date_54 : decode cX10_date 54 = .ok (.iload 5, 2) := by decide +kernel
theorem dX10_date_56 : decode cX10_date 56 = .ok (.invokevirtual 197, 3) := by decide +kernel
theorem dX10_date_59 : decode cX10_date 59 = .ok (.aload 4, 2) := by decide +kernel
theorem dX10_date_61 : decode cX10_date 61 = .ok (.invokevirtual 200, 3) := by decide +kernel
theorem dX10_date_64 : decode cX10_date 64 = .ok (.invokestatic 202, 3) := by decide +kernel
theorem dX10_date_67 : decode cX10_date 67 = .ok (.istore 7, 2) := by decide +kernel
theorem dX10_date_69 : decode cX10_date 69 = .ok (.aload 6, 2) := by decide +kernel
theorem dX10_date_71 : decode cX10_date 71 = .ok (.iload 5, 2) := by decide +kernel
theorem dX10_date_73 : decode cX10_date 73 = .ok (.iconst 2, 1) := by decide +kernel
theorem dX10_date_74 : decode cX10_date 74 = .ok (.iadd, 1) := by decide +kernel
theorem dX10_date_75 : decode cX10_date 75 = .ok (.invokevirtual 197, 3) := by decide +kernel
theorem dX10_date_78 : decode cX10_date 78 = .ok (.istore 8, 2) := by decide +kernel
theorem dX10_date_80 : decode cX10_date 80 = .ok (.aload 6, 2) := by decide +kernel
theorem dX10_date_82 : decode cX10_date 82 = .ok (.iload 5, 2) := by decide +kernel
theorem dX10_date_84 : decode cX10_date 84 = .ok (.iconst 4, 1) := by decide +kernel
theorem dX10_date_85 : decode cX10_date 85 = .ok (.iadd, 1) := by decide +kernel
theorem dX10_date_86 : decode cX10_date 86 = .ok (.invokevirtual 197, 3) := by decide +kernel
theorem dX10_date_89 : decode cX10_date 89 = .ok (.istore 9, 2) := by decide +kernel
theorem dX10_date_91 : decode cX10_date 91 = .ok (.iload_n 3, 1) := by decide +kernel
theorem dX10_date_92 : decode cX10_date 92 = .ok (.tableswitch 52 0 2 #[28, 31, 34], 28) := by decide +kernel
theorem dX10_date_120 : decode cX10_date 120 = .ok (.iload 7, 2) := by decide +kernel
theorem dX10_date_122 : decode cX10_date 122 = .ok (.ireturn, 1) := by decide +kernel
theorem dX10_date_123 : decode cX10_date 123 = .ok (.iload 8, 2) := by decide +kernel
theorem dX10_date_125 : decode cX10_date 125 = .ok (.ireturn, 1) := by decide +kernel
theorem dX10_date_126 : decode cX10_date 126 = .ok (.iload 9, 2) := by decide +kernel
theorem dX10_date_128 : decode cX10_date 128 = .ok (.ifCond .ne 13, 3) := by decide +kernel
theorem dX10_date_131 : decode cX10_date 131 = .ok (.iload 7, 2) := by decide +kernel
theorem dX10_date_133 : decode cX10_date 133 = .ok (.iload 8, 2) := by decide +kernel
theorem dX10_date_135 : decode cX10_date 135 = .ok (.invokestatic 208, 3) := by decide +kernel
theorem dX10_date_138 : decode cX10_date 138 = .ok (.goto 5, 3) := by decide +kernel
theorem dX10_date_141 : decode cX10_date 141 = .ok (.iload 9, 2) := by decide +kernel
theorem dX10_date_143 : decode cX10_date 143 = .ok (.ireturn, 1) := by decide +kernel
theorem dX10_date_144 : decode cX10_date 144 = .ok (.iconst (-1), 1) := by decide +kernel
theorem dX10_date_145 : decode cX10_date 145 = .ok (.ireturn, 1) := by decide +kernel
theorem dX10_find_0 : decode cX10_find 0 = .ok (.aload_n 0, 1) := by decide +kernel
theorem dX10_find_1 : decode cX10_find 1 = .ok (.getfield 33, 3) := by decide +kernel
theorem dX10_find_4 : decode cX10_find 4 = .ok (.iload_n 1, 1) := by decide +kernel
theorem dX10_find_5 : decode cX10_find 5 = .ok (.iload_n 2, 1) := by decide +kernel
theorem dX10_find_6 : decode cX10_find 6 = .ok (.invokevirtual 211, 3) := by decide +kernel
theorem dX10_find_9 : decode cX10_find 9 = .ok (.ireturn, 1) := by decide +kernel
theorem dX10_write_0 : decode cX10_write 0 = .ok (.aload_n 0, 1) := by decide +kernel
theorem dX10_write_1 : decode cX10_write 1 = .ok (.getfield 18, 3) := by decide +kernel
theorem dX10_write_4 : decode cX10_write 4 = .ok (.invokevirtual 106, 3) := by decide +kernel
theorem dX10_write_7 : decode cX10_write 7 = .ok (.iload_n 1, 1) := by decide +kernel
theorem dX10_write_8 : decode cX10_write 8 = .ok (.ifCond .eq 17, 3) := by decide +kernel
theorem dX10_write_11 : decode cX10_write 11 = .ok (.aload_n 0, 1) := by decide +kernel
theorem dX10_write_12 : decode cX10_write 12 = .ok (.getfield 33, 3) := by decide +kernel
theorem dX10_write_15 : decode cX10_write 15 = .ok (.aload_n 0, 1) := by decide +kernel
theorem dX10_write_16 : decode cX10_write 16 = .ok (.getfield 18, 3) := by decide +kernel
theorem dX10_write_19 : decode cX10_write 19 = .ok (.invokevirtual 214, 3) := by decide +kernel
theorem dX10_write_22 : decode cX10_write 22 = .ok (.goto 22, 3) := by decide +kernel
theorem dX10_write_25 : decode cX10_write 25 = .ok (.aload_n 0, 1) := by decide +kernel
theorem dX10_write_26 : decode cX10_write 26 = .ok (.getfield 33, 3) := by decide +kernel
theorem dX10_write_29 : decode cX10_write 29 = .ok (.aload_n 0, 1) := by decide +kernel
theorem dX10_write_30 : decode cX10_write 30 = .ok (.getfield 18, 3) := by decide +kernel
theorem dX10_write_33 : decode cX10_write 33 = .ok (.iconst 0, 1) := by decide +kernel
theorem dX10_write_34 : decode cX10_write 34 = .ok (.aload_n 0, 1) := by decide +kernel
theorem dX10_write_35 : decode cX10_write 35 = .ok (.getfield 33, 3) := by decide +kernel
theorem dX10_write_38 : decode cX10_write 38 = .ok (.invokevirtual 127, 3) := by decide +kernel
theorem dX10_write_41 : decode cX10_write 41 = .ok (.invokevirtual 217, 3) := by decide +kernel
theorem dX10_write_44 : decode cX10_write 44 = .ok (.aload_n 0, 1) := by decide +kernel
theorem dX10_write_45 : decode cX10_write 45 = .ok (.getfield 18, 3) := by decide +kernel
theorem dX10_write_48 : decode cX10_write 48 = .ok (.invokevirtual 84, 3) := by decide +kernel
theorem dX10_write_51 : decode cX10_write 51 = .ok (.ireturn, 1) := by decide +kernel
theorem dX10_out_0 : decode cX10_out 0 = .ok (.aload_n 0, 1) := by decide +kernel
theorem dX10_out_1 : decode cX10_out 1 = .ok (.getfield 18, 3) := by decide +kernel
theorem dX10_out_4 : decode cX10_out 4 = .ok (.iload_n 1, 1) := by decide +kernel
theorem dX10_out_5 : decode cX10_out 5 = .ok (.invokevirtual 170, 3) := by decide +kernel
theorem dX10_out_8 : decode cX10_out 8 = .ok (.ireturn, 1) := by decide +kernel
theorem dX10_arrange_0 : decode cX10_arrange 0 = .ok (.aload_n 0, 1) := by decide +kernel
theorem dX10_arrange_1 : decode cX10_arrange 1 = .ok (.getfield 33, 3) := by decide +kernel
theorem dX10_arrange_4 : decode cX10_arrange 4 = .ok (.invokevirtual 221, 3) := by decide +kernel
theorem dX10_arrange_7 : decode cX10_arrange 7 = .ok (.ireturn, 1) := by decide +kernel
theorem dX10_shelve_0 : decode cX10_shelve 0 = .ok (.aload_n 0, 1) := by decide +kernel
theorem dX10_shelve_1 : decode cX10_shelve 1 = .ok (.iload_n 1, 1) := by decide +kernel
theorem dX10_shelve_2 : decode cX10_shelve 2 = .ok (.invokevirtual 224, 3) := by decide +kernel
theorem dX10_shelve_5 : decode cX10_shelve 5 = .ok (.aload_n 0, 1) := by decide +kernel
theorem dX10_shelve_6 : decode cX10_shelve 6 = .ok (.getfield 33, 3) := by decide +kernel
theorem dX10_shelve_9 : decode cX10_shelve 9 = .ok (.invokevirtual 124, 3) := by decide +kernel
theorem dX10_shelve_12 : decode cX10_shelve 12 = .ok (.aload_n 0, 1) := by decide +kernel
theorem dX10_shelve_13 : decode cX10_shelve 13 = .ok (.getfield 33, 3) := by decide +kernel
theorem dX10_shelve_16 : decode cX10_shelve 16 = .ok (.invokevirtual 127, 3) := by decide +kernel
theorem dX10_shelve_19 : decode cX10_shelve 19 = .ok (.ireturn, 1) := by decide +kernel
theorem dX10_shelfAt_0 : decode cX10_shelfAt 0 = .ok (.iload_n 1, 1) := by decide +kernel
theorem dX10_shelfAt_1 : decode cX10_shelfAt 1 = .ok (.ifCond .lt 9, 3) := by decide +kernel
theorem dX10_shelfAt_4 : decode cX10_shelfAt 4 = .ok (.iload_n 1, 1) := by decide +kernel
theorem dX10_shelfAt_5 : decode cX10_shelfAt 5 = .ok (.bipush 8, 2) := by decide +kernel
theorem dX10_shelfAt_7 : decode cX10_shelfAt 7 = .ok (.if_icmp .lt 13, 3) := by decide +kernel
theorem dX10_shelfAt_10 : decode cX10_shelfAt 10 = .ok (.new 163, 3) := by decide +kernel
theorem dX10_shelfAt_13 : decode cX10_shelfAt 13 = .ok (.dup, 1) := by decide +kernel
theorem dX10_shelfAt_14 : decode cX10_shelfAt 14 = .ok (.ldc 228, 2) := by decide +kernel
theorem dX10_shelfAt_16 : decode cX10_shelfAt 16 = .ok (.invokespecial 167, 3) := by decide +kernel
theorem dX10_shelfAt_19 : decode cX10_shelfAt 19 = .ok (.athrow, 1) := by decide +kernel
theorem dX10_shelfAt_20 : decode cX10_shelfAt 20 = .ok (.aload_n 0, 1) := by decide +kernel
theorem dX10_shelfAt_21 : decode cX10_shelfAt 21 = .ok (.getfield 40, 3) := by decide +kernel
theorem dX10_shelfAt_24 : decode cX10_shelfAt 24 = .ok (.iload_n 1, 1) := by decide +kernel
theorem dX10_shelfAt_25 : decode cX10_shelfAt 25 = .ok (.aaload, 1) := by decide +kernel
theorem dX10_shelfAt_26 : decode cX10_shelfAt 26 = .ok (.areturn, 1) := by decide +kernel
theorem dX10_fetch_0 : decode cX10_fetch 0 = .ok (.aload_n 0, 1) := by decide +kernel
theorem dX10_fetch_1 : decode cX10_fetch 1 = .ok (.getfield 33, 3) := by decide +kernel
theorem dX10_fetch_4 : decode cX10_fetch 4 = .ok (.aload_n 0, 1) := by decide +kernel
theorem dX10_fetch_5 : decode cX10_fetch 5 = .ok (.iload_n 1, 1) := by decide +kernel
theorem dX10_fetch_6 : decode cX10_fetch 6 = .ok (.invokevirtual 224, 3) := by decide +kernel
theorem dX10_fetch_9 : decode cX10_fetch 9 = .ok (.invokevirtual 124, 3) := by decide +kernel
theorem dX10_fetch_12 : decode cX10_fetch 12 = .ok (.aload_n 0, 1) := by decide +kernel
theorem dX10_fetch_13 : decode cX10_fetch 13 = .ok (.getfield 33, 3) := by decide +kernel
theorem dX10_fetch_16 : decode cX10_fetch 16 = .ok (.invokevirtual 127, 3) := by decide +kernel
theorem dX10_fetch_19 : decode cX10_fetch 19 = .ok (.ireturn, 1) := by decide +kernel
theorem dX10_same_0 : decode cX10_same 0 = .ok (.aload_n 0, 1) := by decide +kernel
theorem dX10_same_1 : decode cX10_same 1 = .ok (.getfield 33, 3) := by decide +kernel
theorem dX10_same_4 : decode cX10_same 4 = .ok (.aload_n 0, 1) := by decide +kernel
theorem dX10_same_5 : decode cX10_same 5 = .ok (.iload_n 1, 1) := by decide +kernel
theorem dX10_same_6 : decode cX10_same 6 = .ok (.invokevirtual 224, 3) := by decide +kernel
theorem dX10_same_9 : decode cX10_same 9 = .ok (.invokevirtual 230, 3) := by decide +kernel
theorem dX10_same_12 : decode cX10_same 12 = .ok (.ireturn, 1) := by decide +kernel
theorem dX10_join_0 : decode cX10_join 0 = .ok (.aload_n 0, 1) := by decide +kernel
theorem dX10_join_1 : decode cX10_join 1 = .ok (.iload_n 1, 1) := by decide +kernel
theorem dX10_join_2 : decode cX10_join 2 = .ok (.invokevirtual 224, 3) := by decide +kernel
theorem dX10_join_5 : decode cX10_join 5 = .ok (.astore_n 2, 1) := by decide +kernel
theorem dX10_join_6 : decode cX10_join 6 = .ok (.aload_n 0, 1) := by decide +kernel
theorem dX10_join_7 : decode cX10_join 7 = .ok (.getfield 37, 3) := by decide +kernel
theorem dX10_join_10 : decode cX10_join 10 = .ok (.aload_n 0, 1) := by decide +kernel
theorem dX10_join_11 : decode cX10_join 11 = .ok (.getfield 33, 3) := by decide +kernel
theorem dX10_join_14 : decode cX10_join 14 = .ok (.invokevirtual 124, 3) := by decide +kernel
theorem dX10_join_17 : decode cX10_join 17 = .ok (.aload_n 0, 1) := by decide +kernel
theorem dX10_join_18 : decode cX10_join 18 = .ok (.getfield 37, 3) := by decide +kernel
theorem dX10_join_21 : decode cX10_join 21 = .ok (.aload_n 2, 1) := by decide +kernel
theorem dX10_join_22 : decode cX10_join 22 = .ok (.invokevirtual 234, 3) := by decide +kernel
theorem dX10_join_25 : decode cX10_join 25 = .ok (.ifCond .eq 13, 3) := by decide +kernel
theorem dX10_join_28 : decode cX10_join 28 = .ok (.aload_n 0, 1) := by decide +kernel
theorem dX10_join_29 : decode cX10_join 29 = .ok (.getfield 37, 3) := by decide +kernel
theorem dX10_join_32 : decode cX10_join 32 = .ok (.invokevirtual 237, 3) := by decide +kernel
theorem dX10_join_35 : decode cX10_join 35 = .ok (.ifCond .ne 5, 3) := by decide +kernel
theorem dX10_join_38 : decode cX10_join 38 = .ok (.iconst (-1), 1) := by decide +kernel
theorem dX10_join_39 : decode cX10_join 39 = .ok (.ireturn, 1) := by decide +kernel
theorem dX10_join_40 : decode cX10_join 40 = .ok (.aload_n 0, 1) := by decide +kernel
theorem dX10_join_41 : decode cX10_join 41 = .ok (.getfield 33, 3) := by decide +kernel
theorem dX10_join_44 : decode cX10_join 44 = .ok (.aload_n 0, 1) := by decide +kernel
theorem dX10_join_45 : decode cX10_join 45 = .ok (.getfield 37, 3) := by decide +kernel
theorem dX10_join_48 : decode cX10_join 48 = .ok (.invokevirtual 124, 3) := by decide +kernel
theorem dX10_join_51 : decode cX10_join 51 = .ok (.aload_n 0, 1) := by decide +kernel
theorem dX10_join_52 : decode cX10_join 52 = .ok (.getfield 33, 3) := by decide +kernel
theorem dX10_join_55 : decode cX10_join 55 = .ok (.invokevirtual 127, 3) := by decide +kernel
theorem dX10_join_58 : decode cX10_join 58 = .ok (.ireturn, 1) := by decide +kernel
theorem dX10_check_0 : decode cX10_check 0 = .ok (.aload_n 0, 1) := by decide +kernel
theorem dX10_check_1 : decode cX10_check 1 = .ok (.getfield 14, 3) := by decide +kernel
theorem dX10_check_4 : decode cX10_check 4 = .ok (.invokevirtual 84, 3) := by decide +kernel
theorem dX10_check_7 : decode cX10_check 7 = .ok (.istore_n 1, 1) := by decide +kernel
theorem dX10_check_8 : decode cX10_check 8 = .ok (.iload_n 1, 1) := by decide +kernel
theorem dX10_check_9 : decode cX10_check 9 = .ok (.ifCond .le 25, 3) := by decide +kernel
theorem dX10_check_12 : decode cX10_check 12 = .ok (.iload_n 1, 1) := by decide +kernel
theorem dX10_check_13 : decode cX10_check 13 = .ok (.bipush 30, 2) := by decide +kernel
theorem dX10_check_15 : decode cX10_check 15 = .ok (.if_icmp .gt 19, 3) := by decide +kernel
theorem dX10_check_18 : decode cX10_check 18 = .ok (.aload_n 0, 1) := by decide +kernel
theorem dX10_check_19 : decode cX10_check 19 = .ok (.getfield 14, 3) := by decide +kernel
theorem dX10_check_22 : decode cX10_check 22 = .ok (.iconst 0, 1) := by decide +kernel
theorem dX10_check_23 : decode cX10_check 23 = .ok (.iload_n 1, 1) := by decide +kernel
theorem dX10_check_24 : decode cX10_check 24 = .ok (.invokevirtual 240, 3) := by decide +kernel
theorem dX10_check_27 : decode cX10_check 27 = .ok (.ifCond .eq 7, 3) := by decide +kernel
theorem dX10_check_30 : decode cX10_check 30 = .ok (.iconst 1, 1) := by decide +kernel
theorem dX10_check_31 : decode cX10_check 31 = .ok (.goto 4, 3) := by decide +kernel
theorem dX10_check_34 : decode cX10_check 34 = .ok (.iconst 0, 1) := by decide +kernel
theorem dX10_check_35 : decode cX10_check 35 = .ok (.istore_n 2, 1) := by decide +kernel
theorem dX10_check_36 : decode cX10_check 36 = .ok (.iload_n 2, 1) := by decide +kernel
theorem dX10_check_37 : decode cX10_check 37 = .ok (.ifCond .eq 15, 3) := by decide +kernel
theorem dX10_check_40 : decode cX10_check 40 = .ok (.aload_n 0, 1) := by decide +kernel
theorem dX10_check_41 : decode cX10_check 41 = .ok (.getfield 14, 3) := by decide +kernel
theorem dX10_check_44 : decode cX10_check 44 = .ok (.iconst 0, 1) := by decide +kernel
theorem dX10_check_45 : decode cX10_check 45 = .ok (.iload_n 1, 1) := by decide +kernel
theorem dX10_check_46 : decode cX10_check 46 = .ok (.invokevirtual 244, 3) := by decide +kernel
theorem dX10_check_49 : decode cX10_check 49 = .ok (.goto 4, 3) := by decide +kernel
theorem dX10_check_52 : decode cX10_check 52 = .ok (.iconst (-1), 1) := by decide +kernel
theorem dX10_check_53 : decode cX10_check 53 = .ok (.istore_n 3, 1) := by decide +kernel
theorem dX10_check_54 : decode cX10_check 54 = .ok (.aload_n 0, 1) := by decide +kernel
theorem dX10_check_55 : decode cX10_check 55 = .ok (.getfield 14, 3) := by decide +kernel
theorem dX10_check_58 : decode cX10_check 58 = .ok (.invokevirtual 106, 3) := by decide +kernel
theorem dX10_check_61 : decode cX10_check 61 = .ok (.iload_n 3, 1) := by decide +kernel
theorem dX10_check_62 : decode cX10_check 62 = .ok (.ireturn, 1) := by decide +kernel
theorem dX10_symbol_0 : decode cX10_symbol 0 = .ok (.aload_n 0, 1) := by decide +kernel
theorem dX10_symbol_1 : decode cX10_symbol 1 = .ok (.iload_n 1, 1) := by decide +kernel
theorem dX10_symbol_2 : decode cX10_symbol 2 = .ok (.invokevirtual 134, 3) := by decide +kernel
theorem dX10_symbol_5 : decode cX10_symbol 5 = .ok (.pop, 1) := by decide +kernel
theorem dX10_symbol_6 : decode cX10_symbol 6 = .ok (.aload_n 0, 1) := by decide +kernel
theorem dX10_symbol_7 : decode cX10_symbol 7 = .ok (.getfield 33, 3) := by decide +kernel
theorem dX10_symbol_10 : decode cX10_symbol 10 = .ok (.iload_n 1, 1) := by decide +kernel
theorem dX10_symbol_11 : decode cX10_symbol 11 = .ok (.invokevirtual 247, 3) := by decide +kernel
theorem dX10_symbol_14 : decode cX10_symbol 14 = .ok (.istore_n 2, 1) := by decide +kernel
theorem dX10_symbol_15 : decode cX10_symbol 15 = .ok (.iload_n 2, 1) := by decide +kernel
theorem dX10_symbol_16 : decode cX10_symbol 16 = .ok (.iload_n 1, 1) := by decide +kernel
theorem dX10_symbol_17 : decode cX10_symbol 17 = .ok (.if_icmp .ne 5, 3) := by decide +kernel
theorem dX10_symbol_20 : decode cX10_symbol 20 = .ok (.iconst (-1), 1) := by decide +kernel
theorem dX10_symbol_21 : decode cX10_symbol 21 = .ok (.ireturn, 1) := by decide +kernel
theorem dX10_symbol_22 : decode cX10_symbol 22 = .ok (.aload_n 0, 1) := by decide +kernel
theorem dX10_symbol_23 : decode cX10_symbol 23 = .ok (.getfield 24, 3) := by decide +kernel
theorem dX10_symbol_26 : decode cX10_symbol 26 = .ok (.invokevirtual 106, 3) := by decide +kernel
theorem dX10_symbol_29 : decode cX10_symbol 29 = .ok (.aload_n 0, 1) := by decide +kernel
theorem dX10_symbol_30 : decode cX10_symbol 30 = .ok (.getfield 33, 3) := by decide +kernel
theorem dX10_symbol_33 : decode cX10_symbol 33 = .ok (.aload_n 0, 1) := by decide +kernel
theorem dX10_symbol_34 : decode cX10_symbol 34 = .ok (.getfield 24, 3) := by decide +kernel
theorem dX10_symbol_37 : decode cX10_symbol 37 = .ok (.iload_n 1, 1) := by decide +kernel
theorem dX10_symbol_38 : decode cX10_symbol 38 = .ok (.iload_n 2, 1) := by decide +kernel
theorem dX10_symbol_39 : decode cX10_symbol 39 = .ok (.invokevirtual 217, 3) := by decide +kernel
theorem dX10_symbol_42 : decode cX10_symbol 42 = .ok (.aload_n 0, 1) := by decide +kernel
theorem dX10_symbol_43 : decode cX10_symbol 43 = .ok (.getfield 54, 3) := by decide +kernel
theorem dX10_symbol_46 : decode cX10_symbol 46 = .ok (.aload_n 0, 1) := by decide +kernel
theorem dX10_symbol_47 : decode cX10_symbol 47 = .ok (.getfield 24, 3) := by decide +kernel
theorem dX10_symbol_50 : decode cX10_symbol 50 = .ok (.aload_n 0, 1) := by decide +kernel
theorem dX10_symbol_51 : decode cX10_symbol 51 = .ok (.getfield 27, 3) := by decide +kernel
theorem dX10_symbol_54 : decode cX10_symbol 54 = .ok (.invokevirtual 250, 3) := by decide +kernel
theorem dX10_symbol_57 : decode cX10_symbol 57 = .ok (.iload_n 2, 1) := by decide +kernel
theorem dX10_symbol_58 : decode cX10_symbol 58 = .ok (.iload_n 1, 1) := by decide +kernel
theorem dX10_symbol_59 : decode cX10_symbol 59 = .ok (.isub, 1) := by decide +kernel
theorem dX10_symbol_60 : decode cX10_symbol 60 = .ok (.ireturn, 1) := by decide +kernel
theorem dX10_character_0 : decode cX10_character 0 = .ok (.aload_n 0, 1) := by decide +kernel
theorem dX10_character_1 : decode cX10_character 1 = .ok (.getfield 27, 3) := by decide +kernel
theorem dX10_character_4 : decode cX10_character 4 = .ok (.iload_n 1, 1) := by decide +kernel
theorem dX10_character_5 : decode cX10_character 5 = .ok (.invokevirtual 170, 3) := by decide +kernel
theorem dX10_character_8 : decode cX10_character 8 = .ok (.ireturn, 1) := by decide +kernel
theorem dX10_print_0 : decode cX10_print 0 = .ok (.aload_n 0, 1) := by decide +kernel
theorem dX10_print_1 : decode cX10_print 1 = .ok (.getfield 27, 3) := by decide +kernel
theorem dX10_print_4 : decode cX10_print 4 = .ok (.invokevirtual 84, 3) := by decide +kernel
theorem dX10_print_7 : decode cX10_print 7 = .ok (.ifCond .ne 14, 3) := by decide +kernel
theorem dX10_print_10 : decode cX10_print 10 = .ok (.new 254, 3) := by decide +kernel
theorem dX10_print_13 : decode cX10_print 13 = .ok (.dup, 1) := by decide +kernel
theorem dX10_print_14 : decode cX10_print 14 = .ok (.ldc_w 256, 3) := by decide +kernel
theorem dX10_print_17 : decode cX10_print 17 = .ok (.invokespecial 258, 3) := by decide +kernel
theorem dX10_print_20 : decode cX10_print 20 = .ok (.athrow, 1) := by decide +kernel
theorem dX10_print_21 : decode cX10_print 21 = .ok (.aload_n 0, 1) := by decide +kernel
theorem dX10_print_22 : decode cX10_print 22 = .ok (.getfield 21, 3) := by decide +kernel
theorem dX10_print_25 : decode cX10_print 25 = .ok (.invokevirtual 106, 3) := by decide +kernel
theorem dX10_print_28 : decode cX10_print 28 = .ok (.aload_n 0, 1) := by decide +kernel
theorem dX10_print_29 : decode cX10_print 29 = .ok (.invokevirtual 259, 3) := by decide +kernel
theorem dX10_print_32 : decode cX10_print 32 = .ok (.iconst 0, 1) := by decide +kernel
theorem dX10_print_33 : decode cX10_print 33 = .ok (.istore_n 1, 1) := by decide +kernel
theorem dX10_print_34 : decode cX10_print 34 = .ok (.iload_n 1, 1) := by decide +kernel
theorem dX10_print_35 : decode cX10_print 35 = .ok (.aload_n 0, 1) := by decide +kernel
theorem dX10_print_36 : decode cX10_print 36 = .ok (.getfield 27, 3) := by decide +kernel
theorem dX10_print_39 : decode cX10_print 39 = .ok (.invokevirtual 84, 3) := by decide +kernel
theorem dX10_print_42 : decode cX10_print 42 = .ok (.if_icmp .ge 28, 3) := by decide +kernel
theorem dX10_print_45 : decode cX10_print 45 = .ok (.aload_n 0, 1) := by decide +kernel
theorem dX10_print_46 : decode cX10_print 46 = .ok (.getfield 61, 3) := by decide +kernel
theorem dX10_print_49 : decode cX10_print 49 = .ok (.aload_n 0, 1) := by decide +kernel
theorem dX10_print_50 : decode cX10_print 50 = .ok (.getfield 21, 3) := by decide +kernel
theorem dX10_print_53 : decode cX10_print 53 = .ok (.aload_n 0, 1) := by decide +kernel
theorem dX10_print_54 : decode cX10_print 54 = .ok (.getfield 27, 3) := by decide +kernel
theorem dX10_print_57 : decode cX10_print 57 = .ok (.iload_n 1, 1) := by decide +kernel
theorem dX10_print_58 : decode cX10_print 58 = .ok (.invokevirtual 170, 3) := by decide +kernel
theorem dX10_print_61 : decode cX10_print 61 = .ok (.invokevirtual 262, 3) := by decide +kernel
theorem dX10_print_64 : decode cX10_print 64 = .ok (.iinc 1 1, 3) := by decide +kernel
theorem dX10_print_67 : decode cX10_print 67 = .ok (.goto (-33), 3) := by decide +kernel
theorem dX10_print_70 : decode cX10_print 70 = .ok (.aload_n 0, 1) := by decide +kernel
theorem dX10_print_71 : decode cX10_print 71 = .ok (.invokevirtual 259, 3) := by decide +kernel
theorem dX10_print_74 : decode cX10_print 74 = .ok (.aload_n 0, 1) := by decide +kernel
theorem dX10_print_75 : decode cX10_print 75 = .ok (.getfield 21, 3) := by decide +kernel
theorem dX10_print_78 : decode cX10_print 78 = .ok (.invokevirtual 84, 3) := by decide +kernel
theorem dX10_print_81 : decode cX10_print 81 = .ok (.ireturn, 1) := by decide +kernel
theorem dX10_putSpaces_0 : decode cX10_putSpaces 0 = .ok (.iconst 0, 1) := by decide +kernel
theorem dX10_putSpaces_1 : decode cX10_putSpaces 1 = .ok (.istore_n 1, 1) := by decide +kernel
theorem dX10_putSpaces_2 : decode cX10_putSpaces 2 = .ok (.iload_n 1, 1) := by decide +kernel
theorem dX10_putSpaces_3 : decode cX10_putSpaces 3 = .ok (.bipush 10, 2) := by decide +kernel
theorem dX10_putSpaces_5 : decode cX10_putSpaces 5 = .ok (.if_icmp .ge 17, 3) := by decide +kernel
theorem dX10_putSpaces_8 : decode cX10_putSpaces 8 = .ok (.aload_n 0, 1) := by decide +kernel
theorem dX10_putSpaces_9 : decode cX10_putSpaces 9 = .ok (.getfield 21, 3) := by decide +kernel
theorem dX10_putSpaces_12 : decode cX10_putSpaces 12 = .ok (.iconst 0, 1) := by decide +kernel
theorem dX10_putSpaces_13 : decode cX10_putSpaces 13 = .ok (.invokevirtual 91, 3) := by decide +kernel
theorem dX10_putSpaces_16 : decode cX10_putSpaces 16 = .ok (.iinc 1 1, 3) := by decide +kernel
theorem dX10_putSpaces_19 : decode cX10_putSpaces 19 = .ok (.goto (-17), 3) := by decide +kernel
theorem dX10_putSpaces_22 : decode cX10_putSpaces 22 = .ok (.return_, 1) := by decide +kernel
theorem dX10_bars_0 : decode cX10_bars 0 = .ok (.aload_n 0, 1) := by decide +kernel
theorem dX10_bars_1 : decode cX10_bars 1 = .ok (.getfield 21, 3) := by decide +kernel
theorem dX10_bars_4 : decode cX10_bars 4 = .ok (.invokevirtual 84, 3) := by decide +kernel
theorem dX10_bars_7 : decode cX10_bars 7 = .ok (.sipush 160, 3) := by decide +kernel
theorem dX10_bars_10 : decode cX10_bars 10 = .ok (.iadd, 1) := by decide +kernel
theorem dX10_bars_11 : decode cX10_bars 11 = .ok (.sipush 2000, 3) := by decide +kernel
theorem dX10_bars_14 : decode cX10_bars 14 = .ok (.if_icmp .le 5, 3) := by decide +kernel
theorem dX10_bars_17 : decode cX10_bars 17 = .ok (.iconst (-1), 1) := by decide +kernel
theorem dX10_bars_18 : decode cX10_bars 18 = .ok (.ireturn, 1) := by decide +kernel
theorem dX10_bars_19 : decode cX10_bars 19 = .ok (.aload_n 0, 1) := by decide +kernel
theorem dX10_bars_20 : decode cX10_bars 20 = .ok (.iload_n 1, 1) := by decide +kernel
theorem dX10_bars_21 : decode cX10_bars 21 = .ok (.invokevirtual 265, 3) := by decide +kernel
theorem dX10_bars_24 : decode cX10_bars 24 = .ok (.aload_n 0, 1) := by decide +kernel
theorem dX10_bars_25 : decode cX10_bars 25 = .ok (.iload_n 2, 1) := by decide +kernel
theorem dX10_bars_26 : decode cX10_bars 26 = .ok (.invokevirtual 265, 3) := by decide +kernel
theorem dX10_bars_29 : decode cX10_bars 29 = .ok (.aload_n 0, 1) := by decide +kernel
theorem dX10_bars_30 : decode cX10_bars 30 = .ok (.iload_n 3, 1) := by decide +kernel
theorem dX10_bars_31 : decode cX10_bars 31 = .ok (.invokevirtual 265, 3) := by decide +kernel
theorem dX10_bars_34 : decode cX10_bars 34 = .ok (.aload_n 0, 1) := by decide +kernel
theorem dX10_bars_35 : decode cX10_bars 35 = .ok (.iload 4, 2) := by decide +kernel
theorem dX10_bars_37 : decode cX10_bars 37 = .ok (.invokevirtual 265, 3) := by decide +kernel
theorem dX10_bars_40 : decode cX10_bars 40 = .ok (.aload_n 0, 1) := by decide +kernel
theorem dX10_bars_41 : decode cX10_bars 41 = .ok (.iload 5, 2) := by decide +kernel
theorem dX10_bars_43 : decode cX10_bars 43 = .ok (.invokevirtual 265, 3) := by decide +kernel
theorem dX10_bars_46 : decode cX10_bars 46 = .ok (.aload_n 0, 1) := by decide +kernel
theorem dX10_bars_47 : decode cX10_bars 47 = .ok (.getfield 21, 3) := by decide +kernel
theorem dX10_bars_50 : decode cX10_bars 50 = .ok (.invokevirtual 84, 3) := by decide +kernel
theorem dX10_bars_53 : decode cX10_bars 53 = .ok (.ireturn, 1) := by decide +kernel
theorem dX10_putModules_0 : decode cX10_putModules 0 = .ok (.bipush 31, 2) := by decide +kernel
theorem dX10_putModules_2 : decode cX10_putModules 2 = .ok (.istore_n 2, 1) := by decide +kernel
theorem dX10_putModules_3 : decode cX10_putModules 3 = .ok (.iload_n 2, 1) := by decide +kernel
theorem dX10_putModules_4 : decode cX10_putModules 4 = .ok (.ifCond .lt 21, 3) := by decide +kernel
theorem dX10_putModules_7 : decode cX10_putModules 7 = .ok (.aload_n 0, 1) := by decide +kernel
theorem dX10_putModules_8 : decode cX10_putModules 8 = .ok (.getfield 21, 3) := by decide +kernel
theorem dX10_putModules_11 : decode cX10_putModules 11 = .ok (.iload_n 1, 1) := by decide +kernel
theorem dX10_putModules_12 : decode cX10_putModules 12 = .ok (.iload_n 2, 1) := by decide +kernel
theorem dX10_putModules_13 : decode cX10_putModules 13 = .ok (.ishr, 1) := by decide +kernel
theorem dX10_putModules_14 : decode cX10_putModules 14 = .ok (.iconst 1, 1) := by decide +kernel
theorem dX10_putModules_15 : decode cX10_putModules 15 = .ok (.iand, 1) := by decide +kernel
theorem dX10_putModules_16 : decode cX10_putModules 16 = .ok (.invokevirtual 91, 3) := by decide +kernel
theorem dX10_putModules_19 : decode cX10_putModules 19 = .ok (.iinc 2 (-1), 3) := by decide +kernel
theorem dX10_putModules_22 : decode cX10_putModules 22 = .ok (.goto (-19), 3) := by decide +kernel
theorem dX10_putModules_25 : decode cX10_putModules 25 = .ok (.return_, 1) := by decide +kernel
theorem dX10_cut_0 : decode cX10_cut 0 = .ok (.aload_n 0, 1) := by decide +kernel
theorem dX10_cut_1 : decode cX10_cut 1 = .ok (.getfield 21, 3) := by decide +kernel
theorem dX10_cut_4 : decode cX10_cut 4 = .ok (.iload_n 1, 1) := by decide +kernel
theorem dX10_cut_5 : decode cX10_cut 5 = .ok (.invokevirtual 94, 3) := by decide +kernel
theorem dX10_cut_8 : decode cX10_cut 8 = .ok (.ireturn, 1) := by decide +kernel
theorem dX10_turn_0 : decode cX10_turn 0 = .ok (.aload_n 0, 1) := by decide +kernel
theorem dX10_turn_1 : decode cX10_turn 1 = .ok (.getfield 21, 3) := by decide +kernel
theorem dX10_turn_4 : decode cX10_turn 4 = .ok (.invokevirtual 268, 3) := by decide +kernel
theorem dX10_turn_7 : decode cX10_turn 7 = .ok (.aload_n 0, 1) := by decide +kernel
theorem dX10_turn_8 : decode cX10_turn 8 = .ok (.getfield 21, 3) := by decide +kernel
theorem dX10_turn_11 : decode cX10_turn 11 = .ok (.invokevirtual 84, 3) := by decide +kernel
theorem dX10_turn_14 : decode cX10_turn 14 = .ok (.ireturn, 1) := by decide +kernel
theorem dX10_ink_0 : decode cX10_ink 0 = .ok (.aload_n 0, 1) := by decide +kernel
theorem dX10_ink_1 : decode cX10_ink 1 = .ok (.getfield 21, 3) := by decide +kernel
theorem dX10_ink_4 : decode cX10_ink 4 = .ok (.iload_n 1, 1) := by decide +kernel
theorem dX10_ink_5 : decode cX10_ink 5 = .ok (.iload_n 2, 1) := by decide +kernel
theorem dX10_ink_6 : decode cX10_ink 6 = .ok (.ifCond .eq 7, 3) := by decide +kernel
theorem dX10_ink_9 : decode cX10_ink 9 = .ok (.iconst 1, 1) := by decide +kernel
theorem dX10_ink_10 : decode cX10_ink 10 = .ok (.goto 4, 3) := by decide +kernel
theorem dX10_ink_13 : decode cX10_ink 13 = .ok (.iconst 0, 1) := by decide +kernel
theorem dX10_ink_14 : decode cX10_ink 14 = .ok (.invokevirtual 271, 3) := by decide +kernel
theorem dX10_ink_17 : decode cX10_ink 17 = .ok (.ireturn, 1) := by decide +kernel
theorem dX10_module_0 : decode cX10_module 0 = .ok (.aload_n 0, 1) := by decide +kernel
theorem dX10_module_1 : decode cX10_module 1 = .ok (.getfield 21, 3) := by decide +kernel
theorem dX10_module_4 : decode cX10_module 4 = .ok (.iload_n 1, 1) := by decide +kernel
theorem dX10_module_5 : decode cX10_module 5 = .ok (.invokevirtual 170, 3) := by decide +kernel
theorem dX10_module_8 : decode cX10_module 8 = .ok (.ireturn, 1) := by decide +kernel
theorem dX10_scan_0 : decode cX10_scan 0 = .ok (.aload_n 0, 1) := by decide +kernel
theorem dX10_scan_1 : decode cX10_scan 1 = .ok (.getfield 70, 3) := by decide +kernel
theorem dX10_scan_4 : decode cX10_scan 4 = .ok (.aload_n 0, 1) := by decide +kernel
theorem dX10_scan_5 : decode cX10_scan 5 = .ok (.getfield 21, 3) := by decide +kernel
theorem dX10_scan_8 : decode cX10_scan 8 = .ok (.invokevirtual 274, 3) := by decide +kernel
theorem dX10_scan_11 : decode cX10_scan 11 = .ok (.aload_n 0, 1) := by decide +kernel
theorem dX10_scan_12 : decode cX10_scan 12 = .ok (.aload_n 0, 1) := by decide +kernel
theorem dX10_scan_13 : decode cX10_scan 13 = .ok (.getfield 70, 3) := by decide +kernel
theorem dX10_scan_16 : decode cX10_scan 16 = .ok (.invokevirtual 277, 3) := by decide +kernel
theorem dX10_scan_19 : decode cX10_scan 19 = .ok (.aload_n 0, 1) := by decide +kernel
theorem dX10_scan_20 : decode cX10_scan 20 = .ok (.getfield 70, 3) := by decide +kernel
theorem dX10_scan_23 : decode cX10_scan 23 = .ok (.invokevirtual 278, 3) := by decide +kernel
theorem dX10_scan_26 : decode cX10_scan 26 = .ok (.invokevirtual 116, 3) := by decide +kernel
theorem dX10_scan_29 : decode cX10_scan 29 = .ok (.aload_n 0, 1) := by decide +kernel
theorem dX10_scan_30 : decode cX10_scan 30 = .ok (.getfield 78, 3) := by decide +kernel
theorem dX10_scan_33 : decode cX10_scan 33 = .ok (.ifCond .eq 5, 3) := by decide +kernel
theorem dX10_scan_36 : decode cX10_scan 36 = .ok (.iconst (-1), 1) := by decide +kernel
theorem dX10_scan_37 : decode cX10_scan 37 = .ok (.ireturn, 1) := by decide +kernel
theorem dX10_scan_38 : decode cX10_scan 38 = .ok (.aload_n 0, 1) := by decide +kernel
theorem dX10_scan_39 : decode cX10_scan 39 = .ok (.aload_n 0, 1) := by decide +kernel
theorem dX10_scan_40 : decode cX10_scan 40 = .ok (.getfield 70, 3) := by decide +kernel
theorem dX10_scan_43 : decode cX10_scan 43 = .ok (.invokevirtual 279, 3) := by decide +kernel
theorem dX10_scan_46 : decode cX10_scan 46 = .ok (.putfield 282, 3) := by decide +kernel
theorem dX10_scan_49 : decode cX10_scan 49 = .ok (.aload_n 0, 1) := by decide +kernel
theorem dX10_scan_50 : decode cX10_scan 50 = .ok (.aload_n 0, 1) := by decide +kernel
theorem dX10_scan_51 : decode cX10_scan 51 = .ok (.getfield 70, 3) := by decide +kernel
theorem dX10_scan_54 : decode cX10_scan 54 = .ok (.invokevirtual 285, 3) := by decide +kernel
theorem dX10_scan_57 : decode cX10_scan 57 = .ok (.putfield 288, 3) := by decide +kernel
theorem dX10_scan_60 : decode cX10_scan 60 = .ok (.aload_n 0, 1) := by decide +kernel
theorem dX10_scan_61 : decode cX10_scan 61 = .ok (.getfield 70, 3) := by decide +kernel
theorem dX10_scan_64 : decode cX10_scan 64 = .ok (.aload_n 0, 1) := by decide +kernel
theorem dX10_scan_65 : decode cX10_scan 65 = .ok (.getfield 24, 3) := by decide +kernel
theorem dX10_scan_68 : decode cX10_scan 68 = .ok (.invokevirtual 292, 3) := by decide +kernel
theorem dX10_scan_71 : decode cX10_scan 71 = .ok (.aload_n 0, 1) := by decide +kernel
theorem dX10_scan_72 : decode cX10_scan 72 = .ok (.aload_n 0, 1) := by decide +kernel
theorem dX10_scan_73 : decode cX10_scan 73 = .ok (.getfield 70, 3) := by decide +kernel
theorem dX10_scan_76 : decode cX10_scan 76 = .ok (.invokevirtual 277, 3) := by decide +kernel
theorem dX10_scan_79 : decode cX10_scan 79 = .ok (.aload_n 0, 1) := by decide +kernel
theorem dX10_scan_80 : decode cX10_scan 80 = .ok (.getfield 70, 3) := by decide +kernel
theorem dX10_scan_83 : decode cX10_scan 83 = .ok (.invokevirtual 278, 3) := by decide +kernel
theorem dX10_scan_86 : decode cX10_scan 86 = .ok (.invokevirtual 116, 3) := by decide +kernel
theorem dX10_scan_89 : decode cX10_scan 89 = .ok (.aload_n 0, 1) := by decide +kernel
theorem dX10_scan_90 : decode cX10_scan 90 = .ok (.aload_n 0, 1) := by decide +kernel
theorem dX10_scan_91 : decode cX10_scan 91 = .ok (.getfield 78, 3) := by decide +kernel
theorem dX10_scan_94 : decode cX10_scan 94 = .ok (.ifCond .ne 13, 3) := by decide +kernel
theorem dX10_scan_97 : decode cX10_scan 97 = .ok (.aload_n 0, 1) := by decide +kernel
theorem dX10_scan_98 : decode cX10_scan 98 = .ok (.getfield 24, 3) := by decide +kernel
theorem dX10_scan_101 : decode cX10_scan 101 = .ok (.invokevirtual 84, 3) := by decide +kernel
theorem dX10_scan_104 : decode cX10_scan 104 = .ok (.goto 4, 3) := by decide +kernel
theorem dX10_scan_107 : decode cX10_scan 107 = .ok (.iconst 0, 1) := by decide +kernel
theorem dX10_scan_108 : decode cX10_scan 108 = .ok (.putfield 295, 3) := by decide +kernel
theorem dX10_scan_111 : decode cX10_scan 111 = .ok (.aload_n 0, 1) := by decide +kernel
theorem dX10_scan_112 : decode cX10_scan 112 = .ok (.getfield 78, 3) := by decide +kernel
theorem dX10_scan_115 : decode cX10_scan 115 = .ok (.ifCond .eq 5, 3) := by decide +kernel
theorem dX10_scan_118 : decode cX10_scan 118 = .ok (.iconst (-1), 1) := by decide +kernel
theorem dX10_scan_119 : decode cX10_scan 119 = .ok (.ireturn, 1) := by decide +kernel
theorem dX10_scan_120 : decode cX10_scan 120 = .ok (.aload_n 0, 1) := by decide +kernel
theorem dX10_scan_121 : decode cX10_scan 121 = .ok (.getfield 47, 3) := by decide +kernel
theorem dX10_scan_124 : decode cX10_scan 124 = .ok (.aload_n 0, 1) := by decide +kernel
theorem dX10_scan_125 : decode cX10_scan 125 = .ok (.getfield 24, 3) := by decide +kernel
theorem dX10_scan_128 : decode cX10_scan 128 = .ok (.iconst 0, 1) := by decide +kernel
theorem dX10_scan_129 : decode cX10_scan 129 = .ok (.iconst 0, 1) := by decide +kernel
theorem dX10_scan_130 : decode cX10_scan 130 = .ok (.aload_n 0, 1) := by decide +kernel
theorem dX10_scan_131 : decode cX10_scan 131 = .ok (.getfield 74, 3) := by decide +kernel
theorem dX10_scan_134 : decode cX10_scan 134 = .ok (.invokevirtual 102, 3) := by decide +kernel
theorem dX10_scan_137 : decode cX10_scan 137 = .ok (.aload_n 0, 1) := by decide +kernel
theorem dX10_scan_138 : decode cX10_scan 138 = .ok (.invokevirtual 109, 3) := by decide +kernel
theorem dX10_scan_141 : decode cX10_scan 141 = .ok (.ireturn, 1) := by decide +kernel
theorem dX10_scanned_0 : decode cX10_scanned 0 = .ok (.iload_n 1, 1) := by decide +kernel
theorem dX10_scanned_1 : decode cX10_scanned 1 = .ok (.tableswitch 50 0 2 #[27, 32, 37], 27) := by decide +kernel
theorem dX10_scanned_28 : decode cX10_scanned 28 = .ok (.aload_n 0, 1) := by decide +kernel
theorem dX10_scanned_29 : decode cX10_scanned 29 = .ok (.getfield 282, 3) := by decide +kernel
theorem dX10_scanned_32 : decode cX10_scanned 32 = .ok (.ireturn, 1) := by decide +kernel
theorem dX10_scanned_33 : decode cX10_scanned 33 = .ok (.aload_n 0, 1) := by decide +kernel
theorem dX10_scanned_34 : decode cX10_scanned 34 = .ok (.getfield 295, 3) := by decide +kernel
theorem dX10_scanned_37 : decode cX10_scanned 37 = .ok (.ireturn, 1) := by decide +kernel
theorem dX10_scanned_38 : decode cX10_scanned 38 = .ok (.aload_n 0, 1) := by decide +kernel
theorem dX10_scanned_39 : decode cX10_scanned 39 = .ok (.getfield 288, 3) := by decide +kernel
theorem dX10_scanned_42 : decode cX10_scanned 42 = .ok (.ifCond .eq 7, 3) := by decide +kernel
theorem dX10_scanned_45 : decode cX10_scanned 45 = .ok (.iconst 1, 1) := by decide +kernel
theorem dX10_scanned_46 : decode cX10_scanned 46 = .ok (.goto 4, 3) := by decide +kernel
theorem dX10_scanned_49 : decode cX10_scanned 49 = .ok (.iconst 0, 1) := by decide +kernel
theorem dX10_scanned_50 : decode cX10_scanned 50 = .ok (.ireturn, 1) := by decide +kernel
theorem dX10_scanned_51 : decode cX10_scanned 51 = .ok (.iconst (-1), 1) := by decide +kernel
theorem dX10_scanned_52 : decode cX10_scanned 52 = .ok (.ireturn, 1) := by decide +kernel
theorem dX11_thrown_0 : decode cX11_thrown 0 = .ok (.aload_n 0, 1) := by decide +kernel
theorem dX11_thrown_1 : decode cX11_thrown 1 = .ok (.getfield 48, 3) := by decide +kernel
theorem dX11_thrown_4 : decode cX11_thrown 4 = .ok (.ireturn, 1) := by decide +kernel
theorem dX11_throwing_0 : decode cX11_throwing 0 = .ok (.aload_n 0, 1) := by decide +kernel
theorem dX11_throwing_1 : decode cX11_throwing 1 = .ok (.iload_n 1, 1) := by decide +kernel
theorem dX11_throwing_2 : decode cX11_throwing 2 = .ok (.putfield 48, 3) := by decide +kernel
theorem dX11_throwing_5 : decode cX11_throwing 5 = .ok (.iconst 1, 1) := by decide +kernel
theorem dX11_throwing_6 : decode cX11_throwing 6 = .ok (.ireturn, 1) := by decide +kernel
theorem dX11_isDigit_0 : decode cX11_isDigit 0 = .ok (.iload_n 0, 1) := by decide +kernel
theorem dX11_isDigit_1 : decode cX11_isDigit 1 = .ok (.bipush 48, 2) := by decide +kernel
theorem dX11_isDigit_3 : decode cX11_isDigit 3 = .ok (.if_icmp .lt 13, 3) := by decide +kernel
theorem dX11_isDigit_6 : decode cX11_isDigit 6 = .ok (.iload_n 0, 1) := by decide +kernel
theorem dX11_isDigit_7 : decode cX11_isDigit 7 = .ok (.bipush 57, 2) := by decide +kernel
theorem dX11_isDigit_9 : decode cX11_isDigit 9 = .ok (.if_icmp .gt 7, 3) := by decide +kernel
theorem dX11_isDigit_12 : decode cX11_isDigit 12 = .ok (.iconst 1, 1) := by decide +kernel
theorem dX11_isDigit_13 : decode cX11_isDigit 13 = .ok (.goto 4, 3) := by decide +kernel
theorem dX11_isDigit_16 : decode cX11_isDigit 16 = .ok (.iconst 0, 1) := by decide +kernel
theorem dX11_isDigit_17 : decode cX11_isDigit 17 = .ok (.ireturn, 1) := by decide +kernel
theorem dX11_tables_0 : decode cX11_tables 0 = .ok (.iconst 0, 1) := by decide +kernel
theorem dX11_tables_1 : decode cX11_tables 1 = .ok (.istore_n 1, 1) := by decide +kernel
theorem dX11_tables_2 : decode cX11_tables 2 = .ok (.iload_n 1, 1) := by decide +kernel
theorem dX11_tables_3 : decode cX11_tables 3 = .ok (.aload_n 0, 1) := by decide +kernel
theorem dX11_tables_4 : decode cX11_tables 4 = .ok (.getfield 7, 3) := by decide +kernel
theorem dX11_tables_7 : decode cX11_tables 7 = .ok (.arraylength, 1) := by decide +kernel
theorem dX11_tables_8 : decode cX11_tables 8 = .ok (.if_icmp .ge 181, 3) := by decide +kernel
theorem dX11_tables_11 : decode cX11_tables 11 = .ok (.aload_n 0, 1) := by decide +kernel
theorem dX11_tables_12 : decode cX11_tables 12 = .ok (.getfield 7, 3) := by decide +kernel
theorem dX11_tables_15 : decode cX11_tables 15 = .ok (.iload_n 1, 1) := by decide +kernel
theorem dX11_tables_16 : decode cX11_tables 16 = .ok (.iaload, 1) := by decide +kernel
theorem dX11_tables_17 : decode cX11_tables 17 = .ok (.istore_n 2, 1) := by decide +kernel
theorem dX11_tables_18 : decode cX11_tables 18 = .ok (.aload_n 0, 1) := by decide +kernel
theorem dX11_tables_19 : decode cX11_tables 19 = .ok (.getfield 7, 3) := by decide +kernel
theorem dX11_tables_22 : decode cX11_tables 22 = .ok (.iload_n 1, 1) := by decide +kernel
theorem dX11_tables_23 : decode cX11_tables 23 = .ok (.iconst 1, 1) := by decide +kernel
theorem dX11_tables_24 : decode cX11_tables 24 = .ok (.iadd, 1) := by decide +kernel
theorem dX11_tables_25 : decode cX11_tables 25 = .ok (.iaload, 1) := by decide +kernel
theorem dX11_tables_26 : decode cX11_tables 26 = .ok (.istore_n 3, 1) := by decide +kernel
theorem dX11_tables_27 : decode cX11_tables 27 = .ok (.iinc 1 2, 3) := by decide +kernel
theorem dX11_tables_30 : decode cX11_tables 30 = .ok (.iconst 0, 1) := by decide +kernel
theorem dX11_tables_31 : decode cX11_tables 31 = .ok (.istore 4, 2) := by decide +kernel
theorem dX11_tables_33 : decode cX11_tables 33 = .ok (.iload 4, 2) := by decide +kernel
theorem dX11_tables_35 : decode cX11_tables 35 = .ok (.iload_n 2, 1) := by decide +kernel
theorem dX11_tables_36 : decode cX11_tables 36 = .ok (.if_icmp .ge 47, 3) := by decide +kernel
theorem dX11_tables_39 : decode cX11_tables 39 = .ok (.aload_n 0, 1) := by decide +kernel
theorem dX11_tables_40 : decode cX11_tables 40 = .ok (.aload_n 0, 1) := by decide +kernel
theorem dX11_tables_41 : decode cX11_tables 41 = .ok (.getfield 7, 3) := by decide +kernel
theorem dX11_tables_44 : decode cX11_tables 44 = .ok (.iload_n 1, 1) := by decide +kernel
theorem dX11_tables_45 : decode cX11_tables 45 = .ok (.iaload, 1) := by decide +kernel
theorem dX11_tables_46 : decode cX11_tables 46 = .ok (.aload_n 0, 1) := by decide +kernel
theorem dX11_tables_47 : decode cX11_tables 47 = .ok (.getfield 7, 3) := by decide +kernel
theorem dX11_tables_50 : decode cX11_tables 50 = .ok (.iload_n 1, 1) := by decide +kernel
theorem dX11_tables_51 : decode cX11_tables 51 = .ok (.iconst 1, 1) := by decide +kernel
theorem dX11_tables_52 : decode cX11_tables 52 = .ok (.iadd, 1) := by decide +kernel
theorem dX11_tables_53 : decode cX11_tables 53 = .ok (.iaload, 1) := by decide +kernel
theorem dX11_tables_54 : decode cX11_tables 54 = .ok (.aload_n 0, 1) := by decide +kernel
theorem dX11_tables_55 : decode cX11_tables 55 = .ok (.getfield 7, 3) := by decide +kernel
theorem dX11_tables_58 : decode cX11_tables 58 = .ok (.iload_n 1, 1) := by decide +kernel
theorem dX11_tables_59 : decode cX11_tables 59 = .ok (.iconst 2, 1) := by decide +kernel
theorem dX11_tables_60 : decode cX11_tables 60 = .ok (.iadd, 1) := by decide +kernel
theorem dX11_tables_61 : decode cX11_tables 61 = .ok (.iaload, 1) := by decide +kernel
theorem dX11_tables_62 : decode cX11_tables 62 = .ok (.aload_n 0, 1) := by decide +kernel
theorem dX11_tables_63 : decode cX11_tables 63 = .ok (.getfield 7, 3) := by decide +kernel
theorem dX11_tables_66 : decode cX11_tables 66 = .ok (.iload_n 1, 1) := by decide +kernel
theorem dX11_tables_67 : decode cX11_tables 67 = .ok (.iconst 3, 1) := by decide +kernel
theorem dX11_tables_68 : decode cX11_tables 68 = .ok (.iadd, 1) := by decide +kernel
theorem dX11_tables_69 : decode cX11_tables 69 = .ok (.iaload, 1) := by decide +kernel
theorem dX11_tables_70 : decode cX11_tables 70 = .ok (.iload_n 3, 1) := by decide +kernel
theorem dX11_tables_71 : decode cX11_tables 71 = .ok (.invokevirtual 284, 3) := by decide +kernel
theorem dX11_tables_74 : decode cX11_tables 74 = .ok (.iinc 1 4, 3) := by decide +kernel
theorem dX11_tables_77 : decode cX11_tables 77 = .ok (.iinc 4 1, 3) := by decide +kernel
theorem dX11_tables_80 : decode cX11_tables 80 = .ok (.goto (-47), 3) := by decide +kernel
theorem dX11_tables_83 : decode cX11_tables 83 = .ok (.iconst 0, 1) := by decide +kernel
theorem dX11_tables_84 : decode cX11_tables 84 = .ok (.istore 4, 2) := by decide +kernel
theorem dX11_tables_86 : decode cX11_tables 86 = .ok (.iload 4, 2) := by decide +kernel
theorem dX11_tables_88 : decode cX11_tables 88 = .ok (.iload_n 3, 1) := by decide +kernel
theorem dX11_tables_89 : decode cX11_tables 89 = .ok (.if_icmp .ge 97, 3) := by decide +kernel
theorem dX11_tables_92 : decode cX11_tables 92 = .ok (.aload_n 0, 1) := by decide +kernel
theorem dX11_tables_93 : decode cX11_tables 93 = .ok (.getfield 32, 3) := by decide +kernel
theorem dX11_tables_96 : decode cX11_tables 96 = .ok (.aload_n 0, 1) := by decide +kernel
theorem dX11_tables_97 : decode cX11_tables 97 = .ok (.getfield 45, 3) := by decide +kernel
theorem dX11_tables_100 : decode cX11_tables 100 = .ok (.aload_n 0, 1) := by decide +kernel
theorem dX11_tables_101 : decode cX11_tables 101 = .ok (.getfield 7, 3) := by decide +kernel
theorem dX11_tables_104 : decode cX11_tables 104 = .ok (.iload_n 1, 1) := by decide +kernel
theorem dX11_tables_105 : decode cX11_tables 105 = .ok (.iaload, 1) := by decide +kernel
theorem dX11_tables_106 : decode cX11_tables 106 = .ok (.iastore, 1) := by decide +kernel
theorem dX11_tables_107 : decode cX11_tables 107 = .ok (.aload_n 0, 1) := by decide +kernel
theorem dX11_tables_108 : decode cX11_tables 108 = .ok (.getfield 35, 3) := by decide +kernel
theorem dX11_tables_111 : decode cX11_tables 111 = .ok (.aload_n 0, 1) := by decide +kernel
theorem dX11_tables_112 : decode cX11_tables 112 = .ok (.getfield 45, 3) := by decide +kernel
theorem dX11_tables_115 : decode cX11_tables 115 = .ok (.aload_n 0, 1) := by decide +kernel
theorem dX11_tables_116 : decode cX11_tables 116 = .ok (.getfield 7, 3) := by decide +kernel
theorem dX11_tables_119 : decode cX11_tables 119 = .ok (.iload_n 1, 1) := by decide +kernel
theorem dX11_tables_120 : decode cX11_tables 120 = .ok (.iconst 1, 1) := by decide +kernel
theorem dX11_tables_121 : decode cX11_tables 121 = .ok (.iadd, 1) := by decide +kernel
theorem dX11_tables_122 : decode cX11_tables 122 = .ok (.iaload, 1) := by decide +kernel
theorem dX11_tables_123 : decode cX11_tables 123 = .ok (.iastore, 1) := by decide +kernel
theorem dX11_tables_124 : decode cX11_tables 124 = .ok (.aload_n 0, 1) := by decide +kernel
theorem dX11_tables_125 : decode cX11_tables 125 = .ok (.getfield 38, 3) := by decide +kernel
theorem dX11_tables_128 : decode cX11_tables 128 = .ok (.aload_n 0, 1) := by decide +kernel
theorem dX11_tables_129 : decode cX11_tables 129 = .ok (.getfield 45, 3) := by decide +kernel
theorem dX11_tables_132 : decode cX11_tables 132 = .ok (.aload_n 0, 1) := by decide +kernel
theorem dX11_tables_133 : decode cX11_tables 133 = .ok (.getfield 7, 3) := by decide +kernel
theorem dX11_tables_136 : decode cX11_tables 136 = .ok (.iload_n 1, 1) := by decide +kernel
theorem dX11_tables_137 : decode cX11_tables 137 = .ok (.iconst 2, 1) := by decide +kernel
theorem dX11_tables_138 : decode cX11_tables 138 = .ok (.iadd, 1) := by decide +kernel
theorem dX11_tables_139 : decode cX11_tables 139 = .ok (.iaload, 1) := by decide +kernel
theorem dX11_tables_140 : decode cX11_tables 140 = .ok (.iastore, 1) := by decide +kernel
theorem dX11_tables_141 : decode cX11_tables 141 = .ok (.aload_n 0, 1) := by decide +kernel
theorem dX11_tables_142 : decode cX11_tables 142 = .ok (.getfield 41, 3) := by decide +kernel
theorem dX11_tables_145 : decode cX11_tables 145 = .ok (.aload_n 0, 1) := by decide +kernel
theorem dX11_tables_146 : decode cX11_tables 146 = .ok (.getfield 45, 3) := by decide +kernel
theorem dX11_tables_149 : decode cX11_tables 149 = .ok (.aload_n 0, 1) := by decide +kernel
theorem dX11_tables_150 : decode cX11_tables 150 = .ok (.getfield 7, 3) := by decide +kernel
theorem dX11_tables_153 : decode cX11_tables 153 = .ok (.iload_n 1, 1) := by decide +kernel
theorem dX11_tables_154 : decode cX11_tables 154 = .ok (.iconst 3, 1) := by decide +kernel
theorem dX11_tables_155 : decode cX11_tables 155 = .ok (.iadd, 1) := by decide +kernel
theorem dX11_tables_156 : decode cX11_tables 156 = .ok (.iaload, 1) := by decide +kernel
theorem dX11_tables_157 : decode cX11_tables 157 = .ok (.iconst 1, 1) := by decide +kernel
theorem dX11_tables_158 : decode cX11_tables 158 = .ok (.if_icmp .ne 7, 3) := by decide +kernel
theorem dX11_tables_161 : decode cX11_tables 161 = .ok (.iconst 1, 1) := by decide +kernel
theorem dX11_tables_162 : decode cX11_tables 162 = .ok (.goto 4, 3) := by decide +kernel
theorem dX11_tables_165 : decode cX11_tables 165 = .ok (.iconst 0, 1) := by decide +kernel
theorem dX11_tables_166 : decode cX11_tables 166 = .ok (.bastore, 1) := by decide +kernel
theorem dX11_tables_167 : decode cX11_tables 167 = .ok (.aload_n 0, 1) := by decide +kernel
theorem dX11_tables_168 : decode cX11_tables 168 = .ok (.dup, 1) := by decide +kernel
theorem dX11_tables_169 : decode cX11_tables 169 = .ok (.getfield 45, 3) := by decide +kernel
theorem dX11_tables_172 : decode cX11_tables 172 = .ok (.iconst 1, 1) := by decide +kernel
theorem dX11_tables_173 : decode cX11_tables 173 = .ok (.iadd, 1) := by decide +kernel
theorem dX11_tables_174 : decode cX11_tables 174 = .ok (.putfield 45, 3) := by decide +kernel
theorem dX11_tables_177 : decode cX11_tables 177 = .ok (.iinc 1 4, 3) := by decide +kernel
theorem dX11_tables_180 : decode cX11_tables 180 = .ok (.iinc 4 1, 3) := by decide +kernel
theorem dX11_tables_183 : decode cX11_tables 183 = .ok (.goto (-97), 3) := by decide +kernel
theorem dX11_tables_186 : decode cX11_tables 186 = .ok (.goto (-184), 3) := by decide +kernel
theorem dX11_tables_189 : decode cX11_tables 189 = .ok (.return_, 1) := by decide +kernel
theorem dX11_listed_0 : decode cX11_listed 0 = .ok (.iload_n 1, 1) := by decide +kernel
theorem dX11_listed_1 : decode cX11_listed 1 = .ok (.istore 6, 2) := by decide +kernel
theorem dX11_listed_3 : decode cX11_listed 3 = .ok (.iload 6, 2) := by decide +kernel
theorem dX11_listed_5 : decode cX11_listed 5 = .ok (.iload_n 2, 1) := by decide +kernel
theorem dX11_listed_6 : decode cX11_listed 6 = .ok (.if_icmp .gt 59, 3) := by decide +kernel
theorem dX11_listed_9 : decode cX11_listed 9 = .ok (.iload 4, 2) := by decide +kernel
theorem dX11_listed_11 : decode cX11_listed 11 = .ok (.ifCond .ge 13, 3) := by decide +kernel
theorem dX11_listed_14 : decode cX11_listed 14 = .ok (.aload_n 0, 1) := by decide +kernel
theorem dX11_listed_15 : decode cX11_listed 15 = .ok (.iload 6, 2) := by decide +kernel
theorem dX11_listed_17 : decode cX11_listed 17 = .ok (.iload_n 3, 1) := by decide +kernel
theorem dX11_listed_18 : decode cX11_listed 18 = .ok (.iconst (-1), 1) := by decide +kernel
theorem dX11_listed_19 : decode cX11_listed 19 = .ok (.iload 5, 2) := by decide +kernel
theorem dX11_listed_21 : decode cX11_listed 21 = .ok (.invokevirtual 288, 3) := by decide +kernel
theorem dX11_listed_24 : decode cX11_listed 24 = .ok (.iconst 0, 1) := by decide +kernel
theorem dX11_listed_25 : decode cX11_listed 25 = .ok (.istore 7, 2) := by decide +kernel
theorem dX11_listed_27 : decode cX11_listed 27 = .ok (.iload 7, 2) := by decide +kernel
theorem dX11_listed_29 : decode cX11_listed 29 = .ok (.iload 4, 2) := by decide +kernel
theorem dX11_listed_31 : decode cX11_listed 31 = .ok (.if_icmp .gt 28, 3) := by decide +kernel
theorem dX11_listed_34 : decode cX11_listed 34 = .ok (.aload_n 0, 1) := by decide +kernel
theorem dX11_listed_35 : decode cX11_listed 35 = .ok (.bipush 10, 2) := by decide +kernel
theorem dX11_listed_37 : decode cX11_listed 37 = .ok (.iload 6, 2) := by decide +kernel
theorem dX11_listed_39 : decode cX11_listed 39 = .ok (.imul, 1) := by decide +kernel
theorem dX11_listed_40 : decode cX11_listed 40 = .ok (.iload 7, 2) := by decide +kernel
theorem dX11_listed_42 : decode cX11_listed 42 = .ok (.iadd, 1) := by decide +kernel
theorem dX11_listed_43 : decode cX11_listed 43 = .ok (.iload_n 3, 1) := by decide +kernel
theorem dX11_listed_44 : decode cX11_listed 44 = .ok (.iconst 1, 1) := by decide +kernel
theorem dX11_listed_45 : decode cX11_listed 45 = .ok (.iadd, 1) := by decide +kernel
theorem dX11_listed_46 : decode cX11_listed 46 = .ok (.iload 7, 2) := by decide +kernel
theorem dX11_listed_48 : decode cX11_listed 48 = .ok (.iload 5, 2) := by decide +kernel
theorem dX11_listed_50 : decode cX11_listed 50 = .ok (.invokevirtual 288, 3) := by decide +kernel
theorem dX11_listed_53 : decode cX11_listed 53 = .ok (.iinc 7 1, 3) := by decide +kernel
theorem dX11_listed_56 : decode cX11_listed 56 = .ok (.goto (-29), 3) := by decide +kernel
theorem dX11_listed_59 : decode cX11_listed 59 = .ok (.iinc 6 1, 3) := by decide +kernel
theorem dX11_listed_62 : decode cX11_listed 62 = .ok (.goto (-59), 3) := by decide +kernel
theorem dX11_listed_65 : decode cX11_listed 65 = .ok (.return_, 1) := by decide +kernel
theorem dX11_ai_0 : decode cX11_ai 0 = .ok (.aload_n 0, 1) := by decide +kernel
theorem dX11_ai_1 : decode cX11_ai 1 = .ok (.getfield 13, 3) := by decide +kernel
theorem dX11_ai_4 : decode cX11_ai 4 = .ok (.aload_n 0, 1) := by decide +kernel
theorem dX11_ai_5 : decode cX11_ai 5 = .ok (.getfield 28, 3) := by decide +kernel
theorem dX11_ai_8 : decode cX11_ai 8 = .ok (.iload_n 1, 1) := by decide +kernel
theorem dX11_ai_9 : decode cX11_ai 9 = .ok (.iastore, 1) := by decide +kernel
theorem dX11_ai_10 : decode cX11_ai 10 = .ok (.aload_n 0, 1) := by decide +kernel
theorem dX11_ai_11 : decode cX11_ai 11 = .ok (.getfield 16, 3) := by decide +kernel
theorem dX11_ai_14 : decode cX11_ai 14 = .ok (.aload_n 0, 1) := by decide +kernel
theorem dX11_ai_15 : decode cX11_ai 15 = .ok (.getfield 28, 3) := by decide +kernel
theorem dX11_ai_18 : decode cX11_ai 18 = .ok (.iload_n 2, 1) := by decide +kernel
theorem dX11_ai_19 : decode cX11_ai 19 = .ok (.iastore, 1) := by decide +kernel
theorem dX11_ai_20 : decode cX11_ai 20 = .ok (.aload_n 0, 1) := by decide +kernel
theorem dX11_ai_21 : decode cX11_ai 21 = .ok (.getfield 19, 3) := by decide +kernel
theorem dX11_ai_24 : decode cX11_ai 24 = .ok (.aload_n 0, 1) := by decide +kernel
theorem dX11_ai_25 : decode cX11_ai 25 = .ok (.getfield 28, 3) := by decide +kernel
theorem dX11_ai_28 : decode cX11_ai 28 = .ok (.iload_n 3, 1) := by decide +kernel
theorem dX11_ai_29 : decode cX11_ai 29 = .ok (.iastore, 1) := by decide +kernel
theorem dX11_ai_30 : decode cX11_ai 30 = .ok (.aload_n 0, 1) := by decide +kernel
theorem dX11_ai_31 : decode cX11_ai 31 = .ok (.getfield 22, 3) := by decide +kernel
theorem dX11_ai_34 : decode cX11_ai 34 = .ok (.aload_n 0, 1) := by decide +kernel
theorem dX11_ai_35 : decode cX11_ai 35 = .ok (.getfield 28, 3) := by decide +kernel
theorem dX11_ai_38 : decode cX11_ai 38 = .ok (.aload_n 0, 1) := by decide +kernel
theorem dX11_ai_39 : decode cX11_ai 39 = .ok (.getfield 45, 3) := by decide +kernel
theorem dX11_ai_42 : decode cX11_ai 42 = .ok (.iastore, 1) := by decide +kernel
theorem dX11_ai_43 : decode cX11_ai 43 = .ok (.aload_n 0, 1) := by decide +kernel
theorem dX11_ai_44 : decode cX11_ai 44 = .ok (.getfield 25, 3) := by decide +kernel
theorem dX11_ai_47 : decode cX11_ai 47 = .ok (.aload_n 0, 1) := by decide +kernel
theorem dX11_ai_48 : decode cX11_ai 48 = .ok (.getfield 28, 3) := by decide +kernel
theorem dX11_ai_51 : decode cX11_ai 51 = .ok (.iload 4, 2) := by decide +kernel
theorem dX11_ai_53 : decode cX11_ai 53 = .ok (.iastore, 1) := by decide +kernel
theorem dX11_ai_54 : decode cX11_ai 54 = .ok (.aload_n 0, 1) := by decide +kernel
theorem dX11_ai_55 : decode cX11_ai 55 = .ok (.dup, 1) := by decide +kernel
theorem dX11_ai_56 : decode cX11_ai 56 = .ok (.getfield 28, 3) := by decide +kernel
theorem dX11_ai_59 : decode cX11_ai 59 = .ok (.iconst 1, 1) := by decide +kernel
theorem dX11_ai_60 : decode cX11_ai 60 = .ok (.iadd, 1) := by decide +kernel
theorem dX11_ai_61 : decode cX11_ai 61 = .ok (.putfield 28, 3) := by decide +kernel
theorem dX11_ai_64 : decode cX11_ai 64 = .ok (.return_, 1) := by decide +kernel
theorem dX11_aiOf_0 : decode cX11_aiOf 0 = .ok (.iconst 0, 1) := by decide +kernel
theorem dX11_aiOf_1 : decode cX11_aiOf 1 = .ok (.istore_n 3, 1) := by decide +kernel
theorem dX11_aiOf_2 : decode cX11_aiOf 2 = .ok (.iload_n 3, 1) := by decide +kernel
theorem dX11_aiOf_3 : decode cX11_aiOf 3 = .ok (.aload_n 0, 1) := by decide +kernel
theorem dX11_aiOf_4 : decode cX11_aiOf 4 = .ok (.getfield 28, 3) := by decide +kernel
theorem dX11_aiOf_7 : decode cX11_aiOf 7 = .ok (.if_icmp .ge 31, 3) := by decide +kernel
theorem dX11_aiOf_10 : decode cX11_aiOf 10 = .ok (.aload_n 0, 1) := by decide +kernel
theorem dX11_aiOf_11 : decode cX11_aiOf 11 = .ok (.getfield 13, 3) := by decide +kernel
theorem dX11_aiOf_14 : decode cX11_aiOf 14 = .ok (.iload_n 3, 1) := by decide +kernel
theorem dX11_aiOf_15 : decode cX11_aiOf 15 = .ok (.iaload, 1) := by decide +kernel
theorem dX11_aiOf_16 : decode cX11_aiOf 16 = .ok (.iload_n 1, 1) := by decide +kernel
theorem dX11_aiOf_17 : decode cX11_aiOf 17 = .ok (.if_icmp .ne 15, 3) := by decide +kernel
theorem dX11_aiOf_20 : decode cX11_aiOf 20 = .ok (.aload_n 0, 1) := by decide +kernel
theorem dX11_aiOf_21 : decode cX11_aiOf 21 = .ok (.getfield 16, 3) := by decide +kernel
theorem dX11_aiOf_24 : decode cX11_aiOf 24 = .ok (.iload_n 3, 1) := by decide +kernel
theorem dX11_aiOf_25 : decode cX11_aiOf 25 = .ok (.iaload, 1) := by decide +kernel
theorem dX11_aiOf_26 : decode cX11_aiOf 26 = .ok (.iload_n 2, 1) := by decide +kernel
theorem dX11_aiOf_27 : decode cX11_aiOf 27 = .ok (.if_icmp .ne 5, 3) := by decide +kernel
theorem dX11_aiOf_30 : decode cX11_aiOf 30 = .ok (.iload_n 3, 1) := by decide +kernel
theorem dX11_aiOf_31 : decode cX11_aiOf 31 = .ok (.ireturn, 1) := by decide +kernel
theorem dX11_aiOf_32 : decode cX11_aiOf 32 = .ok (.iinc 3 1, 3) := by decide +kernel
theorem dX11_aiOf_35 : decode cX11_aiOf 35 = .ok (.goto (-33), 3) := by decide +kernel
theorem dX11_aiOf_38 : decode cX11_aiOf 38 = .ok (.iconst (-1), 1) := by decide +kernel
theorem dX11_aiOf_39 : decode cX11_aiOf 39 = .ok (.ireturn, 1) := by decide +kernel
theorem dX11_isFixed_0 : decode cX11_isFixed 0 = .ok (.aload_n 0, 1) := by decide +kernel
theorem dX11_isFixed_1 : decode cX11_isFixed 1 = .ok (.getfield 13, 3) := by decide +kernel
theorem dX11_isFixed_4 : decode cX11_isFixed 4 = .ok (.iload_n 1, 1) := by decide +kernel
theorem dX11_isFixed_5 : decode cX11_isFixed 5 = .ok (.iaload, 1) := by decide +kernel
theorem dX11_isFixed_6 : decode cX11_isFixed 6 = .ok (.istore_n 2, 1) := by decide +kernel
theorem dX11_isFixed_7 : decode cX11_isFixed 7 = .ok (.aload_n 0, 1) := by decide +kernel
theorem dX11_isFixed_8 : decode cX11_isFixed 8 = .ok (.getfield 16, 3) := by decide +kernel
theorem dX11_isFixed_11 : decode cX11_isFixed 11 = .ok (.iload_n 1, 1) := by decide +kernel
theorem dX11_isFixed_12 : decode cX11_isFixed 12 = .ok (.iaload, 1) := by decide +kernel
theorem dX11_isFixed_13 : decode cX11_isFixed 13 = .ok (.istore_n 3, 1) := by decide +kernel
theorem dX11_isFixed_14 : decode cX11_isFixed 14 = .ok (.iload_n 3, 1) := by decide +kernel
theorem dX11_isFixed_15 : decode cX11_isFixed 15 = .ok (.iconst 2, 1) := by decide +kernel
theorem dX11_isFixed_16 : decode cX11_isFixed 16 = .ok (.if_icmp .le 14, 3) := by decide +kernel
theorem dX11_isFixed_19 : decode cX11_isFixed 19 = .ok (.iload_n 2, 1) := by decide +kernel
theorem dX11_isFixed_20 : decode cX11_isFixed 20 = .ok (.bipush 10, 2) := by decide +kernel
theorem dX11_isFixed_22 : decode cX11_isFixed 22 = .ok (.idiv, 1) := by decide +kernel
theorem dX11_isFixed_23 : decode cX11_isFixed 23 = .ok (.istore_n 2, 1) := by decide +kernel
theorem dX11_isFixed_24 : decode cX11_isFixed 24 = .ok (.iinc 3 (-1), 3) := by decide +kernel
theorem dX11_isFixed_27 : decode cX11_isFixed 27 = .ok (.goto (-13), 3) := by decide +kernel
theorem dX11_isFixed_30 : decode cX11_isFixed 30 = .ok (.iload_n 2, 1) := by decide +kernel
theorem dX11_isFixed_31 : decode cX11_isFixed 31 = .ok (.iconst 2, 1) := by decide +kernel
theorem dX11_isFixed_32 : decode cX11_isFixed 32 = .ok (.if_icmp .le 39, 3) := by decide +kernel
theorem dX11_isFixed_35 : decode cX11_isFixed 35 = .ok (.iload_n 2, 1) := by decide +kernel
theorem dX11_isFixed_36 : decode cX11_isFixed 36 = .ok (.bipush 11, 2) := by decide +kernel
theorem dX11_isFixed_38 : decode cX11_isFixed 38 = .ok (.if_icmp .lt 9, 3) := by decide +kernel
theorem dX11_isFixed_41 : decode cX11_isFixed 41 = .ok (.iload_n 2, 1) := by decide +kernel
theorem dX11_isFixed_42 : decode cX11_isFixed 42 = .ok (.bipush 17, 2) := by decide +kernel
theorem dX11_isFixed_44 : decode cX11_isFixed 44 = .ok (.if_icmp .le 27, 3) := by decide +kernel
theorem dX11_isFixed_47 : decode cX11_isFixed 47 = .ok (.iload_n 2, 1) := by decide +kernel
theorem dX11_isFixed_48 : decode cX11_isFixed 48 = .ok (.bipush 20, 2) := by decide +kernel
theorem dX11_isFixed_50 : decode cX11_isFixed 50 = .ok (.if_icmp .eq 21, 3) := by decide +kernel
theorem dX11_isFixed_53 : decode cX11_isFixed 53 = .ok (.iload_n 2, 1) := by decide +kernel
theorem dX11_isFixed_54 : decode cX11_isFixed 54 = .ok (.bipush 31, 2) := by decide +kernel
theorem dX11_isFixed_56 : decode cX11_isFixed 56 = .ok (.if_icmp .lt 9, 3) := by decide +kernel
theorem dX11_isFixed_59 : decode cX11_isFixed 59 = .ok (.iload_n 2, 1) := by decide +kernel
theorem dX11_isFixed_60 : decode cX11_isFixed 60 = .ok (.bipush 36, 2) := by decide +kernel
theorem dX11_isFixed_62 : decode cX11_isFixed 62 = .ok (.if_icmp .le 9, 3) := by decide +kernel
theorem dX11_isFixed_65 : decode cX11_isFixed 65 = .ok (.iload_n 2, 1) := by decide +kernel
theorem dX11_isFixed_66 : decode cX11_isFixed 66 = .ok (.bipush 41, 2) := by decide +kernel
theorem dX11_isFixed_68 : decode cX11_isFixed 68 = .ok (.if_icmp .ne 7, 3) := by decide +kernel
theorem dX11_isFixed_71 : decode cX11_isFixed 71 = .ok (.iconst 1, 1) := by decide +kernel
theorem dX11_isFixed_72 : decode cX11_isFixed 72 = .ok (.goto 4, 3) := by decide +kernel
theorem dX11_isFixed_75 : decode cX11_isFixed 75 = .ok (.iconst 0, 1) := by decide +kernel
theorem dX11_isFixed_76 : decode cX11_isFixed 76 = .ok (.ireturn, 1) := by decide +kernel
theorem dX11_kin_0 : decode cX11_kin 0 = .ok (.aload_n 0, 1) := by decide +kernel
theorem dX11_kin_1 : decode cX11_kin 1 = .ok (.getfield 19, 3) := by decide +kernel
theorem dX11_kin_4 : decode cX11_kin 4 = .ok (.iload_n 1, 1) := by decide +kernel
theorem dX11_kin_5 : decode cX11_kin 5 = .ok (.iaload, 1) := by decide +kernel
theorem dX11_kin_6 : decode cX11_kin 6 = .ok (.ifCond .ge 22, 3) := by decide +kernel
theorem dX11_kin_9 : decode cX11_kin 9 = .ok (.bipush 10, 2) := by decide +kernel
theorem dX11_kin_11 : decode cX11_kin 11 = .ok (.aload_n 0, 1) := by decide +kernel
theorem dX11_kin_12 : decode cX11_kin 12 = .ok (.getfield 13, 3) := by decide +kernel
theorem dX11_kin_15 : decode cX11_kin 15 = .ok (.iload_n 1, 1) := by decide +kernel
theorem dX11_kin_16 : decode cX11_kin 16 = .ok (.iaload, 1) := by decide +kernel
theorem dX11_kin_17 : decode cX11_kin 17 = .ok (.imul, 1) := by decide +kernel
theorem dX11_kin_18 : decode cX11_kin 18 = .ok (.aload_n 0, 1) := by decide +kernel
theorem dX11_kin_19 : decode cX11_kin 19 = .ok (.getfield 16, 3) := by decide +kernel
theorem dX11_kin_22 : decode cX11_kin 22 = .ok (.iload_n 1, 1) := by decide +kernel
theorem dX11_kin_23 : decode cX11_kin 23 = .ok (.iaload, 1) := by decide +kernel
theorem dX11_kin_24 : decode cX11_kin 24 = .ok (.iadd, 1) := by decide +kernel
theorem dX11_kin_25 : decode cX11_kin 25 = .ok (.goto 16, 3) := by decide +kernel
theorem dX11_kin_28 : decode cX11_kin 28 = .ok (.ldc_w 292, 3) := by decide +kernel
theorem dX11_kin_31 : decode cX11_kin 31 = .ok (.aload_n 0, 1) := by decide +kernel
theorem dX11_kin_32 : decode cX11_kin 32 = .ok (.getfield 13, 3) := by decide +kernel
theorem dX11_kin_35 : decode cX11_kin 35 = .ok (.iload_n 1, 1) := by decide +kernel
theorem dX11_kin_36 : decode cX11_kin 36 = .ok (.iaload, 1) := by decide +kernel
theorem dX11_kin_37 : decode cX11_kin 37 = .ok (.bipush 10, 2) := by decide +kernel
theorem dX11_kin_39 : decode cX11_kin 39 = .ok (.idiv, 1) := by decide +kernel
theorem dX11_kin_40 : decode cX11_kin 40 = .ok (.iadd, 1) := by decide +kernel
theorem dX11_kin_41 : decode cX11_kin 41 = .ok (.ireturn, 1) := by decide +kernel
theorem dX11_copy_0 : decode cX11_copy 0 = .ok (.bipush 20, 2) := by decide +kernel
theorem dX11_copy_2 : decode cX11_copy 2 = .ok (.iload_n 1, 1) := by decide +kernel
theorem dX11_copy_3 : decode cX11_copy 3 = .ok (.imul, 1) := by decide +kernel
theorem dX11_copy_4 : decode cX11_copy 4 = .ok (.iload_n 2, 1) := by decide +kernel
theorem dX11_copy_5 : decode cX11_copy 5 = .ok (.iadd, 1) := by decide +kernel
theorem dX11_copy_6 : decode cX11_copy 6 = .ok (.istore 5, 2) := by decide +kernel
theorem dX11_copy_8 : decode cX11_copy 8 = .ok (.bipush 20, 2) := by decide +kernel
theorem dX11_copy_10 : decode cX11_copy 10 = .ok (.iload_n 3, 1) := by decide +kernel
theorem dX11_copy_11 : decode cX11_copy 11 = .ok (.imul, 1) := by decide +kernel
theorem dX11_copy_12 : decode cX11_copy 12 = .ok (.iload 4, 2) := by decide +kernel
theorem dX11_copy_14 : decode cX11_copy 14 = .ok (.iadd, 1) := by decide +kernel
theorem dX11_copy_15 : decode cX11_copy 15 = .ok (.istore 6, 2) := by decide +kernel
theorem dX11_copy_17 : decode cX11_copy 17 = .ok (.aload_n 0, 1) := by decide +kernel
theorem dX11_copy_18 : decode cX11_copy 18 = .ok (.getfield 54, 3) := by decide +kernel
theorem dX11_copy_21 : decode cX11_copy 21 = .ok (.iload 6, 2) := by decide +kernel
theorem dX11_copy_23 : decode cX11_copy 23 = .ok (.aload_n 0, 1) := by decide +kernel
theorem dX11_copy_24 : decode cX11_copy 24 = .ok (.getfield 54, 3) := by decide +kernel
theorem dX11_copy_27 : decode cX11_copy 27 = .ok (.iload 5, 2) := by decide +kernel
theorem dX11_copy_29 : decode cX11_copy 29 = .ok (.iaload, 1) := by decide +kernel
theorem dX11_copy_30 : decode cX11_copy 30 = .ok (.iastore, 1) := by decide +kernel
theorem dX11_copy_31 : decode cX11_copy 31 = .ok (.aload_n 0, 1) := by decide +kernel
theorem dX11_copy_32 : decode cX11_copy 32 = .ok (.getfield 57, 3) := by decide +kernel
theorem dX11_copy_35 : decode cX11_copy 35 = .ok (.iload 6, 2) := by decide +kernel
theorem dX11_copy_37 : decode cX11_copy 37 = .ok (.aload_n 0, 1) := by decide +kernel
theorem dX11_copy_38 : decode cX11_copy 38 = .ok (.getfield 57, 3) := by decide +kernel
theorem dX11_copy_41 : decode cX11_copy 41 = .ok (.iload 5, 2) := by decide +kernel
theorem dX11_copy_43 : decode cX11_copy 43 = .ok (.iaload, 1) := by decide +kernel
theorem dX11_copy_44 : decode cX11_copy 44 = .ok (.iastore, 1) := by decide +kernel
theorem dX11_copy_45 : decode cX11_copy 45 = .ok (.aload_n 0, 1) := by decide +kernel
theorem dX11_copy_46 : decode cX11_copy 46 = .ok (.getfield 60, 3) := by decide +kernel
theorem dX11_copy_49 : decode cX11_copy 49 = .ok (.iconst 2, 1) := by decide +kernel
theorem dX11_copy_50 : decode cX11_copy 50 = .ok (.iload 6, 2) := by decide +kernel
theorem dX11_copy_52 : decode cX11_copy 52 = .ok (.imul, 1) := by decide +kernel
theorem dX11_copy_53 : decode cX11_copy 53 = .ok (.aload_n 0, 1) := by decide +kernel
theorem dX11_copy_54 : decode cX11_copy 54 = .ok (.getfield 60, 3) := by decide +kernel
theorem dX11_copy_57 : decode cX11_copy 57 = .ok (.iconst 2, 1) := by decide +kernel
theorem dX11_copy_58 : decode cX11_copy 58 = .ok (.iload 5, 2) := by decide +kernel
theorem dX11_copy_60 : decode cX11_copy 60 = .ok (.imul, 1) := by decide +kernel
theorem dX11_copy_61 : decode cX11_copy 61 = .ok (.iaload, 1) := by decide +kernel
theorem dX11_copy_62 : decode cX11_copy 62 = .ok (.iastore, 1) := by decide +kernel
theorem dX11_copy_63 : decode cX11_copy 63 = .ok (.aload_n 0, 1) := by decide +kernel
theorem dX11_copy_64 : decode cX11_copy 64 = .ok (.getfield 60, 3) := by decide +kernel
theorem dX11_copy_67 : decode cX11_copy 67 = .ok (.iconst 2, 1) := by decide +kernel
theorem dX11_copy_68 : decode cX11_copy 68 = .ok (.iload 6, 2) := by decide +kernel
theorem dX11_copy_70 : decode cX11_copy 70 = .ok (.imul, 1) := by decide +kernel
theorem dX11_copy_71 : decode cX11_copy 71 = .ok (.iconst 1, 1) := by decide +kernel
theorem dX11_copy_72 : decode cX11_copy 72 = .ok (.iadd, 1) := by decide +kernel
theorem dX11_copy_73 : decode cX11_copy 73 = .ok (.aload_n 0, 1) := by decide +kernel
theorem dX11_copy_74 : decode cX11_copy 74 = .ok (.getfield 60, 3) := by decide +kernel
theorem dX11_copy_77 : decode cX11_copy 77 = .ok (.iconst 2, 1) := by decide +kernel
theorem dX11_copy_78 : decode cX11_copy 78 = .ok (.iload 5, 2) := by decide +kernel
theorem dX11_copy_80 : decode cX11_copy 80 = .ok (.imul, 1) := by decide +kernel
theorem dX11_copy_81 : decode cX11_copy 81 = .ok (.iconst 1, 1) := by decide +kernel
theorem dX11_copy_82 : decode cX11_copy 82 = .ok (.iadd, 1) := by decide +kernel
theorem dX11_copy_83 : decode cX11_copy 83 = .ok (.iaload, 1) := by decide +kernel
theorem dX11_copy_84 : decode cX11_copy 84 = .ok (.iastore, 1) := by decide +kernel
theorem dX11_copy_85 : decode cX11_copy 85 = .ok (.iconst 0, 1) := by decide +kernel
theorem dX11_copy_86 : decode cX11_copy 86 = .ok (.istore 7, 2) := by decide +kernel
theorem dX11_copy_88 : decode cX11_copy 88 = .ok (.iload 7, 2) := by decide +kernel
theorem dX11_copy_90 : decode cX11_copy 90 = .ok (.bipush 90, 2) := by decide +kernel
theorem dX11_copy_92 : decode cX11_copy 92 = .ok (.if_icmp .ge 35, 3) := by decide +kernel
theorem dX11_copy_95 : decode cX11_copy 95 = .ok (.aload_n 0, 1) := by decide +kernel
theorem dX11_copy_96 : decode cX11_copy 96 = .ok (.getfield 63, 3) := by decide +kernel
theorem dX11_copy_99 : decode cX11_copy 99 = .ok (.bipush 90, 2) := by decide +kernel
theorem dX11_copy_101 : decode cX11_copy 101 = .ok (.iload 6, 2) := by decide +kernel
theorem dX11_copy_103 : decode cX11_copy 103 = .ok (.imul, 1) := by decide +kernel
theorem dX11_copy_104 : decode cX11_copy 104 = .ok (.iload 7, 2) := by decide +kernel
theorem dX11_copy_106 : decode cX11_copy 106 = .ok (.iadd, 1) := by decide +kernel
theorem dX11_copy_107 : decode cX11_copy 107 = .ok (.aload_n 0, 1) := by decide +kernel
theorem dX11_copy_108 : decode cX11_copy 108 = .ok (.getfield 63, 3) := by decide +kernel
theorem dX11_copy_111 : decode cX11_copy 111 = .ok (.bipush 90, 2) := by decide +kernel
theorem dX11_copy_113 : decode cX11_copy 113 = .ok (.iload 5, 2) := by decide +kernel
theorem dX11_copy_115 : decode cX11_copy 115 = .ok (.imul, 1) := by decide +kernel
theorem dX11_copy_116 : decode cX11_copy 116 = .ok (.iload 7, 2) := by decide +kernel
theorem dX11_copy_118 : decode cX11_copy 118 = .ok (.iadd, 1) := by decide +kernel
theorem dX11_copy_119 : decode cX11_copy 119 = .ok (.baload, 1) := by decide +kernel
theorem dX11_copy_120 : decode cX11_copy 120 = .ok (.bastore, 1) := by decide +kernel
theorem dX11_copy_121 : decode cX11_copy 121 = .ok (.iinc 7 1, 3) := by decide +kernel
theorem dX11_copy_124 : decode cX11_copy 124 = .ok (.goto (-36), 3) := by decide +kernel
theorem dX11_copy_127 : decode cX11_copy 127 = .ok (.return_, 1) := by decide +kernel
theorem dX11_copyAll_0 : decode cX11_copyAll 0 = .ok (.iconst 0, 1) := by decide +kernel
theorem dX11_copyAll_1 : decode cX11_copyAll 1 = .ok (.istore_n 3, 1) := by decide +kernel
theorem dX11_copyAll_2 : decode cX11_copyAll 2 = .ok (.iload_n 3, 1) := by decide +kernel
theorem dX11_copyAll_3 : decode cX11_copyAll 3 = .ok (.aload_n 0, 1) := by decide +kernel
theorem dX11_copyAll_4 : decode cX11_copyAll 4 = .ok (.getfield 51, 3) := by decide +kernel
theorem dX11_copyAll_7 : decode cX11_copyAll 7 = .ok (.iload_n 1, 1) := by decide +kernel
theorem dX11_copyAll_8 : decode cX11_copyAll 8 = .ok (.iaload, 1) := by decide +kernel
theorem dX11_copyAll_9 : decode cX11_copyAll 9 = .ok (.if_icmp .ge 17, 3) := by decide +kernel
theorem dX11_copyAll_12 : decode cX11_copyAll 12 = .ok (.aload_n 0, 1) := by decide +kernel
theorem dX11_copyAll_13 : decode cX11_copyAll 13 = .ok (.iload_n 1, 1) := by decide +kernel
theorem dX11_copyAll_14 : decode cX11_copyAll 14 = .ok (.iload_n 3, 1) := by decide +kernel
theorem dX11_copyAll_15 : decode cX11_copyAll 15 = .ok (.iload_n 2, 1) := by decide +kernel
theorem dX11_copyAll_16 : decode cX11_copyAll 16 = .ok (.iload_n 3, 1) := by decide +kernel
theorem dX11_copyAll_17 : decode cX11_copyAll 17 = .ok (.invokevirtual 293, 3) := by decide +kernel
theorem dX11_copyAll_20 : decode cX11_copyAll 20 = .ok (.iinc 3 1, 3) := by decide +kernel
theorem dX11_copyAll_23 : decode cX11_copyAll 23 = .ok (.goto (-21), 3) := by decide +kernel
theorem dX11_copyAll_26 : decode cX11_copyAll 26 = .ok (.aload_n 0, 1) := by decide +kernel
theorem dX11_copyAll_27 : decode cX11_copyAll 27 = .ok (.getfield 51, 3) := by decide +kernel
theorem dX11_copyAll_30 : decode cX11_copyAll 30 = .ok (.iload_n 2, 1) := by decide +kernel
theorem dX11_copyAll_31 : decode cX11_copyAll 31 = .ok (.aload_n 0, 1) := by decide +kernel
theorem dX11_copyAll_32 : decode cX11_copyAll 32 = .ok (.getfield 51, 3) := by decide +kernel
theorem dX11_copyAll_35 : decode cX11_copyAll 35 = .ok (.iload_n 1, 1) := by decide +kernel
theorem dX11_copyAll_36 : decode cX11_copyAll 36 = .ok (.iaload, 1) := by decide +kernel
theorem dX11_copyAll_37 : decode cX11_copyAll 37 = .ok (.iastore, 1) := by decide +kernel
theorem dX11_copyAll_38 : decode cX11_copyAll 38 = .ok (.aload_n 0, 1) := by decide +kernel
theorem dX11_copyAll_39 : decode cX11_copyAll 39 = .ok (.getfield 51, 3) := by decide +kernel
theorem dX11_copyAll_42 : decode cX11_copyAll 42 = .ok (.iload_n 2, 1) := by decide +kernel
theorem dX11_copyAll_43 : decode cX11_copyAll 43 = .ok (.iaload, 1) := by decide +kernel
theorem dX11_copyAll_44 : decode cX11_copyAll 44 = .ok (.ireturn, 1) := by decide +kernel
theorem dX11_feed_0 : decode cX11_feed 0 = .ok (.aload_n 0, 1) := by decide +kernel
theorem dX11_feed_1 : decode cX11_feed 1 = .ok (.iconst 0, 1) := by decide +kernel
theorem dX11_feed_2 : decode cX11_feed 2 = .ok (.putfield 48, 3) := by decide +kernel
theorem dX11_feed_5 : decode cX11_feed 5 = .ok (.aload_n 0, 1) := by decide +kernel
theorem dX11_feed_6 : decode cX11_feed 6 = .ok (.getfield 70, 3) := by decide +kernel
theorem dX11_feed_9 : decode cX11_feed 9 = .ok (.bipush 20, 2) := by decide +kernel
theorem dX11_feed_11 : decode cX11_feed 11 = .ok (.iadd, 1) := by decide +kernel
theorem dX11_feed_12 : decode cX11_feed 12 = .ok (.sipush 600, 3) := by decide +kernel
theorem dX11_feed_15 : decode cX11_feed 15 = .ok (.if_icmp .le 5, 3) := by decide +kernel
theorem dX11_feed_18 : decode cX11_feed 18 = .ok (.iconst (-1), 1) := by decide +kernel
theorem dX11_feed_19 : decode cX11_feed 19 = .ok (.ireturn, 1) := by decide +kernel
theorem dX11_feed_20 : decode cX11_feed 20 = .ok (.iconst 0, 1) := by decide +kernel
theorem dX11_feed_21 : decode cX11_feed 21 = .ok (.istore 6, 2) := by decide +kernel
theorem dX11_feed_23 : decode cX11_feed 23 = .ok (.iload 6, 2) := by decide +kernel
theorem dX11_feed_25 : decode cX11_feed 25 = .ok (.iconst 4, 1) := by decide +kernel
theorem dX11_feed_26 : decode cX11_feed 26 = .ok (.if_icmp .ge 117, 3) := by decide +kernel
theorem dX11_feed_29 : decode cX11_feed 29 = .ok (.bipush 24, 2) := by decide +kernel
theorem dX11_feed_31 : decode cX11_feed 31 = .ok (.bipush 8, 2) := by decide +kernel
theorem dX11_feed_33 : decode cX11_feed 33 = .ok (.iload 6, 2) := by decide +kernel
theorem dX11_feed_35 : decode cX11_feed 35 = .ok (.imul, 1) := by decide +kernel
theorem dX11_feed_36 : decode cX11_feed 36 = .ok (.isub, 1) := by decide +kernel
theorem dX11_feed_37 : decode cX11_feed 37 = .ok (.istore 7, 2) := by decide +kernel
theorem dX11_feed_39 : decode cX11_feed 39 = .ok (.aload_n 0, 1) := by decide +kernel
theorem dX11_feed_40 : decode cX11_feed 40 = .ok (.getfield 67, 3) := by decide +kernel
theorem dX11_feed_43 : decode cX11_feed 43 = .ok (.aload_n 0, 1) := by decide +kernel
theorem dX11_feed_44 : decode cX11_feed 44 = .ok (.getfield 70, 3) := by decide +kernel
theorem dX11_feed_47 : decode cX11_feed 47 = .ok (.iload 6, 2) := by decide +kernel
theorem dX11_feed_49 : decode cX11_feed 49 = .ok (.iadd, 1) := by decide +kernel
theorem dX11_feed_50 : decode cX11_feed 50 = .ok (.iload_n 1, 1) := by decide +kernel
theorem dX11_feed_51 : decode cX11_feed 51 = .ok (.iload 7, 2) := by decide +kernel
theorem dX11_feed_53 : decode cX11_feed 53 = .ok (.ishr, 1) := by decide +kernel
theorem dX11_feed_54 : decode cX11_feed 54 = .ok (.i2b, 1) := by decide +kernel
theorem dX11_feed_55 : decode cX11_feed 55 = .ok (.bastore, 1) := by decide +kernel
theorem dX11_feed_56 : decode cX11_feed 56 = .ok (.aload_n 0, 1) := by decide +kernel
theorem dX11_feed_57 : decode cX11_feed 57 = .ok (.getfield 67, 3) := by decide +kernel
theorem dX11_feed_60 : decode cX11_feed 60 = .ok (.aload_n 0, 1) := by decide +kernel
theorem dX11_feed_61 : decode cX11_feed 61 = .ok (.getfield 70, 3) := by decide +kernel
theorem dX11_feed_64 : decode cX11_feed 64 = .ok (.iconst 4, 1) := by decide +kernel
theorem dX11_feed_65 : decode cX11_feed 65 = .ok (.iadd, 1) := by decide +kernel
theorem dX11_feed_66 : decode cX11_feed 66 = .ok (.iload 6, 2) := by decide +kernel
theorem dX11_feed_68 : decode cX11_feed 68 = .ok (.iadd, 1) := by decide +kernel
theorem dX11_feed_69 : decode cX11_feed 69 = .ok (.iload_n 2, 1) := by decide +kernel
theorem dX11_feed_70 : decode cX11_feed 70 = .ok (.iload 7, 2) := by decide +kernel
theorem dX11_feed_72 : decode cX11_feed 72 = .ok (.ishr, 1) := by decide +kernel
theorem dX11_feed_73 : decode cX11_feed 73 = .ok (.i2b, 1) := by decide +kernel
theorem dX11_feed_74 : decode cX11_feed 74 = .ok (.bastore, 1) := by decide +kernel
theorem dX11_feed_75 : decode cX11_feed 75 = .ok (.aload_n 0, 1) := by decide +kernel
theorem dX11_feed_76 : decode cX11_feed 76 = .ok (.getfield 67, 3) := by decide +kernel
theorem dX11_feed_79 : decode cX11_feed 79 = .ok (.aload_n 0, 1) := by decide +kernel
theorem dX11_feed_80 : decode cX11_feed 80 = .ok (.getfield 70, 3) := by decide +kernel
theorem dX11_feed_83 : decode cX11_feed 83 = .ok (.bipush 8, 2) := by decide +kernel
theorem dX11_feed_85 : decode cX11_feed 85 = .ok (.iadd, 1) := by decide +kernel
theorem dX11_feed_86 : decode cX11_feed 86 = .ok (.iload 6, 2) := by decide +kernel
theorem dX11_feed_88 : decode cX11_feed 88 = .ok (.iadd, 1) := by decide +kernel
theorem dX11_feed_89 : decode cX11_feed 89 = .ok (.iload_n 3, 1) := by decide +kernel
theorem dX11_feed_90 : decode cX11_feed 90 = .ok (.iload 7, 2) := by decide +kernel
theorem dX11_feed_92 : decode cX11_feed 92 = .ok (.ishr, 1) := by decide +kernel
theorem dX11_feed_93 : decode cX11_feed 93 = .ok (.i2b, 1) := by decide +kernel
theorem dX11_feed_94 : decode cX11_feed 94 = .ok (.bastore, 1) := by decide +kernel
theorem dX11_feed_95 : decode cX11_feed 95 = .ok (.aload_n 0, 1) := by decide +kernel
theorem dX11_feed_96 : decode cX11_feed 96 = .ok (.getfield 67, 3) := by decide +kernel
theorem dX11_feed_99 : decode cX11_feed 99 = .ok (.aload_n 0, 1) := by decide +kernel
theorem dX11_feed_100 : decode cX11_feed 100 = .ok (.getfield 70, 3) := by decide +kernel
theorem dX11_feed_103 : decode cX11_feed 103 = .ok (.bipush 12, 2) := by decide +kernel
theorem dX11_feed_105 : decode cX11_feed 105 = .ok (.iadd, 1) := by decide +kernel
theorem dX11_feed_106 : decode cX11_feed 106 = .ok (.iload 6, 2) := by decide +kernel
theorem dX11_feed_108 : decode cX11_feed 108 = .ok (.iadd, 1) := by decide +kernel
theorem dX11_feed_109 : decode cX11_feed 109 = .ok (.iload 4, 2) := by decide +kernel
theorem dX11_feed_111 : decode cX11_feed 111 = .ok (.iload 7, 2) := by decide +kernel
theorem dX11_feed_113 : decode cX11_feed 113 = .ok (.ishr, 1) := by decide +kernel
theorem dX11_feed_114 : decode cX11_feed 114 = .ok (.i2b, 1) := by decide +kernel
theorem dX11_feed_115 : decode cX11_feed 115 = .ok (.bastore, 1) := by decide +kernel
theorem dX11_feed_116 : decode cX11_feed 116 = .ok (.aload_n 0, 1) := by decide +kernel
theorem dX11_feed_117 : decode cX11_feed 117 = .ok (.getfield 67, 3) := by decide +kernel
theorem dX11_feed_120 : decode cX11_feed 120 = .ok (.aload_n 0, 1) := by decide +kernel
theorem dX11_feed_121 : decode cX11_feed 121 = .ok (.getfield 70, 3) := by decide +kernel
theorem dX11_feed_124 : decode cX11_feed 124 = .ok (.bipush 16, 2) := by decide +kernel
theorem dX11_feed_126 : decode cX11_feed 126 = .ok (.iadd, 1) := by decide +kernel
theorem dX11_feed_127 : decode cX11_feed 127 = .ok (.iload 6, 2) := by decide +kernel
theorem dX11_feed_129 : decode cX11_feed 129 = .ok (.iadd, 1) := by decide +kernel
theorem dX11_feed_130 : decode cX11_feed 130 = .ok (.iload 5, 2) := by decide +kernel
theorem dX11_feed_132 : decode cX11_feed 132 = .ok (.iload 7, 2) := by decide +kernel
theorem dX11_feed_134 : decode cX11_feed 134 = .ok (.ishr, 1) := by decide +kernel
theorem dX11_feed_135 : decode cX11_feed 135 = .ok (.i2b, 1) := by decide +kernel
theorem dX11_feed_136 : decode cX11_feed 136 = .ok (.bastore, 1) := by decide +kernel
theorem dX11_feed_137 : decode cX11_feed 137 = .ok (.iinc 6 1, 3) := by decide +kernel
theorem dX11_feed_140 : decode cX11_feed 140 = .ok (.goto (-117), 3) := by decide +kernel
theorem dX11_feed_143 : decode cX11_feed 143 = .ok (.aload_n 0, 1) := by decide +kernel
theorem dX11_feed_144 : decode cX11_feed 144 = .ok (.dup, 1) := by decide +kernel
theorem dX11_feed_145 : decode cX11_feed 145 = .ok (.getfield 70, 3) := by decide +kernel
theorem dX11_feed_148 : decode cX11_feed 148 = .ok (.bipush 20, 2) := by decide +kernel
theorem dX11_feed_150 : decode cX11_feed 150 = .ok (.iadd, 1) := by decide +kernel
theorem dX11_feed_151 : decode cX11_feed 151 = .ok (.putfield 70, 3) := by decide +kernel
theorem dX11_feed_154 : decode cX11_feed 154 = .ok (.aload_n 0, 1) := by decide +kernel
theorem dX11_feed_155 : decode cX11_feed 155 = .ok (.getfield 70, 3) := by decide +kernel
theorem dX11_feed_158 : decode cX11_feed 158 = .ok (.ireturn, 1) := by decide +kernel
theorem dX11_end_0 : decode cX11_end 0 = .ok (.aload_n 0, 1) := by decide +kernel
theorem dX11_end_1 : decode cX11_end 1 = .ok (.iconst 0, 1) := by decide +kernel
theorem dX11_end_2 : decode cX11_end 2 = .ok (.putfield 48, 3) := by decide +kernel
theorem dX11_end_5 : decode cX11_end 5 = .ok (.iload_n 1, 1) := by decide +kernel
theorem dX11_end_6 : decode cX11_end 6 = .ok (.ifCond .lt 11, 3) := by decide +kernel
theorem dX11_end_9 : decode cX11_end 9 = .ok (.iload_n 1, 1) := by decide +kernel
theorem dX11_end_10 : decode cX11_end 10 = .ok (.aload_n 0, 1) := by decide +kernel
theorem dX11_end_11 : decode cX11_end 11 = .ok (.getfield 70, 3) := by decide +kernel
theorem dX11_end_14 : decode cX11_end 14 = .ok (.if_icmp .le 5, 3) := by decide +kernel
theorem dX11_end_17 : decode cX11_end 17 = .ok (.iconst 0, 1) := by decide +kernel
theorem dX11_end_18 : decode cX11_end 18 = .ok (.ireturn, 1) := by decide +kernel
theorem dX11_end_19 : decode cX11_end 19 = .ok (.aload_n 0, 1) := by decide +kernel
theorem dX11_end_20 : decode cX11_end 20 = .ok (.iload_n 1, 1) := by decide +kernel
theorem dX11_end_21 : decode cX11_end 21 = .ok (.putfield 70, 3) := by decide +kernel
theorem dX11_end_24 : decode cX11_end 24 = .ok (.iconst 1, 1) := by decide +kernel
theorem dX11_end_25 : decode cX11_end 25 = .ok (.ireturn, 1) := by decide +kernel
theorem dX11_take_0 : decode cX11_take 0 = .ok (.aload_n 0, 1) := by decide +kernel
theorem dX11_take_1 : decode cX11_take 1 = .ok (.iconst 0, 1) := by decide +kernel
theorem dX11_take_2 : decode cX11_take 2 = .ok (.putfield 48, 3) := by decide +kernel
theorem dX11_take_5 : decode cX11_take 5 = .ok (.aload_n 0, 1) := by decide +kernel
theorem dX11_take_6 : decode cX11_take 6 = .ok (.aload_n 0, 1) := by decide +kernel
theorem dX11_take_7 : decode cX11_take 7 = .ok (.getfield 113, 3) := by decide +kernel
theorem dX11_take_10 : decode cX11_take 10 = .ok (.sipush 600, 3) := by decide +kernel
theorem dX11_take_13 : decode cX11_take 13 = .ok (.if_icmp .ge 10, 3) := by decide +kernel
theorem dX11_take_16 : decode cX11_take 16 = .ok (.aload_n 0, 1) := by decide +kernel
theorem dX11_take_17 : decode cX11_take 17 = .ok (.getfield 113, 3) := by decide +kernel
theorem dX11_take_20 : decode cX11_take 20 = .ok (.goto 6, 3) := by decide +kernel
theorem dX11_take_23 : decode cX11_take 23 = .ok (.sipush 600, 3) := by decide +kernel
theorem dX11_take_26 : decode cX11_take 26 = .ok (.putfield 70, 3) := by decide +kernel
theorem dX11_take_29 : decode cX11_take 29 = .ok (.iconst 0, 1) := by decide +kernel
theorem dX11_take_30 : decode cX11_take 30 = .ok (.istore_n 1, 1) := by decide +kernel
theorem dX11_take_31 : decode cX11_take 31 = .ok (.iload_n 1, 1) := by decide +kernel
theorem dX11_take_32 : decode cX11_take 32 = .ok (.aload_n 0, 1) := by decide +kernel
theorem dX11_take_33 : decode cX11_take 33 = .ok (.getfield 70, 3) := by decide +kernel
theorem dX11_take_36 : decode cX11_take 36 = .ok (.if_icmp .ge 21, 3) := by decide +kernel
theorem dX11_take_39 : decode cX11_take 39 = .ok (.aload_n 0, 1) := by decide +kernel
theorem dX11_take_40 : decode cX11_take 40 = .ok (.getfield 67, 3) := by decide +kernel
theorem dX11_take_43 : decode cX11_take 43 = .ok (.iload_n 1, 1) := by decide +kernel
theorem dX11_take_44 : decode cX11_take 44 = .ok (.aload_n 0, 1) := by decide +kernel
theorem dX11_take_45 : decode cX11_take 45 = .ok (.getfield 110, 3) := by decide +kernel
theorem dX11_take_48 : decode cX11_take 48 = .ok (.iload_n 1, 1) := by decide +kernel
theorem dX11_take_49 : decode cX11_take 49 = .ok (.baload, 1) := by decide +kernel
theorem dX11_take_50 : decode cX11_take 50 = .ok (.bastore, 1) := by decide +kernel
theorem dX11_take_51 : decode cX11_take 51 = .ok (.iinc 1 1, 3) := by decide +kernel
theorem dX11_take_54 : decode cX11_take 54 = .ok (.goto (-23), 3) := by decide +kernel
theorem dX11_take_57 : decode cX11_take 57 = .ok (.aload_n 0, 1) := by decide +kernel
theorem dX11_take_58 : decode cX11_take 58 = .ok (.getfield 70, 3) := by decide +kernel
theorem dX11_take_61 : decode cX11_take 61 = .ok (.ireturn, 1) := by decide +kernel
theorem dX11_clock_0 : decode cX11_clock 0 = .ok (.aload_n 0, 1) := by decide +kernel
theorem dX11_clock_1 : decode cX11_clock 1 = .ok (.iconst 0, 1) := by decide +kernel
theorem dX11_clock_2 : decode cX11_clock 2 = .ok (.putfield 48, 3) := by decide +kernel
theorem dX11_clock_5 : decode cX11_clock 5 = .ok (.iload_n 1, 1) := by decide +kernel
theorem dX11_clock_6 : decode cX11_clock 6 = .ok (.sipush 1950, 3) := by decide +kernel
theorem dX11_clock_9 : decode cX11_clock 9 = .ok (.if_icmp .lt 10, 3) := by decide +kernel
theorem dX11_clock_12 : decode cX11_clock 12 = .ok (.iload_n 1, 1) := by decide +kernel
theorem dX11_clock_13 : decode cX11_clock 13 = .ok (.sipush 2200, 3) := by decide +kernel
theorem dX11_clock_16 : decode cX11_clock 16 = .ok (.if_icmp .le 5, 3) := by decide +kernel
theorem dX11_clock_19 : decode cX11_clock 19 = .ok (.iconst 0, 1) := by decide +kernel
theorem dX11_clock_20 : decode cX11_clock 20 = .ok (.ireturn, 1) := by decide +kernel
theorem dX11_clock_21 : decode cX11_clock 21 = .ok (.aload_n 0, 1) := by decide +kernel
theorem dX11_clock_22 : decode cX11_clock 22 = .ok (.iload_n 1, 1) := by decide +kernel
theorem dX11_clock_23 : decode cX11_clock 23 = .ok (.putfield 79, 3) := by decide +kernel
theorem dX11_clock_26 : decode cX11_clock 26 = .ok (.iconst 1, 1) := by decide +kernel
theorem dX11_clock_27 : decode cX11_clock 27 = .ok (.ireturn, 1) := by decide +kernel
theorem dX11_fault_0 : decode cX11_fault 0 = .ok (.aload_n 0, 1) := by decide +kernel
theorem dX11_fault_1 : decode cX11_fault 1 = .ok (.iload_n 1, 1) := by decide +kernel
theorem dX11_fault_2 : decode cX11_fault 2 = .ok (.putfield 82, 3) := by decide +kernel
theorem dX11_fault_5 : decode cX11_fault 5 = .ok (.aload_n 0, 1) := by decide +kernel
theorem dX11_fault_6 : decode cX11_fault 6 = .ok (.iload_n 2, 1) := by decide +kernel
theorem dX11_fault_7 : decode cX11_fault 7 = .ok (.putfield 85, 3) := by decide +kernel
theorem dX11_fault_10 : decode cX11_fault 10 = .ok (.iconst 0, 1) := by decide +kernel
theorem dX11_fault_11 : decode cX11_fault 11 = .ok (.ireturn, 1) := by decide +kernel
theorem dX11_here_0 : decode cX11_here 0 = .ok (.iload_n 1, 1) := by decide +kernel
theorem dX11_here_1 : decode cX11_here 1 = .ok (.aload_n 0, 1) := by decide +kernel
theorem dX11_here_2 : decode cX11_here 2 = .ok (.getfield 76, 3) := by decide +kernel
theorem dX11_here_5 : decode cX11_here 5 = .ok (.if_icmp .ge 16, 3) := by decide +kernel
theorem dX11_here_8 : decode cX11_here 8 = .ok (.aload_n 0, 1) := by decide +kernel
theorem dX11_here_9 : decode cX11_here 9 = .ok (.getfield 73, 3) := by decide +kernel
theorem dX11_here_12 : decode cX11_here 12 = .ok (.iload_n 1, 1) := by decide +kernel
theorem dX11_here_13 : decode cX11_here 13 = .ok (.baload, 1) := by decide +kernel
theorem dX11_here_14 : decode cX11_here 14 = .ok (.sipush 255, 3) := by decide +kernel
theorem dX11_here_17 : decode cX11_here 17 = .ok (.iand, 1) := by decide +kernel
theorem dX11_here_18 : decode cX11_here 18 = .ok (.goto 4, 3) := by decide +kernel
theorem dX11_here_21 : decode cX11_here 21 = .ok (.iconst (-1), 1) := by decide +kernel
theorem dX11_here_22 : decode cX11_here 22 = .ok (.ireturn, 1) := by decide +kernel
theorem dX11_isSign_0 : decode cX11_isSign 0 = .ok (.iload_n 0, 1) := by decide +kernel
theorem dX11_isSign_1 : decode cX11_isSign 1 = .ok (.bipush 33, 2) := by decide +kernel
theorem dX11_isSign_3 : decode cX11_isSign 3 = .ok (.if_icmp .eq 51, 3) := by decide +kernel
theorem dX11_isSign_6 : decode cX11_isSign 6 = .ok (.iload_n 0, 1) := by decide +kernel
theorem dX11_isSign_7 : decode cX11_isSign 7 = .ok (.bipush 34, 2) := by decide +kernel
theorem dX11_isSign_9 : decode cX11_isSign 9 = .ok (.if_icmp .eq 45, 3) := by decide +kernel
theorem dX11_isSign_12 : decode cX11_isSign 12 = .ok (.iload_n 0, 1) := by decide +kernel
theorem dX11_isSign_13 : decode cX11_isSign 13 = .ok (.bipush 37, 2) := by decide +kernel
theorem dX11_isSign_15 : decode cX11_isSign 15 = .ok (.if_icmp .lt 9, 3) := by decide +kernel
theorem dX11_isSign_18 : decode cX11_isSign 18 = .ok (.iload_n 0, 1) := by decide +kernel
theorem dX11_isSign_19 : decode cX11_isSign 19 = .ok (.bipush 63, 2) := by decide +kernel
theorem dX11_isSign_21 : decode cX11_isSign 21 = .ok (.if_icmp .le 33, 3) := by decide +kernel
theorem dX11_isSign_24 : decode cX11_isSign 24 = .ok (.iload_n 0, 1) := by decide +kernel
theorem dX11_isSign_25 : decode cX11_isSign 25 = .ok (.bipush 95, 2) := by decide +kernel
theorem dX11_isSign_27 : decode cX11_isSign 27 = .ok (.if_icmp .eq 27, 3) := by decide +kernel
theorem dX11_isSign_30 : decode cX11_isSign 30 = .ok (.iload_n 0, 1) := by decide +kernel
theorem dX11_isSign_31 : decode cX11_isSign 31 = .ok (.bipush 65, 2) := by decide +kernel
theorem dX11_isSign_33 : decode cX11_isSign 33 = .ok (.if_icmp .lt 9, 3) := by decide +kernel
theorem dX11_isSign_36 : decode cX11_isSign 36 = .ok (.iload_n 0, 1) := by decide +kernel
theorem dX11_isSign_37 : decode cX11_isSign 37 = .ok (.bipush 90, 2) := by decide +kernel
theorem dX11_isSign_39 : decode cX11_isSign 39 = .ok (.if_icmp .le 15, 3) := by decide +kernel
theorem dX11_isSign_42 : decode cX11_isSign 42 = .ok (.iload_n 0, 1) := by decide +kernel
theorem dX11_isSign_43 : decode cX11_isSign 43 = .ok (.bipush 97, 2) := by decide +kernel
theorem dX11_isSign_45 : decode cX11_isSign 45 = .ok (.if_icmp .lt 13, 3) := by decide +kernel
theorem dX11_isSign_48 : decode cX11_isSign 48 = .ok (.iload_n 0, 1) := by decide +kernel
theorem dX11_isSign_49 : decode cX11_isSign 49 = .ok (.bipush 122, 2) := by decide +kernel
theorem dX11_isSign_51 : decode cX11_isSign 51 = .ok (.if_icmp .gt 7, 3) := by decide +kernel
theorem dX11_isSign_54 : decode cX11_isSign 54 = .ok (.iconst 1, 1) := by decide +kernel
theorem dX11_isSign_55 : decode cX11_isSign 55 = .ok (.goto 4, 3) := by decide +kernel
theorem dX11_isSign_58 : decode cX11_isSign 58 = .ok (.iconst 0, 1) := by decide +kernel
theorem dX11_isSign_59 : decode cX11_isSign 59 = .ok (.ireturn, 1) := by decide +kernel
theorem dX11_ended_0 : decode cX11_ended 0 = .ok (.aload_n 0, 1) := by decide +kernel
theorem dX11_ended_1 : decode cX11_ended 1 = .ok (.aload_n 0, 1) := by decide +kernel
theorem dX11_ended_2 : decode cX11_ended 2 = .ok (.getfield 88, 3) := by decide +kernel
theorem dX11_ended_5 : decode cX11_ended 5 = .ok (.invokevirtual 296, 3) := by decide +kernel
theorem dX11_ended_8 : decode cX11_ended 8 = .ok (.istore_n 1, 1) := by decide +kernel
theorem dX11_ended_9 : decode cX11_ended 9 = .ok (.iload_n 1, 1) := by decide +kernel
theorem dX11_ended_10 : decode cX11_ended 10 = .ok (.iconst (-1), 1) := by decide +kernel
theorem dX11_ended_11 : decode cX11_ended 11 = .ok (.if_icmp .eq 25, 3) := by decide +kernel
theorem dX11_ended_14 : decode cX11_ended 14 = .ok (.aload_n 0, 1) := by decide +kernel
theorem dX11_ended_15 : decode cX11_ended 15 = .ok (.getfield 91, 3) := by decide +kernel
theorem dX11_ended_18 : decode cX11_ended 18 = .ok (.ifCond .eq 12, 3) := by decide +kernel
theorem dX11_ended_21 : decode cX11_ended 21 = .ok (.iload_n 1, 1) := by decide +kernel
theorem dX11_ended_22 : decode cX11_ended 22 = .ok (.bipush 40, 2) := by decide +kernel
theorem dX11_ended_24 : decode cX11_ended 24 = .ok (.if_icmp .ne 16, 3) := by decide +kernel
theorem dX11_ended_27 : decode cX11_ended 27 = .ok (.goto 9, 3) := by decide +kernel
theorem dX11_ended_30 : decode cX11_ended 30 = .ok (.iload_n 1, 1) := by decide +kernel
theorem dX11_ended_31 : decode cX11_ended 31 = .ok (.bipush 29, 2) := by decide +kernel
theorem dX11_ended_33 : decode cX11_ended 33 = .ok (.if_icmp .ne 7, 3) := by decide +kernel
theorem dX11_ended_36 : decode cX11_ended 36 = .ok (.iconst 1, 1) := by decide +kernel
theorem dX11_ended_37 : decode cX11_ended 37 = .ok (.goto 4, 3) := by decide +kernel
theorem dX11_ended_40 : decode cX11_ended 40 = .ok (.iconst 0, 1) := by decide +kernel
theorem dX11_ended_41 : decode cX11_ended 41 = .ok (.ireturn, 1) := by decide +kernel
theorem dX11_next_0 : decode cX11_next 0 = .ok (.aload_n 0, 1) := by decide +kernel
theorem dX11_next_1 : decode cX11_next 1 = .ok (.aload_n 0, 1) := by decide +kernel
theorem dX11_next_2 : decode cX11_next 2 = .ok (.getfield 88, 3) := by decide +kernel
theorem dX11_next_5 : decode cX11_next 5 = .ok (.invokevirtual 296, 3) := by decide +kernel
theorem dX11_next_8 : decode cX11_next 8 = .ok (.istore_n 1, 1) := by decide +kernel
theorem dX11_next_9 : decode cX11_next 9 = .ok (.aload_n 0, 1) := by decide +kernel
theorem dX11_next_10 : decode cX11_next 10 = .ok (.getfield 91, 3) := by decide +kernel
theorem dX11_next_13 : decode cX11_next 13 = .ok (.ifCond .eq 9, 3) := by decide +kernel
theorem dX11_next_16 : decode cX11_next 16 = .ok (.iload_n 1, 1) := by decide +kernel
theorem dX11_next_17 : decode cX11_next 17 = .ok (.bipush 92, 2) := by decide +kernel
theorem dX11_next_19 : decode cX11_next 19 = .ok (.if_icmp .eq 5, 3) := by decide +kernel
theorem dX11_next_22 : decode cX11_next 22 = .ok (.iload_n 1, 1) := by decide +kernel
theorem dX11_next_23 : decode cX11_next 23 = .ok (.ireturn, 1) := by decide +kernel
theorem dX11_next_24 : decode cX11_next 24 = .ok (.aload_n 0, 1) := by decide +kernel
theorem dX11_next_25 : decode cX11_next 25 = .ok (.aload_n 0, 1) := by decide +kernel
theorem dX11_next_26 : decode cX11_next 26 = .ok (.getfield 88, 3) := by decide +kernel
theorem dX11_next_29 : decode cX11_next 29 = .ok (.iconst 1, 1) := by decide +kernel
theorem dX11_next_30 : decode cX11_next 30 = .ok (.iadd, 1) := by decide +kernel
theorem dX11_next_31 : decode cX11_next 31 = .ok (.invokevirtual 296, 3) := by decide +kernel
theorem dX11_next_34 : decode cX11_next 34 = .ok (.bipush 40, 2) := by decide +kernel
theorem dX11_next_36 : decode cX11_next 36 = .ok (.if_icmp .ne 8, 3) := by decide +kernel
theorem dX11_next_39 : decode cX11_next 39 = .ok (.bipush 40, 2) := by decide +kernel
theorem dX11_next_41 : decode cX11_next 41 = .ok (.goto 4, 3) := by decide +kernel
theorem dX11_next_44 : decode cX11_next 44 = .ok (.iconst (-1), 1) := by decide +kernel
theorem dX11_next_45 : decode cX11_next 45 = .ok (.ireturn, 1) := by decide +kernel
theorem dX11_pass_0 : decode cX11_pass 0 = .ok (.aload_n 0, 1) := by decide +kernel
theorem dX11_pass_1 : decode cX11_pass 1 = .ok (.dup, 1) := by decide +kernel
theorem dX11_pass_2 : decode cX11_pass 2 = .ok (.getfield 88, 3) := by decide +kernel
theorem dX11_pass_5 : decode cX11_pass 5 = .ok (.aload_n 0, 1) := by decide +kernel
theorem dX11_pass_6 : decode cX11_pass 6 = .ok (.getfield 91, 3) := by decide +kernel
theorem dX11_pass_9 : decode cX11_pass 9 = .ok (.ifCond .eq 20, 3) := by decide +kernel
theorem dX11_pass_12 : decode cX11_pass 12 = .ok (.aload_n 0, 1) := by decide +kernel
theorem dX11_pass_13 : decode cX11_pass 13 = .ok (.aload_n 0, 1) := by decide +kernel
theorem dX11_pass_14 : decode cX11_pass 14 = .ok (.getfield 88, 3) := by decide +kernel
theorem dX11_pass_17 : decode cX11_pass 17 = .ok (.invokevirtual 296, 3) := by decide +kernel
theorem dX11_pass_20 : decode cX11_pass 20 = .ok (.bipush 92, 2) := by decide +kernel
theorem dX11_pass_22 : decode cX11_pass 22 = .ok (.if_icmp .ne 7, 3) := by decide +kernel
theorem dX11_pass_25 : decode cX11_pass 25 = .ok (.iconst 2, 1) := by decide +kernel
theorem dX11_pass_26 : decode cX11_pass 26 = .ok (.goto 4, 3) := by decide +kernel
theorem dX11_pass_29 : decode cX11_pass 29 = .ok (.iconst 1, 1) := by decide +kernel
theorem dX11_pass_30 : decode cX11_pass 30 = .ok (.iadd, 1) := by decide +kernel
theorem dX11_pass_31 : decode cX11_pass 31 = .ok (.putfield 88, 3) := by decide +kernel
theorem dX11_pass_34 : decode cX11_pass 34 = .ok (.return_, 1) := by decide +kernel
theorem dX11_daysOf_0 : decode cX11_daysOf 0 = .ok (.iload_n 1, 1) := by decide +kernel
theorem dX11_daysOf_1 : decode cX11_daysOf 1 = .ok (.iconst 2, 1) := by decide +kernel
theorem dX11_daysOf_2 : decode cX11_daysOf 2 = .ok (.if_icmp .ne 32, 3) := by decide +kernel
theorem dX11_daysOf_5 : decode cX11_daysOf 5 = .ok (.iload_n 0, 1) := by decide +kernel
theorem dX11_daysOf_6 : decode cX11_daysOf 6 = .ok (.iconst 4, 1) := by decide +kernel
theorem dX11_daysOf_7 : decode cX11_daysOf 7 = .ok (.irem, 1) := by decide +kernel
theorem dX11_daysOf_8 : decode cX11_daysOf 8 = .ok (.ifCond .ne 23, 3) := by decide +kernel
theorem dX11_daysOf_11 : decode cX11_daysOf 11 = .ok (.iload_n 0, 1) := by decide +kernel
theorem dX11_daysOf_12 : decode cX11_daysOf 12 = .ok (.bipush 100, 2) := by decide +kernel
theorem dX11_daysOf_14 : decode cX11_daysOf 14 = .ok (.irem, 1) := by decide +kernel
theorem dX11_daysOf_15 : decode cX11_daysOf 15 = .ok (.ifCond .ne 11, 3) := by decide +kernel
theorem dX11_daysOf_18 : decode cX11_daysOf 18 = .ok (.iload_n 0, 1) := by decide +kernel
theorem dX11_daysOf_19 : decode cX11_daysOf 19 = .ok (.sipush 400, 3) := by decide +kernel
theorem dX11_daysOf_22 : decode cX11_daysOf 22 = .ok (.irem, 1) := by decide +kernel
theorem dX11_daysOf_23 : decode cX11_daysOf 23 = .ok (.ifCond .ne 8, 3) := by decide +kernel
theorem dX11_daysOf_26 : decode cX11_daysOf 26 = .ok (.bipush 29, 2) := by decide +kernel
theorem dX11_daysOf_28 : decode cX11_daysOf 28 = .ok (.goto 5, 3) := by decide +kernel
theorem dX11_daysOf_31 : decode cX11_daysOf 31 = .ok (.bipush 28, 2) := by decide +kernel
theorem dX11_daysOf_33 : decode cX11_daysOf 33 = .ok (.ireturn, 1) := by decide +kernel
theorem dX11_daysOf_34 : decode cX11_daysOf 34 = .ok (.iload_n 1, 1) := by decide +kernel
theorem dX11_daysOf_35 : decode cX11_daysOf 35 = .ok (.iconst 4, 1) := by decide +kernel
theorem dX11_daysOf_36 : decode cX11_daysOf 36 = .ok (.if_icmp .eq 21, 3) := by decide +kernel
theorem dX11_daysOf_39 : decode cX11_daysOf 39 = .ok (.iload_n 1, 1) := by decide +kernel
theorem dX11_daysOf_40 : decode cX11_daysOf 40 = .ok (.bipush 6, 2) := by decide +kernel
theorem dX11_daysOf_42 : decode cX11_daysOf 42 = .ok (.if_icmp .eq 15, 3) := by decide +kernel
theorem dX11_daysOf_45 : decode cX11_daysOf 45 = .ok (.iload_n 1, 1) := by decide +kernel
theorem dX11_daysOf_46 : decode cX11_daysOf 46 = .ok (.bipush 9, 2) := by decide +kernel
theorem dX11_daysOf_48 : decode cX11_daysOf 48 = .ok (.if_icmp .eq 9, 3) := by decide +kernel
theorem dX11_daysOf_51 : decode cX11_daysOf 51 = .ok (.iload_n 1, 1) := by decide +kernel
theorem dX11_daysOf_52 : decode cX11_daysOf 52 = .ok (.bipush 11, 2) := by decide +kernel
theorem dX11_daysOf_54 : decode cX11_daysOf 54 = .ok (.if_icmp .ne 8, 3) := by decide +kernel
theorem dX11_daysOf_57 : decode cX11_daysOf 57 = .ok (.bipush 30, 2) := by decide +kernel
theorem dX11_daysOf_59 : decode cX11_daysOf 59 = .ok (.goto 5, 3) := by decide +kernel
theorem dX11_daysOf_62 : decode cX11_daysOf 62 = .ok (.bipush 31, 2) := by decide +kernel
theorem dX11_daysOf_64 : decode cX11_daysOf 64 = .ok (.ireturn, 1) := by decide +kernel
theorem dX11_two_0 : decode cX11_two 0 = .ok (.bipush 10, 2) := by decide +kernel
theorem dX11_two_2 : decode cX11_two 2 = .ok (.aload_n 0, 1) := by decide +kernel
theorem dX11_two_3 : decode cX11_two 3 = .ok (.getfield 63, 3) := by decide +kernel
theorem dX11_two_6 : decode cX11_two 6 = .ok (.iload_n 1, 1) := by decide +kernel
theorem dX11_two_7 : decode cX11_two 7 = .ok (.baload, 1) := by decide +kernel
theorem dX11_two_8 : decode cX11_two 8 = .ok (.bipush 48, 2) := by decide +kernel
theorem dX11_two_10 : decode cX11_two 10 = .ok (.isub, 1) := by decide +kernel
theorem dX11_two_11 : decode cX11_two 11 = .ok (.imul, 1) := by decide +kernel
theorem dX11_two_12 : decode cX11_two 12 = .ok (.aload_n 0, 1) := by decide +kernel
theorem dX11_two_13 : decode cX11_two 13 = .ok (.getfield 63, 3) := by decide +kernel
theorem dX11_two_16 : decode cX11_two 16 = .ok (.iload_n 1, 1) := by decide +kernel
theorem dX11_two_17 : decode cX11_two 17 = .ok (.iconst 1, 1) := by decide +kernel
theorem dX11_two_18 : decode cX11_two 18 = .ok (.iadd, 1) := by decide +kernel
theorem dX11_two_19 : decode cX11_two 19 = .ok (.baload, 1) := by decide +kernel
theorem dX11_two_20 : decode cX11_two 20 = .ok (.iadd, 1) := by decide +kernel
theorem dX11_two_21 : decode cX11_two 21 = .ok (.bipush 48, 2) := by decide +kernel
theorem dX11_two_23 : decode cX11_two 23 = .ok (.isub, 1) := by decide +kernel
theorem dX11_two_24 : decode cX11_two 24 = .ok (.ireturn, 1) := by decide +kernel
theorem dX11_yearOf_0 : decode cX11_yearOf 0 = .ok (.aload_n 0, 1) := by decide +kernel
theorem dX11_yearOf_1 : decode cX11_yearOf 1 = .ok (.getfield 79, 3) := by decide +kernel
theorem dX11_yearOf_4 : decode cX11_yearOf 4 = .ok (.bipush 49, 2) := by decide +kernel
theorem dX11_yearOf_6 : decode cX11_yearOf 6 = .ok (.isub, 1) := by decide +kernel
theorem dX11_yearOf_7 : decode cX11_yearOf 7 = .ok (.istore_n 2, 1) := by decide +kernel
theorem dX11_yearOf_8 : decode cX11_yearOf 8 = .ok (.iload_n 2, 1) := by decide +kernel
theorem dX11_yearOf_9 : decode cX11_yearOf 9 = .ok (.bipush 100, 2) := by decide +kernel
theorem dX11_yearOf_11 : decode cX11_yearOf 11 = .ok (.irem, 1) := by decide +kernel
theorem dX11_yearOf_12 : decode cX11_yearOf 12 = .ok (.iload_n 1, 1) := by decide +kernel
theorem dX11_yearOf_13 : decode cX11_yearOf 13 = .ok (.if_icmp .eq 9, 3) := by decide +kernel
theorem dX11_yearOf_16 : decode cX11_yearOf 16 = .ok (.iinc 2 1, 3) := by decide +kernel
theorem dX11_yearOf_19 : decode cX11_yearOf 19 = .ok (.goto (-11), 3) := by decide +kernel
theorem dX11_yearOf_22 : decode cX11_yearOf 22 = .ok (.iload_n 2, 1) := by decide +kernel
theorem dX11_yearOf_23 : decode cX11_yearOf 23 = .ok (.ireturn, 1) := by decide +kernel
theorem dX11_checkOf_0 : decode cX11_checkOf 0 = .ok (.iconst 0, 1) := by decide +kernel
theorem dX11_checkOf_1 : decode cX11_checkOf 1 = .ok (.istore_n 3, 1) := by decide +kernel
theorem dX11_checkOf_2 : decode cX11_checkOf 2 = .ok (.iconst 0, 1) := by decide +kernel
theorem dX11_checkOf_3 : decode cX11_checkOf 3 = .ok (.istore 4, 2) := by decide +kernel
theorem dX11_checkOf_5 : decode cX11_checkOf 5 = .ok (.iload 4, 2) := by decide +kernel
theorem dX11_checkOf_7 : decode cX11_checkOf 7 = .ok (.iload_n 2, 1) := by decide +kernel
theorem dX11_checkOf_8 : decode cX11_checkOf 8 = .ok (.if_icmp .ge 38, 3) := by decide +kernel
theorem dX11_checkOf_11 : decode cX11_checkOf 11 = .ok (.iload_n 3, 1) := by decide +kernel
theorem dX11_checkOf_12 : decode cX11_checkOf 12 = .ok (.aload_n 0, 1) := by decide +kernel
theorem dX11_checkOf_13 : decode cX11_checkOf 13 = .ok (.iload_n 1, 1) := by decide +kernel
theorem dX11_checkOf_14 : decode cX11_checkOf 14 = .ok (.iload_n 2, 1) := by decide +kernel
theorem dX11_checkOf_15 : decode cX11_checkOf 15 = .ok (.iadd, 1) := by decide +kernel
theorem dX11_checkOf_16 : decode cX11_checkOf 16 = .ok (.iconst 1, 1) := by decide +kernel
theorem dX11_checkOf_17 : decode cX11_checkOf 17 = .ok (.isub, 1) := by decide +kernel
theorem dX11_checkOf_18 : decode cX11_checkOf 18 = .ok (.iload 4, 2) := by decide +kernel
theorem dX11_checkOf_20 : decode cX11_checkOf 20 = .ok (.isub, 1) := by decide +kernel
theorem dX11_checkOf_21 : decode cX11_checkOf 21 = .ok (.baload, 1) := by decide +kernel
theorem dX11_checkOf_22 : decode cX11_checkOf 22 = .ok (.bipush 48, 2) := by decide +kernel
theorem dX11_checkOf_24 : decode cX11_checkOf 24 = .ok (.isub, 1) := by decide +kernel
theorem dX11_checkOf_25 : decode cX11_checkOf 25 = .ok (.iload 4, 2) := by decide +kernel
theorem dX11_checkOf_27 : decode cX11_checkOf 27 = .ok (.iconst 2, 1) := by decide +kernel
theorem dX11_checkOf_28 : decode cX11_checkOf 28 = .ok (.irem, 1) := by decide +kernel
theorem dX11_checkOf_29 : decode cX11_checkOf 29 = .ok (.ifCond .ne 7, 3) := by decide +kernel
theorem dX11_checkOf_32 : decode cX11_checkOf 32 = .ok (.iconst 3, 1) := by decide +kernel
theorem dX11_checkOf_33 : decode cX11_checkOf 33 = .ok (.goto 4, 3) := by decide +kernel
theorem dX11_checkOf_36 : decode cX11_checkOf 36 = .ok (.iconst 1, 1) := by decide +kernel
theorem dX11_checkOf_37 : decode cX11_checkOf 37 = .ok (.imul, 1) := by decide +kernel
theorem dX11_checkOf_38 : decode cX11_checkOf 38 = .ok (.iadd, 1) := by decide +kernel
theorem dX11_checkOf_39 : decode cX11_checkOf 39 = .ok (.istore_n 3, 1) := by decide +kernel
theorem dX11_checkOf_40 : decode cX11_checkOf 40 = .ok (.iinc 4 1, 3) := by decide +kernel
theorem dX11_checkOf_43 : decode cX11_checkOf 43 = .ok (.goto (-38), 3) := by decide +kernel
theorem dX11_checkOf_46 : decode cX11_checkOf 46 = .ok (.bipush 10, 2) := by decide +kernel
theorem dX11_checkOf_48 : decode cX11_checkOf 48 = .ok (.iload_n 3, 1) := by decide +kernel
theorem dX11_checkOf_49 : decode cX11_checkOf 49 = .ok (.bipush 10, 2) := by decide +kernel
theorem dX11_checkOf_51 : decode cX11_checkOf 51 = .ok (.irem, 1) := by decide +kernel
theorem dX11_checkOf_52 : decode cX11_checkOf 52 = .ok (.isub, 1) := by decide +kernel
theorem dX11_checkOf_53 : decode cX11_checkOf 53 = .ok (.bipush 10, 2) := by decide +kernel
theorem dX11_checkOf_55 : decode cX11_checkOf 55 = .ok (.irem, 1) := by decide +kernel
theorem dX11_checkOf_56 : decode cX11_checkOf 56 = .ok (.ireturn, 1) := by decide +kernel
theorem dX11_holds_0 : decode cX11_holds 0 = .ok (.bipush 90, 2) := by decide +kernel
theorem dX11_holds_2 : decode cX11_holds 2 = .ok (.iload_n 1, 1) := by decide +kernel
theorem dX11_holds_3 : decode cX11_holds 3 = .ok (.imul, 1) := by decide +kernel
theorem dX11_holds_4 : decode cX11_holds 4 = .ok (.iload_n 3, 1) := by decide +kernel
theorem dX11_holds_5 : decode cX11_holds 5 = .ok (.iadd, 1) := by decide +kernel
theorem dX11_holds_6 : decode cX11_holds 6 = .ok (.istore 5, 2) := by decide +kernel
theorem dX11_holds_8 : decode cX11_holds 8 = .ok (.iload_n 2, 1) := by decide +kernel
theorem dX11_holds_9 : decode cX11_holds 9 = .ok (.iconst 3, 1) := by decide +kernel
theorem dX11_holds_10 : decode cX11_holds 10 = .ok (.if_icmp .ne 59, 3) := by decide +kernel
theorem dX11_holds_13 : decode cX11_holds 13 = .ok (.aload_n 0, 1) := by decide +kernel
theorem dX11_holds_14 : decode cX11_holds 14 = .ok (.getfield 63, 3) := by decide +kernel
theorem dX11_holds_17 : decode cX11_holds 17 = .ok (.iload 5, 2) := by decide +kernel
theorem dX11_holds_19 : decode cX11_holds 19 = .ok (.iload 4, 2) := by decide +kernel
theorem dX11_holds_21 : decode cX11_holds 21 = .ok (.iconst 1, 1) := by decide +kernel
theorem dX11_holds_22 : decode cX11_holds 22 = .ok (.isub, 1) := by decide +kernel
theorem dX11_holds_23 : decode cX11_holds 23 = .ok (.invokestatic 300, 3) := by decide +kernel
theorem dX11_holds_26 : decode cX11_holds 26 = .ok (.aload_n 0, 1) := by decide +kernel
theorem dX11_holds_27 : decode cX11_holds 27 = .ok (.getfield 63, 3) := by decide +kernel
theorem dX11_holds_30 : decode cX11_holds 30 = .ok (.iload 5, 2) := by decide +kernel
theorem dX11_holds_32 : decode cX11_holds 32 = .ok (.iload 4, 2) := by decide +kernel
theorem dX11_holds_34 : decode cX11_holds 34 = .ok (.iadd, 1) := by decide +kernel
theorem dX11_holds_35 : decode cX11_holds 35 = .ok (.iconst 1, 1) := by decide +kernel
theorem dX11_holds_36 : decode cX11_holds 36 = .ok (.isub, 1) := by decide +kernel
theorem dX11_holds_37 : decode cX11_holds 37 = .ok (.baload, 1) := by decide +kernel
theorem dX11_holds_38 : decode cX11_holds 38 = .ok (.bipush 48, 2) := by decide +kernel
theorem dX11_holds_40 : decode cX11_holds 40 = .ok (.isub, 1) := by decide +kernel
theorem dX11_holds_41 : decode cX11_holds 41 = .ok (.if_icmp .eq 22, 3) := by decide +kernel
theorem dX11_holds_44 : decode cX11_holds 44 = .ok (.aload_n 0, 1) := by decide +kernel
theorem dX11_holds_45 : decode cX11_holds 45 = .ok (.iconst 5, 1) := by decide +kernel
theorem dX11_holds_46 : decode cX11_holds 46 = .ok (.aload_n 0, 1) := by decide +kernel
theorem dX11_holds_47 : decode cX11_holds 47 = .ok (.getfield 95, 3) := by decide +kernel
theorem dX11_holds_50 : decode cX11_holds 50 = .ok (.iload_n 3, 1) := by decide +kernel
theorem dX11_holds_51 : decode cX11_holds 51 = .ok (.iload 4, 2) := by decide +kernel
theorem dX11_holds_53 : decode cX11_holds 53 = .ok (.iadd, 1) := by decide +kernel
theorem dX11_holds_54 : decode cX11_holds 54 = .ok (.iconst 1, 1) := by decide +kernel
theorem dX11_holds_55 : decode cX11_holds 55 = .ok (.isub, 1) := by decide +kernel
theorem dX11_holds_56 : decode cX11_holds 56 = .ok (.iaload, 1) := by decide +kernel
theorem dX11_holds_57 : decode cX11_holds 57 = .ok (.invokevirtual 304, 3) := by decide +kernel
theorem dX11_holds_60 : decode cX11_holds 60 = .ok (.ifCond .eq 7, 3) := by decide +kernel
theorem dX11_holds_63 : decode cX11_holds 63 = .ok (.iconst 1, 1) := by decide +kernel
theorem dX11_holds_64 : decode cX11_holds 64 = .ok (.goto 4, 3) := by decide +kernel
theorem dX11_holds_67 : decode cX11_holds 67 = .ok (.iconst 0, 1) := by decide +kernel
theorem dX11_holds_68 : decode cX11_holds 68 = .ok (.ireturn, 1) := by decide +kernel
theorem dX11_holds_69 : decode cX11_holds 69 = .ok (.iload_n 2, 1) := by decide +kernel
theorem dX11_holds_70 : decode cX11_holds 70 = .ok (.iconst 5, 1) := by decide +kernel
theorem dX11_holds_71 : decode cX11_holds 71 = .ok (.if_icmp .ne 48, 3) := by decide +kernel
theorem dX11_holds_74 : decode cX11_holds 74 = .ok (.aload_n 0, 1) := by decide +kernel
theorem dX11_holds_75 : decode cX11_holds 75 = .ok (.iload 5, 2) := by decide +kernel
theorem dX11_holds_77 : decode cX11_holds 77 = .ok (.invokevirtual 308, 3) := by decide +kernel
theorem dX11_holds_80 : decode cX11_holds 80 = .ok (.bipush 24, 2) := by decide +kernel
theorem dX11_holds_82 : decode cX11_holds 82 = .ok (.if_icmp .ge 16, 3) := by decide +kernel
theorem dX11_holds_85 : decode cX11_holds 85 = .ok (.aload_n 0, 1) := by decide +kernel
theorem dX11_holds_86 : decode cX11_holds 86 = .ok (.iload 5, 2) := by decide +kernel
theorem dX11_holds_88 : decode cX11_holds 88 = .ok (.iconst 2, 1) := by decide +kernel
theorem dX11_holds_89 : decode cX11_holds 89 = .ok (.iadd, 1) := by decide +kernel
theorem dX11_holds_90 : decode cX11_holds 90 = .ok (.invokevirtual 308, 3) := by decide +kernel
theorem dX11_holds_93 : decode cX11_holds 93 = .ok (.bipush 60, 2) := by decide +kernel
theorem dX11_holds_95 : decode cX11_holds 95 = .ok (.if_icmp .lt 18, 3) := by decide +kernel
theorem dX11_holds_98 : decode cX11_holds 98 = .ok (.aload_n 0, 1) := by decide +kernel
theorem dX11_holds_99 : decode cX11_holds 99 = .ok (.bipush 6, 2) := by decide +kernel
theorem dX11_holds_101 : decode cX11_holds 101 = .ok (.aload_n 0, 1) := by decide +kernel
theorem dX11_holds_102 : decode cX11_holds 102 = .ok (.getfield 95, 3) := by decide +kernel
theorem dX11_holds_105 : decode cX11_holds 105 = .ok (.iload_n 3, 1) := by decide +kernel
theorem dX11_holds_106 : decode cX11_holds 106 = .ok (.iaload, 1) := by decide +kernel
theorem dX11_holds_107 : decode cX11_holds 107 = .ok (.invokevirtual 304, 3) := by decide +kernel
theorem dX11_holds_110 : decode cX11_holds 110 = .ok (.ifCond .eq 7, 3) := by decide +kernel
theorem dX11_holds_113 : decode cX11_holds 113 = .ok (.iconst 1, 1) := by decide +kernel
theorem dX11_holds_114 : decode cX11_holds 114 = .ok (.goto 4, 3) := by decide +kernel
theorem dX11_holds_117 : decode cX11_holds 117 = .ok (.iconst 0, 1) := by decide +kernel
theorem dX11_holds_118 : decode cX11_holds 118 = .ok (.ireturn, 1) := by decide +kernel
theorem dX11_holds_119 : decode cX11_holds 119 = .ok (.iload_n 2, 1) := by decide +kernel
theorem dX11_holds_120 : decode cX11_holds 120 = .ok (.iconst 4, 1) := by decide +kernel
theorem dX11_holds_121 : decode cX11_holds 121 = .ok (.if_icmp .eq 5, 3) := by decide +kernel
theorem dX11_holds_124 : decode cX11_holds 124 = .ok (.iconst 1, 1) := by decide +kernel
theorem dX11_holds_125 : decode cX11_holds 125 = .ok (.ireturn, 1) := by decide +kernel
theorem dX11_holds_126 : decode cX11_holds 126 = .ok (.aload_n 0, 1) := by decide +kernel
theorem dX11_holds_127 : decode cX11_holds 127 = .ok (.aload_n 0, 1) := by decide +kernel
theorem dX11_holds_128 : decode cX11_holds 128 = .ok (.iload 5, 2) := by decide +kernel
theorem dX11_holds_130 : decode cX11_holds 130 = .ok (.invokevirtual 308, 3) := by decide +kernel
theorem dX11_holds_133 : decode cX11_holds 133 = .ok (.invokevirtual 311, 3) := by decide +kernel
theorem dX11_holds_136 : decode cX11_holds 136 = .ok (.istore 6, 2) := by decide +kernel
theorem dX11_holds_138 : decode cX11_holds 138 = .ok (.aload_n 0, 1) := by decide +kernel
theorem dX11_holds_139 : decode cX11_holds 139 = .ok (.iload 5, 2) := by decide +kernel
theorem dX11_holds_141 : decode cX11_holds 141 = .ok (.iconst 2, 1) := by decide +kernel
theorem dX11_holds_142 : decode cX11_holds 142 = .ok (.iadd, 1) := by decide +kernel
theorem dX11_holds_143 : decode cX11_holds 143 = .ok (.invokevirtual 308, 3) := by decide +kernel
theorem dX11_holds_146 : decode cX11_holds 146 = .ok (.istore 7, 2) := by decide +kernel
theorem dX11_holds_148 : decode cX11_holds 148 = .ok (.iload 7, 2) := by decide +kernel
theorem dX11_holds_150 : decode cX11_holds 150 = .ok (.iconst 1, 1) := by decide +kernel
theorem dX11_holds_151 : decode cX11_holds 151 = .ok (.if_icmp .lt 28, 3) := by decide +kernel
theorem dX11_holds_154 : decode cX11_holds 154 = .ok (.iload 7, 2) := by decide +kernel
theorem dX11_holds_156 : decode cX11_holds 156 = .ok (.bipush 12, 2) := by decide +kernel
theorem dX11_holds_158 : decode cX11_holds 158 = .ok (.if_icmp .gt 21, 3) := by decide +kernel
theorem dX11_holds_161 : decode cX11_holds 161 = .ok (.aload_n 0, 1) := by decide +kernel
theorem dX11_holds_162 : decode cX11_holds 162 = .ok (.iload 5, 2) := by decide +kernel
theorem dX11_holds_164 : decode cX11_holds 164 = .ok (.iconst 4, 1) := by decide +kernel
theorem dX11_holds_165 : decode cX11_holds 165 = .ok (.iadd, 1) := by decide +kernel
theorem dX11_holds_166 : decode cX11_holds 166 = .ok (.invokevirtual 308, 3) := by decide +kernel
theorem dX11_holds_169 : decode cX11_holds 169 = .ok (.iload 6, 2) := by decide +kernel
theorem dX11_holds_171 : decode cX11_holds 171 = .ok (.iload 7, 2) := by decide +kernel
theorem dX11_holds_173 : decode cX11_holds 173 = .ok (.invokestatic 314, 3) := by decide +kernel
theorem dX11_holds_176 : decode cX11_holds 176 = .ok (.if_icmp .le 16, 3) := by decide +kernel
theorem dX11_holds_179 : decode cX11_holds 179 = .ok (.aload_n 0, 1) := by decide +kernel
theorem dX11_holds_180 : decode cX11_holds 180 = .ok (.bipush 6, 2) := by decide +kernel
theorem dX11_holds_182 : decode cX11_holds 182 = .ok (.aload_n 0, 1) := by decide +kernel
theorem dX11_holds_183 : decode cX11_holds 183 = .ok (.getfield 95, 3) := by decide +kernel
theorem dX11_holds_186 : decode cX11_holds 186 = .ok (.iload_n 3, 1) := by decide +kernel
theorem dX11_holds_187 : decode cX11_holds 187 = .ok (.iaload, 1) := by decide +kernel
theorem dX11_holds_188 : decode cX11_holds 188 = .ok (.invokevirtual 304, 3) := by decide +kernel
theorem dX11_holds_191 : decode cX11_holds 191 = .ok (.ireturn, 1) := by decide +kernel
theorem dX11_holds_192 : decode cX11_holds 192 = .ok (.aload_n 0, 1) := by decide +kernel
theorem dX11_holds_193 : decode cX11_holds 193 = .ok (.getfield 60, 3) := by decide +kernel
theorem dX11_holds_196 : decode cX11_holds 196 = .ok (.iconst 2, 1) := by decide +kernel
theorem dX11_holds_197 : decode cX11_holds 197 = .ok (.iload_n 1, 1) := by decide +kernel
theorem dX11_holds_198 : decode cX11_holds 198 = .ok (.imul, 1) := by decide +kernel
theorem dX11_holds_199 : decode cX11_holds 199 = .ok (.iload_n 3, 1) := by decide +kernel
theorem dX11_holds_200 : decode cX11_holds 200 = .ok (.ifCond .ne 7, 3) := by decide +kernel
theorem dX11_holds_203 : decode cX11_holds 203 = .ok (.iconst 0, 1) := by decide +kernel
theorem dX11_holds_204 : decode cX11_holds 204 = .ok (.goto 4, 3) := by decide +kernel
theorem dX11_holds_207 : decode cX11_holds 207 = .ok (.iconst 1, 1) := by decide +kernel
theorem dX11_holds_208 : decode cX11_holds 208 = .ok (.iadd, 1) := by decide +kernel
theorem dX11_holds_209 : decode cX11_holds 209 = .ok (.iload 6, 2) := by decide +kernel
theorem dX11_holds_211 : decode cX11_holds 211 = .ok (.iastore, 1) := by decide +kernel
theorem dX11_holds_212 : decode cX11_holds 212 = .ok (.iconst 1, 1) := by decide +kernel
theorem dX11_holds_213 : decode cX11_holds 213 = .ok (.ireturn, 1) := by decide +kernel
theorem dX11_value_0 : decode cX11_value 0 = .ok (.aload_n 0, 1) := by decide +kernel
theorem dX11_value_1 : decode cX11_value 1 = .ok (.getfield 91, 3) := by decide +kernel
theorem dX11_value_4 : decode cX11_value 4 = .ok (.ifCond .ne 15, 3) := by decide +kernel
theorem dX11_value_7 : decode cX11_value 7 = .ok (.aload_n 0, 1) := by decide +kernel
theorem dX11_value_8 : decode cX11_value 8 = .ok (.iload_n 2, 1) := by decide +kernel
theorem dX11_value_9 : decode cX11_value 9 = .ok (.invokevirtual 317, 3) := by decide +kernel
theorem dX11_value_12 : decode cX11_value 12 = .ok (.ifCond .eq 7, 3) := by decide +kernel
theorem dX11_value_15 : decode cX11_value 15 = .ok (.iconst 1, 1) := by decide +kernel
theorem dX11_value_16 : decode cX11_value 16 = .ok (.goto 4, 3) := by decide +kernel
theorem dX11_value_19 : decode cX11_value 19 = .ok (.iconst 0, 1) := by decide +kernel
theorem dX11_value_20 : decode cX11_value 20 = .ok (.istore_n 3, 1) := by decide +kernel
theorem dX11_value_21 : decode cX11_value 21 = .ok (.iconst 0, 1) := by decide +kernel
theorem dX11_value_22 : decode cX11_value 22 = .ok (.istore 4, 2) := by decide +kernel
theorem dX11_value_24 : decode cX11_value 24 = .ok (.aload_n 0, 1) := by decide +kernel
theorem dX11_value_25 : decode cX11_value 25 = .ok (.getfield 22, 3) := by decide +kernel
theorem dX11_value_28 : decode cX11_value 28 = .ok (.iload_n 2, 1) := by decide +kernel
theorem dX11_value_29 : decode cX11_value 29 = .ok (.iaload, 1) := by decide +kernel
theorem dX11_value_30 : decode cX11_value 30 = .ok (.istore 5, 2) := by decide +kernel
theorem dX11_value_32 : decode cX11_value 32 = .ok (.iload 5, 2) := by decide +kernel
theorem dX11_value_34 : decode cX11_value 34 = .ok (.aload_n 0, 1) := by decide +kernel
theorem dX11_value_35 : decode cX11_value 35 = .ok (.getfield 22, 3) := by decide +kernel
theorem dX11_value_38 : decode cX11_value 38 = .ok (.iload_n 2, 1) := by decide +kernel
theorem dX11_value_39 : decode cX11_value 39 = .ok (.iaload, 1) := by decide +kernel
theorem dX11_value_40 : decode cX11_value 40 = .ok (.aload_n 0, 1) := by decide +kernel
theorem dX11_value_41 : decode cX11_value 41 = .ok (.getfield 25, 3) := by decide +kernel
theorem dX11_value_44 : decode cX11_value 44 = .ok (.iload_n 2, 1) := by decide +kernel
theorem dX11_value_45 : decode cX11_value 45 = .ok (.iaload, 1) := by decide +kernel
theorem dX11_value_46 : decode cX11_value 46 = .ok (.iadd, 1) := by decide +kernel
theorem dX11_value_47 : decode cX11_value 47 = .ok (.if_icmp .ge 220, 3) := by decide +kernel
theorem dX11_value_50 : decode cX11_value 50 = .ok (.aload_n 0, 1) := by decide +kernel
theorem dX11_value_51 : decode cX11_value 51 = .ok (.getfield 41, 3) := by decide +kernel
theorem dX11_value_54 : decode cX11_value 54 = .ok (.iload 5, 2) := by decide +kernel
theorem dX11_value_56 : decode cX11_value 56 = .ok (.baload, 1) := by decide +kernel
theorem dX11_value_57 : decode cX11_value 57 = .ok (.ifCond .eq 13, 3) := by decide +kernel
theorem dX11_value_60 : decode cX11_value 60 = .ok (.aload_n 0, 1) := by decide +kernel
theorem dX11_value_61 : decode cX11_value 61 = .ok (.invokevirtual 321, 3) := by decide +kernel
theorem dX11_value_64 : decode cX11_value 64 = .ok (.ifCond .eq 6, 3) := by decide +kernel
theorem dX11_value_67 : decode cX11_value 67 = .ok (.goto 200, 3) := by decide +kernel
theorem dX11_value_70 : decode cX11_value 70 = .ok (.iload 4, 2) := by decide +kernel
theorem dX11_value_72 : decode cX11_value 72 = .ok (.istore 6, 2) := by decide +kernel
theorem dX11_value_74 : decode cX11_value 74 = .ok (.iload 4, 2) := by decide +kernel
theorem dX11_value_76 : decode cX11_value 76 = .ok (.iload 6, 2) := by decide +kernel
theorem dX11_value_78 : decode cX11_value 78 = .ok (.isub, 1) := by decide +kernel
theorem dX11_value_79 : decode cX11_value 79 = .ok (.aload_n 0, 1) := by decide +kernel
theorem dX11_value_80 : decode cX11_value 80 = .ok (.getfield 38, 3) := by decide +kernel
theorem dX11_value_83 : decode cX11_value 83 = .ok (.iload 5, 2) := by decide +kernel
theorem dX11_value_85 : decode cX11_value 85 = .ok (.iaload, 1) := by decide +kernel
theorem dX11_value_86 : decode cX11_value 86 = .ok (.if_icmp .ge 151, 3) := by decide +kernel
theorem dX11_value_89 : decode cX11_value 89 = .ok (.iload 4, 2) := by decide +kernel
theorem dX11_value_91 : decode cX11_value 91 = .ok (.iload 6, 2) := by decide +kernel
theorem dX11_value_93 : decode cX11_value 93 = .ok (.isub, 1) := by decide +kernel
theorem dX11_value_94 : decode cX11_value 94 = .ok (.aload_n 0, 1) := by decide +kernel
theorem dX11_value_95 : decode cX11_value 95 = .ok (.getfield 35, 3) := by decide +kernel
theorem dX11_value_98 : decode cX11_value 98 = .ok (.iload 5, 2) := by decide +kernel
theorem dX11_value_100 : decode cX11_value 100 = .ok (.iaload, 1) := by decide +kernel
theorem dX11_value_101 : decode cX11_value 101 = .ok (.if_icmp .lt 10, 3) := by decide +kernel
theorem dX11_value_104 : decode cX11_value 104 = .ok (.aload_n 0, 1) := by decide +kernel
theorem dX11_value_105 : decode cX11_value 105 = .ok (.invokevirtual 321, 3) := by decide +kernel
theorem dX11_value_108 : decode cX11_value 108 = .ok (.ifCond .ne 129, 3) := by decide +kernel
theorem dX11_value_111 : decode cX11_value 111 = .ok (.aload_n 0, 1) := by decide +kernel
theorem dX11_value_112 : decode cX11_value 112 = .ok (.invokevirtual 321, 3) := by decide +kernel
theorem dX11_value_115 : decode cX11_value 115 = .ok (.ifCond .eq 13, 3) := by decide +kernel
theorem dX11_value_118 : decode cX11_value 118 = .ok (.aload_n 0, 1) := by decide +kernel
theorem dX11_value_119 : decode cX11_value 119 = .ok (.iconst 3, 1) := by decide +kernel
theorem dX11_value_120 : decode cX11_value 120 = .ok (.aload_n 0, 1) := by decide +kernel
theorem dX11_value_121 : decode cX11_value 121 = .ok (.getfield 88, 3) := by decide +kernel
theorem dX11_value_124 : decode cX11_value 124 = .ok (.invokevirtual 304, 3) := by decide +kernel
theorem dX11_value_127 : decode cX11_value 127 = .ok (.ireturn, 1) := by decide +kernel
theorem dX11_value_128 : decode cX11_value 128 = .ok (.aload_n 0, 1) := by decide +kernel
theorem dX11_value_129 : decode cX11_value 129 = .ok (.invokevirtual 325, 3) := by decide +kernel
theorem dX11_value_132 : decode cX11_value 132 = .ok (.istore 7, 2) := by decide +kernel
theorem dX11_value_134 : decode cX11_value 134 = .ok (.aload_n 0, 1) := by decide +kernel
theorem dX11_value_135 : decode cX11_value 135 = .ok (.getfield 32, 3) := by decide +kernel
theorem dX11_value_138 : decode cX11_value 138 = .ok (.iload 5, 2) := by decide +kernel
theorem dX11_value_140 : decode cX11_value 140 = .ok (.iaload, 1) := by decide +kernel
theorem dX11_value_141 : decode cX11_value 141 = .ok (.iconst 2, 1) := by decide +kernel
theorem dX11_value_142 : decode cX11_value 142 = .ok (.if_icmp .ne 24, 3) := by decide +kernel
theorem dX11_value_145 : decode cX11_value 145 = .ok (.iload 7, 2) := by decide +kernel
theorem dX11_value_147 : decode cX11_value 147 = .ok (.ifCond .lt 15, 3) := by decide +kernel
theorem dX11_value_150 : decode cX11_value 150 = .ok (.iload 7, 2) := by decide +kernel
theorem dX11_value_152 : decode cX11_value 152 = .ok (.invokestatic 329, 3) := by decide +kernel
theorem dX11_value_155 : decode cX11_value 155 = .ok (.ifCond .eq 7, 3) := by decide +kernel
theorem dX11_value_158 : decode cX11_value 158 = .ok (.iconst 1, 1) := by decide +kernel
theorem dX11_value_159 : decode cX11_value 159 = .ok (.goto 25, 3) := by decide +kernel
theorem dX11_value_162 : decode cX11_value 162 = .ok (.iconst 0, 1) := by decide +kernel
theorem dX11_value_163 : decode cX11_value 163 = .ok (.goto 21, 3) := by decide +kernel
theorem dX11_value_166 : decode cX11_value 166 = .ok (.iload 7, 2) := by decide +kernel
theorem dX11_value_168 : decode cX11_value 168 = .ok (.ifCond .lt 15, 3) := by decide +kernel
theorem dX11_value_171 : decode cX11_value 171 = .ok (.iload 7, 2) := by decide +kernel
theorem dX11_value_173 : decode cX11_value 173 = .ok (.invokestatic 332, 3) := by decide +kernel
theorem dX11_value_176 : decode cX11_value 176 = .ok (.ifCond .eq 7, 3) := by decide +kernel
theorem dX11_value_179 : decode cX11_value 179 = .ok (.iconst 1, 1) := by decide +kernel
theorem dX11_value_180 : decode cX11_value 180 = .ok (.goto 4, 3) := by decide +kernel
theorem dX11_value_183 : decode cX11_value 183 = .ok (.iconst 0, 1) := by decide +kernel
theorem dX11_value_184 : decode cX11_value 184 = .ok (.istore 8, 2) := by decide +kernel
theorem dX11_value_186 : decode cX11_value 186 = .ok (.iload 8, 2) := by decide +kernel
theorem dX11_value_188 : decode cX11_value 188 = .ok (.ifCond .ne 13, 3) := by decide +kernel
theorem dX11_value_191 : decode cX11_value 191 = .ok (.aload_n 0, 1) := by decide +kernel
theorem dX11_value_192 : decode cX11_value 192 = .ok (.iconst 4, 1) := by decide +kernel
theorem dX11_value_193 : decode cX11_value 193 = .ok (.aload_n 0, 1) := by decide +kernel
theorem dX11_value_194 : decode cX11_value 194 = .ok (.getfield 88, 3) := by decide +kernel
theorem dX11_value_197 : decode cX11_value 197 = .ok (.invokevirtual 304, 3) := by decide +kernel
theorem dX11_value_200 : decode cX11_value 200 = .ok (.ireturn, 1) := by decide +kernel
theorem dX11_value_201 : decode cX11_value 201 = .ok (.aload_n 0, 1) := by decide +kernel
theorem dX11_value_202 : decode cX11_value 202 = .ok (.getfield 95, 3) := by decide +kernel
theorem dX11_value_205 : decode cX11_value 205 = .ok (.iload 4, 2) := by decide +kernel
theorem dX11_value_207 : decode cX11_value 207 = .ok (.aload_n 0, 1) := by decide +kernel
theorem dX11_value_208 : decode cX11_value 208 = .ok (.getfield 88, 3) := by decide +kernel
theorem dX11_value_211 : decode cX11_value 211 = .ok (.iastore, 1) := by decide +kernel
theorem dX11_value_212 : decode cX11_value 212 = .ok (.aload_n 0, 1) := by decide +kernel
theorem dX11_value_213 : decode cX11_value 213 = .ok (.getfield 63, 3) := by decide +kernel
theorem dX11_value_216 : decode cX11_value 216 = .ok (.bipush 90, 2) := by decide +kernel
theorem dX11_value_218 : decode cX11_value 218 = .ok (.iload_n 1, 1) := by decide +kernel
theorem dX11_value_219 : decode cX11_value 219 = .ok (.imul, 1) := by decide +kernel
theorem dX11_value_220 : decode cX11_value 220 = .ok (.iload 4, 2) := by decide +kernel
theorem dX11_value_222 : decode cX11_value 222 = .ok (.iadd, 1) := by decide +kernel
theorem dX11_value_223 : decode cX11_value 223 = .ok (.iload 7, 2) := by decide +kernel
theorem dX11_value_225 : decode cX11_value 225 = .ok (.i2b, 1) := by decide +kernel
theorem dX11_value_226 : decode cX11_value 226 = .ok (.bastore, 1) := by decide +kernel
theorem dX11_value_227 : decode cX11_value 227 = .ok (.iinc 4 1, 3) := by decide +kernel
theorem dX11_value_230 : decode cX11_value 230 = .ok (.aload_n 0, 1) := by decide +kernel
theorem dX11_value_231 : decode cX11_value 231 = .ok (.invokevirtual 335, 3) := by decide +kernel
theorem dX11_value_234 : decode cX11_value 234 = .ok (.goto (-160), 3) := by decide +kernel
theorem dX11_value_237 : decode cX11_value 237 = .ok (.aload_n 0, 1) := by decide +kernel
theorem dX11_value_238 : decode cX11_value 238 = .ok (.iload_n 1, 1) := by decide +kernel
theorem dX11_value_239 : decode cX11_value 239 = .ok (.aload_n 0, 1) := by decide +kernel
theorem dX11_value_240 : decode cX11_value 240 = .ok (.getfield 32, 3) := by decide +kernel
theorem dX11_value_243 : decode cX11_value 243 = .ok (.iload 5, 2) := by decide +kernel
theorem dX11_value_245 : decode cX11_value 245 = .ok (.iaload, 1) := by decide +kernel
theorem dX11_value_246 : decode cX11_value 246 = .ok (.iload 6, 2) := by decide +kernel
theorem dX11_value_248 : decode cX11_value 248 = .ok (.iload 4, 2) := by decide +kernel
theorem dX11_value_250 : decode cX11_value 250 = .ok (.iload 6, 2) := by decide +kernel
theorem dX11_value_252 : decode cX11_value 252 = .ok (.isub, 1) := by decide +kernel
theorem dX11_value_253 : decode cX11_value 253 = .ok (.invokevirtual 338, 3) := by decide +kernel
theorem dX11_value_256 : decode cX11_value 256 = .ok (.ifCond .ne 5, 3) := by decide +kernel
theorem dX11_value_259 : decode cX11_value 259 = .ok (.iconst 0, 1) := by decide +kernel
theorem dX11_value_260 : decode cX11_value 260 = .ok (.ireturn, 1) := by decide +kernel
theorem dX11_value_261 : decode cX11_value 261 = .ok (.iinc 5 1, 3) := by decide +kernel
theorem dX11_value_264 : decode cX11_value 264 = .ok (.goto (-232), 3) := by decide +kernel
theorem dX11_value_267 : decode cX11_value 267 = .ok (.iload_n 3, 1) := by decide +kernel
theorem dX11_value_268 : decode cX11_value 268 = .ok (.ifCond .ne 20, 3) := by decide +kernel
theorem dX11_value_271 : decode cX11_value 271 = .ok (.aload_n 0, 1) := by decide +kernel
theorem dX11_value_272 : decode cX11_value 272 = .ok (.invokevirtual 321, 3) := by decide +kernel
theorem dX11_value_275 : decode cX11_value 275 = .ok (.ifCond .ne 13, 3) := by decide +kernel
theorem dX11_value_278 : decode cX11_value 278 = .ok (.aload_n 0, 1) := by decide +kernel
theorem dX11_value_279 : decode cX11_value 279 = .ok (.iconst 3, 1) := by decide +kernel
theorem dX11_value_280 : decode cX11_value 280 = .ok (.aload_n 0, 1) := by decide +kernel
theorem dX11_value_281 : decode cX11_value 281 = .ok (.getfield 88, 3) := by decide +kernel
theorem dX11_value_284 : decode cX11_value 284 = .ok (.invokevirtual 304, 3) := by decide +kernel
theorem dX11_value_287 : decode cX11_value 287 = .ok (.ireturn, 1) := by decide +kernel
theorem dX11_value_288 : decode cX11_value 288 = .ok (.aload_n 0, 1) := by decide +kernel
theorem dX11_value_289 : decode cX11_value 289 = .ok (.getfield 54, 3) := by decide +kernel
theorem dX11_value_292 : decode cX11_value 292 = .ok (.iload_n 1, 1) := by decide +kernel
theorem dX11_value_293 : decode cX11_value 293 = .ok (.iload_n 2, 1) := by decide +kernel
theorem dX11_value_294 : decode cX11_value 294 = .ok (.iastore, 1) := by decide +kernel
theorem dX11_value_295 : decode cX11_value 295 = .ok (.aload_n 0, 1) := by decide +kernel
theorem dX11_value_296 : decode cX11_value 296 = .ok (.getfield 57, 3) := by decide +kernel
theorem dX11_value_299 : decode cX11_value 299 = .ok (.iload_n 1, 1) := by decide +kernel
theorem dX11_value_300 : decode cX11_value 300 = .ok (.iload 4, 2) := by decide +kernel
theorem dX11_value_302 : decode cX11_value 302 = .ok (.iastore, 1) := by decide +kernel
theorem dX11_value_303 : decode cX11_value 303 = .ok (.iconst 1, 1) := by decide +kernel
theorem dX11_value_304 : decode cX11_value 304 = .ok (.ireturn, 1) := by decide +kernel
theorem dX11_aiHere_0 : decode cX11_aiHere 0 = .ok (.iconst 0, 1) := by decide +kernel
theorem dX11_aiHere_1 : decode cX11_aiHere 1 = .ok (.istore_n 1, 1) := by decide +kernel
theorem dX11_aiHere_2 : decode cX11_aiHere 2 = .ok (.iconst 1, 1) := by decide +kernel
theorem dX11_aiHere_3 : decode cX11_aiHere 3 = .ok (.istore_n 2, 1) := by decide +kernel
theorem dX11_aiHere_4 : decode cX11_aiHere 4 = .ok (.iload_n 2, 1) := by decide +kernel
theorem dX11_aiHere_5 : decode cX11_aiHere 5 = .ok (.iconst 4, 1) := by decide +kernel
theorem dX11_aiHere_6 : decode cX11_aiHere 6 = .ok (.if_icmp .gt 83, 3) := by decide +kernel
theorem dX11_aiHere_9 : decode cX11_aiHere 9 = .ok (.aload_n 0, 1) := by decide +kernel
theorem dX11_aiHere_10 : decode cX11_aiHere 10 = .ok (.getfield 88, 3) := by decide +kernel
theorem dX11_aiHere_13 : decode cX11_aiHere 13 = .ok (.iload_n 2, 1) := by decide +kernel
theorem dX11_aiHere_14 : decode cX11_aiHere 14 = .ok (.iadd, 1) := by decide +kernel
theorem dX11_aiHere_15 : decode cX11_aiHere 15 = .ok (.aload_n 0, 1) := by decide +kernel
theorem dX11_aiHere_16 : decode cX11_aiHere 16 = .ok (.getfield 76, 3) := by decide +kernel
theorem dX11_aiHere_19 : decode cX11_aiHere 19 = .ok (.if_icmp .gt 70, 3) := by decide +kernel
theorem dX11_aiHere_22 : decode cX11_aiHere 22 = .ok (.aload_n 0, 1) := by decide +kernel
theorem dX11_aiHere_23 : decode cX11_aiHere 23 = .ok (.aload_n 0, 1) := by decide +kernel
theorem dX11_aiHere_24 : decode cX11_aiHere 24 = .ok (.getfield 88, 3) := by decide +kernel
theorem dX11_aiHere_27 : decode cX11_aiHere 27 = .ok (.iload_n 2, 1) := by decide +kernel
theorem dX11_aiHere_28 : decode cX11_aiHere 28 = .ok (.iadd, 1) := by decide +kernel
theorem dX11_aiHere_29 : decode cX11_aiHere 29 = .ok (.iconst 1, 1) := by decide +kernel
theorem dX11_aiHere_30 : decode cX11_aiHere 30 = .ok (.isub, 1) := by decide +kernel
theorem dX11_aiHere_31 : decode cX11_aiHere 31 = .ok (.invokevirtual 296, 3) := by decide +kernel
theorem dX11_aiHere_34 : decode cX11_aiHere 34 = .ok (.invokestatic 332, 3) := by decide +kernel
theorem dX11_aiHere_37 : decode cX11_aiHere 37 = .ok (.ifCond .eq 52, 3) := by decide +kernel
theorem dX11_aiHere_40 : decode cX11_aiHere 40 = .ok (.bipush 10, 2) := by decide +kernel
theorem dX11_aiHere_42 : decode cX11_aiHere 42 = .ok (.iload_n 1, 1) := by decide +kernel
theorem dX11_aiHere_43 : decode cX11_aiHere 43 = .ok (.imul, 1) := by decide +kernel
theorem dX11_aiHere_44 : decode cX11_aiHere 44 = .ok (.aload_n 0, 1) := by decide +kernel
theorem dX11_aiHere_45 : decode cX11_aiHere 45 = .ok (.aload_n 0, 1) := by decide +kernel
theorem dX11_aiHere_46 : decode cX11_aiHere 46 = .ok (.getfield 88, 3) := by decide +kernel
theorem dX11_aiHere_49 : decode cX11_aiHere 49 = .ok (.iload_n 2, 1) := by decide +kernel
theorem dX11_aiHere_50 : decode cX11_aiHere 50 = .ok (.iadd, 1) := by decide +kernel
theorem dX11_aiHere_51 : decode cX11_aiHere 51 = .ok (.iconst 1, 1) := by decide +kernel
theorem dX11_aiHere_52 : decode cX11_aiHere 52 = .ok (.isub, 1) := by decide +kernel
theorem dX11_aiHere_53 : decode cX11_aiHere 53 = .ok (.invokevirtual 296, 3) := by decide +kernel
theorem dX11_aiHere_56 : decode cX11_aiHere 56 = .ok (.iadd, 1) := by decide +kernel
theorem dX11_aiHere_57 : decode cX11_aiHere 57 = .ok (.bipush 48, 2) := by decide +kernel
theorem dX11_aiHere_59 : decode cX11_aiHere 59 = .ok (.isub, 1) := by decide +kernel
theorem dX11_aiHere_60 : decode cX11_aiHere 60 = .ok (.istore_n 1, 1) := by decide +kernel
theorem dX11_aiHere_61 : decode cX11_aiHere 61 = .ok (.iload_n 2, 1) := by decide +kernel
theorem dX11_aiHere_62 : decode cX11_aiHere 62 = .ok (.iconst 1, 1) := by decide +kernel
theorem dX11_aiHere_63 : decode cX11_aiHere 63 = .ok (.if_icmp .le 12, 3) := by decide +kernel
theorem dX11_aiHere_66 : decode cX11_aiHere 66 = .ok (.aload_n 0, 1) := by decide +kernel
theorem dX11_aiHere_67 : decode cX11_aiHere 67 = .ok (.iload_n 1, 1) := by decide +kernel
theorem dX11_aiHere_68 : decode cX11_aiHere 68 = .ok (.iload_n 2, 1) := by decide +kernel
theorem dX11_aiHere_69 : decode cX11_aiHere 69 = .ok (.invokevirtual 342, 3) := by decide +kernel
theorem dX11_aiHere_72 : decode cX11_aiHere 72 = .ok (.goto 4, 3) := by decide +kernel
theorem dX11_aiHere_75 : decode cX11_aiHere 75 = .ok (.iconst (-1), 1) := by decide +kernel
theorem dX11_aiHere_76 : decode cX11_aiHere 76 = .ok (.istore_n 3, 1) := by decide +kernel
theorem dX11_aiHere_77 : decode cX11_aiHere 77 = .ok (.iload_n 3, 1) := by decide +kernel
theorem dX11_aiHere_78 : decode cX11_aiHere 78 = .ok (.ifCond .lt 5, 3) := by decide +kernel
theorem dX11_aiHere_81 : decode cX11_aiHere 81 = .ok (.iload_n 3, 1) := by decide +kernel
theorem dX11_aiHere_82 : decode cX11_aiHere 82 = .ok (.ireturn, 1) := by decide +kernel
theorem dX11_aiHere_83 : decode cX11_aiHere 83 = .ok (.iinc 2 1, 3) := by decide +kernel
theorem dX11_aiHere_86 : decode cX11_aiHere 86 = .ok (.goto (-82), 3) := by decide +kernel
theorem dX11_aiHere_89 : decode cX11_aiHere 89 = .ok (.iconst (-1), 1) := by decide +kernel
theorem dX11_aiHere_90 : decode cX11_aiHere 90 = .ok (.ireturn, 1) := by decide +kernel
theorem dX11_aiTo_0 : decode cX11_aiTo 0 = .ok (.iload_n 1, 1) := by decide +kernel
theorem dX11_aiTo_1 : decode cX11_aiTo 1 = .ok (.aload_n 0, 1) := by decide +kernel
theorem dX11_aiTo_2 : decode cX11_aiTo 2 = .ok (.getfield 88, 3) := by decide +kernel
theorem dX11_aiTo_5 : decode cX11_aiTo 5 = .ok (.isub, 1) := by decide +kernel
theorem dX11_aiTo_6 : decode cX11_aiTo 6 = .ok (.istore_n 2, 1) := by decide +kernel
theorem dX11_aiTo_7 : decode cX11_aiTo 7 = .ok (.iload_n 2, 1) := by decide +kernel
theorem dX11_aiTo_8 : decode cX11_aiTo 8 = .ok (.iconst 2, 1) := by decide +kernel
theorem dX11_aiTo_9 : decode cX11_aiTo 9 = .ok (.if_icmp .lt 8, 3) := by decide +kernel
theorem dX11_aiTo_12 : decode cX11_aiTo 12 = .ok (.iload_n 2, 1) := by decide +kernel
theorem dX11_aiTo_13 : decode cX11_aiTo 13 = .ok (.iconst 4, 1) := by decide +kernel
theorem dX11_aiTo_14 : decode cX11_aiTo 14 = .ok (.if_icmp .le 5, 3) := by decide +kernel
theorem dX11_aiTo_17 : decode cX11_aiTo 17 = .ok (.iconst (-1), 1) := by decide +kernel
theorem dX11_aiTo_18 : decode cX11_aiTo 18 = .ok (.ireturn, 1) := by decide +kernel
theorem dX11_aiTo_19 : decode cX11_aiTo 19 = .ok (.iconst 0, 1) := by decide +kernel
theorem dX11_aiTo_20 : decode cX11_aiTo 20 = .ok (.istore_n 3, 1) := by decide +kernel
theorem dX11_aiTo_21 : decode cX11_aiTo 21 = .ok (.aload_n 0, 1) := by decide +kernel
theorem dX11_aiTo_22 : decode cX11_aiTo 22 = .ok (.getfield 88, 3) := by decide +kernel
theorem dX11_aiTo_25 : decode cX11_aiTo 25 = .ok (.istore 4, 2) := by decide +kernel
theorem dX11_aiTo_27 : decode cX11_aiTo 27 = .ok (.iload 4, 2) := by decide +kernel
theorem dX11_aiTo_29 : decode cX11_aiTo 29 = .ok (.iload_n 1, 1) := by decide +kernel
theorem dX11_aiTo_30 : decode cX11_aiTo 30 = .ok (.if_icmp .ge 38, 3) := by decide +kernel
theorem dX11_aiTo_33 : decode cX11_aiTo 33 = .ok (.aload_n 0, 1) := by decide +kernel
theorem dX11_aiTo_34 : decode cX11_aiTo 34 = .ok (.iload 4, 2) := by decide +kernel
theorem dX11_aiTo_36 : decode cX11_aiTo 36 = .ok (.invokevirtual 296, 3) := by decide +kernel
theorem dX11_aiTo_39 : decode cX11_aiTo 39 = .ok (.invokestatic 332, 3) := by decide +kernel
theorem dX11_aiTo_42 : decode cX11_aiTo 42 = .ok (.ifCond .ne 5, 3) := by decide +kernel
theorem dX11_aiTo_45 : decode cX11_aiTo 45 = .ok (.iconst (-1), 1) := by decide +kernel
theorem dX11_aiTo_46 : decode cX11_aiTo 46 = .ok (.ireturn, 1) := by decide +kernel
theorem dX11_aiTo_47 : decode cX11_aiTo 47 = .ok (.bipush 10, 2) := by decide +kernel
theorem dX11_aiTo_49 : decode cX11_aiTo 49 = .ok (.iload_n 3, 1) := by decide +kernel
theorem dX11_aiTo_50 : decode cX11_aiTo 50 = .ok (.imul, 1) := by decide +kernel
theorem dX11_aiTo_51 : decode cX11_aiTo 51 = .ok (.aload_n 0, 1) := by decide +kernel
theorem dX11_aiTo_52 : decode cX11_aiTo 52 = .ok (.iload 4, 2) := by decide +kernel
theorem dX11_aiTo_54 : decode cX11_aiTo 54 = .ok (.invokevirtual 296, 3) := by decide +kernel
theorem dX11_aiTo_57 : decode cX11_aiTo 57 = .ok (.iadd, 1) := by decide +kernel
theorem dX11_aiTo_58 : decode cX11_aiTo 58 = .ok (.bipush 48, 2) := by decide +kernel
theorem dX11_aiTo_60 : decode cX11_aiTo 60 = .ok (.isub, 1) := by decide +kernel
theorem dX11_aiTo_61 : decode cX11_aiTo 61 = .ok (.istore_n 3, 1) := by decide +kernel
theorem dX11_aiTo_62 : decode cX11_aiTo 62 = .ok (.iinc 4 1, 3) := by decide +kernel
theorem dX11_aiTo_65 : decode cX11_aiTo 65 = .ok (.goto (-38), 3) := by decide +kernel
theorem dX11_aiTo_68 : decode cX11_aiTo 68 = .ok (.aload_n 0, 1) := by decide +kernel
theorem dX11_aiTo_69 : decode cX11_aiTo 69 = .ok (.iload_n 3, 1) := by decide +kernel
theorem dX11_aiTo_70 : decode cX11_aiTo 70 = .ok (.iload_n 2, 1) := by decide +kernel
theorem dX11_aiTo_71 : decode cX11_aiTo 71 = .ok (.invokevirtual 342, 3) := by decide +kernel
theorem dX11_aiTo_74 : decode cX11_aiTo 74 = .ok (.ireturn, 1) := by decide +kernel
theorem dX11_elements_0 : decode cX11_elements 0 = .ok (.aload_n 0, 1) := by decide +kernel
theorem dX11_elements_1 : decode cX11_elements 1 = .ok (.iconst 0, 1) := by decide +kernel
theorem dX11_elements_2 : decode cX11_elements 2 = .ok (.putfield 88, 3) := by decide +kernel
theorem dX11_elements_5 : decode cX11_elements 5 = .ok (.aload_n 0, 1) := by decide +kernel
theorem dX11_elements_6 : decode cX11_elements 6 = .ok (.getfield 51, 3) := by decide +kernel
theorem dX11_elements_9 : decode cX11_elements 9 = .ok (.bipush 9, 2) := by decide +kernel
theorem dX11_elements_11 : decode cX11_elements 11 = .ok (.iconst 0, 1) := by decide +kernel
theorem dX11_elements_12 : decode cX11_elements 12 = .ok (.iastore, 1) := by decide +kernel
theorem dX11_elements_13 : decode cX11_elements 13 = .ok (.iconst 1, 1) := by decide +kernel
theorem dX11_elements_14 : decode cX11_elements 14 = .ok (.istore_n 1, 1) := by decide +kernel
theorem dX11_elements_15 : decode cX11_elements 15 = .ok (.iload_n 1, 1) := by decide +kernel
theorem dX11_elements_16 : decode cX11_elements 16 = .ok (.ifCond .eq 331, 3) := by decide +kernel
theorem dX11_elements_19 : decode cX11_elements 19 = .ok (.aload_n 0, 1) := by decide +kernel
theorem dX11_elements_20 : decode cX11_elements 20 = .ok (.getfield 88, 3) := by decide +kernel
theorem dX11_elements_23 : decode cX11_elements 23 = .ok (.aload_n 0, 1) := by decide +kernel
theorem dX11_elements_24 : decode cX11_elements 24 = .ok (.getfield 76, 3) := by decide +kernel
theorem dX11_elements_27 : decode cX11_elements 27 = .ok (.if_icmp .ne 13, 3) := by decide +kernel
theorem dX11_elements_30 : decode cX11_elements 30 = .ok (.aload_n 0, 1) := by decide +kernel
theorem dX11_elements_31 : decode cX11_elements 31 = .ok (.iconst 1, 1) := by decide +kernel
theorem dX11_elements_32 : decode cX11_elements 32 = .ok (.aload_n 0, 1) := by decide +kernel
theorem dX11_elements_33 : decode cX11_elements 33 = .ok (.getfield 76, 3) := by decide +kernel
theorem dX11_elements_36 : decode cX11_elements 36 = .ok (.invokevirtual 304, 3) := by decide +kernel
theorem dX11_elements_39 : decode cX11_elements 39 = .ok (.ireturn, 1) := by decide +kernel
theorem dX11_elements_40 : decode cX11_elements 40 = .ok (.aload_n 0, 1) := by decide +kernel
theorem dX11_elements_41 : decode cX11_elements 41 = .ok (.getfield 88, 3) := by decide +kernel
theorem dX11_elements_44 : decode cX11_elements 44 = .ok (.istore_n 2, 1) := by decide +kernel
theorem dX11_elements_45 : decode cX11_elements 45 = .ok (.aload_n 0, 1) := by decide +kernel
theorem dX11_elements_46 : decode cX11_elements 46 = .ok (.getfield 91, 3) := by decide +kernel
theorem dX11_elements_49 : decode cX11_elements 49 = .ok (.ifCond .eq 86, 3) := by decide +kernel
theorem dX11_elements_52 : decode cX11_elements 52 = .ok (.aload_n 0, 1) := by decide +kernel
theorem dX11_elements_53 : decode cX11_elements 53 = .ok (.aload_n 0, 1) := by decide +kernel
theorem dX11_elements_54 : decode cX11_elements 54 = .ok (.getfield 88, 3) := by decide +kernel
theorem dX11_elements_57 : decode cX11_elements 57 = .ok (.invokevirtual 296, 3) := by decide +kernel
theorem dX11_elements_60 : decode cX11_elements 60 = .ok (.bipush 40, 2) := by decide +kernel
theorem dX11_elements_62 : decode cX11_elements 62 = .ok (.if_icmp .eq 13, 3) := by decide +kernel
theorem dX11_elements_65 : decode cX11_elements 65 = .ok (.aload_n 0, 1) := by decide +kernel
theorem dX11_elements_66 : decode cX11_elements 66 = .ok (.iconst 1, 1) := by decide +kernel
theorem dX11_elements_67 : decode cX11_elements 67 = .ok (.aload_n 0, 1) := by decide +kernel
theorem dX11_elements_68 : decode cX11_elements 68 = .ok (.getfield 88, 3) := by decide +kernel
theorem dX11_elements_71 : decode cX11_elements 71 = .ok (.invokevirtual 304, 3) := by decide +kernel
theorem dX11_elements_74 : decode cX11_elements 74 = .ok (.ireturn, 1) := by decide +kernel
theorem dX11_elements_75 : decode cX11_elements 75 = .ok (.aload_n 0, 1) := by decide +kernel
theorem dX11_elements_76 : decode cX11_elements 76 = .ok (.dup, 1) := by decide +kernel
theorem dX11_elements_77 : decode cX11_elements 77 = .ok (.getfield 88, 3) := by decide +kernel
theorem dX11_elements_80 : decode cX11_elements 80 = .ok (.iconst 1, 1) := by decide +kernel
theorem dX11_elements_81 : decode cX11_elements 81 = .ok (.iadd, 1) := by decide +kernel
theorem dX11_elements_82 : decode cX11_elements 82 = .ok (.putfield 88, 3) := by decide +kernel
theorem dX11_elements_85 : decode cX11_elements 85 = .ok (.aload_n 0, 1) := by decide +kernel
theorem dX11_elements_86 : decode cX11_elements 86 = .ok (.getfield 88, 3) := by decide +kernel
theorem dX11_elements_89 : decode cX11_elements 89 = .ok (.aload_n 0, 1) := by decide +kernel
theorem dX11_elements_90 : decode cX11_elements 90 = .ok (.getfield 76, 3) := by decide +kernel
theorem dX11_elements_93 : decode cX11_elements 93 = .ok (.if_icmp .ne 13, 3) := by decide +kernel
theorem dX11_elements_96 : decode cX11_elements 96 = .ok (.aload_n 0, 1) := by decide +kernel
theorem dX11_elements_97 : decode cX11_elements 97 = .ok (.iconst 1, 1) := by decide +kernel
theorem dX11_elements_98 : decode cX11_elements 98 = .ok (.aload_n 0, 1) := by decide +kernel
theorem dX11_elements_99 : decode cX11_elements 99 = .ok (.getfield 76, 3) := by decide +kernel
theorem dX11_elements_102 : decode cX11_elements 102 = .ok (.invokevirtual 304, 3) := by decide +kernel
theorem dX11_elements_105 : decode cX11_elements 105 = .ok (.ireturn, 1) := by decide +kernel
theorem dX11_elements_106 : decode cX11_elements 106 = .ok (.aload_n 0, 1) := by decide +kernel
theorem dX11_elements_107 : decode cX11_elements 107 = .ok (.getfield 88, 3) := by decide +kernel
theorem dX11_elements_110 : decode cX11_elements 110 = .ok (.istore_n 2, 1) := by decide +kernel
theorem dX11_elements_111 : decode cX11_elements 111 = .ok (.iload_n 2, 1) := by decide +kernel
theorem dX11_elements_112 : decode cX11_elements 112 = .ok (.aload_n 0, 1) := by decide +kernel
theorem dX11_elements_113 : decode cX11_elements 113 = .ok (.getfield 76, 3) := by decide +kernel
theorem dX11_elements_116 : decode cX11_elements 116 = .ok (.if_icmp .ge 19, 3) := by decide +kernel
theorem dX11_elements_119 : decode cX11_elements 119 = .ok (.aload_n 0, 1) := by decide +kernel
theorem dX11_elements_120 : decode cX11_elements 120 = .ok (.iload_n 2, 1) := by decide +kernel
theorem dX11_elements_121 : decode cX11_elements 121 = .ok (.invokevirtual 296, 3) := by decide +kernel
theorem dX11_elements_124 : decode cX11_elements 124 = .ok (.bipush 41, 2) := by decide +kernel
theorem dX11_elements_126 : decode cX11_elements 126 = .ok (.if_icmp .eq 9, 3) := by decide +kernel
theorem dX11_elements_129 : decode cX11_elements 129 = .ok (.iinc 2 1, 3) := by decide +kernel
theorem dX11_elements_132 : decode cX11_elements 132 = .ok (.goto (-21), 3) := by decide +kernel
theorem dX11_elements_135 : decode cX11_elements 135 = .ok (.aload_n 0, 1) := by decide +kernel
theorem dX11_elements_136 : decode cX11_elements 136 = .ok (.getfield 91, 3) := by decide +kernel
theorem dX11_elements_139 : decode cX11_elements 139 = .ok (.ifCond .eq 11, 3) := by decide +kernel
theorem dX11_elements_142 : decode cX11_elements 142 = .ok (.aload_n 0, 1) := by decide +kernel
theorem dX11_elements_143 : decode cX11_elements 143 = .ok (.iload_n 2, 1) := by decide +kernel
theorem dX11_elements_144 : decode cX11_elements 144 = .ok (.invokevirtual 345, 3) := by decide +kernel
theorem dX11_elements_147 : decode cX11_elements 147 = .ok (.goto 7, 3) := by decide +kernel
theorem dX11_elements_150 : decode cX11_elements 150 = .ok (.aload_n 0, 1) := by decide +kernel
theorem dX11_elements_151 : decode cX11_elements 151 = .ok (.invokevirtual 348, 3) := by decide +kernel
theorem dX11_elements_154 : decode cX11_elements 154 = .ok (.istore_n 3, 1) := by decide +kernel
theorem dX11_elements_155 : decode cX11_elements 155 = .ok (.iload_n 3, 1) := by decide +kernel
theorem dX11_elements_156 : decode cX11_elements 156 = .ok (.ifCond .ge 13, 3) := by decide +kernel
theorem dX11_elements_159 : decode cX11_elements 159 = .ok (.aload_n 0, 1) := by decide +kernel
theorem dX11_elements_160 : decode cX11_elements 160 = .ok (.iconst 2, 1) := by decide +kernel
theorem dX11_elements_161 : decode cX11_elements 161 = .ok (.aload_n 0, 1) := by decide +kernel
theorem dX11_elements_162 : decode cX11_elements 162 = .ok (.getfield 88, 3) := by decide +kernel
theorem dX11_elements_165 : decode cX11_elements 165 = .ok (.invokevirtual 304, 3) := by decide +kernel
theorem dX11_elements_168 : decode cX11_elements 168 = .ok (.ireturn, 1) := by decide +kernel
theorem dX11_elements_169 : decode cX11_elements 169 = .ok (.aload_n 0, 1) := by decide +kernel
theorem dX11_elements_170 : decode cX11_elements 170 = .ok (.getfield 51, 3) := by decide +kernel
theorem dX11_elements_173 : decode cX11_elements 173 = .ok (.bipush 9, 2) := by decide +kernel
theorem dX11_elements_175 : decode cX11_elements 175 = .ok (.iaload, 1) := by decide +kernel
theorem dX11_elements_176 : decode cX11_elements 176 = .ok (.bipush 20, 2) := by decide +kernel
theorem dX11_elements_178 : decode cX11_elements 178 = .ok (.if_icmp .ne 14, 3) := by decide +kernel
theorem dX11_elements_181 : decode cX11_elements 181 = .ok (.aload_n 0, 1) := by decide +kernel
theorem dX11_elements_182 : decode cX11_elements 182 = .ok (.bipush 9, 2) := by decide +kernel
theorem dX11_elements_184 : decode cX11_elements 184 = .ok (.aload_n 0, 1) := by decide +kernel
theorem dX11_elements_185 : decode cX11_elements 185 = .ok (.getfield 88, 3) := by decide +kernel
theorem dX11_elements_188 : decode cX11_elements 188 = .ok (.invokevirtual 304, 3) := by decide +kernel
theorem dX11_elements_191 : decode cX11_elements 191 = .ok (.ireturn, 1) := by decide +kernel
theorem dX11_elements_192 : decode cX11_elements 192 = .ok (.aload_n 0, 1) := by decide +kernel
theorem dX11_elements_193 : decode cX11_elements 193 = .ok (.getfield 98, 3) := by decide +kernel
theorem dX11_elements_196 : decode cX11_elements 196 = .ok (.aload_n 0, 1) := by decide +kernel
theorem dX11_elements_197 : decode cX11_elements 197 = .ok (.getfield 51, 3) := by decide +kernel
theorem dX11_elements_200 : decode cX11_elements 200 = .ok (.bipush 9, 2) := by decide +kernel
theorem dX11_elements_202 : decode cX11_elements 202 = .ok (.iaload, 1) := by decide +kernel
theorem dX11_elements_203 : decode cX11_elements 203 = .ok (.aload_n 0, 1) := by decide +kernel
theorem dX11_elements_204 : decode cX11_elements 204 = .ok (.getfield 88, 3) := by decide +kernel
theorem dX11_elements_207 : decode cX11_elements 207 = .ok (.iastore, 1) := by decide +kernel
theorem dX11_elements_208 : decode cX11_elements 208 = .ok (.aload_n 0, 1) := by decide +kernel
theorem dX11_elements_209 : decode cX11_elements 209 = .ok (.getfield 91, 3) := by decide +kernel
theorem dX11_elements_212 : decode cX11_elements 212 = .ok (.ifCond .eq 21, 3) := by decide +kernel
theorem dX11_elements_215 : decode cX11_elements 215 = .ok (.iload_n 2, 1) := by decide +kernel
theorem dX11_elements_216 : decode cX11_elements 216 = .ok (.aload_n 0, 1) := by decide +kernel
theorem dX11_elements_217 : decode cX11_elements 217 = .ok (.getfield 76, 3) := by decide +kernel
theorem dX11_elements_220 : decode cX11_elements 220 = .ok (.if_icmp .ne 13, 3) := by decide +kernel
theorem dX11_elements_223 : decode cX11_elements 223 = .ok (.aload_n 0, 1) := by decide +kernel
theorem dX11_elements_224 : decode cX11_elements 224 = .ok (.iconst 1, 1) := by decide +kernel
theorem dX11_elements_225 : decode cX11_elements 225 = .ok (.aload_n 0, 1) := by decide +kernel
theorem dX11_elements_226 : decode cX11_elements 226 = .ok (.getfield 76, 3) := by decide +kernel
theorem dX11_elements_229 : decode cX11_elements 229 = .ok (.invokevirtual 304, 3) := by decide +kernel
theorem dX11_elements_232 : decode cX11_elements 232 = .ok (.ireturn, 1) := by decide +kernel
theorem dX11_elements_233 : decode cX11_elements 233 = .ok (.aload_n 0, 1) := by decide +kernel
theorem dX11_elements_234 : decode cX11_elements 234 = .ok (.aload_n 0, 1) := by decide +kernel
theorem dX11_elements_235 : decode cX11_elements 235 = .ok (.getfield 91, 3) := by decide +kernel
theorem dX11_elements_238 : decode cX11_elements 238 = .ok (.ifCond .eq 9, 3) := by decide +kernel
theorem dX11_elements_241 : decode cX11_elements 241 = .ok (.iload_n 2, 1) := by decide +kernel
theorem dX11_elements_242 : decode cX11_elements 242 = .ok (.iconst 1, 1) := by decide +kernel
theorem dX11_elements_243 : decode cX11_elements 243 = .ok (.iadd, 1) := by decide +kernel
theorem dX11_elements_244 : decode cX11_elements 244 = .ok (.goto 14, 3) := by decide +kernel
theorem dX11_elements_247 : decode cX11_elements 247 = .ok (.aload_n 0, 1) := by decide +kernel
theorem dX11_elements_248 : decode cX11_elements 248 = .ok (.getfield 88, 3) := by decide +kernel
theorem dX11_elements_251 : decode cX11_elements 251 = .ok (.aload_n 0, 1) := by decide +kernel
theorem dX11_elements_252 : decode cX11_elements 252 = .ok (.getfield 16, 3) := by decide +kernel
theorem dX11_elements_255 : decode cX11_elements 255 = .ok (.iload_n 3, 1) := by decide +kernel
theorem dX11_elements_256 : decode cX11_elements 256 = .ok (.iaload, 1) := by decide +kernel
theorem dX11_elements_257 : decode cX11_elements 257 = .ok (.iadd, 1) := by decide +kernel
theorem dX11_elements_258 : decode cX11_elements 258 = .ok (.putfield 88, 3) := by decide +kernel
theorem dX11_elements_261 : decode cX11_elements 261 = .ok (.aload_n 0, 1) := by decide +kernel
theorem dX11_elements_262 : decode cX11_elements 262 = .ok (.sipush 180, 3) := by decide +kernel
theorem dX11_elements_265 : decode cX11_elements 265 = .ok (.aload_n 0, 1) := by decide +kernel
theorem dX11_elements_266 : decode cX11_elements 266 = .ok (.getfield 51, 3) := by decide +kernel
theorem dX11_elements_269 : decode cX11_elements 269 = .ok (.bipush 9, 2) := by decide +kernel
theorem dX11_elements_271 : decode cX11_elements 271 = .ok (.iaload, 1) := by decide +kernel
theorem dX11_elements_272 : decode cX11_elements 272 = .ok (.iadd, 1) := by decide +kernel
theorem dX11_elements_273 : decode cX11_elements 273 = .ok (.iload_n 3, 1) := by decide +kernel
theorem dX11_elements_274 : decode cX11_elements 274 = .ok (.invokevirtual 351, 3) := by decide +kernel
theorem dX11_elements_277 : decode cX11_elements 277 = .ok (.ifCond .ne 5, 3) := by decide +kernel
theorem dX11_elements_280 : decode cX11_elements 280 = .ok (.iconst 0, 1) := by decide +kernel
theorem dX11_elements_281 : decode cX11_elements 281 = .ok (.ireturn, 1) := by decide +kernel
theorem dX11_elements_282 : decode cX11_elements 282 = .ok (.aload_n 0, 1) := by decide +kernel
theorem dX11_elements_283 : decode cX11_elements 283 = .ok (.getfield 51, 3) := by decide +kernel
theorem dX11_elements_286 : decode cX11_elements 286 = .ok (.bipush 9, 2) := by decide +kernel
theorem dX11_elements_288 : decode cX11_elements 288 = .ok (.dup2, 1) := by decide +kernel
theorem dX11_elements_289 : decode cX11_elements 289 = .ok (.iaload, 1) := by decide +kernel
theorem dX11_elements_290 : decode cX11_elements 290 = .ok (.iconst 1, 1) := by decide +kernel
theorem dX11_elements_291 : decode cX11_elements 291 = .ok (.iadd, 1) := by decide +kernel
theorem dX11_elements_292 : decode cX11_elements 292 = .ok (.iastore, 1) := by decide +kernel
theorem dX11_elements_293 : decode cX11_elements 293 = .ok (.aload_n 0, 1) := by decide +kernel
theorem dX11_elements_294 : decode cX11_elements 294 = .ok (.getfield 88, 3) := by decide +kernel
theorem dX11_elements_297 : decode cX11_elements 297 = .ok (.aload_n 0, 1) := by decide +kernel
theorem dX11_elements_298 : decode cX11_elements 298 = .ok (.getfield 76, 3) := by decide +kernel
theorem dX11_elements_301 : decode cX11_elements 301 = .ok (.if_icmp .ge 7, 3) := by decide +kernel
theorem dX11_elements_304 : decode cX11_elements 304 = .ok (.iconst 1, 1) := by decide +kernel
theorem dX11_elements_305 : decode cX11_elements 305 = .ok (.goto 4, 3) := by decide +kernel
theorem dX11_elements_308 : decode cX11_elements 308 = .ok (.iconst 0, 1) := by decide +kernel
theorem dX11_elements_309 : decode cX11_elements 309 = .ok (.istore_n 1, 1) := by decide +kernel
theorem dX11_elements_310 : decode cX11_elements 310 = .ok (.iload_n 1, 1) := by decide +kernel
theorem dX11_elements_311 : decode cX11_elements 311 = .ok (.ifCond .eq 33, 3) := by decide +kernel
theorem dX11_elements_314 : decode cX11_elements 314 = .ok (.aload_n 0, 1) := by decide +kernel
theorem dX11_elements_315 : decode cX11_elements 315 = .ok (.getfield 91, 3) := by decide +kernel
theorem dX11_elements_318 : decode cX11_elements 318 = .ok (.ifCond .ne 26, 3) := by decide +kernel
theorem dX11_elements_321 : decode cX11_elements 321 = .ok (.aload_n 0, 1) := by decide +kernel
theorem dX11_elements_322 : decode cX11_elements 322 = .ok (.aload_n 0, 1) := by decide +kernel
theorem dX11_elements_323 : decode cX11_elements 323 = .ok (.getfield 88, 3) := by decide +kernel
theorem dX11_elements_326 : decode cX11_elements 326 = .ok (.invokevirtual 296, 3) := by decide +kernel
theorem dX11_elements_329 : decode cX11_elements 329 = .ok (.bipush 29, 2) := by decide +kernel
theorem dX11_elements_331 : decode cX11_elements 331 = .ok (.if_icmp .ne 13, 3) := by decide +kernel
theorem dX11_elements_334 : decode cX11_elements 334 = .ok (.aload_n 0, 1) := by decide +kernel
theorem dX11_elements_335 : decode cX11_elements 335 = .ok (.dup, 1) := by decide +kernel
theorem dX11_elements_336 : decode cX11_elements 336 = .ok (.getfield 88, 3) := by decide +kernel
theorem dX11_elements_339 : decode cX11_elements 339 = .ok (.iconst 1, 1) := by decide +kernel
theorem dX11_elements_340 : decode cX11_elements 340 = .ok (.iadd, 1) := by decide +kernel
theorem dX11_elements_341 : decode cX11_elements 341 = .ok (.putfield 88, 3) := by decide +kernel
theorem dX11_elements_344 : decode cX11_elements 344 = .ok (.goto (-329), 3) := by decide +kernel
theorem dX11_elements_347 : decode cX11_elements 347 = .ok (.iconst 1, 1) := by decide +kernel
theorem dX11_elements_348 : decode cX11_elements 348 = .ok (.ireturn, 1) := by decide +kernel
theorem dX11_has_0 : decode cX11_has 0 = .ok (.iconst 0, 1) := by decide +kernel
theorem dX11_has_1 : decode cX11_has 1 = .ok (.istore 4, 2) := by decide +kernel
theorem dX11_has_3 : decode cX11_has 3 = .ok (.iload 4, 2) := by decide +kernel
theorem dX11_has_5 : decode cX11_has 5 = .ok (.aload_n 0, 1) := by decide +kernel
theorem dX11_has_6 : decode cX11_has 6 = .ok (.getfield 51, 3) := by decide +kernel
theorem dX11_has_9 : decode cX11_has 9 = .ok (.iload_n 1, 1) := by decide +kernel
theorem dX11_has_10 : decode cX11_has 10 = .ok (.iaload, 1) := by decide +kernel
theorem dX11_has_11 : decode cX11_has 11 = .ok (.if_icmp .ge 47, 3) := by decide +kernel
theorem dX11_has_14 : decode cX11_has 14 = .ok (.aload_n 0, 1) := by decide +kernel
theorem dX11_has_15 : decode cX11_has 15 = .ok (.getfield 54, 3) := by decide +kernel
theorem dX11_has_18 : decode cX11_has 18 = .ok (.bipush 20, 2) := by decide +kernel
theorem dX11_has_20 : decode cX11_has 20 = .ok (.iload_n 1, 1) := by decide +kernel
theorem dX11_has_21 : decode cX11_has 21 = .ok (.imul, 1) := by decide +kernel
theorem dX11_has_22 : decode cX11_has 22 = .ok (.iload 4, 2) := by decide +kernel
theorem dX11_has_24 : decode cX11_has 24 = .ok (.iadd, 1) := by decide +kernel
theorem dX11_has_25 : decode cX11_has 25 = .ok (.iaload, 1) := by decide +kernel
theorem dX11_has_26 : decode cX11_has 26 = .ok (.istore 5, 2) := by decide +kernel
theorem dX11_has_28 : decode cX11_has 28 = .ok (.aload_n 0, 1) := by decide +kernel
theorem dX11_has_29 : decode cX11_has 29 = .ok (.getfield 13, 3) := by decide +kernel
theorem dX11_has_32 : decode cX11_has 32 = .ok (.iload 5, 2) := by decide +kernel
theorem dX11_has_34 : decode cX11_has 34 = .ok (.iaload, 1) := by decide +kernel
theorem dX11_has_35 : decode cX11_has 35 = .ok (.iload_n 2, 1) := by decide +kernel
theorem dX11_has_36 : decode cX11_has 36 = .ok (.if_icmp .ne 16, 3) := by decide +kernel
theorem dX11_has_39 : decode cX11_has 39 = .ok (.aload_n 0, 1) := by decide +kernel
theorem dX11_has_40 : decode cX11_has 40 = .ok (.getfield 16, 3) := by decide +kernel
theorem dX11_has_43 : decode cX11_has 43 = .ok (.iload 5, 2) := by decide +kernel
theorem dX11_has_45 : decode cX11_has 45 = .ok (.iaload, 1) := by decide +kernel
theorem dX11_has_46 : decode cX11_has 46 = .ok (.iload_n 3, 1) := by decide +kernel
theorem dX11_has_47 : decode cX11_has 47 = .ok (.if_icmp .ne 5, 3) := by decide +kernel
theorem dX11_has_50 : decode cX11_has 50 = .ok (.iconst 1, 1) := by decide +kernel
theorem dX11_has_51 : decode cX11_has 51 = .ok (.ireturn, 1) := by decide +kernel
theorem dX11_has_52 : decode cX11_has 52 = .ok (.iinc 4 1, 3) := by decide +kernel
theorem dX11_has_55 : decode cX11_has 55 = .ok (.goto (-52), 3) := by decide +kernel
theorem dX11_has_58 : decode cX11_has 58 = .ok (.iconst 0, 1) := by decide +kernel
theorem dX11_has_59 : decode cX11_has 59 = .ok (.ireturn, 1) := by decide +kernel
theorem dX11_isItem_0 : decode cX11_isItem 0 = .ok (.aload_n 0, 1) := by decide +kernel
theorem dX11_isItem_1 : decode cX11_isItem 1 = .ok (.iload_n 1, 1) := by decide +kernel
theorem dX11_isItem_2 : decode cX11_isItem 2 = .ok (.iconst 1, 1) := by decide +kernel
theorem dX11_isItem_3 : decode cX11_isItem 3 = .ok (.iconst 2, 1) := by decide +kernel
theorem dX11_isItem_4 : decode cX11_isItem 4 = .ok (.invokevirtual 354, 3) := by decide +kernel
theorem dX11_isItem_7 : decode cX11_isItem 7 = .ok (.ifCond .ne 13, 3) := by decide +kernel
theorem dX11_isItem_10 : decode cX11_isItem 10 = .ok (.aload_n 0, 1) := by decide +kernel
theorem dX11_isItem_11 : decode cX11_isItem 11 = .ok (.iload_n 1, 1) := by decide +kernel
theorem dX11_isItem_12 : decode cX11_isItem 12 = .ok (.iconst 2, 1) := by decide +kernel
theorem dX11_isItem_13 : decode cX11_isItem 13 = .ok (.iconst 2, 1) := by decide +kernel
theorem dX11_isItem_14 : decode cX11_isItem 14 = .ok (.invokevirtual 354, 3) := by decide +kernel
theorem dX11_isItem_17 : decode cX11_isItem 17 = .ok (.ifCond .eq 7, 3) := by decide +kernel
theorem dX11_isItem_20 : decode cX11_isItem 20 = .ok (.iconst 1, 1) := by decide +kernel
theorem dX11_isItem_21 : decode cX11_isItem 21 = .ok (.goto 4, 3) := by decide +kernel
theorem dX11_isItem_24 : decode cX11_isItem 24 = .ok (.iconst 0, 1) := by decide +kernel
theorem dX11_isItem_25 : decode cX11_isItem 25 = .ok (.ireturn, 1) := by decide +kernel
theorem dX11_isPiece_0 : decode cX11_isPiece 0 = .ok (.aload_n 0, 1) := by decide +kernel
theorem dX11_isPiece_1 : decode cX11_isPiece 1 = .ok (.iload_n 1, 1) := by decide +kernel
theorem dX11_isPiece_2 : decode cX11_isPiece 2 = .ok (.sipush 8006, 3) := by decide +kernel
theorem dX11_isPiece_5 : decode cX11_isPiece 5 = .ok (.iconst 4, 1) := by decide +kernel
theorem dX11_isPiece_6 : decode cX11_isPiece 6 = .ok (.invokevirtual 354, 3) := by decide +kernel
theorem dX11_isPiece_9 : decode cX11_isPiece 9 = .ok (.ifCond .ne 15, 3) := by decide +kernel
theorem dX11_isPiece_12 : decode cX11_isPiece 12 = .ok (.aload_n 0, 1) := by decide +kernel
theorem dX11_isPiece_13 : decode cX11_isPiece 13 = .ok (.iload_n 1, 1) := by decide +kernel
theorem dX11_isPiece_14 : decode cX11_isPiece 14 = .ok (.sipush 8026, 3) := by decide +kernel
theorem dX11_isPiece_17 : decode cX11_isPiece 17 = .ok (.iconst 4, 1) := by decide +kernel
theorem dX11_isPiece_18 : decode cX11_isPiece 18 = .ok (.invokevirtual 354, 3) := by decide +kernel
theorem dX11_isPiece_21 : decode cX11_isPiece 21 = .ok (.ifCond .eq 7, 3) := by decide +kernel
theorem dX11_isPiece_24 : decode cX11_isPiece 24 = .ok (.iconst 1, 1) := by decide +kernel
theorem dX11_isPiece_25 : decode cX11_isPiece 25 = .ok (.goto 4, 3) := by decide +kernel
theorem dX11_isPiece_28 : decode cX11_isPiece 28 = .ok (.iconst 0, 1) := by decide +kernel
theorem dX11_isPiece_29 : decode cX11_isPiece 29 = .ok (.ireturn, 1) := by decide +kernel
theorem dX11_wants_0 : decode cX11_wants 0 = .ok (.aload_n 0, 1) := by decide +kernel
theorem dX11_wants_1 : decode cX11_wants 1 = .ok (.getfield 13, 3) := by decide +kernel
theorem dX11_wants_4 : decode cX11_wants 4 = .ok (.iload_n 2, 1) := by decide +kernel
theorem dX11_wants_5 : decode cX11_wants 5 = .ok (.iaload, 1) := by decide +kernel
theorem dX11_wants_6 : decode cX11_wants 6 = .ok (.istore_n 3, 1) := by decide +kernel
theorem dX11_wants_7 : decode cX11_wants 7 = .ok (.aload_n 0, 1) := by decide +kernel
theorem dX11_wants_8 : decode cX11_wants 8 = .ok (.getfield 19, 3) := by decide +kernel
theorem dX11_wants_11 : decode cX11_wants 11 = .ok (.iload_n 2, 1) := by decide +kernel
theorem dX11_wants_12 : decode cX11_wants 12 = .ok (.iaload, 1) := by decide +kernel
theorem dX11_wants_13 : decode cX11_wants 13 = .ok (.ifCond .lt 103, 3) := by decide +kernel
theorem dX11_wants_16 : decode cX11_wants 16 = .ok (.iload_n 3, 1) := by decide +kernel
theorem dX11_wants_17 : decode cX11_wants 17 = .ok (.bipush 10, 2) := by decide +kernel
theorem dX11_wants_19 : decode cX11_wants 19 = .ok (.idiv, 1) := by decide +kernel
theorem dX11_wants_20 : decode cX11_wants 20 = .ok (.istore 4, 2) := by decide +kernel
theorem dX11_wants_22 : decode cX11_wants 22 = .ok (.iload 4, 2) := by decide +kernel
theorem dX11_wants_24 : decode cX11_wants 24 = .ok (.sipush 310, 3) := by decide +kernel
theorem dX11_wants_27 : decode cX11_wants 27 = .ok (.if_icmp .lt 17, 3) := by decide +kernel
theorem dX11_wants_30 : decode cX11_wants 30 = .ok (.iload 4, 2) := by decide +kernel
theorem dX11_wants_32 : decode cX11_wants 32 = .ok (.sipush 316, 3) := by decide +kernel
theorem dX11_wants_35 : decode cX11_wants 35 = .ok (.if_icmp .gt 9, 3) := by decide +kernel
theorem dX11_wants_38 : decode cX11_wants 38 = .ok (.aload_n 0, 1) := by decide +kernel
theorem dX11_wants_39 : decode cX11_wants 39 = .ok (.iload_n 1, 1) := by decide +kernel
theorem dX11_wants_40 : decode cX11_wants 40 = .ok (.invokevirtual 358, 3) := by decide +kernel
theorem dX11_wants_43 : decode cX11_wants 43 = .ok (.ireturn, 1) := by decide +kernel
theorem dX11_wants_44 : decode cX11_wants 44 = .ok (.iload 4, 2) := by decide +kernel
theorem dX11_wants_46 : decode cX11_wants 46 = .ok (.sipush 392, 3) := by decide +kernel
theorem dX11_wants_49 : decode cX11_wants 49 = .ok (.if_icmp .eq 11, 3) := by decide +kernel
theorem dX11_wants_52 : decode cX11_wants 52 = .ok (.iload 4, 2) := by decide +kernel
theorem dX11_wants_54 : decode cX11_wants 54 = .ok (.sipush 393, 3) := by decide +kernel
theorem dX11_wants_57 : decode cX11_wants 57 = .ok (.if_icmp .ne 11, 3) := by decide +kernel
theorem dX11_wants_60 : decode cX11_wants 60 = .ok (.aload_n 0, 1) := by decide +kernel
theorem dX11_wants_61 : decode cX11_wants 61 = .ok (.iload_n 1, 1) := by decide +kernel
theorem dX11_wants_62 : decode cX11_wants 62 = .ok (.iconst 1, 1) := by decide +kernel
theorem dX11_wants_63 : decode cX11_wants 63 = .ok (.iconst 2, 1) := by decide +kernel
theorem dX11_wants_64 : decode cX11_wants 64 = .ok (.invokevirtual 354, 3) := by decide +kernel
theorem dX11_wants_67 : decode cX11_wants 67 = .ok (.ireturn, 1) := by decide +kernel
theorem dX11_wants_68 : decode cX11_wants 68 = .ok (.iload 4, 2) := by decide +kernel
theorem dX11_wants_70 : decode cX11_wants 70 = .ok (.sipush 390, 3) := by decide +kernel
theorem dX11_wants_73 : decode cX11_wants 73 = .ok (.if_icmp .eq 11, 3) := by decide +kernel
theorem dX11_wants_76 : decode cX11_wants 76 = .ok (.iload 4, 2) := by decide +kernel
theorem dX11_wants_78 : decode cX11_wants 78 = .ok (.sipush 391, 3) := by decide +kernel
theorem dX11_wants_81 : decode cX11_wants 81 = .ok (.if_icmp .ne 33, 3) := by decide +kernel
theorem dX11_wants_84 : decode cX11_wants 84 = .ok (.aload_n 0, 1) := by decide +kernel
theorem dX11_wants_85 : decode cX11_wants 85 = .ok (.iload_n 1, 1) := by decide +kernel
theorem dX11_wants_86 : decode cX11_wants 86 = .ok (.sipush 255, 3) := by decide +kernel
theorem dX11_wants_89 : decode cX11_wants 89 = .ok (.iconst 3, 1) := by decide +kernel
theorem dX11_wants_90 : decode cX11_wants 90 = .ok (.invokevirtual 354, 3) := by decide +kernel
theorem dX11_wants_93 : decode cX11_wants 93 = .ok (.ifCond .ne 15, 3) := by decide +kernel
theorem dX11_wants_96 : decode cX11_wants 96 = .ok (.aload_n 0, 1) := by decide +kernel
theorem dX11_wants_97 : decode cX11_wants 97 = .ok (.iload_n 1, 1) := by decide +kernel
theorem dX11_wants_98 : decode cX11_wants 98 = .ok (.sipush 8020, 3) := by decide +kernel
theorem dX11_wants_101 : decode cX11_wants 101 = .ok (.iconst 4, 1) := by decide +kernel
theorem dX11_wants_102 : decode cX11_wants 102 = .ok (.invokevirtual 354, 3) := by decide +kernel
theorem dX11_wants_105 : decode cX11_wants 105 = .ok (.ifCond .eq 7, 3) := by decide +kernel
theorem dX11_wants_108 : decode cX11_wants 108 = .ok (.iconst 1, 1) := by decide +kernel
theorem dX11_wants_109 : decode cX11_wants 109 = .ok (.goto 4, 3) := by decide +kernel
theorem dX11_wants_112 : decode cX11_wants 112 = .ok (.iconst 0, 1) := by decide +kernel
theorem dX11_wants_113 : decode cX11_wants 113 = .ok (.ireturn, 1) := by decide +kernel
theorem dX11_wants_114 : decode cX11_wants 114 = .ok (.iconst 1, 1) := by decide +kernel
theorem dX11_wants_115 : decode cX11_wants 115 = .ok (.ireturn, 1) := by decide +kernel
theorem dX11_wants_116 : decode cX11_wants 116 = .ok (.iload_n 3, 1) := by decide +kernel
theorem dX11_wants_117 : decode cX11_wants 117 = .ok (.iconst 2, 1) := by decide +kernel
theorem dX11_wants_118 : decode cX11_wants 118 = .ok (.if_icmp .ne 12, 3) := by decide +kernel
theorem dX11_wants_121 : decode cX11_wants 121 = .ok (.aload_n 0, 1) := by decide +kernel
theorem dX11_wants_122 : decode cX11_wants 122 = .ok (.iload_n 1, 1) := by decide +kernel
theorem dX11_wants_123 : decode cX11_wants 123 = .ok (.bipush 37, 2) := by decide +kernel
theorem dX11_wants_125 : decode cX11_wants 125 = .ok (.iconst 2, 1) := by decide +kernel
theorem dX11_wants_126 : decode cX11_wants 126 = .ok (.invokevirtual 354, 3) := by decide +kernel
theorem dX11_wants_129 : decode cX11_wants 129 = .ok (.ireturn, 1) := by decide +kernel
theorem dX11_wants_130 : decode cX11_wants 130 = .ok (.iload_n 3, 1) := by decide +kernel
theorem dX11_wants_131 : decode cX11_wants 131 = .ok (.bipush 37, 2) := by decide +kernel
theorem dX11_wants_133 : decode cX11_wants 133 = .ok (.if_icmp .ne 11, 3) := by decide +kernel
theorem dX11_wants_136 : decode cX11_wants 136 = .ok (.aload_n 0, 1) := by decide +kernel
theorem dX11_wants_137 : decode cX11_wants 137 = .ok (.iload_n 1, 1) := by decide +kernel
theorem dX11_wants_138 : decode cX11_wants 138 = .ok (.iconst 2, 1) := by decide +kernel
theorem dX11_wants_139 : decode cX11_wants 139 = .ok (.iconst 2, 1) := by decide +kernel
theorem dX11_wants_140 : decode cX11_wants 140 = .ok (.invokevirtual 354, 3) := by decide +kernel
theorem dX11_wants_143 : decode cX11_wants 143 = .ok (.ireturn, 1) := by decide +kernel
theorem dX11_wants_144 : decode cX11_wants 144 = .ok (.iload_n 3, 1) := by decide +kernel
theorem dX11_wants_145 : decode cX11_wants 145 = .ok (.iconst 1, 1) := by decide +kernel
theorem dX11_wants_146 : decode cX11_wants 146 = .ok (.if_icmp .ne 19, 3) := by decide +kernel
theorem dX11_wants_149 : decode cX11_wants 149 = .ok (.aload_n 0, 1) := by decide +kernel
theorem dX11_wants_150 : decode cX11_wants 150 = .ok (.iload_n 1, 1) := by decide +kernel
theorem dX11_wants_151 : decode cX11_wants 151 = .ok (.iconst 2, 1) := by decide +kernel
theorem dX11_wants_152 : decode cX11_wants 152 = .ok (.iconst 2, 1) := by decide +kernel
theorem dX11_wants_153 : decode cX11_wants 153 = .ok (.invokevirtual 354, 3) := by decide +kernel
theorem dX11_wants_156 : decode cX11_wants 156 = .ok (.ifCond .ne 7, 3) := by decide +kernel
theorem dX11_wants_159 : decode cX11_wants 159 = .ok (.iconst 1, 1) := by decide +kernel
theorem dX11_wants_160 : decode cX11_wants 160 = .ok (.goto 4, 3) := by decide +kernel
theorem dX11_wants_163 : decode cX11_wants 163 = .ok (.iconst 0, 1) := by decide +kernel
theorem dX11_wants_164 : decode cX11_wants 164 = .ok (.ireturn, 1) := by decide +kernel
theorem dX11_wants_165 : decode cX11_wants 165 = .ok (.iload_n 3, 1) := by decide +kernel
theorem dX11_wants_166 : decode cX11_wants 166 = .ok (.bipush 10, 2) := by decide +kernel
theorem dX11_wants_168 : decode cX11_wants 168 = .ok (.if_icmp .eq 27, 3) := by decide +kernel
theorem dX11_wants_171 : decode cX11_wants 171 = .ok (.iload_n 3, 1) := by decide +kernel
theorem dX11_wants_172 : decode cX11_wants 172 = .ok (.bipush 11, 2) := by decide +kernel
theorem dX11_wants_174 : decode cX11_wants 174 = .ok (.if_icmp .eq 21, 3) := by decide +kernel
theorem dX11_wants_177 : decode cX11_wants 177 = .ok (.iload_n 3, 1) := by decide +kernel
theorem dX11_wants_178 : decode cX11_wants 178 = .ok (.bipush 13, 2) := by decide +kernel
theorem dX11_wants_180 : decode cX11_wants 180 = .ok (.if_icmp .eq 15, 3) := by decide +kernel
theorem dX11_wants_183 : decode cX11_wants 183 = .ok (.iload_n 3, 1) := by decide +kernel
theorem dX11_wants_184 : decode cX11_wants 184 = .ok (.bipush 15, 2) := by decide +kernel
theorem dX11_wants_186 : decode cX11_wants 186 = .ok (.if_icmp .lt 31, 3) := by decide +kernel
theorem dX11_wants_189 : decode cX11_wants 189 = .ok (.iload_n 3, 1) := by decide +kernel
theorem dX11_wants_190 : decode cX11_wants 190 = .ok (.bipush 17, 2) := by decide +kernel
theorem dX11_wants_192 : decode cX11_wants 192 = .ok (.if_icmp .gt 25, 3) := by decide +kernel
theorem dX11_wants_195 : decode cX11_wants 195 = .ok (.aload_n 0, 1) := by decide +kernel
theorem dX11_wants_196 : decode cX11_wants 196 = .ok (.iload_n 1, 1) := by decide +kernel
theorem dX11_wants_197 : decode cX11_wants 197 = .ok (.invokevirtual 358, 3) := by decide +kernel
theorem dX11_wants_200 : decode cX11_wants 200 = .ok (.ifCond .ne 11, 3) := by decide +kernel
theorem dX11_wants_203 : decode cX11_wants 203 = .ok (.aload_n 0, 1) := by decide +kernel
theorem dX11_wants_204 : decode cX11_wants 204 = .ok (.iload_n 1, 1) := by decide +kernel
theorem dX11_wants_205 : decode cX11_wants 205 = .ok (.invokevirtual 361, 3) := by decide +kernel
theorem dX11_wants_208 : decode cX11_wants 208 = .ok (.ifCond .eq 7, 3) := by decide +kernel
theorem dX11_wants_211 : decode cX11_wants 211 = .ok (.iconst 1, 1) := by decide +kernel
theorem dX11_wants_212 : decode cX11_wants 212 = .ok (.goto 4, 3) := by decide +kernel
theorem dX11_wants_215 : decode cX11_wants 215 = .ok (.iconst 0, 1) := by decide +kernel
theorem dX11_wants_216 : decode cX11_wants 216 = .ok (.ireturn, 1) := by decide +kernel
theorem dX11_wants_217 : decode cX11_wants 217 = .ok (.iload_n 3, 1) := by decide +kernel
theorem dX11_wants_218 : decode cX11_wants 218 = .ok (.bipush 21, 2) := by decide +kernel
theorem dX11_wants_220 : decode cX11_wants 220 = .ok (.if_icmp .ne 31, 3) := by decide +kernel
theorem dX11_wants_223 : decode cX11_wants 223 = .ok (.aload_n 0, 1) := by decide +kernel
theorem dX11_wants_224 : decode cX11_wants 224 = .ok (.iload_n 1, 1) := by decide +kernel
theorem dX11_wants_225 : decode cX11_wants 225 = .ok (.iconst 1, 1) := by decide +kernel
theorem dX11_wants_226 : decode cX11_wants 226 = .ok (.iconst 2, 1) := by decide +kernel
theorem dX11_wants_227 : decode cX11_wants 227 = .ok (.invokevirtual 354, 3) := by decide +kernel
theorem dX11_wants_230 : decode cX11_wants 230 = .ok (.ifCond .ne 15, 3) := by decide +kernel
theorem dX11_wants_233 : decode cX11_wants 233 = .ok (.aload_n 0, 1) := by decide +kernel
theorem dX11_wants_234 : decode cX11_wants 234 = .ok (.iload_n 1, 1) := by decide +kernel
theorem dX11_wants_235 : decode cX11_wants 235 = .ok (.sipush 8006, 3) := by decide +kernel
theorem dX11_wants_238 : decode cX11_wants 238 = .ok (.iconst 4, 1) := by decide +kernel
theorem dX11_wants_239 : decode cX11_wants 239 = .ok (.invokevirtual 354, 3) := by decide +kernel
theorem dX11_wants_242 : decode cX11_wants 242 = .ok (.ifCond .eq 7, 3) := by decide +kernel
theorem dX11_wants_245 : decode cX11_wants 245 = .ok (.iconst 1, 1) := by decide +kernel
theorem dX11_wants_246 : decode cX11_wants 246 = .ok (.goto 4, 3) := by decide +kernel
theorem dX11_wants_249 : decode cX11_wants 249 = .ok (.iconst 0, 1) := by decide +kernel
theorem dX11_wants_250 : decode cX11_wants 250 = .ok (.ireturn, 1) := by decide +kernel
theorem dX11_wants_251 : decode cX11_wants 251 = .ok (.iload_n 3, 1) := by decide +kernel
theorem dX11_wants_252 : decode cX11_wants 252 = .ok (.sipush 420, 3) := by decide +kernel
theorem dX11_wants_255 : decode cX11_wants 255 = .ok (.if_icmp .ne 21, 3) := by decide +kernel
theorem dX11_wants_258 : decode cX11_wants 258 = .ok (.aload_n 0, 1) := by decide +kernel
theorem dX11_wants_259 : decode cX11_wants 259 = .ok (.iload_n 1, 1) := by decide +kernel
theorem dX11_wants_260 : decode cX11_wants 260 = .ok (.sipush 421, 3) := by decide +kernel
theorem dX11_wants_263 : decode cX11_wants 263 = .ok (.iconst 3, 1) := by decide +kernel
theorem dX11_wants_264 : decode cX11_wants 264 = .ok (.invokevirtual 354, 3) := by decide +kernel
theorem dX11_wants_267 : decode cX11_wants 267 = .ok (.ifCond .ne 7, 3) := by decide +kernel
theorem dX11_wants_270 : decode cX11_wants 270 = .ok (.iconst 1, 1) := by decide +kernel
theorem dX11_wants_271 : decode cX11_wants 271 = .ok (.goto 4, 3) := by decide +kernel
theorem dX11_wants_274 : decode cX11_wants 274 = .ok (.iconst 0, 1) := by decide +kernel
theorem dX11_wants_275 : decode cX11_wants 275 = .ok (.ireturn, 1) := by decide +kernel
theorem dX11_wants_276 : decode cX11_wants 276 = .ok (.iload_n 3, 1) := by decide +kernel
theorem dX11_wants_277 : decode cX11_wants 277 = .ok (.sipush 8018, 3) := by decide +kernel
theorem dX11_wants_280 : decode cX11_wants 280 = .ok (.if_icmp .ne 21, 3) := by decide +kernel
theorem dX11_wants_283 : decode cX11_wants 283 = .ok (.aload_n 0, 1) := by decide +kernel
theorem dX11_wants_284 : decode cX11_wants 284 = .ok (.iload_n 1, 1) := by decide +kernel
theorem dX11_wants_285 : decode cX11_wants 285 = .ok (.sipush 8017, 3) := by decide +kernel
theorem dX11_wants_288 : decode cX11_wants 288 = .ok (.iconst 4, 1) := by decide +kernel
theorem dX11_wants_289 : decode cX11_wants 289 = .ok (.invokevirtual 354, 3) := by decide +kernel
theorem dX11_wants_292 : decode cX11_wants 292 = .ok (.ifCond .ne 7, 3) := by decide +kernel
theorem dX11_wants_295 : decode cX11_wants 295 = .ok (.iconst 1, 1) := by decide +kernel
theorem dX11_wants_296 : decode cX11_wants 296 = .ok (.goto 4, 3) := by decide +kernel
theorem dX11_wants_299 : decode cX11_wants 299 = .ok (.iconst 0, 1) := by decide +kernel
theorem dX11_wants_300 : decode cX11_wants 300 = .ok (.ireturn, 1) := by decide +kernel
theorem dX11_wants_301 : decode cX11_wants 301 = .ok (.iconst 1, 1) := by decide +kernel
theorem dX11_wants_302 : decode cX11_wants 302 = .ok (.ireturn, 1) := by decide +kernel
theorem dX11_isTwice_0 : decode cX11_isTwice 0 = .ok (.iconst 0, 1) := by decide +kernel
theorem dX11_isTwice_1 : decode cX11_isTwice 1 = .ok (.istore_n 3, 1) := by decide +kernel
theorem dX11_isTwice_2 : decode cX11_isTwice 2 = .ok (.iload_n 3, 1) := by decide +kernel
theorem dX11_isTwice_3 : decode cX11_isTwice 3 = .ok (.iload_n 2, 1) := by decide +kernel
theorem dX11_isTwice_4 : decode cX11_isTwice 4 = .ok (.if_icmp .ge 44, 3) := by decide +kernel
theorem dX11_isTwice_7 : decode cX11_isTwice 7 = .ok (.aload_n 0, 1) := by decide +kernel
theorem dX11_isTwice_8 : decode cX11_isTwice 8 = .ok (.aload_n 0, 1) := by decide +kernel
theorem dX11_isTwice_9 : decode cX11_isTwice 9 = .ok (.getfield 54, 3) := by decide +kernel
theorem dX11_isTwice_12 : decode cX11_isTwice 12 = .ok (.bipush 20, 2) := by decide +kernel
theorem dX11_isTwice_14 : decode cX11_isTwice 14 = .ok (.iload_n 1, 1) := by decide +kernel
theorem dX11_isTwice_15 : decode cX11_isTwice 15 = .ok (.imul, 1) := by decide +kernel
theorem dX11_isTwice_16 : decode cX11_isTwice 16 = .ok (.iload_n 3, 1) := by decide +kernel
theorem dX11_isTwice_17 : decode cX11_isTwice 17 = .ok (.iadd, 1) := by decide +kernel
theorem dX11_isTwice_18 : decode cX11_isTwice 18 = .ok (.iaload, 1) := by decide +kernel
theorem dX11_isTwice_19 : decode cX11_isTwice 19 = .ok (.invokevirtual 364, 3) := by decide +kernel
theorem dX11_isTwice_22 : decode cX11_isTwice 22 = .ok (.aload_n 0, 1) := by decide +kernel
theorem dX11_isTwice_23 : decode cX11_isTwice 23 = .ok (.aload_n 0, 1) := by decide +kernel
theorem dX11_isTwice_24 : decode cX11_isTwice 24 = .ok (.getfield 54, 3) := by decide +kernel
theorem dX11_isTwice_27 : decode cX11_isTwice 27 = .ok (.bipush 20, 2) := by decide +kernel
theorem dX11_isTwice_29 : decode cX11_isTwice 29 = .ok (.iload_n 1, 1) := by decide +kernel
theorem dX11_isTwice_30 : decode cX11_isTwice 30 = .ok (.imul, 1) := by decide +kernel
theorem dX11_isTwice_31 : decode cX11_isTwice 31 = .ok (.iload_n 2, 1) := by decide +kernel
theorem dX11_isTwice_32 : decode cX11_isTwice 32 = .ok (.iadd, 1) := by decide +kernel
theorem dX11_isTwice_33 : decode cX11_isTwice 33 = .ok (.iaload, 1) := by decide +kernel
theorem dX11_isTwice_34 : decode cX11_isTwice 34 = .ok (.invokevirtual 364, 3) := by decide +kernel
theorem dX11_isTwice_37 : decode cX11_isTwice 37 = .ok (.if_icmp .ne 5, 3) := by decide +kernel
theorem dX11_isTwice_40 : decode cX11_isTwice 40 = .ok (.iconst 1, 1) := by decide +kernel
theorem dX11_isTwice_41 : decode cX11_isTwice 41 = .ok (.ireturn, 1) := by decide +kernel
theorem dX11_isTwice_42 : decode cX11_isTwice 42 = .ok (.iinc 3 1, 3) := by decide +kernel
theorem dX11_isTwice_45 : decode cX11_isTwice 45 = .ok (.goto (-43), 3) := by decide +kernel
theorem dX11_isTwice_48 : decode cX11_isTwice 48 = .ok (.iconst 0, 1) := by decide +kernel
theorem dX11_isTwice_49 : decode cX11_isTwice 49 = .ok (.ireturn, 1) := by decide +kernel
theorem dX11_together_0 : decode cX11_together 0 = .ok (.iconst 0, 1) := by decide +kernel
theorem dX11_together_1 : decode cX11_together 1 = .ok (.istore_n 2, 1) := by decide +kernel
theorem dX11_together_2 : decode cX11_together 2 = .ok (.iload_n 2, 1) := by decide +kernel
theorem dX11_together_3 : decode cX11_together 3 = .ok (.aload_n 0, 1) := by decide +kernel
theorem dX11_together_4 : decode cX11_together 4 = .ok (.getfield 51, 3) := by decide +kernel
theorem dX11_together_7 : decode cX11_together 7 = .ok (.bipush 9, 2) := by decide +kernel
theorem dX11_together_9 : decode cX11_together 9 = .ok (.iaload, 1) := by decide +kernel
theorem dX11_together_10 : decode cX11_together 10 = .ok (.if_icmp .ge 68, 3) := by decide +kernel
theorem dX11_together_13 : decode cX11_together 13 = .ok (.aload_n 0, 1) := by decide +kernel
theorem dX11_together_14 : decode cX11_together 14 = .ok (.bipush 9, 2) := by decide +kernel
theorem dX11_together_16 : decode cX11_together 16 = .ok (.iload_n 2, 1) := by decide +kernel
theorem dX11_together_17 : decode cX11_together 17 = .ok (.invokevirtual 367, 3) := by decide +kernel
theorem dX11_together_20 : decode cX11_together 20 = .ok (.ifCond .eq 16, 3) := by decide +kernel
theorem dX11_together_23 : decode cX11_together 23 = .ok (.aload_n 0, 1) := by decide +kernel
theorem dX11_together_24 : decode cX11_together 24 = .ok (.bipush 7, 2) := by decide +kernel
theorem dX11_together_26 : decode cX11_together 26 = .ok (.aload_n 0, 1) := by decide +kernel
theorem dX11_together_27 : decode cX11_together 27 = .ok (.getfield 98, 3) := by decide +kernel
theorem dX11_together_30 : decode cX11_together 30 = .ok (.iload_n 2, 1) := by decide +kernel
theorem dX11_together_31 : decode cX11_together 31 = .ok (.iaload, 1) := by decide +kernel
theorem dX11_together_32 : decode cX11_together 32 = .ok (.invokevirtual 304, 3) := by decide +kernel
theorem dX11_together_35 : decode cX11_together 35 = .ok (.ireturn, 1) := by decide +kernel
theorem dX11_together_36 : decode cX11_together 36 = .ok (.iload_n 1, 1) := by decide +kernel
theorem dX11_together_37 : decode cX11_together 37 = .ok (.ifCond .eq 35, 3) := by decide +kernel
theorem dX11_together_40 : decode cX11_together 40 = .ok (.aload_n 0, 1) := by decide +kernel
theorem dX11_together_41 : decode cX11_together 41 = .ok (.bipush 9, 2) := by decide +kernel
theorem dX11_together_43 : decode cX11_together 43 = .ok (.aload_n 0, 1) := by decide +kernel
theorem dX11_together_44 : decode cX11_together 44 = .ok (.getfield 54, 3) := by decide +kernel
theorem dX11_together_47 : decode cX11_together 47 = .ok (.sipush 180, 3) := by decide +kernel
theorem dX11_together_50 : decode cX11_together 50 = .ok (.iload_n 2, 1) := by decide +kernel
theorem dX11_together_51 : decode cX11_together 51 = .ok (.iadd, 1) := by decide +kernel
theorem dX11_together_52 : decode cX11_together 52 = .ok (.iaload, 1) := by decide +kernel
theorem dX11_together_53 : decode cX11_together 53 = .ok (.invokevirtual 370, 3) := by decide +kernel
theorem dX11_together_56 : decode cX11_together 56 = .ok (.ifCond .ne 16, 3) := by decide +kernel
theorem dX11_together_59 : decode cX11_together 59 = .ok (.aload_n 0, 1) := by decide +kernel
theorem dX11_together_60 : decode cX11_together 60 = .ok (.bipush 8, 2) := by decide +kernel
theorem dX11_together_62 : decode cX11_together 62 = .ok (.aload_n 0, 1) := by decide +kernel
theorem dX11_together_63 : decode cX11_together 63 = .ok (.getfield 98, 3) := by decide +kernel
theorem dX11_together_66 : decode cX11_together 66 = .ok (.iload_n 2, 1) := by decide +kernel
theorem dX11_together_67 : decode cX11_together 67 = .ok (.iaload, 1) := by decide +kernel
theorem dX11_together_68 : decode cX11_together 68 = .ok (.invokevirtual 304, 3) := by decide +kernel
theorem dX11_together_71 : decode cX11_together 71 = .ok (.ireturn, 1) := by decide +kernel
theorem dX11_together_72 : decode cX11_together 72 = .ok (.iinc 2 1, 3) := by decide +kernel
theorem dX11_together_75 : decode cX11_together 75 = .ok (.goto (-73), 3) := by decide +kernel
theorem dX11_together_78 : decode cX11_together 78 = .ok (.iconst 1, 1) := by decide +kernel
theorem dX11_together_79 : decode cX11_together 79 = .ok (.ireturn, 1) := by decide +kernel
theorem dX11_taken_0 : decode cX11_taken 0 = .ok (.aload_n 0, 1) := by decide +kernel
theorem dX11_taken_1 : decode cX11_taken 1 = .ok (.iload_n 1, 1) := by decide +kernel
theorem dX11_taken_2 : decode cX11_taken 2 = .ok (.putfield 91, 3) := by decide +kernel
theorem dX11_taken_5 : decode cX11_taken 5 = .ok (.aload_n 0, 1) := by decide +kernel
theorem dX11_taken_6 : decode cX11_taken 6 = .ok (.invokevirtual 373, 3) := by decide +kernel
theorem dX11_taken_9 : decode cX11_taken 9 = .ok (.ifCond .eq 11, 3) := by decide +kernel
theorem dX11_taken_12 : decode cX11_taken 12 = .ok (.aload_n 0, 1) := by decide +kernel
theorem dX11_taken_13 : decode cX11_taken 13 = .ok (.iload_n 2, 1) := by decide +kernel
theorem dX11_taken_14 : decode cX11_taken 14 = .ok (.invokevirtual 376, 3) := by decide +kernel
theorem dX11_taken_17 : decode cX11_taken 17 = .ok (.ifCond .ne 5, 3) := by decide +kernel
theorem dX11_taken_20 : decode cX11_taken 20 = .ok (.iconst (-1), 1) := by decide +kernel
theorem dX11_taken_21 : decode cX11_taken 21 = .ok (.ireturn, 1) := by decide +kernel
theorem dX11_taken_22 : decode cX11_taken 22 = .ok (.aload_n 0, 1) := by decide +kernel
theorem dX11_taken_23 : decode cX11_taken 23 = .ok (.bipush 9, 2) := by decide +kernel
theorem dX11_taken_25 : decode cX11_taken 25 = .ok (.iconst 0, 1) := by decide +kernel
theorem dX11_taken_26 : decode cX11_taken 26 = .ok (.invokevirtual 380, 3) := by decide +kernel
theorem dX11_taken_29 : decode cX11_taken 29 = .ok (.ireturn, 1) := by decide +kernel
theorem dX11_read_0 : decode cX11_read 0 = .ok (.aload_n 0, 1) := by decide +kernel
theorem dX11_read_1 : decode cX11_read 1 = .ok (.iconst 0, 1) := by decide +kernel
theorem dX11_read_2 : decode cX11_read 2 = .ok (.putfield 48, 3) := by decide +kernel
theorem dX11_read_5 : decode cX11_read 5 = .ok (.aload_n 0, 1) := by decide +kernel
theorem dX11_read_6 : decode cX11_read 6 = .ok (.iconst 0, 1) := by decide +kernel
theorem dX11_read_7 : decode cX11_read 7 = .ok (.putfield 82, 3) := by decide +kernel
theorem dX11_read_10 : decode cX11_read 10 = .ok (.aload_n 0, 1) := by decide +kernel
theorem dX11_read_11 : decode cX11_read 11 = .ok (.iconst (-1), 1) := by decide +kernel
theorem dX11_read_12 : decode cX11_read 12 = .ok (.putfield 85, 3) := by decide +kernel
theorem dX11_read_15 : decode cX11_read 15 = .ok (.aload_n 0, 1) := by decide +kernel
theorem dX11_read_16 : decode cX11_read 16 = .ok (.aload_n 0, 1) := by decide +kernel
theorem dX11_read_17 : decode cX11_read 17 = .ok (.getfield 70, 3) := by decide +kernel
theorem dX11_read_20 : decode cX11_read 20 = .ok (.putfield 76, 3) := by decide +kernel
theorem dX11_read_23 : decode cX11_read 23 = .ok (.iconst 0, 1) := by decide +kernel
theorem dX11_read_24 : decode cX11_read 24 = .ok (.istore_n 2, 1) := by decide +kernel
theorem dX11_read_25 : decode cX11_read 25 = .ok (.iload_n 2, 1) := by decide +kernel
theorem dX11_read_26 : decode cX11_read 26 = .ok (.aload_n 0, 1) := by decide +kernel
theorem dX11_read_27 : decode cX11_read 27 = .ok (.getfield 76, 3) := by decide +kernel
theorem dX11_read_30 : decode cX11_read 30 = .ok (.if_icmp .ge 21, 3) := by decide +kernel
theorem dX11_read_33 : decode cX11_read 33 = .ok (.aload_n 0, 1) := by decide +kernel
theorem dX11_read_34 : decode cX11_read 34 = .ok (.getfield 73, 3) := by decide +kernel
theorem dX11_read_37 : decode cX11_read 37 = .ok (.iload_n 2, 1) := by decide +kernel
theorem dX11_read_38 : decode cX11_read 38 = .ok (.aload_n 0, 1) := by decide +kernel
theorem dX11_read_39 : decode cX11_read 39 = .ok (.getfield 67, 3) := by decide +kernel
theorem dX11_read_42 : decode cX11_read 42 = .ok (.iload_n 2, 1) := by decide +kernel
theorem dX11_read_43 : decode cX11_read 43 = .ok (.baload, 1) := by decide +kernel
theorem dX11_read_44 : decode cX11_read 44 = .ok (.bastore, 1) := by decide +kernel
theorem dX11_read_45 : decode cX11_read 45 = .ok (.iinc 2 1, 3) := by decide +kernel
theorem dX11_read_48 : decode cX11_read 48 = .ok (.goto (-23), 3) := by decide +kernel
theorem dX11_read_51 : decode cX11_read 51 = .ok (.aload_n 0, 1) := by decide +kernel
theorem dX11_read_52 : decode cX11_read 52 = .ok (.iconst 0, 1) := by decide +kernel
theorem dX11_read_53 : decode cX11_read 53 = .ok (.putfield 70, 3) := by decide +kernel
theorem dX11_read_56 : decode cX11_read 56 = .ok (.aload_n 0, 1) := by decide +kernel
theorem dX11_read_57 : decode cX11_read 57 = .ok (.iload_n 1, 1) := by decide +kernel
theorem dX11_read_58 : decode cX11_read 58 = .ok (.iconst 1, 1) := by decide +kernel
theorem dX11_read_59 : decode cX11_read 59 = .ok (.invokevirtual 383, 3) := by decide +kernel
theorem dX11_read_62 : decode cX11_read 62 = .ok (.ireturn, 1) := by decide +kernel
theorem dX11_fault__0 : decode cX11_fault_ 0 = .ok (.aload_n 0, 1) := by decide +kernel
theorem dX11_fault__1 : decode cX11_fault_ 1 = .ok (.iconst 0, 1) := by decide +kernel
theorem dX11_fault__2 : decode cX11_fault_ 2 = .ok (.putfield 48, 3) := by decide +kernel
theorem dX11_fault__5 : decode cX11_fault_ 5 = .ok (.iload_n 1, 1) := by decide +kernel
theorem dX11_fault__6 : decode cX11_fault_ 6 = .ok (.ifCond .ne 8, 3) := by decide +kernel
theorem dX11_fault__9 : decode cX11_fault_ 9 = .ok (.aload_n 0, 1) := by decide +kernel
theorem dX11_fault__10 : decode cX11_fault_ 10 = .ok (.getfield 82, 3) := by decide +kernel
theorem dX11_fault__13 : decode cX11_fault_ 13 = .ok (.ireturn, 1) := by decide +kernel
theorem dX11_fault__14 : decode cX11_fault_ 14 = .ok (.iload_n 1, 1) := by decide +kernel
theorem dX11_fault__15 : decode cX11_fault_ 15 = .ok (.iconst 1, 1) := by decide +kernel
theorem dX11_fault__16 : decode cX11_fault_ 16 = .ok (.if_icmp .ne 10, 3) := by decide +kernel
theorem dX11_fault__19 : decode cX11_fault_ 19 = .ok (.aload_n 0, 1) := by decide +kernel
theorem dX11_fault__20 : decode cX11_fault_ 20 = .ok (.getfield 85, 3) := by decide +kernel
theorem dX11_fault__23 : decode cX11_fault_ 23 = .ok (.goto 4, 3) := by decide +kernel
theorem dX11_fault__26 : decode cX11_fault_ 26 = .ok (.iconst (-1), 1) := by decide +kernel
theorem dX11_fault__27 : decode cX11_fault_ 27 = .ok (.ireturn, 1) := by decide +kernel
theorem dX11_sizeOf_0 : decode cX11_sizeOf 0 = .ok (.aload_n 0, 1) := by decide +kernel
theorem dX11_sizeOf_1 : decode cX11_sizeOf 1 = .ok (.getfield 16, 3) := by decide +kernel
theorem dX11_sizeOf_4 : decode cX11_sizeOf 4 = .ok (.aload_n 0, 1) := by decide +kernel
theorem dX11_sizeOf_5 : decode cX11_sizeOf 5 = .ok (.getfield 54, 3) := by decide +kernel
theorem dX11_sizeOf_8 : decode cX11_sizeOf 8 = .ok (.iload_n 1, 1) := by decide +kernel
theorem dX11_sizeOf_9 : decode cX11_sizeOf 9 = .ok (.iaload, 1) := by decide +kernel
theorem dX11_sizeOf_10 : decode cX11_sizeOf 10 = .ok (.iaload, 1) := by decide +kernel
theorem dX11_sizeOf_11 : decode cX11_sizeOf 11 = .ok (.aload_n 0, 1) := by decide +kernel
theorem dX11_sizeOf_12 : decode cX11_sizeOf 12 = .ok (.getfield 57, 3) := by decide +kernel
theorem dX11_sizeOf_15 : decode cX11_sizeOf 15 = .ok (.iload_n 1, 1) := by decide +kernel
theorem dX11_sizeOf_16 : decode cX11_sizeOf 16 = .ok (.iaload, 1) := by decide +kernel
theorem dX11_sizeOf_17 : decode cX11_sizeOf 17 = .ok (.iadd, 1) := by decide +kernel
theorem dX11_sizeOf_18 : decode cX11_sizeOf 18 = .ok (.ireturn, 1) := by decide +kernel
theorem dX11_fits_0 : decode cX11_fits 0 = .ok (.iconst 0, 1) := by decide +kernel
theorem dX11_fits_1 : decode cX11_fits 1 = .ok (.istore_n 3, 1) := by decide +kernel
theorem dX11_fits_2 : decode cX11_fits 2 = .ok (.aload_n 0, 1) := by decide +kernel
theorem dX11_fits_3 : decode cX11_fits 3 = .ok (.iconst 0, 1) := by decide +kernel
theorem dX11_fits_4 : decode cX11_fits 4 = .ok (.putfield 101, 3) := by decide +kernel
theorem dX11_fits_7 : decode cX11_fits 7 = .ok (.iload_n 1, 1) := by decide +kernel
theorem dX11_fits_8 : decode cX11_fits 8 = .ok (.istore 4, 2) := by decide +kernel
theorem dX11_fits_10 : decode cX11_fits 10 = .ok (.iload 4, 2) := by decide +kernel
theorem dX11_fits_12 : decode cX11_fits 12 = .ok (.aload_n 0, 1) := by decide +kernel
theorem dX11_fits_13 : decode cX11_fits 13 = .ok (.getfield 51, 3) := by decide +kernel
theorem dX11_fits_16 : decode cX11_fits 16 = .ok (.iconst 0, 1) := by decide +kernel
theorem dX11_fits_17 : decode cX11_fits 17 = .ok (.iaload, 1) := by decide +kernel
theorem dX11_fits_18 : decode cX11_fits 18 = .ok (.if_icmp .ge 71, 3) := by decide +kernel
theorem dX11_fits_21 : decode cX11_fits 21 = .ok (.aload_n 0, 1) := by decide +kernel
theorem dX11_fits_22 : decode cX11_fits 22 = .ok (.iload 4, 2) := by decide +kernel
theorem dX11_fits_24 : decode cX11_fits 24 = .ok (.invokevirtual 387, 3) := by decide +kernel
theorem dX11_fits_27 : decode cX11_fits 27 = .ok (.iload 4, 2) := by decide +kernel
theorem dX11_fits_29 : decode cX11_fits 29 = .ok (.iload_n 1, 1) := by decide +kernel
theorem dX11_fits_30 : decode cX11_fits 30 = .ok (.if_icmp .le 23, 3) := by decide +kernel
theorem dX11_fits_33 : decode cX11_fits 33 = .ok (.aload_n 0, 1) := by decide +kernel
theorem dX11_fits_34 : decode cX11_fits 34 = .ok (.aload_n 0, 1) := by decide +kernel
theorem dX11_fits_35 : decode cX11_fits 35 = .ok (.getfield 54, 3) := by decide +kernel
theorem dX11_fits_38 : decode cX11_fits 38 = .ok (.iload 4, 2) := by decide +kernel
theorem dX11_fits_40 : decode cX11_fits 40 = .ok (.iconst 1, 1) := by decide +kernel
theorem dX11_fits_41 : decode cX11_fits 41 = .ok (.isub, 1) := by decide +kernel
theorem dX11_fits_42 : decode cX11_fits 42 = .ok (.iaload, 1) := by decide +kernel
theorem dX11_fits_43 : decode cX11_fits 43 = .ok (.invokevirtual 317, 3) := by decide +kernel
theorem dX11_fits_46 : decode cX11_fits 46 = .ok (.ifCond .ne 7, 3) := by decide +kernel
theorem dX11_fits_49 : decode cX11_fits 49 = .ok (.iconst 1, 1) := by decide +kernel
theorem dX11_fits_50 : decode cX11_fits 50 = .ok (.goto 4, 3) := by decide +kernel
theorem dX11_fits_53 : decode cX11_fits 53 = .ok (.iconst 0, 1) := by decide +kernel
theorem dX11_fits_54 : decode cX11_fits 54 = .ok (.iadd, 1) := by decide +kernel
theorem dX11_fits_55 : decode cX11_fits 55 = .ok (.istore 5, 2) := by decide +kernel
theorem dX11_fits_57 : decode cX11_fits 57 = .ok (.iload_n 3, 1) := by decide +kernel
theorem dX11_fits_58 : decode cX11_fits 58 = .ok (.iload 5, 2) := by decide +kernel
theorem dX11_fits_60 : decode cX11_fits 60 = .ok (.iadd, 1) := by decide +kernel
theorem dX11_fits_61 : decode cX11_fits 61 = .ok (.iload_n 2, 1) := by decide +kernel
theorem dX11_fits_62 : decode cX11_fits 62 = .ok (.if_icmp .le 6, 3) := by decide +kernel
theorem dX11_fits_65 : decode cX11_fits 65 = .ok (.goto 24, 3) := by decide +kernel
theorem dX11_fits_68 : decode cX11_fits 68 = .ok (.iload_n 3, 1) := by decide +kernel
theorem dX11_fits_69 : decode cX11_fits 69 = .ok (.iload 5, 2) := by decide +kernel
theorem dX11_fits_71 : decode cX11_fits 71 = .ok (.iadd, 1) := by decide +kernel
theorem dX11_fits_72 : decode cX11_fits 72 = .ok (.istore_n 3, 1) := by decide +kernel
theorem dX11_fits_73 : decode cX11_fits 73 = .ok (.aload_n 0, 1) := by decide +kernel
theorem dX11_fits_74 : decode cX11_fits 74 = .ok (.dup, 1) := by decide +kernel
theorem dX11_fits_75 : decode cX11_fits 75 = .ok (.getfield 101, 3) := by decide +kernel
theorem dX11_fits_78 : decode cX11_fits 78 = .ok (.iconst 1, 1) := by decide +kernel
theorem dX11_fits_79 : decode cX11_fits 79 = .ok (.iadd, 1) := by decide +kernel
theorem dX11_fits_80 : decode cX11_fits 80 = .ok (.putfield 101, 3) := by decide +kernel
theorem dX11_fits_83 : decode cX11_fits 83 = .ok (.iinc 4 1, 3) := by decide +kernel
theorem dX11_fits_86 : decode cX11_fits 86 = .ok (.goto (-76), 3) := by decide +kernel
theorem dX11_fits_89 : decode cX11_fits 89 = .ok (.iload_n 3, 1) := by decide +kernel
theorem dX11_fits_90 : decode cX11_fits 90 = .ok (.ireturn, 1) := by decide +kernel
theorem dX11_list_0 : decode cX11_list 0 = .ok (.aload_n 0, 1) := by decide +kernel
theorem dX11_list_1 : decode cX11_list 1 = .ok (.iconst 0, 1) := by decide +kernel
theorem dX11_list_2 : decode cX11_list 2 = .ok (.putfield 48, 3) := by decide +kernel
theorem dX11_list_5 : decode cX11_list 5 = .ok (.iload_n 1, 1) := by decide +kernel
theorem dX11_list_6 : decode cX11_list 6 = .ok (.ifCond .ne 10, 3) := by decide +kernel
theorem dX11_list_9 : decode cX11_list 9 = .ok (.aload_n 0, 1) := by decide +kernel
theorem dX11_list_10 : decode cX11_list 10 = .ok (.getfield 51, 3) := by decide +kernel
theorem dX11_list_13 : decode cX11_list 13 = .ok (.iconst 0, 1) := by decide +kernel
theorem dX11_list_14 : decode cX11_list 14 = .ok (.iaload, 1) := by decide +kernel
theorem dX11_list_15 : decode cX11_list 15 = .ok (.ireturn, 1) := by decide +kernel
theorem dX11_list_16 : decode cX11_list 16 = .ok (.iload_n 1, 1) := by decide +kernel
theorem dX11_list_17 : decode cX11_list 17 = .ok (.iconst 1, 1) := by decide +kernel
theorem dX11_list_18 : decode cX11_list 18 = .ok (.if_icmp .ne 12, 3) := by decide +kernel
theorem dX11_list_21 : decode cX11_list 21 = .ok (.aload_n 0, 1) := by decide +kernel
theorem dX11_list_22 : decode cX11_list 22 = .ok (.iconst 0, 1) := by decide +kernel
theorem dX11_list_23 : decode cX11_list 23 = .ok (.ldc_w 390, 3) := by decide +kernel
theorem dX11_list_26 : decode cX11_list 26 = .ok (.invokevirtual 391, 3) := by decide +kernel
theorem dX11_list_29 : decode cX11_list 29 = .ok (.ireturn, 1) := by decide +kernel
theorem dX11_list_30 : decode cX11_list 30 = .ok (.iload_n 1, 1) := by decide +kernel
theorem dX11_list_31 : decode cX11_list 31 = .ok (.iconst 2, 1) := by decide +kernel
theorem dX11_list_32 : decode cX11_list 32 = .ok (.if_icmp .eq 5, 3) := by decide +kernel
theorem dX11_list_35 : decode cX11_list 35 = .ok (.iconst (-1), 1) := by decide +kernel
theorem dX11_list_36 : decode cX11_list 36 = .ok (.ireturn, 1) := by decide +kernel
theorem dX11_list_37 : decode cX11_list 37 = .ok (.iconst 0, 1) := by decide +kernel
theorem dX11_list_38 : decode cX11_list 38 = .ok (.istore_n 2, 1) := by decide +kernel
theorem dX11_list_39 : decode cX11_list 39 = .ok (.iconst 0, 1) := by decide +kernel
theorem dX11_list_40 : decode cX11_list 40 = .ok (.istore_n 3, 1) := by decide +kernel
theorem dX11_list_41 : decode cX11_list 41 = .ok (.iload_n 3, 1) := by decide +kernel
theorem dX11_list_42 : decode cX11_list 42 = .ok (.aload_n 0, 1) := by decide +kernel
theorem dX11_list_43 : decode cX11_list 43 = .ok (.getfield 51, 3) := by decide +kernel
theorem dX11_list_46 : decode cX11_list 46 = .ok (.iconst 0, 1) := by decide +kernel
theorem dX11_list_47 : decode cX11_list 47 = .ok (.iaload, 1) := by decide +kernel
theorem dX11_list_48 : decode cX11_list 48 = .ok (.if_icmp .ge 33, 3) := by decide +kernel
theorem dX11_list_51 : decode cX11_list 51 = .ok (.aload_n 0, 1) := by decide +kernel
theorem dX11_list_52 : decode cX11_list 52 = .ok (.iload_n 3, 1) := by decide +kernel
theorem dX11_list_53 : decode cX11_list 53 = .ok (.bipush 48, 2) := by decide +kernel
theorem dX11_list_55 : decode cX11_list 55 = .ok (.invokevirtual 391, 3) := by decide +kernel
theorem dX11_list_58 : decode cX11_list 58 = .ok (.pop, 1) := by decide +kernel
theorem dX11_list_59 : decode cX11_list 59 = .ok (.aload_n 0, 1) := by decide +kernel
theorem dX11_list_60 : decode cX11_list 60 = .ok (.getfield 101, 3) := by decide +kernel
theorem dX11_list_63 : decode cX11_list 63 = .ok (.ifCond .ne 5, 3) := by decide +kernel
theorem dX11_list_66 : decode cX11_list 66 = .ok (.iconst (-1), 1) := by decide +kernel
theorem dX11_list_67 : decode cX11_list 67 = .ok (.ireturn, 1) := by decide +kernel
theorem dX11_list_68 : decode cX11_list 68 = .ok (.iload_n 3, 1) := by decide +kernel
theorem dX11_list_69 : decode cX11_list 69 = .ok (.aload_n 0, 1) := by decide +kernel
theorem dX11_list_70 : decode cX11_list 70 = .ok (.getfield 101, 3) := by decide +kernel
theorem dX11_list_73 : decode cX11_list 73 = .ok (.iadd, 1) := by decide +kernel
theorem dX11_list_74 : decode cX11_list 74 = .ok (.istore_n 3, 1) := by decide +kernel
theorem dX11_list_75 : decode cX11_list 75 = .ok (.iinc 2 1, 3) := by decide +kernel
theorem dX11_list_78 : decode cX11_list 78 = .ok (.goto (-37), 3) := by decide +kernel
theorem dX11_list_81 : decode cX11_list 81 = .ok (.iload_n 2, 1) := by decide +kernel
theorem dX11_list_82 : decode cX11_list 82 = .ok (.ireturn, 1) := by decide +kernel
theorem dX11_isOut_0 : decode cX11_isOut 0 = .ok (.iload_n 1, 1) := by decide +kernel
theorem dX11_isOut_1 : decode cX11_isOut 1 = .ok (.ifCond .lt 13, 3) := by decide +kernel
theorem dX11_isOut_4 : decode cX11_isOut 4 = .ok (.iload_n 1, 1) := by decide +kernel
theorem dX11_isOut_5 : decode cX11_isOut 5 = .ok (.aload_n 0, 1) := by decide +kernel
theorem dX11_isOut_6 : decode cX11_isOut 6 = .ok (.getfield 51, 3) := by decide +kernel
theorem dX11_isOut_9 : decode cX11_isOut 9 = .ok (.iconst 0, 1) := by decide +kernel
theorem dX11_isOut_10 : decode cX11_isOut 10 = .ok (.iaload, 1) := by decide +kernel
theorem dX11_isOut_11 : decode cX11_isOut 11 = .ok (.if_icmp .lt 15, 3) := by decide +kernel
theorem dX11_isOut_14 : decode cX11_isOut 14 = .ok (.aload_n 0, 1) := by decide +kernel
theorem dX11_isOut_15 : decode cX11_isOut 15 = .ok (.iconst 1, 1) := by decide +kernel
theorem dX11_isOut_16 : decode cX11_isOut 16 = .ok (.invokevirtual 394, 3) := by decide +kernel
theorem dX11_isOut_19 : decode cX11_isOut 19 = .ok (.ifCond .eq 7, 3) := by decide +kernel
theorem dX11_isOut_22 : decode cX11_isOut 22 = .ok (.iconst 1, 1) := by decide +kernel
theorem dX11_isOut_23 : decode cX11_isOut 23 = .ok (.goto 4, 3) := by decide +kernel
theorem dX11_isOut_26 : decode cX11_isOut 26 = .ok (.iconst 0, 1) := by decide +kernel
theorem dX11_isOut_27 : decode cX11_isOut 27 = .ok (.ireturn, 1) := by decide +kernel
theorem dX11_finds_0 : decode cX11_finds 0 = .ok (.aload_n 0, 1) := by decide +kernel
theorem dX11_finds_1 : decode cX11_finds 1 = .ok (.getfield 54, 3) := by decide +kernel
theorem dX11_finds_4 : decode cX11_finds 4 = .ok (.iload_n 1, 1) := by decide +kernel
theorem dX11_finds_5 : decode cX11_finds 5 = .ok (.iaload, 1) := by decide +kernel
theorem dX11_finds_6 : decode cX11_finds 6 = .ok (.istore_n 3, 1) := by decide +kernel
theorem dX11_finds_7 : decode cX11_finds 7 = .ok (.iconst 0, 1) := by decide +kernel
theorem dX11_finds_8 : decode cX11_finds 8 = .ok (.istore 4, 2) := by decide +kernel
theorem dX11_finds_10 : decode cX11_finds 10 = .ok (.iconst 0, 1) := by decide +kernel
theorem dX11_finds_11 : decode cX11_finds 11 = .ok (.istore 5, 2) := by decide +kernel
theorem dX11_finds_13 : decode cX11_finds 13 = .ok (.iload 5, 2) := by decide +kernel
theorem dX11_finds_15 : decode cX11_finds 15 = .ok (.aload_n 0, 1) := by decide +kernel
theorem dX11_finds_16 : decode cX11_finds 16 = .ok (.getfield 25, 3) := by decide +kernel
theorem dX11_finds_19 : decode cX11_finds 19 = .ok (.iload_n 3, 1) := by decide +kernel
theorem dX11_finds_20 : decode cX11_finds 20 = .ok (.iaload, 1) := by decide +kernel
theorem dX11_finds_21 : decode cX11_finds 21 = .ok (.if_icmp .ge 93, 3) := by decide +kernel
theorem dX11_finds_24 : decode cX11_finds 24 = .ok (.iload 4, 2) := by decide +kernel
theorem dX11_finds_26 : decode cX11_finds 26 = .ok (.aload_n 0, 1) := by decide +kernel
theorem dX11_finds_27 : decode cX11_finds 27 = .ok (.getfield 57, 3) := by decide +kernel
theorem dX11_finds_30 : decode cX11_finds 30 = .ok (.iload_n 1, 1) := by decide +kernel
theorem dX11_finds_31 : decode cX11_finds 31 = .ok (.iaload, 1) := by decide +kernel
theorem dX11_finds_32 : decode cX11_finds 32 = .ok (.if_icmp .ge 82, 3) := by decide +kernel
theorem dX11_finds_35 : decode cX11_finds 35 = .ok (.aload_n 0, 1) := by decide +kernel
theorem dX11_finds_36 : decode cX11_finds 36 = .ok (.getfield 22, 3) := by decide +kernel
theorem dX11_finds_39 : decode cX11_finds 39 = .ok (.iload_n 3, 1) := by decide +kernel
theorem dX11_finds_40 : decode cX11_finds 40 = .ok (.iaload, 1) := by decide +kernel
theorem dX11_finds_41 : decode cX11_finds 41 = .ok (.iload 5, 2) := by decide +kernel
theorem dX11_finds_43 : decode cX11_finds 43 = .ok (.iadd, 1) := by decide +kernel
theorem dX11_finds_44 : decode cX11_finds 44 = .ok (.istore 6, 2) := by decide +kernel
theorem dX11_finds_46 : decode cX11_finds 46 = .ok (.aload_n 0, 1) := by decide +kernel
theorem dX11_finds_47 : decode cX11_finds 47 = .ok (.getfield 57, 3) := by decide +kernel
theorem dX11_finds_50 : decode cX11_finds 50 = .ok (.iload_n 1, 1) := by decide +kernel
theorem dX11_finds_51 : decode cX11_finds 51 = .ok (.iaload, 1) := by decide +kernel
theorem dX11_finds_52 : decode cX11_finds 52 = .ok (.iload 4, 2) := by decide +kernel
theorem dX11_finds_54 : decode cX11_finds 54 = .ok (.isub, 1) := by decide +kernel
theorem dX11_finds_55 : decode cX11_finds 55 = .ok (.istore 7, 2) := by decide +kernel
theorem dX11_finds_57 : decode cX11_finds 57 = .ok (.aload_n 0, 1) := by decide +kernel
theorem dX11_finds_58 : decode cX11_finds 58 = .ok (.iload 4, 2) := by decide +kernel
theorem dX11_finds_60 : decode cX11_finds 60 = .ok (.putfield 104, 3) := by decide +kernel
theorem dX11_finds_63 : decode cX11_finds 63 = .ok (.aload_n 0, 1) := by decide +kernel
theorem dX11_finds_64 : decode cX11_finds 64 = .ok (.iload 7, 2) := by decide +kernel
theorem dX11_finds_66 : decode cX11_finds 66 = .ok (.aload_n 0, 1) := by decide +kernel
theorem dX11_finds_67 : decode cX11_finds 67 = .ok (.getfield 38, 3) := by decide +kernel
theorem dX11_finds_70 : decode cX11_finds 70 = .ok (.iload 6, 2) := by decide +kernel
theorem dX11_finds_72 : decode cX11_finds 72 = .ok (.iaload, 1) := by decide +kernel
theorem dX11_finds_73 : decode cX11_finds 73 = .ok (.if_icmp .ge 8, 3) := by decide +kernel
theorem dX11_finds_76 : decode cX11_finds 76 = .ok (.iload 7, 2) := by decide +kernel
theorem dX11_finds_78 : decode cX11_finds 78 = .ok (.goto 10, 3) := by decide +kernel
theorem dX11_finds_81 : decode cX11_finds 81 = .ok (.aload_n 0, 1) := by decide +kernel
theorem dX11_finds_82 : decode cX11_finds 82 = .ok (.getfield 38, 3) := by decide +kernel
theorem dX11_finds_85 : decode cX11_finds 85 = .ok (.iload 6, 2) := by decide +kernel
theorem dX11_finds_87 : decode cX11_finds 87 = .ok (.iaload, 1) := by decide +kernel
theorem dX11_finds_88 : decode cX11_finds 88 = .ok (.putfield 107, 3) := by decide +kernel
theorem dX11_finds_91 : decode cX11_finds 91 = .ok (.iload 5, 2) := by decide +kernel
theorem dX11_finds_93 : decode cX11_finds 93 = .ok (.iload_n 2, 1) := by decide +kernel
theorem dX11_finds_94 : decode cX11_finds 94 = .ok (.if_icmp .ne 5, 3) := by decide +kernel
theorem dX11_finds_97 : decode cX11_finds 97 = .ok (.iconst 1, 1) := by decide +kernel
theorem dX11_finds_98 : decode cX11_finds 98 = .ok (.ireturn, 1) := by decide +kernel
theorem dX11_finds_99 : decode cX11_finds 99 = .ok (.iload 4, 2) := by decide +kernel
theorem dX11_finds_101 : decode cX11_finds 101 = .ok (.aload_n 0, 1) := by decide +kernel
theorem dX11_finds_102 : decode cX11_finds 102 = .ok (.getfield 107, 3) := by decide +kernel
theorem dX11_finds_105 : decode cX11_finds 105 = .ok (.iadd, 1) := by decide +kernel
theorem dX11_finds_106 : decode cX11_finds 106 = .ok (.istore 4, 2) := by decide +kernel
theorem dX11_finds_108 : decode cX11_finds 108 = .ok (.iinc 5 1, 3) := by decide +kernel
theorem dX11_finds_111 : decode cX11_finds 111 = .ok (.goto (-98), 3) := by decide +kernel
theorem dX11_finds_114 : decode cX11_finds 114 = .ok (.iconst 0, 1) := by decide +kernel
theorem dX11_finds_115 : decode cX11_finds 115 = .ok (.ireturn, 1) := by decide +kernel
theorem dX11_element_0 : decode cX11_element 0 = .ok (.aload_n 0, 1) := by decide +kernel
theorem dX11_element_1 : decode cX11_element 1 = .ok (.iconst 0, 1) := by decide +kernel
theorem dX11_element_2 : decode cX11_element 2 = .ok (.putfield 48, 3) := by decide +kernel
theorem dX11_element_5 : decode cX11_element 5 = .ok (.aload_n 0, 1) := by decide +kernel
theorem dX11_element_6 : decode cX11_element 6 = .ok (.iload_n 1, 1) := by decide +kernel
theorem dX11_element_7 : decode cX11_element 7 = .ok (.invokevirtual 397, 3) := by decide +kernel
theorem dX11_element_10 : decode cX11_element 10 = .ok (.ifCond .eq 5, 3) := by decide +kernel
theorem dX11_element_13 : decode cX11_element 13 = .ok (.iconst (-1), 1) := by decide +kernel
theorem dX11_element_14 : decode cX11_element 14 = .ok (.ireturn, 1) := by decide +kernel
theorem dX11_element_15 : decode cX11_element 15 = .ok (.aload_n 0, 1) := by decide +kernel
theorem dX11_element_16 : decode cX11_element 16 = .ok (.getfield 54, 3) := by decide +kernel
theorem dX11_element_19 : decode cX11_element 19 = .ok (.iload_n 1, 1) := by decide +kernel
theorem dX11_element_20 : decode cX11_element 20 = .ok (.iaload, 1) := by decide +kernel
theorem dX11_element_21 : decode cX11_element 21 = .ok (.istore_n 3, 1) := by decide +kernel
theorem dX11_element_22 : decode cX11_element 22 = .ok (.iload_n 2, 1) := by decide +kernel
theorem dX11_element_23 : decode cX11_element 23 = .ok (.ifCond .ne 10, 3) := by decide +kernel
theorem dX11_element_26 : decode cX11_element 26 = .ok (.aload_n 0, 1) := by decide +kernel
theorem dX11_element_27 : decode cX11_element 27 = .ok (.getfield 13, 3) := by decide +kernel
theorem dX11_element_30 : decode cX11_element 30 = .ok (.iload_n 3, 1) := by decide +kernel
theorem dX11_element_31 : decode cX11_element 31 = .ok (.iaload, 1) := by decide +kernel
theorem dX11_element_32 : decode cX11_element 32 = .ok (.ireturn, 1) := by decide +kernel
theorem dX11_element_33 : decode cX11_element 33 = .ok (.iload_n 2, 1) := by decide +kernel
theorem dX11_element_34 : decode cX11_element 34 = .ok (.iconst 1, 1) := by decide +kernel
theorem dX11_element_35 : decode cX11_element 35 = .ok (.if_icmp .ne 10, 3) := by decide +kernel
theorem dX11_element_38 : decode cX11_element 38 = .ok (.aload_n 0, 1) := by decide +kernel
theorem dX11_element_39 : decode cX11_element 39 = .ok (.getfield 16, 3) := by decide +kernel
theorem dX11_element_42 : decode cX11_element 42 = .ok (.iload_n 3, 1) := by decide +kernel
theorem dX11_element_43 : decode cX11_element 43 = .ok (.iaload, 1) := by decide +kernel
theorem dX11_element_44 : decode cX11_element 44 = .ok (.ireturn, 1) := by decide +kernel
theorem dX11_element_45 : decode cX11_element 45 = .ok (.iload_n 2, 1) := by decide +kernel
theorem dX11_element_46 : decode cX11_element 46 = .ok (.iconst 2, 1) := by decide +kernel
theorem dX11_element_47 : decode cX11_element 47 = .ok (.if_icmp .ne 10, 3) := by decide +kernel
theorem dX11_element_50 : decode cX11_element 50 = .ok (.aload_n 0, 1) := by decide +kernel
theorem dX11_element_51 : decode cX11_element 51 = .ok (.getfield 57, 3) := by decide +kernel
theorem dX11_element_54 : decode cX11_element 54 = .ok (.iload_n 1, 1) := by decide +kernel
theorem dX11_element_55 : decode cX11_element 55 = .ok (.iaload, 1) := by decide +kernel
theorem dX11_element_56 : decode cX11_element 56 = .ok (.ireturn, 1) := by decide +kernel
theorem dX11_element_57 : decode cX11_element 57 = .ok (.iload_n 2, 1) := by decide +kernel
theorem dX11_element_58 : decode cX11_element 58 = .ok (.iconst 4, 1) := by decide +kernel
theorem dX11_element_59 : decode cX11_element 59 = .ok (.if_icmp .ne 10, 3) := by decide +kernel
theorem dX11_element_62 : decode cX11_element 62 = .ok (.aload_n 0, 1) := by decide +kernel
theorem dX11_element_63 : decode cX11_element 63 = .ok (.getfield 19, 3) := by decide +kernel
theorem dX11_element_66 : decode cX11_element 66 = .ok (.iload_n 3, 1) := by decide +kernel
theorem dX11_element_67 : decode cX11_element 67 = .ok (.iaload, 1) := by decide +kernel
theorem dX11_element_68 : decode cX11_element 68 = .ok (.ireturn, 1) := by decide +kernel
theorem dX11_element_69 : decode cX11_element 69 = .ok (.iload_n 2, 1) := by decide +kernel
theorem dX11_element_70 : decode cX11_element 70 = .ok (.iconst 5, 1) := by decide +kernel
theorem dX11_element_71 : decode cX11_element 71 = .ok (.if_icmp .ne 17, 3) := by decide +kernel
theorem dX11_element_74 : decode cX11_element 74 = .ok (.aload_n 0, 1) := by decide +kernel
theorem dX11_element_75 : decode cX11_element 75 = .ok (.iload_n 3, 1) := by decide +kernel
theorem dX11_element_76 : decode cX11_element 76 = .ok (.invokevirtual 317, 3) := by decide +kernel
theorem dX11_element_79 : decode cX11_element 79 = .ok (.ifCond .eq 7, 3) := by decide +kernel
theorem dX11_element_82 : decode cX11_element 82 = .ok (.iconst 1, 1) := by decide +kernel
theorem dX11_element_83 : decode cX11_element 83 = .ok (.goto 4, 3) := by decide +kernel
theorem dX11_element_86 : decode cX11_element 86 = .ok (.iconst 0, 1) := by decide +kernel
theorem dX11_element_87 : decode cX11_element 87 = .ok (.ireturn, 1) := by decide +kernel
theorem dX11_element_88 : decode cX11_element 88 = .ok (.iload_n 2, 1) := by decide +kernel
theorem dX11_element_89 : decode cX11_element 89 = .ok (.iconst 3, 1) := by decide +kernel
theorem dX11_element_90 : decode cX11_element 90 = .ok (.if_icmp .eq 5, 3) := by decide +kernel
theorem dX11_element_93 : decode cX11_element 93 = .ok (.iconst (-1), 1) := by decide +kernel
theorem dX11_element_94 : decode cX11_element 94 = .ok (.ireturn, 1) := by decide +kernel
theorem dX11_element_95 : decode cX11_element 95 = .ok (.iconst 0, 1) := by decide +kernel
theorem dX11_element_96 : decode cX11_element 96 = .ok (.istore 4, 2) := by decide +kernel
theorem dX11_element_98 : decode cX11_element 98 = .ok (.iload 4, 2) := by decide +kernel
theorem dX11_element_100 : decode cX11_element 100 = .ok (.aload_n 0, 1) := by decide +kernel
theorem dX11_element_101 : decode cX11_element 101 = .ok (.getfield 25, 3) := by decide +kernel
theorem dX11_element_104 : decode cX11_element 104 = .ok (.iload_n 3, 1) := by decide +kernel
theorem dX11_element_105 : decode cX11_element 105 = .ok (.iaload, 1) := by decide +kernel
theorem dX11_element_106 : decode cX11_element 106 = .ok (.if_icmp .ge 19, 3) := by decide +kernel
theorem dX11_element_109 : decode cX11_element 109 = .ok (.aload_n 0, 1) := by decide +kernel
theorem dX11_element_110 : decode cX11_element 110 = .ok (.iload_n 1, 1) := by decide +kernel
theorem dX11_element_111 : decode cX11_element 111 = .ok (.iload 4, 2) := by decide +kernel
theorem dX11_element_113 : decode cX11_element 113 = .ok (.invokevirtual 400, 3) := by decide +kernel
theorem dX11_element_116 : decode cX11_element 116 = .ok (.ifCond .eq 9, 3) := by decide +kernel
theorem dX11_element_119 : decode cX11_element 119 = .ok (.iinc 4 1, 3) := by decide +kernel
theorem dX11_element_122 : decode cX11_element 122 = .ok (.goto (-24), 3) := by decide +kernel
theorem dX11_element_125 : decode cX11_element 125 = .ok (.iload 4, 2) := by decide +kernel
theorem dX11_element_127 : decode cX11_element 127 = .ok (.ireturn, 1) := by decide +kernel
theorem dX11_letter_0 : decode cX11_letter 0 = .ok (.aload_n 0, 1) := by decide +kernel
theorem dX11_letter_1 : decode cX11_letter 1 = .ok (.iconst 0, 1) := by decide +kernel
theorem dX11_letter_2 : decode cX11_letter 2 = .ok (.putfield 48, 3) := by decide +kernel
theorem dX11_letter_5 : decode cX11_letter 5 = .ok (.aload_n 0, 1) := by decide +kernel
theorem dX11_letter_6 : decode cX11_letter 6 = .ok (.iload_n 1, 1) := by decide +kernel
theorem dX11_letter_7 : decode cX11_letter 7 = .ok (.invokevirtual 397, 3) := by decide +kernel
theorem dX11_letter_10 : decode cX11_letter 10 = .ok (.ifCond .eq 5, 3) := by decide +kernel
theorem dX11_letter_13 : decode cX11_letter 13 = .ok (.iconst (-1), 1) := by decide +kernel
theorem dX11_letter_14 : decode cX11_letter 14 = .ok (.ireturn, 1) := by decide +kernel
theorem dX11_letter_15 : decode cX11_letter 15 = .ok (.iload_n 2, 1) := by decide +kernel
theorem dX11_letter_16 : decode cX11_letter 16 = .ok (.ifCond .lt 13, 3) := by decide +kernel
theorem dX11_letter_19 : decode cX11_letter 19 = .ok (.iload_n 2, 1) := by decide +kernel
theorem dX11_letter_20 : decode cX11_letter 20 = .ok (.aload_n 0, 1) := by decide +kernel
theorem dX11_letter_21 : decode cX11_letter 21 = .ok (.getfield 57, 3) := by decide +kernel
theorem dX11_letter_24 : decode cX11_letter 24 = .ok (.iload_n 1, 1) := by decide +kernel
theorem dX11_letter_25 : decode cX11_letter 25 = .ok (.iaload, 1) := by decide +kernel
theorem dX11_letter_26 : decode cX11_letter 26 = .ok (.if_icmp .lt 7, 3) := by decide +kernel
theorem dX11_letter_29 : decode cX11_letter 29 = .ok (.iconst (-1), 1) := by decide +kernel
theorem dX11_letter_30 : decode cX11_letter 30 = .ok (.goto 14, 3) := by decide +kernel
theorem dX11_letter_33 : decode cX11_letter 33 = .ok (.aload_n 0, 1) := by decide +kernel
theorem dX11_letter_34 : decode cX11_letter 34 = .ok (.getfield 63, 3) := by decide +kernel
theorem dX11_letter_37 : decode cX11_letter 37 = .ok (.bipush 90, 2) := by decide +kernel
theorem dX11_letter_39 : decode cX11_letter 39 = .ok (.iload_n 1, 1) := by decide +kernel
theorem dX11_letter_40 : decode cX11_letter 40 = .ok (.imul, 1) := by decide +kernel
theorem dX11_letter_41 : decode cX11_letter 41 = .ok (.iload_n 2, 1) := by decide +kernel
theorem dX11_letter_42 : decode cX11_letter 42 = .ok (.iadd, 1) := by decide +kernel
theorem dX11_letter_43 : decode cX11_letter 43 = .ok (.baload, 1) := by decide +kernel
theorem dX11_letter_44 : decode cX11_letter 44 = .ok (.ireturn, 1) := by decide +kernel
theorem dX11_sortOf_0 : decode cX11_sortOf 0 = .ok (.aload_n 0, 1) := by decide +kernel
theorem dX11_sortOf_1 : decode cX11_sortOf 1 = .ok (.getfield 32, 3) := by decide +kernel
theorem dX11_sortOf_4 : decode cX11_sortOf 4 = .ok (.aload_n 0, 1) := by decide +kernel
theorem dX11_sortOf_5 : decode cX11_sortOf 5 = .ok (.getfield 22, 3) := by decide +kernel
theorem dX11_sortOf_8 : decode cX11_sortOf 8 = .ok (.aload_n 0, 1) := by decide +kernel
theorem dX11_sortOf_9 : decode cX11_sortOf 9 = .ok (.getfield 54, 3) := by decide +kernel
theorem dX11_sortOf_12 : decode cX11_sortOf 12 = .ok (.iload_n 1, 1) := by decide +kernel
theorem dX11_sortOf_13 : decode cX11_sortOf 13 = .ok (.iaload, 1) := by decide +kernel
theorem dX11_sortOf_14 : decode cX11_sortOf 14 = .ok (.iaload, 1) := by decide +kernel
theorem dX11_sortOf_15 : decode cX11_sortOf 15 = .ok (.iload_n 2, 1) := by decide +kernel
theorem dX11_sortOf_16 : decode cX11_sortOf 16 = .ok (.iadd, 1) := by decide +kernel
theorem dX11_sortOf_17 : decode cX11_sortOf 17 = .ok (.iaload, 1) := by decide +kernel
theorem dX11_sortOf_18 : decode cX11_sortOf 18 = .ok (.ireturn, 1) := by decide +kernel
theorem dX11_part_0 : decode cX11_part 0 = .ok (.aload_n 0, 1) := by decide +kernel
theorem dX11_part_1 : decode cX11_part 1 = .ok (.iconst 0, 1) := by decide +kernel
theorem dX11_part_2 : decode cX11_part 2 = .ok (.putfield 48, 3) := by decide +kernel
theorem dX11_part_5 : decode cX11_part 5 = .ok (.aload_n 0, 1) := by decide +kernel
theorem dX11_part_6 : decode cX11_part 6 = .ok (.iload_n 1, 1) := by decide +kernel
theorem dX11_part_7 : decode cX11_part 7 = .ok (.invokevirtual 397, 3) := by decide +kernel
theorem dX11_part_10 : decode cX11_part 10 = .ok (.ifCond .eq 5, 3) := by decide +kernel
theorem dX11_part_13 : decode cX11_part 13 = .ok (.iconst (-1), 1) := by decide +kernel
theorem dX11_part_14 : decode cX11_part 14 = .ok (.ireturn, 1) := by decide +kernel
theorem dX11_part_15 : decode cX11_part 15 = .ok (.iload_n 2, 1) := by decide +kernel
theorem dX11_part_16 : decode cX11_part 16 = .ok (.ifCond .lt 12, 3) := by decide +kernel
theorem dX11_part_19 : decode cX11_part 19 = .ok (.aload_n 0, 1) := by decide +kernel
theorem dX11_part_20 : decode cX11_part 20 = .ok (.iload_n 1, 1) := by decide +kernel
theorem dX11_part_21 : decode cX11_part 21 = .ok (.iload_n 2, 1) := by decide +kernel
theorem dX11_part_22 : decode cX11_part 22 = .ok (.invokevirtual 400, 3) := by decide +kernel
theorem dX11_part_25 : decode cX11_part 25 = .ok (.ifCond .ne 5, 3) := by decide +kernel
theorem dX11_part_28 : decode cX11_part 28 = .ok (.iconst (-1), 1) := by decide +kernel
theorem dX11_part_29 : decode cX11_part 29 = .ok (.ireturn, 1) := by decide +kernel
theorem dX11_part_30 : decode cX11_part 30 = .ok (.iload_n 3, 1) := by decide +kernel
theorem dX11_part_31 : decode cX11_part 31 = .ok (.ifCond .ne 10, 3) := by decide +kernel
theorem dX11_part_34 : decode cX11_part 34 = .ok (.aload_n 0, 1) := by decide +kernel
theorem dX11_part_35 : decode cX11_part 35 = .ok (.iload_n 1, 1) := by decide +kernel
theorem dX11_part_36 : decode cX11_part 36 = .ok (.iload_n 2, 1) := by decide +kernel
theorem dX11_part_37 : decode cX11_part 37 = .ok (.invokevirtual 403, 3) := by decide +kernel
theorem dX11_part_40 : decode cX11_part 40 = .ok (.ireturn, 1) := by decide +kernel
theorem dX11_part_41 : decode cX11_part 41 = .ok (.iload_n 3, 1) := by decide +kernel
theorem dX11_part_42 : decode cX11_part 42 = .ok (.iconst 1, 1) := by decide +kernel
theorem dX11_part_43 : decode cX11_part 43 = .ok (.if_icmp .ne 8, 3) := by decide +kernel
theorem dX11_part_46 : decode cX11_part 46 = .ok (.aload_n 0, 1) := by decide +kernel
theorem dX11_part_47 : decode cX11_part 47 = .ok (.getfield 104, 3) := by decide +kernel
theorem dX11_part_50 : decode cX11_part 50 = .ok (.ireturn, 1) := by decide +kernel
theorem dX11_part_51 : decode cX11_part 51 = .ok (.iload_n 3, 1) := by decide +kernel
theorem dX11_part_52 : decode cX11_part 52 = .ok (.iconst 2, 1) := by decide +kernel
theorem dX11_part_53 : decode cX11_part 53 = .ok (.if_icmp .ne 10, 3) := by decide +kernel
theorem dX11_part_56 : decode cX11_part 56 = .ok (.aload_n 0, 1) := by decide +kernel
theorem dX11_part_57 : decode cX11_part 57 = .ok (.getfield 107, 3) := by decide +kernel
theorem dX11_part_60 : decode cX11_part 60 = .ok (.goto 4, 3) := by decide +kernel
theorem dX11_part_63 : decode cX11_part 63 = .ok (.iconst (-1), 1) := by decide +kernel
theorem dX11_part_64 : decode cX11_part 64 = .ok (.ireturn, 1) := by decide +kernel
theorem dX11_number_0 : decode cX11_number 0 = .ok (.aload_n 0, 1) := by decide +kernel
theorem dX11_number_1 : decode cX11_number 1 = .ok (.iconst 0, 1) := by decide +kernel
theorem dX11_number_2 : decode cX11_number 2 = .ok (.putfield 48, 3) := by decide +kernel
theorem dX11_number_5 : decode cX11_number 5 = .ok (.aload_n 0, 1) := by decide +kernel
theorem dX11_number_6 : decode cX11_number 6 = .ok (.iload_n 1, 1) := by decide +kernel
theorem dX11_number_7 : decode cX11_number 7 = .ok (.invokevirtual 397, 3) := by decide +kernel
theorem dX11_number_10 : decode cX11_number 10 = .ok (.ifCond .eq 7, 3) := by decide +kernel
theorem dX11_number_13 : decode cX11_number 13 = .ok (.ldc2_w 406, 3) := by decide +kernel
theorem dX11_number_16 : decode cX11_number 16 = .ok (.lreturn, 1) := by decide +kernel
theorem dX11_number_17 : decode cX11_number 17 = .ok (.iload_n 2, 1) := by decide +kernel
theorem dX11_number_18 : decode cX11_number 18 = .ok (.ifCond .lt 12, 3) := by decide +kernel
theorem dX11_number_21 : decode cX11_number 21 = .ok (.aload_n 0, 1) := by decide +kernel
theorem dX11_number_22 : decode cX11_number 22 = .ok (.iload_n 1, 1) := by decide +kernel
theorem dX11_number_23 : decode cX11_number 23 = .ok (.iload_n 2, 1) := by decide +kernel
theorem dX11_number_24 : decode cX11_number 24 = .ok (.invokevirtual 400, 3) := by decide +kernel
theorem dX11_number_27 : decode cX11_number 27 = .ok (.ifCond .ne 15, 3) := by decide +kernel
theorem dX11_number_30 : decode cX11_number 30 = .ok (.aload_n 0, 1) := by decide +kernel
theorem dX11_number_31 : decode cX11_number 31 = .ok (.iconst 2, 1) := by decide +kernel
theorem dX11_number_32 : decode cX11_number 32 = .ok (.invokevirtual 394, 3) := by decide +kernel
theorem dX11_number_35 : decode cX11_number 35 = .ok (.ifCond .eq 7, 3) := by decide +kernel
theorem dX11_number_38 : decode cX11_number 38 = .ok (.ldc2_w 406, 3) := by decide +kernel
theorem dX11_number_41 : decode cX11_number 41 = .ok (.lreturn, 1) := by decide +kernel
theorem dX11_number_42 : decode cX11_number 42 = .ok (.aload_n 0, 1) := by decide +kernel
theorem dX11_number_43 : decode cX11_number 43 = .ok (.iload_n 1, 1) := by decide +kernel
theorem dX11_number_44 : decode cX11_number 44 = .ok (.iload_n 2, 1) := by decide +kernel
theorem dX11_number_45 : decode cX11_number 45 = .ok (.invokevirtual 403, 3) := by decide +kernel
theorem dX11_number_48 : decode cX11_number 48 = .ok (.iconst 2, 1) := by decide +kernel
theorem dX11_number_49 : decode cX11_number 49 = .ok (.if_icmp .ne 7, 3) := by decide +kernel
theorem dX11_number_52 : decode cX11_number 52 = .ok (.ldc2_w 406, 3) := by decide +kernel
theorem dX11_number_55 : decode cX11_number 55 = .ok (.lreturn, 1) := by decide +kernel
theorem dX11_number_56 : decode cX11_number 56 = .ok (.lconst 0, 1) := by decide +kernel
theorem dX11_number_57 : decode cX11_number 57 = .ok (.lstore_n 3, 1) := by decide +kernel
theorem dX11_number_58 : decode cX11_number 58 = .ok (.iconst 0, 1) := by decide +kernel
theorem dX11_number_59 : decode cX11_number 59 = .ok (.istore 5, 2) := by decide +kernel
theorem dX11_number_61 : decode cX11_number 61 = .ok (.iload 5, 2) := by decide +kernel
theorem dX11_number_63 : decode cX11_number 63 = .ok (.aload_n 0, 1) := by decide +kernel
theorem dX11_number_64 : decode cX11_number 64 = .ok (.getfield 107, 3) := by decide +kernel
theorem dX11_number_67 : decode cX11_number 67 = .ok (.if_icmp .ge 37, 3) := by decide +kernel
theorem dX11_number_70 : decode cX11_number 70 = .ok (.ldc2_w 408, 3) := by decide +kernel
theorem dX11_number_73 : decode cX11_number 73 = .ok (.lload_n 3, 1) := by decide +kernel
theorem dX11_number_74 : decode cX11_number 74 = .ok (.lmul, 1) := by decide +kernel
theorem dX11_number_75 : decode cX11_number 75 = .ok (.aload_n 0, 1) := by decide +kernel
theorem dX11_number_76 : decode cX11_number 76 = .ok (.getfield 63, 3) := by decide +kernel
theorem dX11_number_79 : decode cX11_number 79 = .ok (.bipush 90, 2) := by decide +kernel
theorem dX11_number_81 : decode cX11_number 81 = .ok (.iload_n 1, 1) := by decide +kernel
theorem dX11_number_82 : decode cX11_number 82 = .ok (.imul, 1) := by decide +kernel
theorem dX11_number_83 : decode cX11_number 83 = .ok (.aload_n 0, 1) := by decide +kernel
theorem dX11_number_84 : decode cX11_number 84 = .ok (.getfield 104, 3) := by decide +kernel
theorem dX11_number_87 : decode cX11_number 87 = .ok (.iadd, 1) := by decide +kernel
theorem dX11_number_88 : decode cX11_number 88 = .ok (.iload 5, 2) := by decide +kernel
theorem dX11_number_90 : decode cX11_number 90 = .ok (.iadd, 1) := by decide +kernel
theorem dX11_number_91 : decode cX11_number 91 = .ok (.baload, 1) := by decide +kernel
theorem dX11_number_92 : decode cX11_number 92 = .ok (.bipush 48, 2) := by decide +kernel
theorem dX11_number_94 : decode cX11_number 94 = .ok (.isub, 1) := by decide +kernel
theorem dX11_number_95 : decode cX11_number 95 = .ok (.i2l, 1) := by decide +kernel
theorem dX11_number_96 : decode cX11_number 96 = .ok (.ladd, 1) := by decide +kernel
theorem dX11_number_97 : decode cX11_number 97 = .ok (.lstore_n 3, 1) := by decide +kernel
theorem dX11_number_98 : decode cX11_number 98 = .ok (.iinc 5 1, 3) := by decide +kernel
theorem dX11_number_101 : decode cX11_number 101 = .ok (.goto (-40), 3) := by decide +kernel
theorem dX11_number_104 : decode cX11_number 104 = .ok (.lload_n 3, 1) := by decide +kernel
theorem dX11_number_105 : decode cX11_number 105 = .ok (.lreturn, 1) := by decide +kernel
theorem dX11_date_0 : decode cX11_date 0 = .ok (.aload_n 0, 1) := by decide +kernel
theorem dX11_date_1 : decode cX11_date 1 = .ok (.iconst 0, 1) := by decide +kernel
theorem dX11_date_2 : decode cX11_date 2 = .ok (.putfield 48, 3) := by decide +kernel
theorem dX11_date_5 : decode cX11_date 5 = .ok (.aload_n 0, 1) := by decide +kernel
theorem dX11_date_6 : decode cX11_date 6 = .ok (.iload_n 1, 1) := by decide +kernel
theorem dX11_date_7 : decode cX11_date 7 = .ok (.invokevirtual 397, 3) := by decide +kernel
theorem dX11_date_10 : decode cX11_date 10 = .ok (.ifCond .eq 5, 3) := by decide +kernel
theorem dX11_date_13 : decode cX11_date 13 = .ok (.iconst (-1), 1) := by decide +kernel
theorem dX11_date_14 : decode cX11_date 14 = .ok (.ireturn, 1) := by decide +kernel
theorem dX11_date_15 : decode cX11_date 15 = .ok (.iload_n 2, 1) := by decide +kernel
theorem dX11_date_16 : decode cX11_date 16 = .ok (.ifCond .lt 22, 3) := by decide +kernel
theorem dX11_date_19 : decode cX11_date 19 = .ok (.aload_n 0, 1) := by decide +kernel
theorem dX11_date_20 : decode cX11_date 20 = .ok (.iload_n 1, 1) := by decide +kernel
theorem dX11_date_21 : decode cX11_date 21 = .ok (.iload_n 2, 1) := by decide +kernel
theorem dX11_date_22 : decode cX11_date 22 = .ok (.invokevirtual 400, 3) := by decide +kernel
theorem dX11_date_25 : decode cX11_date 25 = .ok (.ifCond .eq 13, 3) := by decide +kernel
theorem dX11_date_28 : decode cX11_date 28 = .ok (.aload_n 0, 1) := by decide +kernel
theorem dX11_date_29 : decode cX11_date 29 = .ok (.iload_n 1, 1) := by decide +kernel
theorem dX11_date_30 : decode cX11_date 30 = .ok (.iload_n 2, 1) := by decide +kernel
theorem dX11_date_31 : decode cX11_date 31 = .ok (.invokevirtual 403, 3) := by decide +kernel
theorem dX11_date_34 : decode cX11_date 34 = .ok (.iconst 4, 1) := by decide +kernel
theorem dX11_date_35 : decode cX11_date 35 = .ok (.if_icmp .eq 13, 3) := by decide +kernel
theorem dX11_date_38 : decode cX11_date 38 = .ok (.aload_n 0, 1) := by decide +kernel
theorem dX11_date_39 : decode cX11_date 39 = .ok (.iconst 2, 1) := by decide +kernel
theorem dX11_date_40 : decode cX11_date 40 = .ok (.invokevirtual 394, 3) := by decide +kernel
theorem dX11_date_43 : decode cX11_date 43 = .ok (.ifCond .eq 5, 3) := by decide +kernel
theorem dX11_date_46 : decode cX11_date 46 = .ok (.iconst (-1), 1) := by decide +kernel
theorem dX11_date_47 : decode cX11_date 47 = .ok (.ireturn, 1) := by decide +kernel
theorem dX11_date_48 : decode cX11_date 48 = .ok (.bipush 90, 2) := by decide +kernel
theorem dX11_date_50 : decode cX11_date 50 = .ok (.iload_n 1, 1) := by decide +kernel
theorem dX11_date_51 : decode cX11_date 51 = .ok (.imul, 1) := by decide +kernel
theorem dX11_date_52 : decode cX11_date 52 = .ok (.aload_n 0, 1) := by decide +kernel
theorem dX11_date_53 : decode cX11_date 53 = .ok (.getfield 104, 3) := by decide +kernel
theorem dX11_date_56 : decode cX11_date 56 = .ok (.iadd, 1) := by decide +kernel
theorem dX11_date_57 : decode cX11_date 57 = .ok (.istore 4, 2) := by decide +kernel
theorem dX11_date_59 : decode cX11_date 59 = .ok (.aload_n 0, 1) := by decide +kernel
theorem dX11_date_60 : decode cX11_date 60 = .ok (.getfield 60, 3) := by decide +kernel
theorem dX11_date_63 : decode cX11_date 63 = .ok (.iconst 2, 1) := by decide +kernel
theorem dX11_date_64 : decode cX11_date 64 = .ok (.iload_n 1, 1) := by decide +kernel
theorem dX11_date_65 : decode cX11_date 65 = .ok (.imul, 1) := by decide +kernel
theorem dX11_date_66 : decode cX11_date 66 = .ok (.aload_n 0, 1) := by decide +kernel
theorem dX11_date_67 : decode cX11_date 67 = .ok (.getfield 104, 3) := by decide +kernel
theorem dX11_date_70 : decode cX11_date 70 = .ok (.ifCond .ne 7, 3) := by decide +kernel
theorem dX11_date_73 : decode cX11_date 73 = .ok (.iconst 0, 1) := by decide +kernel
theorem dX11_date_74 : decode cX11_date 74 = .ok (.goto 4, 3) := by decide +kernel
theorem dX11_date_77 : decode cX11_date 77 = .ok (.iconst 1, 1) := by decide +kernel
theorem dX11_date_78 : decode cX11_date 78 = .ok (.iadd, 1) := by decide +kernel
theorem dX11_date_79 : decode cX11_date 79 = .ok (.iaload, 1) := by decide +kernel
theorem dX11_date_80 : decode cX11_date 80 = .ok (.istore 5, 2) := by decide +kernel
theorem dX11_date_82 : decode cX11_date 82 = .ok (.aload_n 0, 1) := by decide +kernel
theorem dX11_date_83 : decode cX11_date 83 = .ok (.iload 4, 2) := by decide +kernel
theorem dX11_date_85 : decode cX11_date 85 = .ok (.iconst 2, 1) := by decide +kernel
theorem dX11_date_86 : decode cX11_date 86 = .ok (.iadd, 1) := by decide +kernel
theorem dX11_date_87 : decode cX11_date 87 = .ok (.invokevirtual 308, 3) := by decide +kernel
theorem dX11_date_90 : decode cX11_date 90 = .ok (.istore 6, 2) := by decide +kernel
theorem dX11_date_92 : decode cX11_date 92 = .ok (.aload_n 0, 1) := by decide +kernel
theorem dX11_date_93 : decode cX11_date 93 = .ok (.iload 4, 2) := by decide +kernel
theorem dX11_date_95 : decode cX11_date 95 = .ok (.iconst 4, 1) := by decide +kernel
theorem dX11_date_96 : decode cX11_date 96 = .ok (.iadd, 1) := by decide +kernel
theorem dX11_date_97 : decode cX11_date 97 = .ok (.invokevirtual 308, 3) := by decide +kernel
theorem dX11_date_100 : decode cX11_date 100 = .ok (.istore 7, 2) := by decide +kernel
theorem dX11_date_102 : decode cX11_date 102 = .ok (.iload_n 3, 1) := by decide +kernel
theorem dX11_date_103 : decode cX11_date 103 = .ok (.ifCond .ne 6, 3) := by decide +kernel
theorem dX11_date_106 : decode cX11_date 106 = .ok (.iload 5, 2) := by decide +kernel
theorem dX11_date_108 : decode cX11_date 108 = .ok (.ireturn, 1) := by decide +kernel
theorem dX11_date_109 : decode cX11_date 109 = .ok (.iload_n 3, 1) := by decide +kernel
theorem dX11_date_110 : decode cX11_date 110 = .ok (.iconst 1, 1) := by decide +kernel
theorem dX11_date_111 : decode cX11_date 111 = .ok (.if_icmp .ne 6, 3) := by decide +kernel
theorem dX11_date_114 : decode cX11_date 114 = .ok (.iload 6, 2) := by decide +kernel
theorem dX11_date_116 : decode cX11_date 116 = .ok (.ireturn, 1) := by decide +kernel
theorem dX11_date_117 : decode cX11_date 117 = .ok (.iload_n 3, 1) := by decide +kernel
theorem dX11_date_118 : decode cX11_date 118 = .ok (.iconst 2, 1) := by decide +kernel
theorem dX11_date_119 : decode cX11_date 119 = .ok (.if_icmp .eq 5, 3) := by decide +kernel
theorem dX11_date_122 : decode cX11_date 122 = .ok (.iconst (-1), 1) := by decide +kernel
theorem dX11_date_123 : decode cX11_date 123 = .ok (.ireturn, 1) := by decide +kernel
theorem dX11_date_124 : decode cX11_date 124 = .ok (.iload 7, 2) := by decide +kernel
theorem dX11_date_126 : decode cX11_date 126 = .ok (.ifCond .ne 13, 3) := by decide +kernel
theorem dX11_date_129 : decode cX11_date 129 = .ok (.iload 5, 2) := by decide +kernel
theorem dX11_date_131 : decode cX11_date 131 = .ok (.iload 6, 2) := by decide +kernel
theorem dX11_date_133 : decode cX11_date 133 = .ok (.invokestatic 314, 3) := by decide +kernel
theorem dX11_date_136 : decode cX11_date 136 = .ok (.goto 5, 3) := by decide +kernel
theorem dX11_date_139 : decode cX11_date 139 = .ok (.iload 7, 2) := by decide +kernel
theorem dX11_date_141 : decode cX11_date 141 = .ok (.ireturn, 1) := by decide +kernel
theorem dX11_find_0 : decode cX11_find 0 = .ok (.aload_n 0, 1) := by decide +kernel
theorem dX11_find_1 : decode cX11_find 1 = .ok (.iconst 0, 1) := by decide +kernel
theorem dX11_find_2 : decode cX11_find 2 = .ok (.putfield 48, 3) := by decide +kernel
theorem dX11_find_5 : decode cX11_find 5 = .ok (.iconst 0, 1) := by decide +kernel
theorem dX11_find_6 : decode cX11_find 6 = .ok (.istore_n 3, 1) := by decide +kernel
theorem dX11_find_7 : decode cX11_find 7 = .ok (.iload_n 3, 1) := by decide +kernel
theorem dX11_find_8 : decode cX11_find 8 = .ok (.aload_n 0, 1) := by decide +kernel
theorem dX11_find_9 : decode cX11_find 9 = .ok (.getfield 51, 3) := by decide +kernel
theorem dX11_find_12 : decode cX11_find 12 = .ok (.iconst 0, 1) := by decide +kernel
theorem dX11_find_13 : decode cX11_find 13 = .ok (.iaload, 1) := by decide +kernel
theorem dX11_find_14 : decode cX11_find 14 = .ok (.if_icmp .ge 41, 3) := by decide +kernel
theorem dX11_find_17 : decode cX11_find 17 = .ok (.aload_n 0, 1) := by decide +kernel
theorem dX11_find_18 : decode cX11_find 18 = .ok (.getfield 13, 3) := by decide +kernel
theorem dX11_find_21 : decode cX11_find 21 = .ok (.aload_n 0, 1) := by decide +kernel
theorem dX11_find_22 : decode cX11_find 22 = .ok (.getfield 54, 3) := by decide +kernel
theorem dX11_find_25 : decode cX11_find 25 = .ok (.iload_n 3, 1) := by decide +kernel
theorem dX11_find_26 : decode cX11_find 26 = .ok (.iaload, 1) := by decide +kernel
theorem dX11_find_27 : decode cX11_find 27 = .ok (.iaload, 1) := by decide +kernel
theorem dX11_find_28 : decode cX11_find 28 = .ok (.iload_n 1, 1) := by decide +kernel
theorem dX11_find_29 : decode cX11_find 29 = .ok (.if_icmp .ne 20, 3) := by decide +kernel
theorem dX11_find_32 : decode cX11_find 32 = .ok (.aload_n 0, 1) := by decide +kernel
theorem dX11_find_33 : decode cX11_find 33 = .ok (.getfield 16, 3) := by decide +kernel
theorem dX11_find_36 : decode cX11_find 36 = .ok (.aload_n 0, 1) := by decide +kernel
theorem dX11_find_37 : decode cX11_find 37 = .ok (.getfield 54, 3) := by decide +kernel
theorem dX11_find_40 : decode cX11_find 40 = .ok (.iload_n 3, 1) := by decide +kernel
theorem dX11_find_41 : decode cX11_find 41 = .ok (.iaload, 1) := by decide +kernel
theorem dX11_find_42 : decode cX11_find 42 = .ok (.iaload, 1) := by decide +kernel
theorem dX11_find_43 : decode cX11_find 43 = .ok (.iload_n 2, 1) := by decide +kernel
theorem dX11_find_44 : decode cX11_find 44 = .ok (.if_icmp .ne 5, 3) := by decide +kernel
theorem dX11_find_47 : decode cX11_find 47 = .ok (.iload_n 3, 1) := by decide +kernel
theorem dX11_find_48 : decode cX11_find 48 = .ok (.ireturn, 1) := by decide +kernel
theorem dX11_find_49 : decode cX11_find 49 = .ok (.iinc 3 1, 3) := by decide +kernel
theorem dX11_find_52 : decode cX11_find 52 = .ok (.goto (-45), 3) := by decide +kernel
theorem dX11_find_55 : decode cX11_find 55 = .ok (.iconst (-1), 1) := by decide +kernel
theorem dX11_find_56 : decode cX11_find 56 = .ok (.ireturn, 1) := by decide +kernel
theorem dX11_put_0 : decode cX11_put 0 = .ok (.aload_n 0, 1) := by decide +kernel
theorem dX11_put_1 : decode cX11_put 1 = .ok (.getfield 110, 3) := by decide +kernel
theorem dX11_put_4 : decode cX11_put 4 = .ok (.aload_n 0, 1) := by decide +kernel
theorem dX11_put_5 : decode cX11_put 5 = .ok (.getfield 113, 3) := by decide +kernel
theorem dX11_put_8 : decode cX11_put 8 = .ok (.iload_n 1, 1) := by decide +kernel
theorem dX11_put_9 : decode cX11_put 9 = .ok (.i2b, 1) := by decide +kernel
theorem dX11_put_10 : decode cX11_put 10 = .ok (.bastore, 1) := by decide +kernel
theorem dX11_put_11 : decode cX11_put 11 = .ok (.aload_n 0, 1) := by decide +kernel
theorem dX11_put_12 : decode cX11_put 12 = .ok (.dup, 1) := by decide +kernel
theorem dX11_put_13 : decode cX11_put 13 = .ok (.getfield 113, 3) := by decide +kernel
theorem dX11_put_16 : decode cX11_put 16 = .ok (.iconst 1, 1) := by decide +kernel
theorem dX11_put_17 : decode cX11_put 17 = .ok (.iadd, 1) := by decide +kernel
theorem dX11_put_18 : decode cX11_put 18 = .ok (.putfield 113, 3) := by decide +kernel
theorem dX11_put_21 : decode cX11_put 21 = .ok (.return_, 1) := by decide +kernel
theorem dX11_putAi_0 : decode cX11_putAi 0 = .ok (.iconst 1, 1) := by decide +kernel
theorem dX11_putAi_1 : decode cX11_putAi 1 = .ok (.istore_n 2, 1) := by decide +kernel
theorem dX11_putAi_2 : decode cX11_putAi 2 = .ok (.iconst 1, 1) := by decide +kernel
theorem dX11_putAi_3 : decode cX11_putAi 3 = .ok (.istore_n 3, 1) := by decide +kernel
theorem dX11_putAi_4 : decode cX11_putAi 4 = .ok (.iload_n 3, 1) := by decide +kernel
theorem dX11_putAi_5 : decode cX11_putAi 5 = .ok (.aload_n 0, 1) := by decide +kernel
theorem dX11_putAi_6 : decode cX11_putAi 6 = .ok (.getfield 16, 3) := by decide +kernel
theorem dX11_putAi_9 : decode cX11_putAi 9 = .ok (.iload_n 1, 1) := by decide +kernel
theorem dX11_putAi_10 : decode cX11_putAi 10 = .ok (.iaload, 1) := by decide +kernel
theorem dX11_putAi_11 : decode cX11_putAi 11 = .ok (.if_icmp .ge 14, 3) := by decide +kernel
theorem dX11_putAi_14 : decode cX11_putAi 14 = .ok (.iload_n 2, 1) := by decide +kernel
theorem dX11_putAi_15 : decode cX11_putAi 15 = .ok (.bipush 10, 2) := by decide +kernel
theorem dX11_putAi_17 : decode cX11_putAi 17 = .ok (.imul, 1) := by decide +kernel
theorem dX11_putAi_18 : decode cX11_putAi 18 = .ok (.istore_n 2, 1) := by decide +kernel
theorem dX11_putAi_19 : decode cX11_putAi 19 = .ok (.iinc 3 1, 3) := by decide +kernel
theorem dX11_putAi_22 : decode cX11_putAi 22 = .ok (.goto (-18), 3) := by decide +kernel
theorem dX11_putAi_25 : decode cX11_putAi 25 = .ok (.iload_n 2, 1) := by decide +kernel
theorem dX11_putAi_26 : decode cX11_putAi 26 = .ok (.ifCond .le 29, 3) := by decide +kernel
theorem dX11_putAi_29 : decode cX11_putAi 29 = .ok (.aload_n 0, 1) := by decide +kernel
theorem dX11_putAi_30 : decode cX11_putAi 30 = .ok (.bipush 48, 2) := by decide +kernel
theorem dX11_putAi_32 : decode cX11_putAi 32 = .ok (.aload_n 0, 1) := by decide +kernel
theorem dX11_putAi_33 : decode cX11_putAi 33 = .ok (.getfield 13, 3) := by decide +kernel
theorem dX11_putAi_36 : decode cX11_putAi 36 = .ok (.iload_n 1, 1) := by decide +kernel
theorem dX11_putAi_37 : decode cX11_putAi 37 = .ok (.iaload, 1) := by decide +kernel
theorem dX11_putAi_38 : decode cX11_putAi 38 = .ok (.iload_n 2, 1) := by decide +kernel
theorem dX11_putAi_39 : decode cX11_putAi 39 = .ok (.idiv, 1) := by decide +kernel
theorem dX11_putAi_40 : decode cX11_putAi 40 = .ok (.bipush 10, 2) := by decide +kernel
theorem dX11_putAi_42 : decode cX11_putAi 42 = .ok (.irem, 1) := by decide +kernel
theorem dX11_putAi_43 : decode cX11_putAi 43 = .ok (.iadd, 1) := by decide +kernel
theorem dX11_putAi_44 : decode cX11_putAi 44 = .ok (.invokevirtual 410, 3) := by decide +kernel
theorem dX11_putAi_47 : decode cX11_putAi 47 = .ok (.iload_n 2, 1) := by decide +kernel
theorem dX11_putAi_48 : decode cX11_putAi 48 = .ok (.bipush 10, 2) := by decide +kernel
theorem dX11_putAi_50 : decode cX11_putAi 50 = .ok (.idiv, 1) := by decide +kernel
theorem dX11_putAi_51 : decode cX11_putAi 51 = .ok (.istore_n 2, 1) := by decide +kernel
theorem dX11_putAi_52 : decode cX11_putAi 52 = .ok (.goto (-27), 3) := by decide +kernel
theorem dX11_putAi_55 : decode cX11_putAi 55 = .ok (.return_, 1) := by decide +kernel
theorem dX11_writes_0 : decode cX11_writes 0 = .ok (.aload_n 0, 1) := by decide +kernel
theorem dX11_writes_1 : decode cX11_writes 1 = .ok (.iconst 0, 1) := by decide +kernel
theorem dX11_writes_2 : decode cX11_writes 2 = .ok (.putfield 113, 3) := by decide +kernel
theorem dX11_writes_5 : decode cX11_writes 5 = .ok (.iload_n 1, 1) := by decide +kernel
theorem dX11_writes_6 : decode cX11_writes 6 = .ok (.istore 4, 2) := by decide +kernel
theorem dX11_writes_8 : decode cX11_writes 8 = .ok (.iload 4, 2) := by decide +kernel
theorem dX11_writes_10 : decode cX11_writes 10 = .ok (.iload_n 2, 1) := by decide +kernel
theorem dX11_writes_11 : decode cX11_writes 11 = .ok (.if_icmp .ge 130, 3) := by decide +kernel
theorem dX11_writes_14 : decode cX11_writes 14 = .ok (.iload_n 3, 1) := by decide +kernel
theorem dX11_writes_15 : decode cX11_writes 15 = .ok (.ifCond .eq 12, 3) := by decide +kernel
theorem dX11_writes_18 : decode cX11_writes 18 = .ok (.aload_n 0, 1) := by decide +kernel
theorem dX11_writes_19 : decode cX11_writes 19 = .ok (.bipush 40, 2) := by decide +kernel
theorem dX11_writes_21 : decode cX11_writes 21 = .ok (.invokevirtual 410, 3) := by decide +kernel
theorem dX11_writes_24 : decode cX11_writes 24 = .ok (.goto 31, 3) := by decide +kernel
theorem dX11_writes_27 : decode cX11_writes 27 = .ok (.iload 4, 2) := by decide +kernel
theorem dX11_writes_29 : decode cX11_writes 29 = .ok (.iload_n 1, 1) := by decide +kernel
theorem dX11_writes_30 : decode cX11_writes 30 = .ok (.if_icmp .le 25, 3) := by decide +kernel
theorem dX11_writes_33 : decode cX11_writes 33 = .ok (.aload_n 0, 1) := by decide +kernel
theorem dX11_writes_34 : decode cX11_writes 34 = .ok (.aload_n 0, 1) := by decide +kernel
theorem dX11_writes_35 : decode cX11_writes 35 = .ok (.getfield 54, 3) := by decide +kernel
theorem dX11_writes_38 : decode cX11_writes 38 = .ok (.iload 4, 2) := by decide +kernel
theorem dX11_writes_40 : decode cX11_writes 40 = .ok (.iconst 1, 1) := by decide +kernel
theorem dX11_writes_41 : decode cX11_writes 41 = .ok (.isub, 1) := by decide +kernel
theorem dX11_writes_42 : decode cX11_writes 42 = .ok (.iaload, 1) := by decide +kernel
theorem dX11_writes_43 : decode cX11_writes 43 = .ok (.invokevirtual 317, 3) := by decide +kernel
theorem dX11_writes_46 : decode cX11_writes 46 = .ok (.ifCond .ne 9, 3) := by decide +kernel
theorem dX11_writes_49 : decode cX11_writes 49 = .ok (.aload_n 0, 1) := by decide +kernel
theorem dX11_writes_50 : decode cX11_writes 50 = .ok (.bipush 29, 2) := by decide +kernel
theorem dX11_writes_52 : decode cX11_writes 52 = .ok (.invokevirtual 410, 3) := by decide +kernel
theorem dX11_writes_55 : decode cX11_writes 55 = .ok (.aload_n 0, 1) := by decide +kernel
theorem dX11_writes_56 : decode cX11_writes 56 = .ok (.aload_n 0, 1) := by decide +kernel
theorem dX11_writes_57 : decode cX11_writes 57 = .ok (.getfield 54, 3) := by decide +kernel
theorem dX11_writes_60 : decode cX11_writes 60 = .ok (.iload 4, 2) := by decide +kernel
theorem dX11_writes_62 : decode cX11_writes 62 = .ok (.iaload, 1) := by decide +kernel
theorem dX11_writes_63 : decode cX11_writes 63 = .ok (.invokevirtual 414, 3) := by decide +kernel
theorem dX11_writes_66 : decode cX11_writes 66 = .ok (.iload_n 3, 1) := by decide +kernel
theorem dX11_writes_67 : decode cX11_writes 67 = .ok (.ifCond .eq 9, 3) := by decide +kernel
theorem dX11_writes_70 : decode cX11_writes 70 = .ok (.aload_n 0, 1) := by decide +kernel
theorem dX11_writes_71 : decode cX11_writes 71 = .ok (.bipush 41, 2) := by decide +kernel
theorem dX11_writes_73 : decode cX11_writes 73 = .ok (.invokevirtual 410, 3) := by decide +kernel
theorem dX11_writes_76 : decode cX11_writes 76 = .ok (.iconst 0, 1) := by decide +kernel
theorem dX11_writes_77 : decode cX11_writes 77 = .ok (.istore 5, 2) := by decide +kernel
theorem dX11_writes_79 : decode cX11_writes 79 = .ok (.iload 5, 2) := by decide +kernel
theorem dX11_writes_81 : decode cX11_writes 81 = .ok (.aload_n 0, 1) := by decide +kernel
theorem dX11_writes_82 : decode cX11_writes 82 = .ok (.getfield 57, 3) := by decide +kernel
theorem dX11_writes_85 : decode cX11_writes 85 = .ok (.iload 4, 2) := by decide +kernel
theorem dX11_writes_87 : decode cX11_writes 87 = .ok (.iaload, 1) := by decide +kernel
theorem dX11_writes_88 : decode cX11_writes 88 = .ok (.if_icmp .ge 47, 3) := by decide +kernel
theorem dX11_writes_91 : decode cX11_writes 91 = .ok (.aload_n 0, 1) := by decide +kernel
theorem dX11_writes_92 : decode cX11_writes 92 = .ok (.getfield 63, 3) := by decide +kernel
theorem dX11_writes_95 : decode cX11_writes 95 = .ok (.bipush 90, 2) := by decide +kernel
theorem dX11_writes_97 : decode cX11_writes 97 = .ok (.iload 4, 2) := by decide +kernel
theorem dX11_writes_99 : decode cX11_writes 99 = .ok (.imul, 1) := by decide +kernel
theorem dX11_writes_100 : decode cX11_writes 100 = .ok (.iload 5, 2) := by decide +kernel
theorem dX11_writes_102 : decode cX11_writes 102 = .ok (.iadd, 1) := by decide +kernel
theorem dX11_writes_103 : decode cX11_writes 103 = .ok (.baload, 1) := by decide +kernel
theorem dX11_writes_104 : decode cX11_writes 104 = .ok (.istore 6, 2) := by decide +kernel
theorem dX11_writes_106 : decode cX11_writes 106 = .ok (.iload_n 3, 1) := by decide +kernel
theorem dX11_writes_107 : decode cX11_writes 107 = .ok (.ifCond .eq 16, 3) := by decide +kernel
theorem dX11_writes_110 : decode cX11_writes 110 = .ok (.iload 6, 2) := by decide +kernel
theorem dX11_writes_112 : decode cX11_writes 112 = .ok (.bipush 40, 2) := by decide +kernel
theorem dX11_writes_114 : decode cX11_writes 114 = .ok (.if_icmp .ne 9, 3) := by decide +kernel
theorem dX11_writes_117 : decode cX11_writes 117 = .ok (.aload_n 0, 1) := by decide +kernel
theorem dX11_writes_118 : decode cX11_writes 118 = .ok (.bipush 92, 2) := by decide +kernel
theorem dX11_writes_120 : decode cX11_writes 120 = .ok (.invokevirtual 410, 3) := by decide +kernel
theorem dX11_writes_123 : decode cX11_writes 123 = .ok (.aload_n 0, 1) := by decide +kernel
theorem dX11_writes_124 : decode cX11_writes 124 = .ok (.iload 6, 2) := by decide +kernel
theorem dX11_writes_126 : decode cX11_writes 126 = .ok (.invokevirtual 410, 3) := by decide +kernel
theorem dX11_writes_129 : decode cX11_writes 129 = .ok (.iinc 5 1, 3) := by decide +kernel
theorem dX11_writes_132 : decode cX11_writes 132 = .ok (.goto (-53), 3) := by decide +kernel
theorem dX11_writes_135 : decode cX11_writes 135 = .ok (.iinc 4 1, 3) := by decide +kernel
theorem dX11_writes_138 : decode cX11_writes 138 = .ok (.goto (-130), 3) := by decide +kernel
theorem dX11_writes_141 : decode cX11_writes 141 = .ok (.return_, 1) := by decide +kernel
theorem dX11_write_0 : decode cX11_write 0 = .ok (.aload_n 0, 1) := by decide +kernel
theorem dX11_write_1 : decode cX11_write 1 = .ok (.iconst 0, 1) := by decide +kernel
theorem dX11_write_2 : decode cX11_write 2 = .ok (.putfield 48, 3) := by decide +kernel
theorem dX11_write_5 : decode cX11_write 5 = .ok (.aload_n 0, 1) := by decide +kernel
theorem dX11_write_6 : decode cX11_write 6 = .ok (.iconst 0, 1) := by decide +kernel
theorem dX11_write_7 : decode cX11_write 7 = .ok (.aload_n 0, 1) := by decide +kernel
theorem dX11_write_8 : decode cX11_write 8 = .ok (.getfield 51, 3) := by decide +kernel
theorem dX11_write_11 : decode cX11_write 11 = .ok (.iconst 0, 1) := by decide +kernel
theorem dX11_write_12 : decode cX11_write 12 = .ok (.iaload, 1) := by decide +kernel
theorem dX11_write_13 : decode cX11_write 13 = .ok (.iload_n 1, 1) := by decide +kernel
theorem dX11_write_14 : decode cX11_write 14 = .ok (.invokevirtual 417, 3) := by decide +kernel
theorem dX11_write_17 : decode cX11_write 17 = .ok (.aload_n 0, 1) := by decide +kernel
theorem dX11_write_18 : decode cX11_write 18 = .ok (.getfield 113, 3) := by decide +kernel
theorem dX11_write_21 : decode cX11_write 21 = .ok (.ireturn, 1) := by decide +kernel
theorem dX11_out_0 : decode cX11_out 0 = .ok (.aload_n 0, 1) := by decide +kernel
theorem dX11_out_1 : decode cX11_out 1 = .ok (.iconst 0, 1) := by decide +kernel
theorem dX11_out_2 : decode cX11_out 2 = .ok (.putfield 48, 3) := by decide +kernel
theorem dX11_out_5 : decode cX11_out 5 = .ok (.iload_n 1, 1) := by decide +kernel
theorem dX11_out_6 : decode cX11_out 6 = .ok (.ifCond .lt 11, 3) := by decide +kernel
theorem dX11_out_9 : decode cX11_out 9 = .ok (.iload_n 1, 1) := by decide +kernel
theorem dX11_out_10 : decode cX11_out 10 = .ok (.aload_n 0, 1) := by decide +kernel
theorem dX11_out_11 : decode cX11_out 11 = .ok (.getfield 113, 3) := by decide +kernel
theorem dX11_out_14 : decode cX11_out 14 = .ok (.if_icmp .lt 7, 3) := by decide +kernel
theorem dX11_out_17 : decode cX11_out 17 = .ok (.iconst (-1), 1) := by decide +kernel
theorem dX11_out_18 : decode cX11_out 18 = .ok (.goto 9, 3) := by decide +kernel
theorem dX11_out_21 : decode cX11_out 21 = .ok (.aload_n 0, 1) := by decide +kernel
theorem dX11_out_22 : decode cX11_out 22 = .ok (.getfield 110, 3) := by decide +kernel
theorem dX11_out_25 : decode cX11_out 25 = .ok (.iload_n 1, 1) := by decide +kernel
theorem dX11_out_26 : decode cX11_out 26 = .ok (.baload, 1) := by decide +kernel
theorem dX11_out_27 : decode cX11_out 27 = .ok (.ireturn, 1) := by decide +kernel
theorem dX11_arrange_0 : decode cX11_arrange 0 = .ok (.aload_n 0, 1) := by decide +kernel
theorem dX11_arrange_1 : decode cX11_arrange 1 = .ok (.iconst 0, 1) := by decide +kernel
theorem dX11_arrange_2 : decode cX11_arrange 2 = .ok (.putfield 48, 3) := by decide +kernel
theorem dX11_arrange_5 : decode cX11_arrange 5 = .ok (.iconst 0, 1) := by decide +kernel
theorem dX11_arrange_6 : decode cX11_arrange 6 = .ok (.istore_n 1, 1) := by decide +kernel
theorem dX11_arrange_7 : decode cX11_arrange 7 = .ok (.iconst 0, 1) := by decide +kernel
theorem dX11_arrange_8 : decode cX11_arrange 8 = .ok (.istore_n 2, 1) := by decide +kernel
theorem dX11_arrange_9 : decode cX11_arrange 9 = .ok (.iconst 0, 1) := by decide +kernel
theorem dX11_arrange_10 : decode cX11_arrange 10 = .ok (.istore_n 3, 1) := by decide +kernel
theorem dX11_arrange_11 : decode cX11_arrange 11 = .ok (.iload_n 3, 1) := by decide +kernel
theorem dX11_arrange_12 : decode cX11_arrange 12 = .ok (.iconst 2, 1) := by decide +kernel
theorem dX11_arrange_13 : decode cX11_arrange 13 = .ok (.if_icmp .ge 77, 3) := by decide +kernel
theorem dX11_arrange_16 : decode cX11_arrange 16 = .ok (.iconst 0, 1) := by decide +kernel
theorem dX11_arrange_17 : decode cX11_arrange 17 = .ok (.istore 4, 2) := by decide +kernel
theorem dX11_arrange_19 : decode cX11_arrange 19 = .ok (.iload 4, 2) := by decide +kernel
theorem dX11_arrange_21 : decode cX11_arrange 21 = .ok (.aload_n 0, 1) := by decide +kernel
theorem dX11_arrange_22 : decode cX11_arrange 22 = .ok (.getfield 51, 3) := by decide +kernel
theorem dX11_arrange_25 : decode cX11_arrange 25 = .ok (.iconst 0, 1) := by decide +kernel
theorem dX11_arrange_26 : decode cX11_arrange 26 = .ok (.iaload, 1) := by decide +kernel
theorem dX11_arrange_27 : decode cX11_arrange 27 = .ok (.if_icmp .ge 57, 3) := by decide +kernel
theorem dX11_arrange_30 : decode cX11_arrange 30 = .ok (.aload_n 0, 1) := by decide +kernel
theorem dX11_arrange_31 : decode cX11_arrange 31 = .ok (.aload_n 0, 1) := by decide +kernel
theorem dX11_arrange_32 : decode cX11_arrange 32 = .ok (.getfield 54, 3) := by decide +kernel
theorem dX11_arrange_35 : decode cX11_arrange 35 = .ok (.iload 4, 2) := by decide +kernel
theorem dX11_arrange_37 : decode cX11_arrange 37 = .ok (.iaload, 1) := by decide +kernel
theorem dX11_arrange_38 : decode cX11_arrange 38 = .ok (.invokevirtual 317, 3) := by decide +kernel
theorem dX11_arrange_41 : decode cX11_arrange 41 = .ok (.iload_n 3, 1) := by decide +kernel
theorem dX11_arrange_42 : decode cX11_arrange 42 = .ok (.ifCond .ne 7, 3) := by decide +kernel
theorem dX11_arrange_45 : decode cX11_arrange 45 = .ok (.iconst 1, 1) := by decide +kernel
theorem dX11_arrange_46 : decode cX11_arrange 46 = .ok (.goto 4, 3) := by decide +kernel
theorem dX11_arrange_49 : decode cX11_arrange 49 = .ok (.iconst 0, 1) := by decide +kernel
theorem dX11_arrange_50 : decode cX11_arrange 50 = .ok (.if_icmp .eq 6, 3) := by decide +kernel
theorem dX11_arrange_53 : decode cX11_arrange 53 = .ok (.goto 25, 3) := by decide +kernel
theorem dX11_arrange_56 : decode cX11_arrange 56 = .ok (.iload 4, 2) := by decide +kernel
theorem dX11_arrange_58 : decode cX11_arrange 58 = .ok (.iload_n 1, 1) := by decide +kernel
theorem dX11_arrange_59 : decode cX11_arrange 59 = .ok (.if_icmp .eq 6, 3) := by decide +kernel
theorem dX11_arrange_62 : decode cX11_arrange 62 = .ok (.iinc 2 1, 3) := by decide +kernel
theorem dX11_arrange_65 : decode cX11_arrange 65 = .ok (.aload_n 0, 1) := by decide +kernel
theorem dX11_arrange_66 : decode cX11_arrange 66 = .ok (.iconst 0, 1) := by decide +kernel
theorem dX11_arrange_67 : decode cX11_arrange 67 = .ok (.iload 4, 2) := by decide +kernel
theorem dX11_arrange_69 : decode cX11_arrange 69 = .ok (.bipush 9, 2) := by decide +kernel
theorem dX11_arrange_71 : decode cX11_arrange 71 = .ok (.iload_n 1, 1) := by decide +kernel
theorem dX11_arrange_72 : decode cX11_arrange 72 = .ok (.invokevirtual 293, 3) := by decide +kernel
theorem dX11_arrange_75 : decode cX11_arrange 75 = .ok (.iinc 1 1, 3) := by decide +kernel
theorem dX11_arrange_78 : decode cX11_arrange 78 = .ok (.iinc 4 1, 3) := by decide +kernel
theorem dX11_arrange_81 : decode cX11_arrange 81 = .ok (.goto (-62), 3) := by decide +kernel
theorem dX11_arrange_84 : decode cX11_arrange 84 = .ok (.iinc 3 1, 3) := by decide +kernel
theorem dX11_arrange_87 : decode cX11_arrange 87 = .ok (.goto (-76), 3) := by decide +kernel
theorem dX11_arrange_90 : decode cX11_arrange 90 = .ok (.aload_n 0, 1) := by decide +kernel
theorem dX11_arrange_91 : decode cX11_arrange 91 = .ok (.getfield 51, 3) := by decide +kernel
theorem dX11_arrange_94 : decode cX11_arrange 94 = .ok (.bipush 9, 2) := by decide +kernel
theorem dX11_arrange_96 : decode cX11_arrange 96 = .ok (.iload_n 1, 1) := by decide +kernel
theorem dX11_arrange_97 : decode cX11_arrange 97 = .ok (.iastore, 1) := by decide +kernel
theorem dX11_arrange_98 : decode cX11_arrange 98 = .ok (.aload_n 0, 1) := by decide +kernel
theorem dX11_arrange_99 : decode cX11_arrange 99 = .ok (.bipush 9, 2) := by decide +kernel
theorem dX11_arrange_101 : decode cX11_arrange 101 = .ok (.iconst 0, 1) := by decide +kernel
theorem dX11_arrange_102 : decode cX11_arrange 102 = .ok (.invokevirtual 380, 3) := by decide +kernel
theorem dX11_arrange_105 : decode cX11_arrange 105 = .ok (.pop, 1) := by decide +kernel
theorem dX11_arrange_106 : decode cX11_arrange 106 = .ok (.iload_n 2, 1) := by decide +kernel
theorem dX11_arrange_107 : decode cX11_arrange 107 = .ok (.ireturn, 1) := by decide +kernel
theorem dX11_isNoShelf_0 : decode cX11_isNoShelf 0 = .ok (.iload_n 1, 1) := by decide +kernel
theorem dX11_isNoShelf_1 : decode cX11_isNoShelf 1 = .ok (.ifCond .lt 9, 3) := by decide +kernel
theorem dX11_isNoShelf_4 : decode cX11_isNoShelf 4 = .ok (.iload_n 1, 1) := by decide +kernel
theorem dX11_isNoShelf_5 : decode cX11_isNoShelf 5 = .ok (.bipush 7, 2) := by decide +kernel
theorem dX11_isNoShelf_7 : decode cX11_isNoShelf 7 = .ok (.if_icmp .le 15, 3) := by decide +kernel
theorem dX11_isNoShelf_10 : decode cX11_isNoShelf 10 = .ok (.aload_n 0, 1) := by decide +kernel
theorem dX11_isNoShelf_11 : decode cX11_isNoShelf 11 = .ok (.iconst 1, 1) := by decide +kernel
theorem dX11_isNoShelf_12 : decode cX11_isNoShelf 12 = .ok (.invokevirtual 394, 3) := by decide +kernel
theorem dX11_isNoShelf_15 : decode cX11_isNoShelf 15 = .ok (.ifCond .eq 7, 3) := by decide +kernel
theorem dX11_isNoShelf_18 : decode cX11_isNoShelf 18 = .ok (.iconst 1, 1) := by decide +kernel
theorem dX11_isNoShelf_19 : decode cX11_isNoShelf 19 = .ok (.goto 4, 3) := by decide +kernel
theorem dX11_isNoShelf_22 : decode cX11_isNoShelf 22 = .ok (.iconst 0, 1) := by decide +kernel
theorem dX11_isNoShelf_23 : decode cX11_isNoShelf 23 = .ok (.ireturn, 1) := by decide +kernel
theorem dX11_shelve_0 : decode cX11_shelve 0 = .ok (.aload_n 0, 1) := by decide +kernel
theorem dX11_shelve_1 : decode cX11_shelve 1 = .ok (.iconst 0, 1) := by decide +kernel
theorem dX11_shelve_2 : decode cX11_shelve 2 = .ok (.putfield 48, 3) := by decide +kernel
theorem dX11_shelve_5 : decode cX11_shelve 5 = .ok (.aload_n 0, 1) := by decide +kernel
theorem dX11_shelve_6 : decode cX11_shelve 6 = .ok (.iload_n 1, 1) := by decide +kernel
theorem dX11_shelve_7 : decode cX11_shelve 7 = .ok (.invokevirtual 421, 3) := by decide +kernel
theorem dX11_shelve_10 : decode cX11_shelve 10 = .ok (.ifCond .eq 7, 3) := by decide +kernel
theorem dX11_shelve_13 : decode cX11_shelve 13 = .ok (.iconst (-1), 1) := by decide +kernel
theorem dX11_shelve_14 : decode cX11_shelve 14 = .ok (.goto 11, 3) := by decide +kernel
theorem dX11_shelve_17 : decode cX11_shelve 17 = .ok (.aload_n 0, 1) := by decide +kernel
theorem dX11_shelve_18 : decode cX11_shelve 18 = .ok (.iconst 0, 1) := by decide +kernel
