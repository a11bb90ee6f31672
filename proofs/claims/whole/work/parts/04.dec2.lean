theorem dX11_shelve_19 : decode cX11_shelve 19 = .ok (.iconst 1, 1) := by decide +kernel
theorem dX11_shelve_20 : decode cX11_shelve 20 = .ok (.iload_n 1, 1) := by decide +kernel
theorem dX11_shelve_21 : decode cX11_shelve 21 = .ok (.iadd, 1) := by decide +kernel
theorem dX11_shelve_22 : decode cX11_shelve 22 = .ok (.invokevirtual 380, 3) := by decide +kernel
theorem dX11_shelve_25 : decode cX11_shelve 25 = .ok (.ireturn, 1) := by decide +kernel
theorem dX11_fetch_0 : decode cX11_fetch 0 = .ok (.aload_n 0, 1) := by decide +kernel
theorem dX11_fetch_1 : decode cX11_fetch 1 = .ok (.iconst 0, 1) := by decide +kernel
theorem dX11_fetch_2 : decode cX11_fetch 2 = .ok (.putfield 48, 3) := by decide +kernel
theorem dX11_fetch_5 : decode cX11_fetch 5 = .ok (.aload_n 0, 1) := by decide +kernel
theorem dX11_fetch_6 : decode cX11_fetch 6 = .ok (.iload_n 1, 1) := by decide +kernel
theorem dX11_fetch_7 : decode cX11_fetch 7 = .ok (.invokevirtual 421, 3) := by decide +kernel
theorem dX11_fetch_10 : decode cX11_fetch 10 = .ok (.ifCond .eq 7, 3) := by decide +kernel
theorem dX11_fetch_13 : decode cX11_fetch 13 = .ok (.iconst (-1), 1) := by decide +kernel
theorem dX11_fetch_14 : decode cX11_fetch 14 = .ok (.goto 11, 3) := by decide +kernel
theorem dX11_fetch_17 : decode cX11_fetch 17 = .ok (.aload_n 0, 1) := by decide +kernel
theorem dX11_fetch_18 : decode cX11_fetch 18 = .ok (.iconst 1, 1) := by decide +kernel
theorem dX11_fetch_19 : decode cX11_fetch 19 = .ok (.iload_n 1, 1) := by decide +kernel
theorem dX11_fetch_20 : decode cX11_fetch 20 = .ok (.iadd, 1) := by decide +kernel
theorem dX11_fetch_21 : decode cX11_fetch 21 = .ok (.iconst 0, 1) := by decide +kernel
theorem dX11_fetch_22 : decode cX11_fetch 22 = .ok (.invokevirtual 380, 3) := by decide +kernel
theorem dX11_fetch_25 : decode cX11_fetch 25 = .ok (.ireturn, 1) := by decide +kernel
theorem dX11_same_0 : decode cX11_same 0 = .ok (.aload_n 0, 1) := by decide +kernel
theorem dX11_same_1 : decode cX11_same 1 = .ok (.iconst 0, 1) := by decide +kernel
theorem dX11_same_2 : decode cX11_same 2 = .ok (.putfield 48, 3) := by decide +kernel
theorem dX11_same_5 : decode cX11_same 5 = .ok (.aload_n 0, 1) := by decide +kernel
theorem dX11_same_6 : decode cX11_same 6 = .ok (.iload_n 1, 1) := by decide +kernel
theorem dX11_same_7 : decode cX11_same 7 = .ok (.invokevirtual 421, 3) := by decide +kernel
theorem dX11_same_10 : decode cX11_same 10 = .ok (.ifCond .eq 5, 3) := by decide +kernel
theorem dX11_same_13 : decode cX11_same 13 = .ok (.iconst 0, 1) := by decide +kernel
theorem dX11_same_14 : decode cX11_same 14 = .ok (.ireturn, 1) := by decide +kernel
theorem dX11_same_15 : decode cX11_same 15 = .ok (.aload_n 0, 1) := by decide +kernel
theorem dX11_same_16 : decode cX11_same 16 = .ok (.getfield 51, 3) := by decide +kernel
theorem dX11_same_19 : decode cX11_same 19 = .ok (.iconst 0, 1) := by decide +kernel
theorem dX11_same_20 : decode cX11_same 20 = .ok (.iaload, 1) := by decide +kernel
theorem dX11_same_21 : decode cX11_same 21 = .ok (.aload_n 0, 1) := by decide +kernel
theorem dX11_same_22 : decode cX11_same 22 = .ok (.getfield 51, 3) := by decide +kernel
theorem dX11_same_25 : decode cX11_same 25 = .ok (.iconst 1, 1) := by decide +kernel
theorem dX11_same_26 : decode cX11_same 26 = .ok (.iload_n 1, 1) := by decide +kernel
theorem dX11_same_27 : decode cX11_same 27 = .ok (.iadd, 1) := by decide +kernel
theorem dX11_same_28 : decode cX11_same 28 = .ok (.iaload, 1) := by decide +kernel
theorem dX11_same_29 : decode cX11_same 29 = .ok (.if_icmp .ne 7, 3) := by decide +kernel
theorem dX11_same_32 : decode cX11_same 32 = .ok (.iconst 1, 1) := by decide +kernel
theorem dX11_same_33 : decode cX11_same 33 = .ok (.goto 4, 3) := by decide +kernel
theorem dX11_same_36 : decode cX11_same 36 = .ok (.iconst 0, 1) := by decide +kernel
theorem dX11_same_37 : decode cX11_same 37 = .ok (.istore_n 2, 1) := by decide +kernel
theorem dX11_same_38 : decode cX11_same 38 = .ok (.iconst 0, 1) := by decide +kernel
theorem dX11_same_39 : decode cX11_same 39 = .ok (.istore_n 3, 1) := by decide +kernel
theorem dX11_same_40 : decode cX11_same 40 = .ok (.iload_n 3, 1) := by decide +kernel
theorem dX11_same_41 : decode cX11_same 41 = .ok (.aload_n 0, 1) := by decide +kernel
theorem dX11_same_42 : decode cX11_same 42 = .ok (.getfield 51, 3) := by decide +kernel
theorem dX11_same_45 : decode cX11_same 45 = .ok (.iconst 0, 1) := by decide +kernel
theorem dX11_same_46 : decode cX11_same 46 = .ok (.iaload, 1) := by decide +kernel
theorem dX11_same_47 : decode cX11_same 47 = .ok (.if_icmp .ge 119, 3) := by decide +kernel
theorem dX11_same_50 : decode cX11_same 50 = .ok (.iload_n 2, 1) := by decide +kernel
theorem dX11_same_51 : decode cX11_same 51 = .ok (.ifCond .eq 115, 3) := by decide +kernel
theorem dX11_same_54 : decode cX11_same 54 = .ok (.bipush 20, 2) := by decide +kernel
theorem dX11_same_56 : decode cX11_same 56 = .ok (.iconst 1, 1) := by decide +kernel
theorem dX11_same_57 : decode cX11_same 57 = .ok (.iload_n 1, 1) := by decide +kernel
theorem dX11_same_58 : decode cX11_same 58 = .ok (.iadd, 1) := by decide +kernel
theorem dX11_same_59 : decode cX11_same 59 = .ok (.imul, 1) := by decide +kernel
theorem dX11_same_60 : decode cX11_same 60 = .ok (.iload_n 3, 1) := by decide +kernel
theorem dX11_same_61 : decode cX11_same 61 = .ok (.iadd, 1) := by decide +kernel
theorem dX11_same_62 : decode cX11_same 62 = .ok (.istore 4, 2) := by decide +kernel
theorem dX11_same_64 : decode cX11_same 64 = .ok (.aload_n 0, 1) := by decide +kernel
theorem dX11_same_65 : decode cX11_same 65 = .ok (.getfield 54, 3) := by decide +kernel
theorem dX11_same_68 : decode cX11_same 68 = .ok (.iload_n 3, 1) := by decide +kernel
theorem dX11_same_69 : decode cX11_same 69 = .ok (.iaload, 1) := by decide +kernel
theorem dX11_same_70 : decode cX11_same 70 = .ok (.aload_n 0, 1) := by decide +kernel
theorem dX11_same_71 : decode cX11_same 71 = .ok (.getfield 54, 3) := by decide +kernel
theorem dX11_same_74 : decode cX11_same 74 = .ok (.iload 4, 2) := by decide +kernel
theorem dX11_same_76 : decode cX11_same 76 = .ok (.iaload, 1) := by decide +kernel
theorem dX11_same_77 : decode cX11_same 77 = .ok (.if_icmp .ne 23, 3) := by decide +kernel
theorem dX11_same_80 : decode cX11_same 80 = .ok (.aload_n 0, 1) := by decide +kernel
theorem dX11_same_81 : decode cX11_same 81 = .ok (.getfield 57, 3) := by decide +kernel
theorem dX11_same_84 : decode cX11_same 84 = .ok (.iload_n 3, 1) := by decide +kernel
theorem dX11_same_85 : decode cX11_same 85 = .ok (.iaload, 1) := by decide +kernel
theorem dX11_same_86 : decode cX11_same 86 = .ok (.aload_n 0, 1) := by decide +kernel
theorem dX11_same_87 : decode cX11_same 87 = .ok (.getfield 57, 3) := by decide +kernel
theorem dX11_same_90 : decode cX11_same 90 = .ok (.iload 4, 2) := by decide +kernel
theorem dX11_same_92 : decode cX11_same 92 = .ok (.iaload, 1) := by decide +kernel
theorem dX11_same_93 : decode cX11_same 93 = .ok (.if_icmp .ne 7, 3) := by decide +kernel
theorem dX11_same_96 : decode cX11_same 96 = .ok (.iconst 1, 1) := by decide +kernel
theorem dX11_same_97 : decode cX11_same 97 = .ok (.goto 4, 3) := by decide +kernel
theorem dX11_same_100 : decode cX11_same 100 = .ok (.iconst 0, 1) := by decide +kernel
theorem dX11_same_101 : decode cX11_same 101 = .ok (.istore_n 2, 1) := by decide +kernel
theorem dX11_same_102 : decode cX11_same 102 = .ok (.iconst 0, 1) := by decide +kernel
theorem dX11_same_103 : decode cX11_same 103 = .ok (.istore 5, 2) := by decide +kernel
theorem dX11_same_105 : decode cX11_same 105 = .ok (.iload 5, 2) := by decide +kernel
theorem dX11_same_107 : decode cX11_same 107 = .ok (.aload_n 0, 1) := by decide +kernel
theorem dX11_same_108 : decode cX11_same 108 = .ok (.getfield 57, 3) := by decide +kernel
theorem dX11_same_111 : decode cX11_same 111 = .ok (.iload_n 3, 1) := by decide +kernel
theorem dX11_same_112 : decode cX11_same 112 = .ok (.iaload, 1) := by decide +kernel
theorem dX11_same_113 : decode cX11_same 113 = .ok (.if_icmp .ge 47, 3) := by decide +kernel
theorem dX11_same_116 : decode cX11_same 116 = .ok (.iload_n 2, 1) := by decide +kernel
theorem dX11_same_117 : decode cX11_same 117 = .ok (.ifCond .eq 43, 3) := by decide +kernel
theorem dX11_same_120 : decode cX11_same 120 = .ok (.aload_n 0, 1) := by decide +kernel
theorem dX11_same_121 : decode cX11_same 121 = .ok (.getfield 63, 3) := by decide +kernel
theorem dX11_same_124 : decode cX11_same 124 = .ok (.bipush 90, 2) := by decide +kernel
theorem dX11_same_126 : decode cX11_same 126 = .ok (.iload_n 3, 1) := by decide +kernel
theorem dX11_same_127 : decode cX11_same 127 = .ok (.imul, 1) := by decide +kernel
theorem dX11_same_128 : decode cX11_same 128 = .ok (.iload 5, 2) := by decide +kernel
theorem dX11_same_130 : decode cX11_same 130 = .ok (.iadd, 1) := by decide +kernel
theorem dX11_same_131 : decode cX11_same 131 = .ok (.baload, 1) := by decide +kernel
theorem dX11_same_132 : decode cX11_same 132 = .ok (.aload_n 0, 1) := by decide +kernel
theorem dX11_same_133 : decode cX11_same 133 = .ok (.getfield 63, 3) := by decide +kernel
theorem dX11_same_136 : decode cX11_same 136 = .ok (.bipush 90, 2) := by decide +kernel
theorem dX11_same_138 : decode cX11_same 138 = .ok (.iload 4, 2) := by decide +kernel
theorem dX11_same_140 : decode cX11_same 140 = .ok (.imul, 1) := by decide +kernel
theorem dX11_same_141 : decode cX11_same 141 = .ok (.iload 5, 2) := by decide +kernel
theorem dX11_same_143 : decode cX11_same 143 = .ok (.iadd, 1) := by decide +kernel
theorem dX11_same_144 : decode cX11_same 144 = .ok (.baload, 1) := by decide +kernel
theorem dX11_same_145 : decode cX11_same 145 = .ok (.if_icmp .ne 7, 3) := by decide +kernel
theorem dX11_same_148 : decode cX11_same 148 = .ok (.iconst 1, 1) := by decide +kernel
theorem dX11_same_149 : decode cX11_same 149 = .ok (.goto 4, 3) := by decide +kernel
theorem dX11_same_152 : decode cX11_same 152 = .ok (.iconst 0, 1) := by decide +kernel
theorem dX11_same_153 : decode cX11_same 153 = .ok (.istore_n 2, 1) := by decide +kernel
theorem dX11_same_154 : decode cX11_same 154 = .ok (.iinc 5 1, 3) := by decide +kernel
theorem dX11_same_157 : decode cX11_same 157 = .ok (.goto (-52), 3) := by decide +kernel
theorem dX11_same_160 : decode cX11_same 160 = .ok (.iinc 3 1, 3) := by decide +kernel
theorem dX11_same_163 : decode cX11_same 163 = .ok (.goto (-123), 3) := by decide +kernel
theorem dX11_same_166 : decode cX11_same 166 = .ok (.iload_n 2, 1) := by decide +kernel
theorem dX11_same_167 : decode cX11_same 167 = .ok (.ireturn, 1) := by decide +kernel
theorem dX11_join_0 : decode cX11_join 0 = .ok (.aload_n 0, 1) := by decide +kernel
theorem dX11_join_1 : decode cX11_join 1 = .ok (.iconst 0, 1) := by decide +kernel
theorem dX11_join_2 : decode cX11_join 2 = .ok (.putfield 48, 3) := by decide +kernel
theorem dX11_join_5 : decode cX11_join 5 = .ok (.aload_n 0, 1) := by decide +kernel
theorem dX11_join_6 : decode cX11_join 6 = .ok (.iload_n 1, 1) := by decide +kernel
theorem dX11_join_7 : decode cX11_join 7 = .ok (.invokevirtual 421, 3) := by decide +kernel
theorem dX11_join_10 : decode cX11_join 10 = .ok (.ifCond .eq 5, 3) := by decide +kernel
theorem dX11_join_13 : decode cX11_join 13 = .ok (.iconst (-1), 1) := by decide +kernel
theorem dX11_join_14 : decode cX11_join 14 = .ok (.ireturn, 1) := by decide +kernel
theorem dX11_join_15 : decode cX11_join 15 = .ok (.aload_n 0, 1) := by decide +kernel
theorem dX11_join_16 : decode cX11_join 16 = .ok (.getfield 51, 3) := by decide +kernel
theorem dX11_join_19 : decode cX11_join 19 = .ok (.iconst 0, 1) := by decide +kernel
theorem dX11_join_20 : decode cX11_join 20 = .ok (.iaload, 1) := by decide +kernel
theorem dX11_join_21 : decode cX11_join 21 = .ok (.aload_n 0, 1) := by decide +kernel
theorem dX11_join_22 : decode cX11_join 22 = .ok (.getfield 51, 3) := by decide +kernel
theorem dX11_join_25 : decode cX11_join 25 = .ok (.iconst 1, 1) := by decide +kernel
theorem dX11_join_26 : decode cX11_join 26 = .ok (.iload_n 1, 1) := by decide +kernel
theorem dX11_join_27 : decode cX11_join 27 = .ok (.iadd, 1) := by decide +kernel
theorem dX11_join_28 : decode cX11_join 28 = .ok (.iaload, 1) := by decide +kernel
theorem dX11_join_29 : decode cX11_join 29 = .ok (.iadd, 1) := by decide +kernel
theorem dX11_join_30 : decode cX11_join 30 = .ok (.istore_n 2, 1) := by decide +kernel
theorem dX11_join_31 : decode cX11_join 31 = .ok (.iload_n 2, 1) := by decide +kernel
theorem dX11_join_32 : decode cX11_join 32 = .ok (.bipush 20, 2) := by decide +kernel
theorem dX11_join_34 : decode cX11_join 34 = .ok (.if_icmp .le 5, 3) := by decide +kernel
theorem dX11_join_37 : decode cX11_join 37 = .ok (.iconst (-1), 1) := by decide +kernel
theorem dX11_join_38 : decode cX11_join 38 = .ok (.ireturn, 1) := by decide +kernel
theorem dX11_join_39 : decode cX11_join 39 = .ok (.aload_n 0, 1) := by decide +kernel
theorem dX11_join_40 : decode cX11_join 40 = .ok (.iconst 0, 1) := by decide +kernel
theorem dX11_join_41 : decode cX11_join 41 = .ok (.bipush 9, 2) := by decide +kernel
theorem dX11_join_43 : decode cX11_join 43 = .ok (.invokevirtual 380, 3) := by decide +kernel
theorem dX11_join_46 : decode cX11_join 46 = .ok (.pop, 1) := by decide +kernel
theorem dX11_join_47 : decode cX11_join 47 = .ok (.iconst 0, 1) := by decide +kernel
theorem dX11_join_48 : decode cX11_join 48 = .ok (.istore_n 3, 1) := by decide +kernel
theorem dX11_join_49 : decode cX11_join 49 = .ok (.iload_n 3, 1) := by decide +kernel
theorem dX11_join_50 : decode cX11_join 50 = .ok (.aload_n 0, 1) := by decide +kernel
theorem dX11_join_51 : decode cX11_join 51 = .ok (.getfield 51, 3) := by decide +kernel
theorem dX11_join_54 : decode cX11_join 54 = .ok (.iconst 1, 1) := by decide +kernel
theorem dX11_join_55 : decode cX11_join 55 = .ok (.iload_n 1, 1) := by decide +kernel
theorem dX11_join_56 : decode cX11_join 56 = .ok (.iadd, 1) := by decide +kernel
theorem dX11_join_57 : decode cX11_join 57 = .ok (.iaload, 1) := by decide +kernel
theorem dX11_join_58 : decode cX11_join 58 = .ok (.if_icmp .ge 27, 3) := by decide +kernel
theorem dX11_join_61 : decode cX11_join 61 = .ok (.aload_n 0, 1) := by decide +kernel
theorem dX11_join_62 : decode cX11_join 62 = .ok (.iconst 1, 1) := by decide +kernel
theorem dX11_join_63 : decode cX11_join 63 = .ok (.iload_n 1, 1) := by decide +kernel
theorem dX11_join_64 : decode cX11_join 64 = .ok (.iadd, 1) := by decide +kernel
theorem dX11_join_65 : decode cX11_join 65 = .ok (.iload_n 3, 1) := by decide +kernel
theorem dX11_join_66 : decode cX11_join 66 = .ok (.bipush 9, 2) := by decide +kernel
theorem dX11_join_68 : decode cX11_join 68 = .ok (.aload_n 0, 1) := by decide +kernel
theorem dX11_join_69 : decode cX11_join 69 = .ok (.getfield 51, 3) := by decide +kernel
theorem dX11_join_72 : decode cX11_join 72 = .ok (.iconst 0, 1) := by decide +kernel
theorem dX11_join_73 : decode cX11_join 73 = .ok (.iaload, 1) := by decide +kernel
theorem dX11_join_74 : decode cX11_join 74 = .ok (.iload_n 3, 1) := by decide +kernel
theorem dX11_join_75 : decode cX11_join 75 = .ok (.iadd, 1) := by decide +kernel
theorem dX11_join_76 : decode cX11_join 76 = .ok (.invokevirtual 293, 3) := by decide +kernel
theorem dX11_join_79 : decode cX11_join 79 = .ok (.iinc 3 1, 3) := by decide +kernel
theorem dX11_join_82 : decode cX11_join 82 = .ok (.goto (-33), 3) := by decide +kernel
theorem dX11_join_85 : decode cX11_join 85 = .ok (.aload_n 0, 1) := by decide +kernel
theorem dX11_join_86 : decode cX11_join 86 = .ok (.getfield 51, 3) := by decide +kernel
theorem dX11_join_89 : decode cX11_join 89 = .ok (.bipush 9, 2) := by decide +kernel
theorem dX11_join_91 : decode cX11_join 91 = .ok (.iload_n 2, 1) := by decide +kernel
theorem dX11_join_92 : decode cX11_join 92 = .ok (.iastore, 1) := by decide +kernel
theorem dX11_join_93 : decode cX11_join 93 = .ok (.iconst 0, 1) := by decide +kernel
theorem dX11_join_94 : decode cX11_join 94 = .ok (.istore_n 3, 1) := by decide +kernel
theorem dX11_join_95 : decode cX11_join 95 = .ok (.iload_n 3, 1) := by decide +kernel
theorem dX11_join_96 : decode cX11_join 96 = .ok (.iload_n 2, 1) := by decide +kernel
theorem dX11_join_97 : decode cX11_join 97 = .ok (.if_icmp .ge 40, 3) := by decide +kernel
theorem dX11_join_100 : decode cX11_join 100 = .ok (.aload_n 0, 1) := by decide +kernel
theorem dX11_join_101 : decode cX11_join 101 = .ok (.bipush 9, 2) := by decide +kernel
theorem dX11_join_103 : decode cX11_join 103 = .ok (.iload_n 3, 1) := by decide +kernel
theorem dX11_join_104 : decode cX11_join 104 = .ok (.invokevirtual 367, 3) := by decide +kernel
theorem dX11_join_107 : decode cX11_join 107 = .ok (.ifCond .ne 22, 3) := by decide +kernel
theorem dX11_join_110 : decode cX11_join 110 = .ok (.aload_n 0, 1) := by decide +kernel
theorem dX11_join_111 : decode cX11_join 111 = .ok (.bipush 9, 2) := by decide +kernel
theorem dX11_join_113 : decode cX11_join 113 = .ok (.aload_n 0, 1) := by decide +kernel
theorem dX11_join_114 : decode cX11_join 114 = .ok (.getfield 54, 3) := by decide +kernel
theorem dX11_join_117 : decode cX11_join 117 = .ok (.sipush 180, 3) := by decide +kernel
theorem dX11_join_120 : decode cX11_join 120 = .ok (.iload_n 3, 1) := by decide +kernel
theorem dX11_join_121 : decode cX11_join 121 = .ok (.iadd, 1) := by decide +kernel
theorem dX11_join_122 : decode cX11_join 122 = .ok (.iaload, 1) := by decide +kernel
theorem dX11_join_123 : decode cX11_join 123 = .ok (.invokevirtual 370, 3) := by decide +kernel
theorem dX11_join_126 : decode cX11_join 126 = .ok (.ifCond .ne 5, 3) := by decide +kernel
theorem dX11_join_129 : decode cX11_join 129 = .ok (.iconst (-1), 1) := by decide +kernel
theorem dX11_join_130 : decode cX11_join 130 = .ok (.ireturn, 1) := by decide +kernel
theorem dX11_join_131 : decode cX11_join 131 = .ok (.iinc 3 1, 3) := by decide +kernel
theorem dX11_join_134 : decode cX11_join 134 = .ok (.goto (-39), 3) := by decide +kernel
theorem dX11_join_137 : decode cX11_join 137 = .ok (.aload_n 0, 1) := by decide +kernel
theorem dX11_join_138 : decode cX11_join 138 = .ok (.bipush 9, 2) := by decide +kernel
theorem dX11_join_140 : decode cX11_join 140 = .ok (.iconst 0, 1) := by decide +kernel
theorem dX11_join_141 : decode cX11_join 141 = .ok (.invokevirtual 380, 3) := by decide +kernel
theorem dX11_join_144 : decode cX11_join 144 = .ok (.ireturn, 1) := by decide +kernel
theorem dX11_check_0 : decode cX11_check 0 = .ok (.aload_n 0, 1) := by decide +kernel
theorem dX11_check_1 : decode cX11_check 1 = .ok (.iconst 0, 1) := by decide +kernel
theorem dX11_check_2 : decode cX11_check 2 = .ok (.putfield 48, 3) := by decide +kernel
theorem dX11_check_5 : decode cX11_check 5 = .ok (.aload_n 0, 1) := by decide +kernel
theorem dX11_check_6 : decode cX11_check 6 = .ok (.getfield 70, 3) := by decide +kernel
theorem dX11_check_9 : decode cX11_check 9 = .ok (.istore_n 1, 1) := by decide +kernel
theorem dX11_check_10 : decode cX11_check 10 = .ok (.aload_n 0, 1) := by decide +kernel
theorem dX11_check_11 : decode cX11_check 11 = .ok (.iconst 0, 1) := by decide +kernel
theorem dX11_check_12 : decode cX11_check 12 = .ok (.putfield 70, 3) := by decide +kernel
theorem dX11_check_15 : decode cX11_check 15 = .ok (.iload_n 1, 1) := by decide +kernel
theorem dX11_check_16 : decode cX11_check 16 = .ok (.ifCond .eq 9, 3) := by decide +kernel
theorem dX11_check_19 : decode cX11_check 19 = .ok (.iload_n 1, 1) := by decide +kernel
theorem dX11_check_20 : decode cX11_check 20 = .ok (.bipush 30, 2) := by decide +kernel
theorem dX11_check_22 : decode cX11_check 22 = .ok (.if_icmp .le 5, 3) := by decide +kernel
theorem dX11_check_25 : decode cX11_check 25 = .ok (.iconst (-1), 1) := by decide +kernel
theorem dX11_check_26 : decode cX11_check 26 = .ok (.ireturn, 1) := by decide +kernel
theorem dX11_check_27 : decode cX11_check 27 = .ok (.iconst 0, 1) := by decide +kernel
theorem dX11_check_28 : decode cX11_check 28 = .ok (.istore_n 2, 1) := by decide +kernel
theorem dX11_check_29 : decode cX11_check 29 = .ok (.iload_n 2, 1) := by decide +kernel
theorem dX11_check_30 : decode cX11_check 30 = .ok (.iload_n 1, 1) := by decide +kernel
theorem dX11_check_31 : decode cX11_check 31 = .ok (.if_icmp .ge 23, 3) := by decide +kernel
theorem dX11_check_34 : decode cX11_check 34 = .ok (.aload_n 0, 1) := by decide +kernel
theorem dX11_check_35 : decode cX11_check 35 = .ok (.getfield 67, 3) := by decide +kernel
theorem dX11_check_38 : decode cX11_check 38 = .ok (.iload_n 2, 1) := by decide +kernel
theorem dX11_check_39 : decode cX11_check 39 = .ok (.baload, 1) := by decide +kernel
theorem dX11_check_40 : decode cX11_check 40 = .ok (.invokestatic 332, 3) := by decide +kernel
theorem dX11_check_43 : decode cX11_check 43 = .ok (.ifCond .ne 5, 3) := by decide +kernel
theorem dX11_check_46 : decode cX11_check 46 = .ok (.iconst (-1), 1) := by decide +kernel
theorem dX11_check_47 : decode cX11_check 47 = .ok (.ireturn, 1) := by decide +kernel
theorem dX11_check_48 : decode cX11_check 48 = .ok (.iinc 2 1, 3) := by decide +kernel
theorem dX11_check_51 : decode cX11_check 51 = .ok (.goto (-22), 3) := by decide +kernel
theorem dX11_check_54 : decode cX11_check 54 = .ok (.aload_n 0, 1) := by decide +kernel
theorem dX11_check_55 : decode cX11_check 55 = .ok (.getfield 67, 3) := by decide +kernel
theorem dX11_check_58 : decode cX11_check 58 = .ok (.iconst 0, 1) := by decide +kernel
theorem dX11_check_59 : decode cX11_check 59 = .ok (.iload_n 1, 1) := by decide +kernel
theorem dX11_check_60 : decode cX11_check 60 = .ok (.invokestatic 300, 3) := by decide +kernel
theorem dX11_check_63 : decode cX11_check 63 = .ok (.ireturn, 1) := by decide +kernel
theorem dX11_shaped_0 : decode cX11_shaped 0 = .ok (.iconst 1, 1) := by decide +kernel
theorem dX11_shaped_1 : decode cX11_shaped 1 = .ok (.istore_n 2, 1) := by decide +kernel
theorem dX11_shaped_2 : decode cX11_shaped 2 = .ok (.iconst 1, 1) := by decide +kernel
theorem dX11_shaped_3 : decode cX11_shaped 3 = .ok (.istore_n 3, 1) := by decide +kernel
theorem dX11_shaped_4 : decode cX11_shaped 4 = .ok (.iload_n 3, 1) := by decide +kernel
theorem dX11_shaped_5 : decode cX11_shaped 5 = .ok (.iload_n 1, 1) := by decide +kernel
theorem dX11_shaped_6 : decode cX11_shaped 6 = .ok (.if_icmp .ge 14, 3) := by decide +kernel
theorem dX11_shaped_9 : decode cX11_shaped 9 = .ok (.iload_n 2, 1) := by decide +kernel
theorem dX11_shaped_10 : decode cX11_shaped 10 = .ok (.bipush 10, 2) := by decide +kernel
theorem dX11_shaped_12 : decode cX11_shaped 12 = .ok (.imul, 1) := by decide +kernel
theorem dX11_shaped_13 : decode cX11_shaped 13 = .ok (.istore_n 2, 1) := by decide +kernel
theorem dX11_shaped_14 : decode cX11_shaped 14 = .ok (.iinc 3 1, 3) := by decide +kernel
theorem dX11_shaped_17 : decode cX11_shaped 17 = .ok (.goto (-13), 3) := by decide +kernel
theorem dX11_shaped_20 : decode cX11_shaped 20 = .ok (.iconst 0, 1) := by decide +kernel
theorem dX11_shaped_21 : decode cX11_shaped 21 = .ok (.istore_n 3, 1) := by decide +kernel
theorem dX11_shaped_22 : decode cX11_shaped 22 = .ok (.iconst 0, 1) := by decide +kernel
theorem dX11_shaped_23 : decode cX11_shaped 23 = .ok (.istore 4, 2) := by decide +kernel
theorem dX11_shaped_25 : decode cX11_shaped 25 = .ok (.iload 4, 2) := by decide +kernel
theorem dX11_shaped_27 : decode cX11_shaped 27 = .ok (.iload_n 1, 1) := by decide +kernel
theorem dX11_shaped_28 : decode cX11_shaped 28 = .ok (.if_icmp .ge 55, 3) := by decide +kernel
theorem dX11_shaped_31 : decode cX11_shaped 31 = .ok (.iload_n 0, 1) := by decide +kernel
theorem dX11_shaped_32 : decode cX11_shaped 32 = .ok (.iload_n 2, 1) := by decide +kernel
theorem dX11_shaped_33 : decode cX11_shaped 33 = .ok (.idiv, 1) := by decide +kernel
theorem dX11_shaped_34 : decode cX11_shaped 34 = .ok (.bipush 10, 2) := by decide +kernel
theorem dX11_shaped_36 : decode cX11_shaped 36 = .ok (.irem, 1) := by decide +kernel
theorem dX11_shaped_37 : decode cX11_shaped 37 = .ok (.istore 5, 2) := by decide +kernel
theorem dX11_shaped_39 : decode cX11_shaped 39 = .ok (.iconst 0, 1) := by decide +kernel
theorem dX11_shaped_40 : decode cX11_shaped 40 = .ok (.istore 6, 2) := by decide +kernel
theorem dX11_shaped_42 : decode cX11_shaped 42 = .ok (.iload 6, 2) := by decide +kernel
theorem dX11_shaped_44 : decode cX11_shaped 44 = .ok (.iload 5, 2) := by decide +kernel
theorem dX11_shaped_46 : decode cX11_shaped 46 = .ok (.if_icmp .ge 26, 3) := by decide +kernel
theorem dX11_shaped_49 : decode cX11_shaped 49 = .ok (.iconst 2, 1) := by decide +kernel
theorem dX11_shaped_50 : decode cX11_shaped 50 = .ok (.iload_n 3, 1) := by decide +kernel
theorem dX11_shaped_51 : decode cX11_shaped 51 = .ok (.imul, 1) := by decide +kernel
theorem dX11_shaped_52 : decode cX11_shaped 52 = .ok (.iload 4, 2) := by decide +kernel
theorem dX11_shaped_54 : decode cX11_shaped 54 = .ok (.iconst 2, 1) := by decide +kernel
theorem dX11_shaped_55 : decode cX11_shaped 55 = .ok (.irem, 1) := by decide +kernel
theorem dX11_shaped_56 : decode cX11_shaped 56 = .ok (.ifCond .ne 7, 3) := by decide +kernel
theorem dX11_shaped_59 : decode cX11_shaped 59 = .ok (.iconst 1, 1) := by decide +kernel
theorem dX11_shaped_60 : decode cX11_shaped 60 = .ok (.goto 4, 3) := by decide +kernel
theorem dX11_shaped_63 : decode cX11_shaped 63 = .ok (.iconst 0, 1) := by decide +kernel
theorem dX11_shaped_64 : decode cX11_shaped 64 = .ok (.iadd, 1) := by decide +kernel
theorem dX11_shaped_65 : decode cX11_shaped 65 = .ok (.istore_n 3, 1) := by decide +kernel
theorem dX11_shaped_66 : decode cX11_shaped 66 = .ok (.iinc 6 1, 3) := by decide +kernel
theorem dX11_shaped_69 : decode cX11_shaped 69 = .ok (.goto (-27), 3) := by decide +kernel
theorem dX11_shaped_72 : decode cX11_shaped 72 = .ok (.iload_n 2, 1) := by decide +kernel
theorem dX11_shaped_73 : decode cX11_shaped 73 = .ok (.bipush 10, 2) := by decide +kernel
theorem dX11_shaped_75 : decode cX11_shaped 75 = .ok (.idiv, 1) := by decide +kernel
theorem dX11_shaped_76 : decode cX11_shaped 76 = .ok (.istore_n 2, 1) := by decide +kernel
theorem dX11_shaped_77 : decode cX11_shaped 77 = .ok (.iinc 4 1, 3) := by decide +kernel
theorem dX11_shaped_80 : decode cX11_shaped 80 = .ok (.goto (-55), 3) := by decide +kernel
theorem dX11_shaped_83 : decode cX11_shaped 83 = .ok (.iload_n 3, 1) := by decide +kernel
theorem dX11_shaped_84 : decode cX11_shaped 84 = .ok (.ireturn, 1) := by decide +kernel
theorem dX11_pairAt_0 : decode cX11_pairAt 0 = .ok (.iload_n 1, 1) := by decide +kernel
theorem dX11_pairAt_1 : decode cX11_pairAt 1 = .ok (.iconst 1, 1) := by decide +kernel
theorem dX11_pairAt_2 : decode cX11_pairAt 2 = .ok (.iadd, 1) := by decide +kernel
theorem dX11_pairAt_3 : decode cX11_pairAt 3 = .ok (.iload_n 2, 1) := by decide +kernel
theorem dX11_pairAt_4 : decode cX11_pairAt 4 = .ok (.if_icmp .ge 52, 3) := by decide +kernel
theorem dX11_pairAt_7 : decode cX11_pairAt 7 = .ok (.aload_n 0, 1) := by decide +kernel
theorem dX11_pairAt_8 : decode cX11_pairAt 8 = .ok (.iload_n 1, 1) := by decide +kernel
theorem dX11_pairAt_9 : decode cX11_pairAt 9 = .ok (.invokevirtual 424, 3) := by decide +kernel
theorem dX11_pairAt_12 : decode cX11_pairAt 12 = .ok (.invokestatic 332, 3) := by decide +kernel
theorem dX11_pairAt_15 : decode cX11_pairAt 15 = .ok (.ifCond .eq 41, 3) := by decide +kernel
theorem dX11_pairAt_18 : decode cX11_pairAt 18 = .ok (.aload_n 0, 1) := by decide +kernel
theorem dX11_pairAt_19 : decode cX11_pairAt 19 = .ok (.iload_n 1, 1) := by decide +kernel
theorem dX11_pairAt_20 : decode cX11_pairAt 20 = .ok (.iconst 1, 1) := by decide +kernel
theorem dX11_pairAt_21 : decode cX11_pairAt 21 = .ok (.iadd, 1) := by decide +kernel
theorem dX11_pairAt_22 : decode cX11_pairAt 22 = .ok (.invokevirtual 424, 3) := by decide +kernel
theorem dX11_pairAt_25 : decode cX11_pairAt 25 = .ok (.invokestatic 332, 3) := by decide +kernel
theorem dX11_pairAt_28 : decode cX11_pairAt 28 = .ok (.ifCond .eq 28, 3) := by decide +kernel
theorem dX11_pairAt_31 : decode cX11_pairAt 31 = .ok (.bipush 10, 2) := by decide +kernel
theorem dX11_pairAt_33 : decode cX11_pairAt 33 = .ok (.aload_n 0, 1) := by decide +kernel
theorem dX11_pairAt_34 : decode cX11_pairAt 34 = .ok (.iload_n 1, 1) := by decide +kernel
theorem dX11_pairAt_35 : decode cX11_pairAt 35 = .ok (.invokevirtual 424, 3) := by decide +kernel
theorem dX11_pairAt_38 : decode cX11_pairAt 38 = .ok (.bipush 48, 2) := by decide +kernel
theorem dX11_pairAt_40 : decode cX11_pairAt 40 = .ok (.isub, 1) := by decide +kernel
theorem dX11_pairAt_41 : decode cX11_pairAt 41 = .ok (.imul, 1) := by decide +kernel
theorem dX11_pairAt_42 : decode cX11_pairAt 42 = .ok (.aload_n 0, 1) := by decide +kernel
theorem dX11_pairAt_43 : decode cX11_pairAt 43 = .ok (.iload_n 1, 1) := by decide +kernel
theorem dX11_pairAt_44 : decode cX11_pairAt 44 = .ok (.iconst 1, 1) := by decide +kernel
theorem dX11_pairAt_45 : decode cX11_pairAt 45 = .ok (.iadd, 1) := by decide +kernel
theorem dX11_pairAt_46 : decode cX11_pairAt 46 = .ok (.invokevirtual 424, 3) := by decide +kernel
theorem dX11_pairAt_49 : decode cX11_pairAt 49 = .ok (.iadd, 1) := by decide +kernel
theorem dX11_pairAt_50 : decode cX11_pairAt 50 = .ok (.bipush 48, 2) := by decide +kernel
theorem dX11_pairAt_52 : decode cX11_pairAt 52 = .ok (.isub, 1) := by decide +kernel
theorem dX11_pairAt_53 : decode cX11_pairAt 53 = .ok (.goto 4, 3) := by decide +kernel
theorem dX11_pairAt_56 : decode cX11_pairAt 56 = .ok (.iconst (-1), 1) := by decide +kernel
theorem dX11_pairAt_57 : decode cX11_pairAt 57 = .ok (.ireturn, 1) := by decide +kernel
theorem dX11_byteAt_0 : decode cX11_byteAt 0 = .ok (.aload_n 0, 1) := by decide +kernel
theorem dX11_byteAt_1 : decode cX11_byteAt 1 = .ok (.getfield 240, 3) := by decide +kernel
theorem dX11_byteAt_4 : decode cX11_byteAt 4 = .ok (.iload_n 1, 1) := by decide +kernel
theorem dX11_byteAt_5 : decode cX11_byteAt 5 = .ok (.baload, 1) := by decide +kernel
theorem dX11_byteAt_6 : decode cX11_byteAt 6 = .ok (.ireturn, 1) := by decide +kernel
theorem dX11_fewest_0 : decode cX11_fewest 0 = .ok (.aload_n 0, 1) := by decide +kernel
theorem dX11_fewest_1 : decode cX11_fewest 1 = .ok (.getfield 234, 3) := by decide +kernel
theorem dX11_fewest_4 : decode cX11_fewest 4 = .ok (.iconst 2, 1) := by decide +kernel
theorem dX11_fewest_5 : decode cX11_fewest 5 = .ok (.iload_n 1, 1) := by decide +kernel
theorem dX11_fewest_6 : decode cX11_fewest 6 = .ok (.imul, 1) := by decide +kernel
theorem dX11_fewest_7 : decode cX11_fewest 7 = .ok (.iconst 0, 1) := by decide +kernel
theorem dX11_fewest_8 : decode cX11_fewest 8 = .ok (.iastore, 1) := by decide +kernel
theorem dX11_fewest_9 : decode cX11_fewest 9 = .ok (.aload_n 0, 1) := by decide +kernel
theorem dX11_fewest_10 : decode cX11_fewest 10 = .ok (.getfield 234, 3) := by decide +kernel
theorem dX11_fewest_13 : decode cX11_fewest 13 = .ok (.iconst 2, 1) := by decide +kernel
theorem dX11_fewest_14 : decode cX11_fewest 14 = .ok (.iload_n 1, 1) := by decide +kernel
theorem dX11_fewest_15 : decode cX11_fewest 15 = .ok (.imul, 1) := by decide +kernel
theorem dX11_fewest_16 : decode cX11_fewest 16 = .ok (.iconst 1, 1) := by decide +kernel
theorem dX11_fewest_17 : decode cX11_fewest 17 = .ok (.iadd, 1) := by decide +kernel
theorem dX11_fewest_18 : decode cX11_fewest 18 = .ok (.iconst 0, 1) := by decide +kernel
theorem dX11_fewest_19 : decode cX11_fewest 19 = .ok (.iastore, 1) := by decide +kernel
theorem dX11_fewest_20 : decode cX11_fewest 20 = .ok (.iload_n 1, 1) := by decide +kernel
theorem dX11_fewest_21 : decode cX11_fewest 21 = .ok (.iconst 1, 1) := by decide +kernel
theorem dX11_fewest_22 : decode cX11_fewest 22 = .ok (.isub, 1) := by decide +kernel
theorem dX11_fewest_23 : decode cX11_fewest 23 = .ok (.istore_n 2, 1) := by decide +kernel
theorem dX11_fewest_24 : decode cX11_fewest 24 = .ok (.iload_n 2, 1) := by decide +kernel
theorem dX11_fewest_25 : decode cX11_fewest 25 = .ok (.ifCond .lt 275, 3) := by decide +kernel
theorem dX11_fewest_28 : decode cX11_fewest 28 = .ok (.aload_n 0, 1) := by decide +kernel
theorem dX11_fewest_29 : decode cX11_fewest 29 = .ok (.iload_n 2, 1) := by decide +kernel
theorem dX11_fewest_30 : decode cX11_fewest 30 = .ok (.invokevirtual 424, 3) := by decide +kernel
theorem dX11_fewest_33 : decode cX11_fewest 33 = .ok (.bipush 29, 2) := by decide +kernel
theorem dX11_fewest_35 : decode cX11_fewest 35 = .ok (.if_icmp .ne 7, 3) := by decide +kernel
theorem dX11_fewest_38 : decode cX11_fewest 38 = .ok (.iconst 1, 1) := by decide +kernel
theorem dX11_fewest_39 : decode cX11_fewest 39 = .ok (.goto 4, 3) := by decide +kernel
theorem dX11_fewest_42 : decode cX11_fewest 42 = .ok (.iconst 0, 1) := by decide +kernel
theorem dX11_fewest_43 : decode cX11_fewest 43 = .ok (.istore_n 3, 1) := by decide +kernel
theorem dX11_fewest_44 : decode cX11_fewest 44 = .ok (.aload_n 0, 1) := by decide +kernel
theorem dX11_fewest_45 : decode cX11_fewest 45 = .ok (.iload_n 2, 1) := by decide +kernel
theorem dX11_fewest_46 : decode cX11_fewest 46 = .ok (.iload_n 1, 1) := by decide +kernel
theorem dX11_fewest_47 : decode cX11_fewest 47 = .ok (.invokevirtual 427, 3) := by decide +kernel
theorem dX11_fewest_50 : decode cX11_fewest 50 = .ok (.istore 4, 2) := by decide +kernel
theorem dX11_fewest_52 : decode cX11_fewest 52 = .ok (.iconst 1, 1) := by decide +kernel
theorem dX11_fewest_53 : decode cX11_fewest 53 = .ok (.aload_n 0, 1) := by decide +kernel
theorem dX11_fewest_54 : decode cX11_fewest 54 = .ok (.getfield 234, 3) := by decide +kernel
theorem dX11_fewest_57 : decode cX11_fewest 57 = .ok (.iconst 2, 1) := by decide +kernel
theorem dX11_fewest_58 : decode cX11_fewest 58 = .ok (.iload_n 2, 1) := by decide +kernel
theorem dX11_fewest_59 : decode cX11_fewest 59 = .ok (.imul, 1) := by decide +kernel
theorem dX11_fewest_60 : decode cX11_fewest 60 = .ok (.iconst 2, 1) := by decide +kernel
theorem dX11_fewest_61 : decode cX11_fewest 61 = .ok (.iadd, 1) := by decide +kernel
theorem dX11_fewest_62 : decode cX11_fewest 62 = .ok (.iaload, 1) := by decide +kernel
theorem dX11_fewest_63 : decode cX11_fewest 63 = .ok (.iadd, 1) := by decide +kernel
theorem dX11_fewest_64 : decode cX11_fewest 64 = .ok (.istore 5, 2) := by decide +kernel
theorem dX11_fewest_66 : decode cX11_fewest 66 = .ok (.iload_n 3, 1) := by decide +kernel
theorem dX11_fewest_67 : decode cX11_fewest 67 = .ok (.ifCond .eq 8, 3) := by decide +kernel
theorem dX11_fewest_70 : decode cX11_fewest 70 = .ok (.bipush 102, 2) := by decide +kernel
theorem dX11_fewest_72 : decode cX11_fewest 72 = .ok (.goto 11, 3) := by decide +kernel
theorem dX11_fewest_75 : decode cX11_fewest 75 = .ok (.aload_n 0, 1) := by decide +kernel
theorem dX11_fewest_76 : decode cX11_fewest 76 = .ok (.iload_n 2, 1) := by decide +kernel
theorem dX11_fewest_77 : decode cX11_fewest 77 = .ok (.invokevirtual 424, 3) := by decide +kernel
theorem dX11_fewest_80 : decode cX11_fewest 80 = .ok (.bipush 32, 2) := by decide +kernel
theorem dX11_fewest_82 : decode cX11_fewest 82 = .ok (.isub, 1) := by decide +kernel
theorem dX11_fewest_83 : decode cX11_fewest 83 = .ok (.istore 6, 2) := by decide +kernel
theorem dX11_fewest_85 : decode cX11_fewest 85 = .ok (.iload_n 3, 1) := by decide +kernel
theorem dX11_fewest_86 : decode cX11_fewest 86 = .ok (.ifCond .eq 18, 3) := by decide +kernel
theorem dX11_fewest_89 : decode cX11_fewest 89 = .ok (.iconst 1, 1) := by decide +kernel
theorem dX11_fewest_90 : decode cX11_fewest 90 = .ok (.aload_n 0, 1) := by decide +kernel
theorem dX11_fewest_91 : decode cX11_fewest 91 = .ok (.getfield 234, 3) := by decide +kernel
theorem dX11_fewest_94 : decode cX11_fewest 94 = .ok (.iconst 2, 1) := by decide +kernel
theorem dX11_fewest_95 : decode cX11_fewest 95 = .ok (.iload_n 2, 1) := by decide +kernel
theorem dX11_fewest_96 : decode cX11_fewest 96 = .ok (.imul, 1) := by decide +kernel
theorem dX11_fewest_97 : decode cX11_fewest 97 = .ok (.iconst 3, 1) := by decide +kernel
theorem dX11_fewest_98 : decode cX11_fewest 98 = .ok (.iadd, 1) := by decide +kernel
theorem dX11_fewest_99 : decode cX11_fewest 99 = .ok (.iaload, 1) := by decide +kernel
theorem dX11_fewest_100 : decode cX11_fewest 100 = .ok (.iadd, 1) := by decide +kernel
theorem dX11_fewest_101 : decode cX11_fewest 101 = .ok (.goto 26, 3) := by decide +kernel
theorem dX11_fewest_104 : decode cX11_fewest 104 = .ok (.iload 4, 2) := by decide +kernel
theorem dX11_fewest_106 : decode cX11_fewest 106 = .ok (.ifCond .lt 18, 3) := by decide +kernel
theorem dX11_fewest_109 : decode cX11_fewest 109 = .ok (.iconst 1, 1) := by decide +kernel
theorem dX11_fewest_110 : decode cX11_fewest 110 = .ok (.aload_n 0, 1) := by decide +kernel
theorem dX11_fewest_111 : decode cX11_fewest 111 = .ok (.getfield 234, 3) := by decide +kernel
theorem dX11_fewest_114 : decode cX11_fewest 114 = .ok (.iconst 2, 1) := by decide +kernel
theorem dX11_fewest_115 : decode cX11_fewest 115 = .ok (.iload_n 2, 1) := by decide +kernel
theorem dX11_fewest_116 : decode cX11_fewest 116 = .ok (.imul, 1) := by decide +kernel
theorem dX11_fewest_117 : decode cX11_fewest 117 = .ok (.iconst 5, 1) := by decide +kernel
theorem dX11_fewest_118 : decode cX11_fewest 118 = .ok (.iadd, 1) := by decide +kernel
theorem dX11_fewest_119 : decode cX11_fewest 119 = .ok (.iaload, 1) := by decide +kernel
theorem dX11_fewest_120 : decode cX11_fewest 120 = .ok (.iadd, 1) := by decide +kernel
theorem dX11_fewest_121 : decode cX11_fewest 121 = .ok (.goto 6, 3) := by decide +kernel
theorem dX11_fewest_124 : decode cX11_fewest 124 = .ok (.sipush 1000, 3) := by decide +kernel
theorem dX11_fewest_127 : decode cX11_fewest 127 = .ok (.istore 7, 2) := by decide +kernel
theorem dX11_fewest_129 : decode cX11_fewest 129 = .ok (.iload_n 3, 1) := by decide +kernel
theorem dX11_fewest_130 : decode cX11_fewest 130 = .ok (.ifCond .eq 8, 3) := by decide +kernel
theorem dX11_fewest_133 : decode cX11_fewest 133 = .ok (.bipush 102, 2) := by decide +kernel
theorem dX11_fewest_135 : decode cX11_fewest 135 = .ok (.goto 5, 3) := by decide +kernel
theorem dX11_fewest_138 : decode cX11_fewest 138 = .ok (.iload 4, 2) := by decide +kernel
theorem dX11_fewest_140 : decode cX11_fewest 140 = .ok (.istore 8, 2) := by decide +kernel
theorem dX11_fewest_142 : decode cX11_fewest 142 = .ok (.iload 7, 2) := by decide +kernel
theorem dX11_fewest_144 : decode cX11_fewest 144 = .ok (.iconst 1, 1) := by decide +kernel
theorem dX11_fewest_145 : decode cX11_fewest 145 = .ok (.iadd, 1) := by decide +kernel
theorem dX11_fewest_146 : decode cX11_fewest 146 = .ok (.iload 5, 2) := by decide +kernel
theorem dX11_fewest_148 : decode cX11_fewest 148 = .ok (.if_icmp .lt 19, 3) := by decide +kernel
theorem dX11_fewest_151 : decode cX11_fewest 151 = .ok (.iload 7, 2) := by decide +kernel
theorem dX11_fewest_153 : decode cX11_fewest 153 = .ok (.iconst 1, 1) := by decide +kernel
theorem dX11_fewest_154 : decode cX11_fewest 154 = .ok (.iadd, 1) := by decide +kernel
theorem dX11_fewest_155 : decode cX11_fewest 155 = .ok (.iload 5, 2) := by decide +kernel
theorem dX11_fewest_157 : decode cX11_fewest 157 = .ok (.if_icmp .ne 14, 3) := by decide +kernel
theorem dX11_fewest_160 : decode cX11_fewest 160 = .ok (.bipush 99, 2) := by decide +kernel
theorem dX11_fewest_162 : decode cX11_fewest 162 = .ok (.iload 6, 2) := by decide +kernel
theorem dX11_fewest_164 : decode cX11_fewest 164 = .ok (.if_icmp .ge 7, 3) := by decide +kernel
theorem dX11_fewest_167 : decode cX11_fewest 167 = .ok (.iconst 1, 1) := by decide +kernel
theorem dX11_fewest_168 : decode cX11_fewest 168 = .ok (.goto 4, 3) := by decide +kernel
theorem dX11_fewest_171 : decode cX11_fewest 171 = .ok (.iconst 0, 1) := by decide +kernel
theorem dX11_fewest_172 : decode cX11_fewest 172 = .ok (.istore 9, 2) := by decide +kernel
theorem dX11_fewest_174 : decode cX11_fewest 174 = .ok (.iload 5, 2) := by decide +kernel
theorem dX11_fewest_176 : decode cX11_fewest 176 = .ok (.iconst 1, 1) := by decide +kernel
theorem dX11_fewest_177 : decode cX11_fewest 177 = .ok (.iadd, 1) := by decide +kernel
theorem dX11_fewest_178 : decode cX11_fewest 178 = .ok (.iload 7, 2) := by decide +kernel
theorem dX11_fewest_180 : decode cX11_fewest 180 = .ok (.if_icmp .lt 19, 3) := by decide +kernel
theorem dX11_fewest_183 : decode cX11_fewest 183 = .ok (.iload 5, 2) := by decide +kernel
theorem dX11_fewest_185 : decode cX11_fewest 185 = .ok (.iconst 1, 1) := by decide +kernel
theorem dX11_fewest_186 : decode cX11_fewest 186 = .ok (.iadd, 1) := by decide +kernel
theorem dX11_fewest_187 : decode cX11_fewest 187 = .ok (.iload 7, 2) := by decide +kernel
theorem dX11_fewest_189 : decode cX11_fewest 189 = .ok (.if_icmp .ne 14, 3) := by decide +kernel
theorem dX11_fewest_192 : decode cX11_fewest 192 = .ok (.bipush 100, 2) := by decide +kernel
theorem dX11_fewest_194 : decode cX11_fewest 194 = .ok (.iload 8, 2) := by decide +kernel
theorem dX11_fewest_196 : decode cX11_fewest 196 = .ok (.if_icmp .ge 7, 3) := by decide +kernel
theorem dX11_fewest_199 : decode cX11_fewest 199 = .ok (.iconst 1, 1) := by decide +kernel
theorem dX11_fewest_200 : decode cX11_fewest 200 = .ok (.goto 4, 3) := by decide +kernel
theorem dX11_fewest_203 : decode cX11_fewest 203 = .ok (.iconst 0, 1) := by decide +kernel
theorem dX11_fewest_204 : decode cX11_fewest 204 = .ok (.istore 10, 2) := by decide +kernel
theorem dX11_fewest_206 : decode cX11_fewest 206 = .ok (.aload_n 0, 1) := by decide +kernel
theorem dX11_fewest_207 : decode cX11_fewest 207 = .ok (.getfield 234, 3) := by decide +kernel
theorem dX11_fewest_210 : decode cX11_fewest 210 = .ok (.iconst 2, 1) := by decide +kernel
theorem dX11_fewest_211 : decode cX11_fewest 211 = .ok (.iload_n 2, 1) := by decide +kernel
theorem dX11_fewest_212 : decode cX11_fewest 212 = .ok (.imul, 1) := by decide +kernel
theorem dX11_fewest_213 : decode cX11_fewest 213 = .ok (.iload 9, 2) := by decide +kernel
theorem dX11_fewest_215 : decode cX11_fewest 215 = .ok (.ifCond .eq 10, 3) := by decide +kernel
theorem dX11_fewest_218 : decode cX11_fewest 218 = .ok (.iload 7, 2) := by decide +kernel
theorem dX11_fewest_220 : decode cX11_fewest 220 = .ok (.iconst 1, 1) := by decide +kernel
theorem dX11_fewest_221 : decode cX11_fewest 221 = .ok (.iadd, 1) := by decide +kernel
theorem dX11_fewest_222 : decode cX11_fewest 222 = .ok (.goto 5, 3) := by decide +kernel
theorem dX11_fewest_225 : decode cX11_fewest 225 = .ok (.iload 5, 2) := by decide +kernel
theorem dX11_fewest_227 : decode cX11_fewest 227 = .ok (.iastore, 1) := by decide +kernel
theorem dX11_fewest_228 : decode cX11_fewest 228 = .ok (.aload_n 0, 1) := by decide +kernel
theorem dX11_fewest_229 : decode cX11_fewest 229 = .ok (.getfield 237, 3) := by decide +kernel
theorem dX11_fewest_232 : decode cX11_fewest 232 = .ok (.iconst 2, 1) := by decide +kernel
theorem dX11_fewest_233 : decode cX11_fewest 233 = .ok (.iload_n 2, 1) := by decide +kernel
theorem dX11_fewest_234 : decode cX11_fewest 234 = .ok (.imul, 1) := by decide +kernel
theorem dX11_fewest_235 : decode cX11_fewest 235 = .ok (.iload 9, 2) := by decide +kernel
theorem dX11_fewest_237 : decode cX11_fewest 237 = .ok (.ifCond .eq 8, 3) := by decide +kernel
theorem dX11_fewest_240 : decode cX11_fewest 240 = .ok (.bipush 99, 2) := by decide +kernel
theorem dX11_fewest_242 : decode cX11_fewest 242 = .ok (.goto 5, 3) := by decide +kernel
theorem dX11_fewest_245 : decode cX11_fewest 245 = .ok (.iload 6, 2) := by decide +kernel
theorem dX11_fewest_247 : decode cX11_fewest 247 = .ok (.iastore, 1) := by decide +kernel
theorem dX11_fewest_248 : decode cX11_fewest 248 = .ok (.aload_n 0, 1) := by decide +kernel
theorem dX11_fewest_249 : decode cX11_fewest 249 = .ok (.getfield 234, 3) := by decide +kernel
theorem dX11_fewest_252 : decode cX11_fewest 252 = .ok (.iconst 2, 1) := by decide +kernel
theorem dX11_fewest_253 : decode cX11_fewest 253 = .ok (.iload_n 2, 1) := by decide +kernel
theorem dX11_fewest_254 : decode cX11_fewest 254 = .ok (.imul, 1) := by decide +kernel
theorem dX11_fewest_255 : decode cX11_fewest 255 = .ok (.iconst 1, 1) := by decide +kernel
theorem dX11_fewest_256 : decode cX11_fewest 256 = .ok (.iadd, 1) := by decide +kernel
theorem dX11_fewest_257 : decode cX11_fewest 257 = .ok (.iload 10, 2) := by decide +kernel
theorem dX11_fewest_259 : decode cX11_fewest 259 = .ok (.ifCond .eq 10, 3) := by decide +kernel
theorem dX11_fewest_262 : decode cX11_fewest 262 = .ok (.iload 5, 2) := by decide +kernel
theorem dX11_fewest_264 : decode cX11_fewest 264 = .ok (.iconst 1, 1) := by decide +kernel
theorem dX11_fewest_265 : decode cX11_fewest 265 = .ok (.iadd, 1) := by decide +kernel
theorem dX11_fewest_266 : decode cX11_fewest 266 = .ok (.goto 5, 3) := by decide +kernel
theorem dX11_fewest_269 : decode cX11_fewest 269 = .ok (.iload 7, 2) := by decide +kernel
theorem dX11_fewest_271 : decode cX11_fewest 271 = .ok (.iastore, 1) := by decide +kernel
theorem dX11_fewest_272 : decode cX11_fewest 272 = .ok (.aload_n 0, 1) := by decide +kernel
theorem dX11_fewest_273 : decode cX11_fewest 273 = .ok (.getfield 237, 3) := by decide +kernel
theorem dX11_fewest_276 : decode cX11_fewest 276 = .ok (.iconst 2, 1) := by decide +kernel
theorem dX11_fewest_277 : decode cX11_fewest 277 = .ok (.iload_n 2, 1) := by decide +kernel
theorem dX11_fewest_278 : decode cX11_fewest 278 = .ok (.imul, 1) := by decide +kernel
theorem dX11_fewest_279 : decode cX11_fewest 279 = .ok (.iconst 1, 1) := by decide +kernel
theorem dX11_fewest_280 : decode cX11_fewest 280 = .ok (.iadd, 1) := by decide +kernel
theorem dX11_fewest_281 : decode cX11_fewest 281 = .ok (.iload 10, 2) := by decide +kernel
theorem dX11_fewest_283 : decode cX11_fewest 283 = .ok (.ifCond .eq 8, 3) := by decide +kernel
theorem dX11_fewest_286 : decode cX11_fewest 286 = .ok (.bipush 100, 2) := by decide +kernel
theorem dX11_fewest_288 : decode cX11_fewest 288 = .ok (.goto 5, 3) := by decide +kernel
theorem dX11_fewest_291 : decode cX11_fewest 291 = .ok (.iload 8, 2) := by decide +kernel
theorem dX11_fewest_293 : decode cX11_fewest 293 = .ok (.iastore, 1) := by decide +kernel
theorem dX11_fewest_294 : decode cX11_fewest 294 = .ok (.iinc 2 (-1), 3) := by decide +kernel
theorem dX11_fewest_297 : decode cX11_fewest 297 = .ok (.goto (-273), 3) := by decide +kernel
theorem dX11_fewest_300 : decode cX11_fewest 300 = .ok (.return_, 1) := by decide +kernel
theorem dX11_checkSum_0 : decode cX11_checkSum 0 = .ok (.aload_n 0, 1) := by decide +kernel
theorem dX11_checkSum_1 : decode cX11_checkSum 1 = .ok (.iconst 0, 1) := by decide +kernel
theorem dX11_checkSum_2 : decode cX11_checkSum 2 = .ok (.iaload, 1) := by decide +kernel
theorem dX11_checkSum_3 : decode cX11_checkSum 3 = .ok (.istore_n 2, 1) := by decide +kernel
theorem dX11_checkSum_4 : decode cX11_checkSum 4 = .ok (.iconst 1, 1) := by decide +kernel
theorem dX11_checkSum_5 : decode cX11_checkSum 5 = .ok (.istore_n 3, 1) := by decide +kernel
theorem dX11_checkSum_6 : decode cX11_checkSum 6 = .ok (.iload_n 3, 1) := by decide +kernel
theorem dX11_checkSum_7 : decode cX11_checkSum 7 = .ok (.iload_n 1, 1) := by decide +kernel
theorem dX11_checkSum_8 : decode cX11_checkSum 8 = .ok (.if_icmp .ge 17, 3) := by decide +kernel
theorem dX11_checkSum_11 : decode cX11_checkSum 11 = .ok (.iload_n 2, 1) := by decide +kernel
theorem dX11_checkSum_12 : decode cX11_checkSum 12 = .ok (.iload_n 3, 1) := by decide +kernel
theorem dX11_checkSum_13 : decode cX11_checkSum 13 = .ok (.aload_n 0, 1) := by decide +kernel
theorem dX11_checkSum_14 : decode cX11_checkSum 14 = .ok (.iload_n 3, 1) := by decide +kernel
theorem dX11_checkSum_15 : decode cX11_checkSum 15 = .ok (.iaload, 1) := by decide +kernel
theorem dX11_checkSum_16 : decode cX11_checkSum 16 = .ok (.imul, 1) := by decide +kernel
theorem dX11_checkSum_17 : decode cX11_checkSum 17 = .ok (.iadd, 1) := by decide +kernel
theorem dX11_checkSum_18 : decode cX11_checkSum 18 = .ok (.istore_n 2, 1) := by decide +kernel
theorem dX11_checkSum_19 : decode cX11_checkSum 19 = .ok (.iinc 3 1, 3) := by decide +kernel
theorem dX11_checkSum_22 : decode cX11_checkSum 22 = .ok (.goto (-16), 3) := by decide +kernel
theorem dX11_checkSum_25 : decode cX11_checkSum 25 = .ok (.iload_n 2, 1) := by decide +kernel
theorem dX11_checkSum_26 : decode cX11_checkSum 26 = .ok (.bipush 103, 2) := by decide +kernel
theorem dX11_checkSum_28 : decode cX11_checkSum 28 = .ok (.irem, 1) := by decide +kernel
theorem dX11_checkSum_29 : decode cX11_checkSum 29 = .ok (.ireturn, 1) := by decide +kernel
theorem dX11_symbol_0 : decode cX11_symbol 0 = .ok (.aload_n 0, 1) := by decide +kernel
theorem dX11_symbol_1 : decode cX11_symbol 1 = .ok (.iconst 0, 1) := by decide +kernel
theorem dX11_symbol_2 : decode cX11_symbol 2 = .ok (.putfield 48, 3) := by decide +kernel
theorem dX11_symbol_5 : decode cX11_symbol 5 = .ok (.aload_n 0, 1) := by decide +kernel
theorem dX11_symbol_6 : decode cX11_symbol 6 = .ok (.iload_n 1, 1) := by decide +kernel
theorem dX11_symbol_7 : decode cX11_symbol 7 = .ok (.invokevirtual 397, 3) := by decide +kernel
theorem dX11_symbol_10 : decode cX11_symbol 10 = .ok (.ifCond .eq 5, 3) := by decide +kernel
theorem dX11_symbol_13 : decode cX11_symbol 13 = .ok (.iconst (-1), 1) := by decide +kernel
theorem dX11_symbol_14 : decode cX11_symbol 14 = .ok (.ireturn, 1) := by decide +kernel
theorem dX11_symbol_15 : decode cX11_symbol 15 = .ok (.aload_n 0, 1) := by decide +kernel
theorem dX11_symbol_16 : decode cX11_symbol 16 = .ok (.iload_n 1, 1) := by decide +kernel
theorem dX11_symbol_17 : decode cX11_symbol 17 = .ok (.bipush 48, 2) := by decide +kernel
theorem dX11_symbol_19 : decode cX11_symbol 19 = .ok (.invokevirtual 391, 3) := by decide +kernel
theorem dX11_symbol_22 : decode cX11_symbol 22 = .ok (.istore_n 2, 1) := by decide +kernel
theorem dX11_symbol_23 : decode cX11_symbol 23 = .ok (.aload_n 0, 1) := by decide +kernel
theorem dX11_symbol_24 : decode cX11_symbol 24 = .ok (.getfield 101, 3) := by decide +kernel
theorem dX11_symbol_27 : decode cX11_symbol 27 = .ok (.istore_n 3, 1) := by decide +kernel
theorem dX11_symbol_28 : decode cX11_symbol 28 = .ok (.iload_n 3, 1) := by decide +kernel
theorem dX11_symbol_29 : decode cX11_symbol 29 = .ok (.ifCond .ne 5, 3) := by decide +kernel
theorem dX11_symbol_32 : decode cX11_symbol 32 = .ok (.iconst (-1), 1) := by decide +kernel
theorem dX11_symbol_33 : decode cX11_symbol 33 = .ok (.ireturn, 1) := by decide +kernel
theorem dX11_symbol_34 : decode cX11_symbol 34 = .ok (.aload_n 0, 1) := by decide +kernel
theorem dX11_symbol_35 : decode cX11_symbol 35 = .ok (.iload_n 1, 1) := by decide +kernel
theorem dX11_symbol_36 : decode cX11_symbol 36 = .ok (.iload_n 1, 1) := by decide +kernel
theorem dX11_symbol_37 : decode cX11_symbol 37 = .ok (.iload_n 3, 1) := by decide +kernel
theorem dX11_symbol_38 : decode cX11_symbol 38 = .ok (.iadd, 1) := by decide +kernel
theorem dX11_symbol_39 : decode cX11_symbol 39 = .ok (.invokevirtual 430, 3) := by decide +kernel
theorem dX11_symbol_42 : decode cX11_symbol 42 = .ok (.aload_n 0, 1) := by decide +kernel
theorem dX11_symbol_43 : decode cX11_symbol 43 = .ok (.iload_n 2, 1) := by decide +kernel
theorem dX11_symbol_44 : decode cX11_symbol 44 = .ok (.invokevirtual 434, 3) := by decide +kernel
theorem dX11_symbol_47 : decode cX11_symbol 47 = .ok (.aload_n 0, 1) := by decide +kernel
theorem dX11_symbol_48 : decode cX11_symbol 48 = .ok (.getfield 234, 3) := by decide +kernel
theorem dX11_symbol_51 : decode cX11_symbol 51 = .ok (.iconst 1, 1) := by decide +kernel
theorem dX11_symbol_52 : decode cX11_symbol 52 = .ok (.iaload, 1) := by decide +kernel
theorem dX11_symbol_53 : decode cX11_symbol 53 = .ok (.aload_n 0, 1) := by decide +kernel
theorem dX11_symbol_54 : decode cX11_symbol 54 = .ok (.getfield 234, 3) := by decide +kernel
theorem dX11_symbol_57 : decode cX11_symbol 57 = .ok (.iconst 0, 1) := by decide +kernel
theorem dX11_symbol_58 : decode cX11_symbol 58 = .ok (.iaload, 1) := by decide +kernel
theorem dX11_symbol_59 : decode cX11_symbol 59 = .ok (.if_icmp .ge 7, 3) := by decide +kernel
theorem dX11_symbol_62 : decode cX11_symbol 62 = .ok (.iconst 1, 1) := by decide +kernel
theorem dX11_symbol_63 : decode cX11_symbol 63 = .ok (.goto 4, 3) := by decide +kernel
theorem dX11_symbol_66 : decode cX11_symbol 66 = .ok (.iconst 0, 1) := by decide +kernel
theorem dX11_symbol_67 : decode cX11_symbol 67 = .ok (.istore 4, 2) := by decide +kernel
theorem dX11_symbol_69 : decode cX11_symbol 69 = .ok (.aload_n 0, 1) := by decide +kernel
theorem dX11_symbol_70 : decode cX11_symbol 70 = .ok (.getfield 228, 3) := by decide +kernel
theorem dX11_symbol_73 : decode cX11_symbol 73 = .ok (.iconst 0, 1) := by decide +kernel
theorem dX11_symbol_74 : decode cX11_symbol 74 = .ok (.bipush 104, 2) := by decide +kernel
theorem dX11_symbol_76 : decode cX11_symbol 76 = .ok (.iload 4, 2) := by decide +kernel
theorem dX11_symbol_78 : decode cX11_symbol 78 = .ok (.iadd, 1) := by decide +kernel
theorem dX11_symbol_79 : decode cX11_symbol 79 = .ok (.iastore, 1) := by decide +kernel
theorem dX11_symbol_80 : decode cX11_symbol 80 = .ok (.aload_n 0, 1) := by decide +kernel
theorem dX11_symbol_81 : decode cX11_symbol 81 = .ok (.getfield 228, 3) := by decide +kernel
theorem dX11_symbol_84 : decode cX11_symbol 84 = .ok (.iconst 1, 1) := by decide +kernel
theorem dX11_symbol_85 : decode cX11_symbol 85 = .ok (.bipush 102, 2) := by decide +kernel
theorem dX11_symbol_87 : decode cX11_symbol 87 = .ok (.iastore, 1) := by decide +kernel
theorem dX11_symbol_88 : decode cX11_symbol 88 = .ok (.aload_n 0, 1) := by decide +kernel
theorem dX11_symbol_89 : decode cX11_symbol 89 = .ok (.iconst 2, 1) := by decide +kernel
theorem dX11_symbol_90 : decode cX11_symbol 90 = .ok (.putfield 231, 3) := by decide +kernel
theorem dX11_symbol_93 : decode cX11_symbol 93 = .ok (.iconst 0, 1) := by decide +kernel
theorem dX11_symbol_94 : decode cX11_symbol 94 = .ok (.istore 5, 2) := by decide +kernel
theorem dX11_symbol_96 : decode cX11_symbol 96 = .ok (.iload 5, 2) := by decide +kernel
theorem dX11_symbol_98 : decode cX11_symbol 98 = .ok (.iload_n 2, 1) := by decide +kernel
theorem dX11_symbol_99 : decode cX11_symbol 99 = .ok (.if_icmp .ge 101, 3) := by decide +kernel
theorem dX11_symbol_102 : decode cX11_symbol 102 = .ok (.aload_n 0, 1) := by decide +kernel
theorem dX11_symbol_103 : decode cX11_symbol 103 = .ok (.getfield 237, 3) := by decide +kernel
theorem dX11_symbol_106 : decode cX11_symbol 106 = .ok (.iconst 2, 1) := by decide +kernel
theorem dX11_symbol_107 : decode cX11_symbol 107 = .ok (.iload 5, 2) := by decide +kernel
theorem dX11_symbol_109 : decode cX11_symbol 109 = .ok (.imul, 1) := by decide +kernel
theorem dX11_symbol_110 : decode cX11_symbol 110 = .ok (.iload 4, 2) := by decide +kernel
theorem dX11_symbol_112 : decode cX11_symbol 112 = .ok (.iadd, 1) := by decide +kernel
theorem dX11_symbol_113 : decode cX11_symbol 113 = .ok (.iaload, 1) := by decide +kernel
theorem dX11_symbol_114 : decode cX11_symbol 114 = .ok (.istore 6, 2) := by decide +kernel
theorem dX11_symbol_116 : decode cX11_symbol 116 = .ok (.aload_n 0, 1) := by decide +kernel
theorem dX11_symbol_117 : decode cX11_symbol 117 = .ok (.getfield 228, 3) := by decide +kernel
theorem dX11_symbol_120 : decode cX11_symbol 120 = .ok (.aload_n 0, 1) := by decide +kernel
theorem dX11_symbol_121 : decode cX11_symbol 121 = .ok (.getfield 231, 3) := by decide +kernel
theorem dX11_symbol_124 : decode cX11_symbol 124 = .ok (.iload 6, 2) := by decide +kernel
theorem dX11_symbol_126 : decode cX11_symbol 126 = .ok (.iastore, 1) := by decide +kernel
theorem dX11_symbol_127 : decode cX11_symbol 127 = .ok (.aload_n 0, 1) := by decide +kernel
theorem dX11_symbol_128 : decode cX11_symbol 128 = .ok (.dup, 1) := by decide +kernel
theorem dX11_symbol_129 : decode cX11_symbol 129 = .ok (.getfield 231, 3) := by decide +kernel
theorem dX11_symbol_132 : decode cX11_symbol 132 = .ok (.iconst 1, 1) := by decide +kernel
theorem dX11_symbol_133 : decode cX11_symbol 133 = .ok (.iadd, 1) := by decide +kernel
theorem dX11_symbol_134 : decode cX11_symbol 134 = .ok (.putfield 231, 3) := by decide +kernel
theorem dX11_symbol_137 : decode cX11_symbol 137 = .ok (.iload 4, 2) := by decide +kernel
theorem dX11_symbol_139 : decode cX11_symbol 139 = .ok (.ifCond .ne 16, 3) := by decide +kernel
theorem dX11_symbol_142 : decode cX11_symbol 142 = .ok (.iload 6, 2) := by decide +kernel
theorem dX11_symbol_144 : decode cX11_symbol 144 = .ok (.bipush 99, 2) := by decide +kernel
theorem dX11_symbol_146 : decode cX11_symbol 146 = .ok (.if_icmp .ne 9, 3) := by decide +kernel
theorem dX11_symbol_149 : decode cX11_symbol 149 = .ok (.iconst 1, 1) := by decide +kernel
theorem dX11_symbol_150 : decode cX11_symbol 150 = .ok (.istore 4, 2) := by decide +kernel
theorem dX11_symbol_152 : decode cX11_symbol 152 = .ok (.goto 45, 3) := by decide +kernel
theorem dX11_symbol_155 : decode cX11_symbol 155 = .ok (.iload 4, 2) := by decide +kernel
theorem dX11_symbol_157 : decode cX11_symbol 157 = .ok (.iconst 1, 1) := by decide +kernel
theorem dX11_symbol_158 : decode cX11_symbol 158 = .ok (.if_icmp .ne 16, 3) := by decide +kernel
theorem dX11_symbol_161 : decode cX11_symbol 161 = .ok (.iload 6, 2) := by decide +kernel
theorem dX11_symbol_163 : decode cX11_symbol 163 = .ok (.bipush 100, 2) := by decide +kernel
theorem dX11_symbol_165 : decode cX11_symbol 165 = .ok (.if_icmp .ne 9, 3) := by decide +kernel
theorem dX11_symbol_168 : decode cX11_symbol 168 = .ok (.iconst 0, 1) := by decide +kernel
theorem dX11_symbol_169 : decode cX11_symbol 169 = .ok (.istore 4, 2) := by decide +kernel
theorem dX11_symbol_171 : decode cX11_symbol 171 = .ok (.goto 26, 3) := by decide +kernel
theorem dX11_symbol_174 : decode cX11_symbol 174 = .ok (.iload 5, 2) := by decide +kernel
theorem dX11_symbol_176 : decode cX11_symbol 176 = .ok (.iload 4, 2) := by decide +kernel
theorem dX11_symbol_178 : decode cX11_symbol 178 = .ok (.iconst 1, 1) := by decide +kernel
theorem dX11_symbol_179 : decode cX11_symbol 179 = .ok (.if_icmp .ne 14, 3) := by decide +kernel
theorem dX11_symbol_182 : decode cX11_symbol 182 = .ok (.iload 6, 2) := by decide +kernel
theorem dX11_symbol_184 : decode cX11_symbol 184 = .ok (.bipush 102, 2) := by decide +kernel
theorem dX11_symbol_186 : decode cX11_symbol 186 = .ok (.if_icmp .eq 7, 3) := by decide +kernel
theorem dX11_symbol_189 : decode cX11_symbol 189 = .ok (.iconst 2, 1) := by decide +kernel
theorem dX11_symbol_190 : decode cX11_symbol 190 = .ok (.goto 4, 3) := by decide +kernel
theorem dX11_symbol_193 : decode cX11_symbol 193 = .ok (.iconst 1, 1) := by decide +kernel
theorem dX11_symbol_194 : decode cX11_symbol 194 = .ok (.iadd, 1) := by decide +kernel
theorem dX11_symbol_195 : decode cX11_symbol 195 = .ok (.istore 5, 2) := by decide +kernel
theorem dX11_symbol_197 : decode cX11_symbol 197 = .ok (.goto (-101), 3) := by decide +kernel
theorem dX11_symbol_200 : decode cX11_symbol 200 = .ok (.aload_n 0, 1) := by decide +kernel
theorem dX11_symbol_201 : decode cX11_symbol 201 = .ok (.getfield 228, 3) := by decide +kernel
theorem dX11_symbol_204 : decode cX11_symbol 204 = .ok (.aload_n 0, 1) := by decide +kernel
theorem dX11_symbol_205 : decode cX11_symbol 205 = .ok (.getfield 231, 3) := by decide +kernel
theorem dX11_symbol_208 : decode cX11_symbol 208 = .ok (.aload_n 0, 1) := by decide +kernel
theorem dX11_symbol_209 : decode cX11_symbol 209 = .ok (.getfield 228, 3) := by decide +kernel
theorem dX11_symbol_212 : decode cX11_symbol 212 = .ok (.aload_n 0, 1) := by decide +kernel
theorem dX11_symbol_213 : decode cX11_symbol 213 = .ok (.getfield 231, 3) := by decide +kernel
theorem dX11_symbol_216 : decode cX11_symbol 216 = .ok (.invokestatic 437, 3) := by decide +kernel
theorem dX11_symbol_219 : decode cX11_symbol 219 = .ok (.iastore, 1) := by decide +kernel
theorem dX11_symbol_220 : decode cX11_symbol 220 = .ok (.aload_n 0, 1) := by decide +kernel
theorem dX11_symbol_221 : decode cX11_symbol 221 = .ok (.getfield 228, 3) := by decide +kernel
theorem dX11_symbol_224 : decode cX11_symbol 224 = .ok (.aload_n 0, 1) := by decide +kernel
theorem dX11_symbol_225 : decode cX11_symbol 225 = .ok (.getfield 231, 3) := by decide +kernel
theorem dX11_symbol_228 : decode cX11_symbol 228 = .ok (.iconst 1, 1) := by decide +kernel
theorem dX11_symbol_229 : decode cX11_symbol 229 = .ok (.iadd, 1) := by decide +kernel
theorem dX11_symbol_230 : decode cX11_symbol 230 = .ok (.bipush 106, 2) := by decide +kernel
theorem dX11_symbol_232 : decode cX11_symbol 232 = .ok (.iastore, 1) := by decide +kernel
theorem dX11_symbol_233 : decode cX11_symbol 233 = .ok (.aload_n 0, 1) := by decide +kernel
theorem dX11_symbol_234 : decode cX11_symbol 234 = .ok (.dup, 1) := by decide +kernel
theorem dX11_symbol_235 : decode cX11_symbol 235 = .ok (.getfield 231, 3) := by decide +kernel
theorem dX11_symbol_238 : decode cX11_symbol 238 = .ok (.iconst 2, 1) := by decide +kernel
theorem dX11_symbol_239 : decode cX11_symbol 239 = .ok (.iadd, 1) := by decide +kernel
theorem dX11_symbol_240 : decode cX11_symbol 240 = .ok (.putfield 231, 3) := by decide +kernel
theorem dX11_symbol_243 : decode cX11_symbol 243 = .ok (.iload_n 3, 1) := by decide +kernel
theorem dX11_symbol_244 : decode cX11_symbol 244 = .ok (.ireturn, 1) := by decide +kernel
theorem dX11_stringOf_0 : decode cX11_stringOf 0 = .ok (.iconst 0, 1) := by decide +kernel
theorem dX11_stringOf_1 : decode cX11_stringOf 1 = .ok (.istore_n 3, 1) := by decide +kernel
theorem dX11_stringOf_2 : decode cX11_stringOf 2 = .ok (.iload_n 1, 1) := by decide +kernel
theorem dX11_stringOf_3 : decode cX11_stringOf 3 = .ok (.istore 4, 2) := by decide +kernel
theorem dX11_stringOf_5 : decode cX11_stringOf 5 = .ok (.iload 4, 2) := by decide +kernel
theorem dX11_stringOf_7 : decode cX11_stringOf 7 = .ok (.iload_n 2, 1) := by decide +kernel
theorem dX11_stringOf_8 : decode cX11_stringOf 8 = .ok (.if_icmp .ge 166, 3) := by decide +kernel
theorem dX11_stringOf_11 : decode cX11_stringOf 11 = .ok (.aload_n 0, 1) := by decide +kernel
theorem dX11_stringOf_12 : decode cX11_stringOf 12 = .ok (.getfield 54, 3) := by decide +kernel
theorem dX11_stringOf_15 : decode cX11_stringOf 15 = .ok (.iload 4, 2) := by decide +kernel
theorem dX11_stringOf_17 : decode cX11_stringOf 17 = .ok (.iaload, 1) := by decide +kernel
theorem dX11_stringOf_18 : decode cX11_stringOf 18 = .ok (.istore 5, 2) := by decide +kernel
theorem dX11_stringOf_20 : decode cX11_stringOf 20 = .ok (.iload 4, 2) := by decide +kernel
theorem dX11_stringOf_22 : decode cX11_stringOf 22 = .ok (.iload_n 1, 1) := by decide +kernel
theorem dX11_stringOf_23 : decode cX11_stringOf 23 = .ok (.if_icmp .le 30, 3) := by decide +kernel
theorem dX11_stringOf_26 : decode cX11_stringOf 26 = .ok (.aload_n 0, 1) := by decide +kernel
theorem dX11_stringOf_27 : decode cX11_stringOf 27 = .ok (.aload_n 0, 1) := by decide +kernel
theorem dX11_stringOf_28 : decode cX11_stringOf 28 = .ok (.getfield 54, 3) := by decide +kernel
theorem dX11_stringOf_31 : decode cX11_stringOf 31 = .ok (.iload 4, 2) := by decide +kernel
theorem dX11_stringOf_33 : decode cX11_stringOf 33 = .ok (.iconst 1, 1) := by decide +kernel
theorem dX11_stringOf_34 : decode cX11_stringOf 34 = .ok (.isub, 1) := by decide +kernel
theorem dX11_stringOf_35 : decode cX11_stringOf 35 = .ok (.iaload, 1) := by decide +kernel
theorem dX11_stringOf_36 : decode cX11_stringOf 36 = .ok (.invokevirtual 317, 3) := by decide +kernel
theorem dX11_stringOf_39 : decode cX11_stringOf 39 = .ok (.ifCond .ne 14, 3) := by decide +kernel
theorem dX11_stringOf_42 : decode cX11_stringOf 42 = .ok (.aload_n 0, 1) := by decide +kernel
theorem dX11_stringOf_43 : decode cX11_stringOf 43 = .ok (.getfield 240, 3) := by decide +kernel
theorem dX11_stringOf_46 : decode cX11_stringOf 46 = .ok (.iload_n 3, 1) := by decide +kernel
theorem dX11_stringOf_47 : decode cX11_stringOf 47 = .ok (.bipush 29, 2) := by decide +kernel
theorem dX11_stringOf_49 : decode cX11_stringOf 49 = .ok (.bastore, 1) := by decide +kernel
theorem dX11_stringOf_50 : decode cX11_stringOf 50 = .ok (.iinc 3 1, 3) := by decide +kernel
theorem dX11_stringOf_53 : decode cX11_stringOf 53 = .ok (.iconst 1, 1) := by decide +kernel
theorem dX11_stringOf_54 : decode cX11_stringOf 54 = .ok (.istore 6, 2) := by decide +kernel
theorem dX11_stringOf_56 : decode cX11_stringOf 56 = .ok (.iconst 1, 1) := by decide +kernel
theorem dX11_stringOf_57 : decode cX11_stringOf 57 = .ok (.istore 7, 2) := by decide +kernel
theorem dX11_stringOf_59 : decode cX11_stringOf 59 = .ok (.iload 7, 2) := by decide +kernel
theorem dX11_stringOf_61 : decode cX11_stringOf 61 = .ok (.aload_n 0, 1) := by decide +kernel
theorem dX11_stringOf_62 : decode cX11_stringOf 62 = .ok (.getfield 16, 3) := by decide +kernel
theorem dX11_stringOf_65 : decode cX11_stringOf 65 = .ok (.iload 5, 2) := by decide +kernel
theorem dX11_stringOf_67 : decode cX11_stringOf 67 = .ok (.iaload, 1) := by decide +kernel
theorem dX11_stringOf_68 : decode cX11_stringOf 68 = .ok (.if_icmp .ge 16, 3) := by decide +kernel
theorem dX11_stringOf_71 : decode cX11_stringOf 71 = .ok (.iload 6, 2) := by decide +kernel
theorem dX11_stringOf_73 : decode cX11_stringOf 73 = .ok (.bipush 10, 2) := by decide +kernel
theorem dX11_stringOf_75 : decode cX11_stringOf 75 = .ok (.imul, 1) := by decide +kernel
theorem dX11_stringOf_76 : decode cX11_stringOf 76 = .ok (.istore 6, 2) := by decide +kernel
theorem dX11_stringOf_78 : decode cX11_stringOf 78 = .ok (.iinc 7 1, 3) := by decide +kernel
theorem dX11_stringOf_81 : decode cX11_stringOf 81 = .ok (.goto (-22), 3) := by decide +kernel
theorem dX11_stringOf_84 : decode cX11_stringOf 84 = .ok (.iload 6, 2) := by decide +kernel
theorem dX11_stringOf_86 : decode cX11_stringOf 86 = .ok (.ifCond .le 39, 3) := by decide +kernel
theorem dX11_stringOf_89 : decode cX11_stringOf 89 = .ok (.aload_n 0, 1) := by decide +kernel
theorem dX11_stringOf_90 : decode cX11_stringOf 90 = .ok (.getfield 240, 3) := by decide +kernel
theorem dX11_stringOf_93 : decode cX11_stringOf 93 = .ok (.iload_n 3, 1) := by decide +kernel
theorem dX11_stringOf_94 : decode cX11_stringOf 94 = .ok (.bipush 48, 2) := by decide +kernel
theorem dX11_stringOf_96 : decode cX11_stringOf 96 = .ok (.aload_n 0, 1) := by decide +kernel
theorem dX11_stringOf_97 : decode cX11_stringOf 97 = .ok (.getfield 13, 3) := by decide +kernel
theorem dX11_stringOf_100 : decode cX11_stringOf 100 = .ok (.iload 5, 2) := by decide +kernel
theorem dX11_stringOf_102 : decode cX11_stringOf 102 = .ok (.iaload, 1) := by decide +kernel
theorem dX11_stringOf_103 : decode cX11_stringOf 103 = .ok (.iload 6, 2) := by decide +kernel
theorem dX11_stringOf_105 : decode cX11_stringOf 105 = .ok (.idiv, 1) := by decide +kernel
theorem dX11_stringOf_106 : decode cX11_stringOf 106 = .ok (.bipush 10, 2) := by decide +kernel
theorem dX11_stringOf_108 : decode cX11_stringOf 108 = .ok (.irem, 1) := by decide +kernel
theorem dX11_stringOf_109 : decode cX11_stringOf 109 = .ok (.iadd, 1) := by decide +kernel
theorem dX11_stringOf_110 : decode cX11_stringOf 110 = .ok (.i2b, 1) := by decide +kernel
theorem dX11_stringOf_111 : decode cX11_stringOf 111 = .ok (.bastore, 1) := by decide +kernel
theorem dX11_stringOf_112 : decode cX11_stringOf 112 = .ok (.iinc 3 1, 3) := by decide +kernel
theorem dX11_stringOf_115 : decode cX11_stringOf 115 = .ok (.iload 6, 2) := by decide +kernel
theorem dX11_stringOf_117 : decode cX11_stringOf 117 = .ok (.bipush 10, 2) := by decide +kernel
theorem dX11_stringOf_119 : decode cX11_stringOf 119 = .ok (.idiv, 1) := by decide +kernel
theorem dX11_stringOf_120 : decode cX11_stringOf 120 = .ok (.istore 6, 2) := by decide +kernel
theorem dX11_stringOf_122 : decode cX11_stringOf 122 = .ok (.goto (-38), 3) := by decide +kernel
theorem dX11_stringOf_125 : decode cX11_stringOf 125 = .ok (.iconst 0, 1) := by decide +kernel
theorem dX11_stringOf_126 : decode cX11_stringOf 126 = .ok (.istore 7, 2) := by decide +kernel
theorem dX11_stringOf_128 : decode cX11_stringOf 128 = .ok (.iload 7, 2) := by decide +kernel
theorem dX11_stringOf_130 : decode cX11_stringOf 130 = .ok (.aload_n 0, 1) := by decide +kernel
theorem dX11_stringOf_131 : decode cX11_stringOf 131 = .ok (.getfield 57, 3) := by decide +kernel
theorem dX11_stringOf_134 : decode cX11_stringOf 134 = .ok (.iload 4, 2) := by decide +kernel
theorem dX11_stringOf_136 : decode cX11_stringOf 136 = .ok (.iaload, 1) := by decide +kernel
theorem dX11_stringOf_137 : decode cX11_stringOf 137 = .ok (.if_icmp .ge 31, 3) := by decide +kernel
theorem dX11_stringOf_140 : decode cX11_stringOf 140 = .ok (.aload_n 0, 1) := by decide +kernel
theorem dX11_stringOf_141 : decode cX11_stringOf 141 = .ok (.getfield 240, 3) := by decide +kernel
theorem dX11_stringOf_144 : decode cX11_stringOf 144 = .ok (.iload_n 3, 1) := by decide +kernel
theorem dX11_stringOf_145 : decode cX11_stringOf 145 = .ok (.aload_n 0, 1) := by decide +kernel
theorem dX11_stringOf_146 : decode cX11_stringOf 146 = .ok (.getfield 63, 3) := by decide +kernel
theorem dX11_stringOf_149 : decode cX11_stringOf 149 = .ok (.bipush 90, 2) := by decide +kernel
theorem dX11_stringOf_151 : decode cX11_stringOf 151 = .ok (.iload 4, 2) := by decide +kernel
theorem dX11_stringOf_153 : decode cX11_stringOf 153 = .ok (.imul, 1) := by decide +kernel
theorem dX11_stringOf_154 : decode cX11_stringOf 154 = .ok (.iload 7, 2) := by decide +kernel
theorem dX11_stringOf_156 : decode cX11_stringOf 156 = .ok (.iadd, 1) := by decide +kernel
theorem dX11_stringOf_157 : decode cX11_stringOf 157 = .ok (.baload, 1) := by decide +kernel
theorem dX11_stringOf_158 : decode cX11_stringOf 158 = .ok (.bastore, 1) := by decide +kernel
theorem dX11_stringOf_159 : decode cX11_stringOf 159 = .ok (.iinc 3 1, 3) := by decide +kernel
theorem dX11_stringOf_162 : decode cX11_stringOf 162 = .ok (.iinc 7 1, 3) := by decide +kernel
theorem dX11_stringOf_165 : decode cX11_stringOf 165 = .ok (.goto (-37), 3) := by decide +kernel
theorem dX11_stringOf_168 : decode cX11_stringOf 168 = .ok (.iinc 4 1, 3) := by decide +kernel
theorem dX11_stringOf_171 : decode cX11_stringOf 171 = .ok (.goto (-166), 3) := by decide +kernel
theorem dX11_stringOf_174 : decode cX11_stringOf 174 = .ok (.return_, 1) := by decide +kernel
theorem dX11_character_0 : decode cX11_character 0 = .ok (.aload_n 0, 1) := by decide +kernel
theorem dX11_character_1 : decode cX11_character 1 = .ok (.iconst 0, 1) := by decide +kernel
theorem dX11_character_2 : decode cX11_character 2 = .ok (.putfield 48, 3) := by decide +kernel
theorem dX11_character_5 : decode cX11_character 5 = .ok (.iload_n 1, 1) := by decide +kernel
theorem dX11_character_6 : decode cX11_character 6 = .ok (.ifCond .lt 11, 3) := by decide +kernel
theorem dX11_character_9 : decode cX11_character 9 = .ok (.iload_n 1, 1) := by decide +kernel
theorem dX11_character_10 : decode cX11_character 10 = .ok (.aload_n 0, 1) := by decide +kernel
theorem dX11_character_11 : decode cX11_character 11 = .ok (.getfield 231, 3) := by decide +kernel
theorem dX11_character_14 : decode cX11_character 14 = .ok (.if_icmp .lt 7, 3) := by decide +kernel
theorem dX11_character_17 : decode cX11_character 17 = .ok (.iconst (-1), 1) := by decide +kernel
theorem dX11_character_18 : decode cX11_character 18 = .ok (.goto 9, 3) := by decide +kernel
theorem dX11_character_21 : decode cX11_character 21 = .ok (.aload_n 0, 1) := by decide +kernel
theorem dX11_character_22 : decode cX11_character 22 = .ok (.getfield 228, 3) := by decide +kernel
theorem dX11_character_25 : decode cX11_character 25 = .ok (.iload_n 1, 1) := by decide +kernel
theorem dX11_character_26 : decode cX11_character 26 = .ok (.iaload, 1) := by decide +kernel
theorem dX11_character_27 : decode cX11_character 27 = .ok (.ireturn, 1) := by decide +kernel
theorem dX11_lay_0 : decode cX11_lay 0 = .ok (.iload_n 2, 1) := by decide +kernel
theorem dX11_lay_1 : decode cX11_lay 1 = .ok (.iconst 1, 1) := by decide +kernel
theorem dX11_lay_2 : decode cX11_lay 2 = .ok (.isub, 1) := by decide +kernel
theorem dX11_lay_3 : decode cX11_lay 3 = .ok (.istore_n 3, 1) := by decide +kernel
theorem dX11_lay_4 : decode cX11_lay 4 = .ok (.iload_n 3, 1) := by decide +kernel
theorem dX11_lay_5 : decode cX11_lay 5 = .ok (.ifCond .lt 34, 3) := by decide +kernel
theorem dX11_lay_8 : decode cX11_lay 8 = .ok (.aload_n 0, 1) := by decide +kernel
theorem dX11_lay_9 : decode cX11_lay 9 = .ok (.getfield 243, 3) := by decide +kernel
theorem dX11_lay_12 : decode cX11_lay 12 = .ok (.aload_n 0, 1) := by decide +kernel
theorem dX11_lay_13 : decode cX11_lay 13 = .ok (.getfield 246, 3) := by decide +kernel
theorem dX11_lay_16 : decode cX11_lay 16 = .ok (.iload_n 1, 1) := by decide +kernel
theorem dX11_lay_17 : decode cX11_lay 17 = .ok (.iload_n 3, 1) := by decide +kernel
theorem dX11_lay_18 : decode cX11_lay 18 = .ok (.ishr, 1) := by decide +kernel
theorem dX11_lay_19 : decode cX11_lay 19 = .ok (.iconst 1, 1) := by decide +kernel
theorem dX11_lay_20 : decode cX11_lay 20 = .ok (.iand, 1) := by decide +kernel
theorem dX11_lay_21 : decode cX11_lay 21 = .ok (.i2b, 1) := by decide +kernel
theorem dX11_lay_22 : decode cX11_lay 22 = .ok (.bastore, 1) := by decide +kernel
theorem dX11_lay_23 : decode cX11_lay 23 = .ok (.aload_n 0, 1) := by decide +kernel
theorem dX11_lay_24 : decode cX11_lay 24 = .ok (.dup, 1) := by decide +kernel
theorem dX11_lay_25 : decode cX11_lay 25 = .ok (.getfield 246, 3) := by decide +kernel
theorem dX11_lay_28 : decode cX11_lay 28 = .ok (.iconst 1, 1) := by decide +kernel
theorem dX11_lay_29 : decode cX11_lay 29 = .ok (.iadd, 1) := by decide +kernel
theorem dX11_lay_30 : decode cX11_lay 30 = .ok (.putfield 246, 3) := by decide +kernel
theorem dX11_lay_33 : decode cX11_lay 33 = .ok (.iinc 3 (-1), 3) := by decide +kernel
theorem dX11_lay_36 : decode cX11_lay 36 = .ok (.goto (-32), 3) := by decide +kernel
theorem dX11_lay_39 : decode cX11_lay 39 = .ok (.return_, 1) := by decide +kernel
theorem dX11_print_0 : decode cX11_print 0 = .ok (.aload_n 0, 1) := by decide +kernel
theorem dX11_print_1 : decode cX11_print 1 = .ok (.iconst 0, 1) := by decide +kernel
theorem dX11_print_2 : decode cX11_print 2 = .ok (.putfield 48, 3) := by decide +kernel
theorem dX11_print_5 : decode cX11_print 5 = .ok (.aload_n 0, 1) := by decide +kernel
theorem dX11_print_6 : decode cX11_print 6 = .ok (.getfield 231, 3) := by decide +kernel
theorem dX11_print_9 : decode cX11_print 9 = .ok (.ifCond .ne 13, 3) := by decide +kernel
theorem dX11_print_12 : decode cX11_print 12 = .ok (.aload_n 0, 1) := by decide +kernel
theorem dX11_print_13 : decode cX11_print 13 = .ok (.iconst 1, 1) := by decide +kernel
theorem dX11_print_14 : decode cX11_print 14 = .ok (.invokevirtual 394, 3) := by decide +kernel
theorem dX11_print_17 : decode cX11_print 17 = .ok (.ifCond .eq 5, 3) := by decide +kernel
theorem dX11_print_20 : decode cX11_print 20 = .ok (.iconst (-1), 1) := by decide +kernel
theorem dX11_print_21 : decode cX11_print 21 = .ok (.ireturn, 1) := by decide +kernel
theorem dX11_print_22 : decode cX11_print 22 = .ok (.aload_n 0, 1) := by decide +kernel
theorem dX11_print_23 : decode cX11_print 23 = .ok (.iconst 0, 1) := by decide +kernel
theorem dX11_print_24 : decode cX11_print 24 = .ok (.putfield 246, 3) := by decide +kernel
theorem dX11_print_27 : decode cX11_print 27 = .ok (.aload_n 0, 1) := by decide +kernel
theorem dX11_print_28 : decode cX11_print 28 = .ok (.iconst 0, 1) := by decide +kernel
theorem dX11_print_29 : decode cX11_print 29 = .ok (.bipush 10, 2) := by decide +kernel
theorem dX11_print_31 : decode cX11_print 31 = .ok (.invokevirtual 441, 3) := by decide +kernel
theorem dX11_print_34 : decode cX11_print 34 = .ok (.iconst 0, 1) := by decide +kernel
theorem dX11_print_35 : decode cX11_print 35 = .ok (.istore_n 1, 1) := by decide +kernel
theorem dX11_print_36 : decode cX11_print 36 = .ok (.iload_n 1, 1) := by decide +kernel
theorem dX11_print_37 : decode cX11_print 37 = .ok (.iconst 1, 1) := by decide +kernel
theorem dX11_print_38 : decode cX11_print 38 = .ok (.iadd, 1) := by decide +kernel
theorem dX11_print_39 : decode cX11_print 39 = .ok (.aload_n 0, 1) := by decide +kernel
theorem dX11_print_40 : decode cX11_print 40 = .ok (.getfield 231, 3) := by decide +kernel
theorem dX11_print_43 : decode cX11_print 43 = .ok (.if_icmp .ge 26, 3) := by decide +kernel
theorem dX11_print_46 : decode cX11_print 46 = .ok (.aload_n 0, 1) := by decide +kernel
theorem dX11_print_47 : decode cX11_print 47 = .ok (.aload_n 0, 1) := by decide +kernel
theorem dX11_print_48 : decode cX11_print 48 = .ok (.getfield 225, 3) := by decide +kernel
theorem dX11_print_51 : decode cX11_print 51 = .ok (.aload_n 0, 1) := by decide +kernel
theorem dX11_print_52 : decode cX11_print 52 = .ok (.getfield 228, 3) := by decide +kernel
theorem dX11_print_55 : decode cX11_print 55 = .ok (.iload_n 1, 1) := by decide +kernel
theorem dX11_print_56 : decode cX11_print 56 = .ok (.iaload, 1) := by decide +kernel
theorem dX11_print_57 : decode cX11_print 57 = .ok (.iaload, 1) := by decide +kernel
theorem dX11_print_58 : decode cX11_print 58 = .ok (.bipush 11, 2) := by decide +kernel
theorem dX11_print_60 : decode cX11_print 60 = .ok (.invokevirtual 441, 3) := by decide +kernel
theorem dX11_print_63 : decode cX11_print 63 = .ok (.iinc 1 1, 3) := by decide +kernel
theorem dX11_print_66 : decode cX11_print 66 = .ok (.goto (-30), 3) := by decide +kernel
theorem dX11_print_69 : decode cX11_print 69 = .ok (.aload_n 0, 1) := by decide +kernel
theorem dX11_print_70 : decode cX11_print 70 = .ok (.aload_n 0, 1) := by decide +kernel
theorem dX11_print_71 : decode cX11_print 71 = .ok (.getfield 281, 3) := by decide +kernel
theorem dX11_print_74 : decode cX11_print 74 = .ok (.bipush 13, 2) := by decide +kernel
theorem dX11_print_76 : decode cX11_print 76 = .ok (.invokevirtual 441, 3) := by decide +kernel
theorem dX11_print_79 : decode cX11_print 79 = .ok (.aload_n 0, 1) := by decide +kernel
theorem dX11_print_80 : decode cX11_print 80 = .ok (.iconst 0, 1) := by decide +kernel
theorem dX11_print_81 : decode cX11_print 81 = .ok (.bipush 10, 2) := by decide +kernel
theorem dX11_print_83 : decode cX11_print 83 = .ok (.invokevirtual 441, 3) := by decide +kernel
theorem dX11_print_86 : decode cX11_print 86 = .ok (.aload_n 0, 1) := by decide +kernel
theorem dX11_print_87 : decode cX11_print 87 = .ok (.getfield 246, 3) := by decide +kernel
theorem dX11_print_90 : decode cX11_print 90 = .ok (.ireturn, 1) := by decide +kernel
theorem dX11_bars_0 : decode cX11_bars 0 = .ok (.aload_n 0, 1) := by decide +kernel
theorem dX11_bars_1 : decode cX11_bars 1 = .ok (.iconst 0, 1) := by decide +kernel
theorem dX11_bars_2 : decode cX11_bars 2 = .ok (.putfield 48, 3) := by decide +kernel
theorem dX11_bars_5 : decode cX11_bars 5 = .ok (.aload_n 0, 1) := by decide +kernel
theorem dX11_bars_6 : decode cX11_bars 6 = .ok (.getfield 246, 3) := by decide +kernel
theorem dX11_bars_9 : decode cX11_bars 9 = .ok (.sipush 160, 3) := by decide +kernel
theorem dX11_bars_12 : decode cX11_bars 12 = .ok (.iadd, 1) := by decide +kernel
theorem dX11_bars_13 : decode cX11_bars 13 = .ok (.sipush 2000, 3) := by decide +kernel
theorem dX11_bars_16 : decode cX11_bars 16 = .ok (.if_icmp .le 5, 3) := by decide +kernel
theorem dX11_bars_19 : decode cX11_bars 19 = .ok (.iconst (-1), 1) := by decide +kernel
theorem dX11_bars_20 : decode cX11_bars 20 = .ok (.ireturn, 1) := by decide +kernel
theorem dX11_bars_21 : decode cX11_bars 21 = .ok (.aload_n 0, 1) := by decide +kernel
theorem dX11_bars_22 : decode cX11_bars 22 = .ok (.iload_n 1, 1) := by decide +kernel
theorem dX11_bars_23 : decode cX11_bars 23 = .ok (.bipush 32, 2) := by decide +kernel
theorem dX11_bars_25 : decode cX11_bars 25 = .ok (.invokevirtual 441, 3) := by decide +kernel
theorem dX11_bars_28 : decode cX11_bars 28 = .ok (.aload_n 0, 1) := by decide +kernel
theorem dX11_bars_29 : decode cX11_bars 29 = .ok (.iload_n 2, 1) := by decide +kernel
theorem dX11_bars_30 : decode cX11_bars 30 = .ok (.bipush 32, 2) := by decide +kernel
theorem dX11_bars_32 : decode cX11_bars 32 = .ok (.invokevirtual 441, 3) := by decide +kernel
theorem dX11_bars_35 : decode cX11_bars 35 = .ok (.aload_n 0, 1) := by decide +kernel
theorem dX11_bars_36 : decode cX11_bars 36 = .ok (.iload_n 3, 1) := by decide +kernel
theorem dX11_bars_37 : decode cX11_bars 37 = .ok (.bipush 32, 2) := by decide +kernel
theorem dX11_bars_39 : decode cX11_bars 39 = .ok (.invokevirtual 441, 3) := by decide +kernel
theorem dX11_bars_42 : decode cX11_bars 42 = .ok (.aload_n 0, 1) := by decide +kernel
theorem dX11_bars_43 : decode cX11_bars 43 = .ok (.iload 4, 2) := by decide +kernel
theorem dX11_bars_45 : decode cX11_bars 45 = .ok (.bipush 32, 2) := by decide +kernel
theorem dX11_bars_47 : decode cX11_bars 47 = .ok (.invokevirtual 441, 3) := by decide +kernel
theorem dX11_bars_50 : decode cX11_bars 50 = .ok (.aload_n 0, 1) := by decide +kernel
theorem dX11_bars_51 : decode cX11_bars 51 = .ok (.iload 5, 2) := by decide +kernel
theorem dX11_bars_53 : decode cX11_bars 53 = .ok (.bipush 32, 2) := by decide +kernel
theorem dX11_bars_55 : decode cX11_bars 55 = .ok (.invokevirtual 441, 3) := by decide +kernel
theorem dX11_bars_58 : decode cX11_bars 58 = .ok (.aload_n 0, 1) := by decide +kernel
theorem dX11_bars_59 : decode cX11_bars 59 = .ok (.getfield 246, 3) := by decide +kernel
theorem dX11_bars_62 : decode cX11_bars 62 = .ok (.ireturn, 1) := by decide +kernel
theorem dX11_cut_0 : decode cX11_cut 0 = .ok (.aload_n 0, 1) := by decide +kernel
theorem dX11_cut_1 : decode cX11_cut 1 = .ok (.iconst 0, 1) := by decide +kernel
theorem dX11_cut_2 : decode cX11_cut 2 = .ok (.putfield 48, 3) := by decide +kernel
theorem dX11_cut_5 : decode cX11_cut 5 = .ok (.iload_n 1, 1) := by decide +kernel
theorem dX11_cut_6 : decode cX11_cut 6 = .ok (.ifCond .lt 11, 3) := by decide +kernel
theorem dX11_cut_9 : decode cX11_cut 9 = .ok (.iload_n 1, 1) := by decide +kernel
theorem dX11_cut_10 : decode cX11_cut 10 = .ok (.aload_n 0, 1) := by decide +kernel
theorem dX11_cut_11 : decode cX11_cut 11 = .ok (.getfield 246, 3) := by decide +kernel
theorem dX11_cut_14 : decode cX11_cut 14 = .ok (.if_icmp .le 5, 3) := by decide +kernel
theorem dX11_cut_17 : decode cX11_cut 17 = .ok (.iconst 0, 1) := by decide +kernel
theorem dX11_cut_18 : decode cX11_cut 18 = .ok (.ireturn, 1) := by decide +kernel
theorem dX11_cut_19 : decode cX11_cut 19 = .ok (.aload_n 0, 1) := by decide +kernel
theorem dX11_cut_20 : decode cX11_cut 20 = .ok (.iload_n 1, 1) := by decide +kernel
theorem dX11_cut_21 : decode cX11_cut 21 = .ok (.putfield 246, 3) := by decide +kernel
theorem dX11_cut_24 : decode cX11_cut 24 = .ok (.iconst 1, 1) := by decide +kernel
theorem dX11_cut_25 : decode cX11_cut 25 = .ok (.ireturn, 1) := by decide +kernel
theorem dX11_turn_0 : decode cX11_turn 0 = .ok (.aload_n 0, 1) := by decide +kernel
theorem dX11_turn_1 : decode cX11_turn 1 = .ok (.iconst 0, 1) := by decide +kernel
theorem dX11_turn_2 : decode cX11_turn 2 = .ok (.putfield 48, 3) := by decide +kernel
theorem dX11_turn_5 : decode cX11_turn 5 = .ok (.iconst 0, 1) := by decide +kernel
theorem dX11_turn_6 : decode cX11_turn 6 = .ok (.istore_n 1, 1) := by decide +kernel
theorem dX11_turn_7 : decode cX11_turn 7 = .ok (.iconst 2, 1) := by decide +kernel
theorem dX11_turn_8 : decode cX11_turn 8 = .ok (.iload_n 1, 1) := by decide +kernel
theorem dX11_turn_9 : decode cX11_turn 9 = .ok (.imul, 1) := by decide +kernel
theorem dX11_turn_10 : decode cX11_turn 10 = .ok (.aload_n 0, 1) := by decide +kernel
theorem dX11_turn_11 : decode cX11_turn 11 = .ok (.getfield 246, 3) := by decide +kernel
theorem dX11_turn_14 : decode cX11_turn 14 = .ok (.if_icmp .ge 49, 3) := by decide +kernel
theorem dX11_turn_17 : decode cX11_turn 17 = .ok (.aload_n 0, 1) := by decide +kernel
theorem dX11_turn_18 : decode cX11_turn 18 = .ok (.getfield 243, 3) := by decide +kernel
theorem dX11_turn_21 : decode cX11_turn 21 = .ok (.iload_n 1, 1) := by decide +kernel
theorem dX11_turn_22 : decode cX11_turn 22 = .ok (.baload, 1) := by decide +kernel
theorem dX11_turn_23 : decode cX11_turn 23 = .ok (.istore_n 2, 1) := by decide +kernel
theorem dX11_turn_24 : decode cX11_turn 24 = .ok (.aload_n 0, 1) := by decide +kernel
theorem dX11_turn_25 : decode cX11_turn 25 = .ok (.getfield 243, 3) := by decide +kernel
theorem dX11_turn_28 : decode cX11_turn 28 = .ok (.iload_n 1, 1) := by decide +kernel
theorem dX11_turn_29 : decode cX11_turn 29 = .ok (.aload_n 0, 1) := by decide +kernel
theorem dX11_turn_30 : decode cX11_turn 30 = .ok (.getfield 243, 3) := by decide +kernel
theorem dX11_turn_33 : decode cX11_turn 33 = .ok (.aload_n 0, 1) := by decide +kernel
theorem dX11_turn_34 : decode cX11_turn 34 = .ok (.getfield 246, 3) := by decide +kernel
theorem dX11_turn_37 : decode cX11_turn 37 = .ok (.iconst 1, 1) := by decide +kernel
theorem dX11_turn_38 : decode cX11_turn 38 = .ok (.isub, 1) := by decide +kernel
theorem dX11_turn_39 : decode cX11_turn 39 = .ok (.iload_n 1, 1) := by decide +kernel
theorem dX11_turn_40 : decode cX11_turn 40 = .ok (.isub, 1) := by decide +kernel
theorem dX11_turn_41 : decode cX11_turn 41 = .ok (.baload, 1) := by decide +kernel
theorem dX11_turn_42 : decode cX11_turn 42 = .ok (.bastore, 1) := by decide +kernel
theorem dX11_turn_43 : decode cX11_turn 43 = .ok (.aload_n 0, 1) := by decide +kernel
theorem dX11_turn_44 : decode cX11_turn 44 = .ok (.getfield 243, 3) := by decide +kernel
theorem dX11_turn_47 : decode cX11_turn 47 = .ok (.aload_n 0, 1) := by decide +kernel
theorem dX11_turn_48 : decode cX11_turn 48 = .ok (.getfield 246, 3) := by decide +kernel
theorem dX11_turn_51 : decode cX11_turn 51 = .ok (.iconst 1, 1) := by decide +kernel
theorem dX11_turn_52 : decode cX11_turn 52 = .ok (.isub, 1) := by decide +kernel
theorem dX11_turn_53 : decode cX11_turn 53 = .ok (.iload_n 1, 1) := by decide +kernel
theorem dX11_turn_54 : decode cX11_turn 54 = .ok (.isub, 1) := by decide +kernel
theorem dX11_turn_55 : decode cX11_turn 55 = .ok (.iload_n 2, 1) := by decide +kernel
theorem dX11_turn_56 : decode cX11_turn 56 = .ok (.bastore, 1) := by decide +kernel
theorem dX11_turn_57 : decode cX11_turn 57 = .ok (.iinc 1 1, 3) := by decide +kernel
theorem dX11_turn_60 : decode cX11_turn 60 = .ok (.goto (-53), 3) := by decide +kernel
theorem dX11_turn_63 : decode cX11_turn 63 = .ok (.aload_n 0, 1) := by decide +kernel
theorem dX11_turn_64 : decode cX11_turn 64 = .ok (.getfield 246, 3) := by decide +kernel
theorem dX11_turn_67 : decode cX11_turn 67 = .ok (.ireturn, 1) := by decide +kernel
theorem dX11_ink_0 : decode cX11_ink 0 = .ok (.aload_n 0, 1) := by decide +kernel
theorem dX11_ink_1 : decode cX11_ink 1 = .ok (.iconst 0, 1) := by decide +kernel
theorem dX11_ink_2 : decode cX11_ink 2 = .ok (.putfield 48, 3) := by decide +kernel
theorem dX11_ink_5 : decode cX11_ink 5 = .ok (.iload_n 1, 1) := by decide +kernel
theorem dX11_ink_6 : decode cX11_ink 6 = .ok (.ifCond .lt 11, 3) := by decide +kernel
theorem dX11_ink_9 : decode cX11_ink 9 = .ok (.iload_n 1, 1) := by decide +kernel
theorem dX11_ink_10 : decode cX11_ink 10 = .ok (.aload_n 0, 1) := by decide +kernel
theorem dX11_ink_11 : decode cX11_ink 11 = .ok (.getfield 246, 3) := by decide +kernel
theorem dX11_ink_14 : decode cX11_ink 14 = .ok (.if_icmp .lt 5, 3) := by decide +kernel
theorem dX11_ink_17 : decode cX11_ink 17 = .ok (.iconst (-1), 1) := by decide +kernel
theorem dX11_ink_18 : decode cX11_ink 18 = .ok (.ireturn, 1) := by decide +kernel
theorem dX11_ink_19 : decode cX11_ink 19 = .ok (.aload_n 0, 1) := by decide +kernel
theorem dX11_ink_20 : decode cX11_ink 20 = .ok (.getfield 243, 3) := by decide +kernel
theorem dX11_ink_23 : decode cX11_ink 23 = .ok (.iload_n 1, 1) := by decide +kernel
theorem dX11_ink_24 : decode cX11_ink 24 = .ok (.baload, 1) := by decide +kernel
theorem dX11_ink_25 : decode cX11_ink 25 = .ok (.istore_n 3, 1) := by decide +kernel
theorem dX11_ink_26 : decode cX11_ink 26 = .ok (.aload_n 0, 1) := by decide +kernel
theorem dX11_ink_27 : decode cX11_ink 27 = .ok (.getfield 243, 3) := by decide +kernel
theorem dX11_ink_30 : decode cX11_ink 30 = .ok (.iload_n 1, 1) := by decide +kernel
theorem dX11_ink_31 : decode cX11_ink 31 = .ok (.iload_n 2, 1) := by decide +kernel
theorem dX11_ink_32 : decode cX11_ink 32 = .ok (.ifCond .eq 7, 3) := by decide +kernel
theorem dX11_ink_35 : decode cX11_ink 35 = .ok (.iconst 1, 1) := by decide +kernel
theorem dX11_ink_36 : decode cX11_ink 36 = .ok (.goto 4, 3) := by decide +kernel
theorem dX11_ink_39 : decode cX11_ink 39 = .ok (.iconst 0, 1) := by decide +kernel
theorem dX11_ink_40 : decode cX11_ink 40 = .ok (.i2b, 1) := by decide +kernel
theorem dX11_ink_41 : decode cX11_ink 41 = .ok (.bastore, 1) := by decide +kernel
theorem dX11_ink_42 : decode cX11_ink 42 = .ok (.iload_n 3, 1) := by decide +kernel
theorem dX11_ink_43 : decode cX11_ink 43 = .ok (.ireturn, 1) := by decide +kernel
theorem dX11_module_0 : decode cX11_module 0 = .ok (.aload_n 0, 1) := by decide +kernel
theorem dX11_module_1 : decode cX11_module 1 = .ok (.iconst 0, 1) := by decide +kernel
theorem dX11_module_2 : decode cX11_module 2 = .ok (.putfield 48, 3) := by decide +kernel
theorem dX11_module_5 : decode cX11_module 5 = .ok (.iload_n 1, 1) := by decide +kernel
theorem dX11_module_6 : decode cX11_module 6 = .ok (.ifCond .lt 11, 3) := by decide +kernel
theorem dX11_module_9 : decode cX11_module 9 = .ok (.iload_n 1, 1) := by decide +kernel
theorem dX11_module_10 : decode cX11_module 10 = .ok (.aload_n 0, 1) := by decide +kernel
theorem dX11_module_11 : decode cX11_module 11 = .ok (.getfield 246, 3) := by decide +kernel
theorem dX11_module_14 : decode cX11_module 14 = .ok (.if_icmp .lt 7, 3) := by decide +kernel
theorem dX11_module_17 : decode cX11_module 17 = .ok (.iconst (-1), 1) := by decide +kernel
theorem dX11_module_18 : decode cX11_module 18 = .ok (.goto 9, 3) := by decide +kernel
theorem dX11_module_21 : decode cX11_module 21 = .ok (.aload_n 0, 1) := by decide +kernel
theorem dX11_module_22 : decode cX11_module 22 = .ok (.getfield 243, 3) := by decide +kernel
theorem dX11_module_25 : decode cX11_module 25 = .ok (.iload_n 1, 1) := by decide +kernel
theorem dX11_module_26 : decode cX11_module 26 = .ok (.baload, 1) := by decide +kernel
theorem dX11_module_27 : decode cX11_module 27 = .ok (.ireturn, 1) := by decide +kernel
theorem dX11_placeOf_0 : decode cX11_placeOf 0 = .ok (.aload_n 0, 1) := by decide +kernel
theorem dX11_placeOf_1 : decode cX11_placeOf 1 = .ok (.getfield 255, 3) := by decide +kernel
theorem dX11_placeOf_4 : decode cX11_placeOf 4 = .ok (.ifCond .eq 19, 3) := by decide +kernel
theorem dX11_placeOf_7 : decode cX11_placeOf 7 = .ok (.aload_n 0, 1) := by decide +kernel
theorem dX11_placeOf_8 : decode cX11_placeOf 8 = .ok (.getfield 249, 3) := by decide +kernel
theorem dX11_placeOf_11 : decode cX11_placeOf 11 = .ok (.aload_n 0, 1) := by decide +kernel
theorem dX11_placeOf_12 : decode cX11_placeOf 12 = .ok (.getfield 252, 3) := by decide +kernel
theorem dX11_placeOf_15 : decode cX11_placeOf 15 = .ok (.iadd, 1) := by decide +kernel
theorem dX11_placeOf_16 : decode cX11_placeOf 16 = .ok (.iconst 1, 1) := by decide +kernel
theorem dX11_placeOf_17 : decode cX11_placeOf 17 = .ok (.isub, 1) := by decide +kernel
theorem dX11_placeOf_18 : decode cX11_placeOf 18 = .ok (.iload_n 1, 1) := by decide +kernel
theorem dX11_placeOf_19 : decode cX11_placeOf 19 = .ok (.isub, 1) := by decide +kernel
theorem dX11_placeOf_20 : decode cX11_placeOf 20 = .ok (.goto 9, 3) := by decide +kernel
theorem dX11_placeOf_23 : decode cX11_placeOf 23 = .ok (.aload_n 0, 1) := by decide +kernel
theorem dX11_placeOf_24 : decode cX11_placeOf 24 = .ok (.getfield 249, 3) := by decide +kernel
theorem dX11_placeOf_27 : decode cX11_placeOf 27 = .ok (.iload_n 1, 1) := by decide +kernel
theorem dX11_placeOf_28 : decode cX11_placeOf 28 = .ok (.iadd, 1) := by decide +kernel
theorem dX11_placeOf_29 : decode cX11_placeOf 29 = .ok (.ireturn, 1) := by decide +kernel
theorem dX11_bitsAt_0 : decode cX11_bitsAt 0 = .ok (.iconst 0, 1) := by decide +kernel
theorem dX11_bitsAt_1 : decode cX11_bitsAt 1 = .ok (.istore_n 3, 1) := by decide +kernel
theorem dX11_bitsAt_2 : decode cX11_bitsAt 2 = .ok (.iconst 0, 1) := by decide +kernel
theorem dX11_bitsAt_3 : decode cX11_bitsAt 3 = .ok (.istore 4, 2) := by decide +kernel
theorem dX11_bitsAt_5 : decode cX11_bitsAt 5 = .ok (.iload 4, 2) := by decide +kernel
theorem dX11_bitsAt_7 : decode cX11_bitsAt 7 = .ok (.iload_n 2, 1) := by decide +kernel
theorem dX11_bitsAt_8 : decode cX11_bitsAt 8 = .ok (.if_icmp .ge 27, 3) := by decide +kernel
theorem dX11_bitsAt_11 : decode cX11_bitsAt 11 = .ok (.iconst 2, 1) := by decide +kernel
theorem dX11_bitsAt_12 : decode cX11_bitsAt 12 = .ok (.iload_n 3, 1) := by decide +kernel
theorem dX11_bitsAt_13 : decode cX11_bitsAt 13 = .ok (.imul, 1) := by decide +kernel
theorem dX11_bitsAt_14 : decode cX11_bitsAt 14 = .ok (.aload_n 0, 1) := by decide +kernel
theorem dX11_bitsAt_15 : decode cX11_bitsAt 15 = .ok (.getfield 243, 3) := by decide +kernel
theorem dX11_bitsAt_18 : decode cX11_bitsAt 18 = .ok (.aload_n 0, 1) := by decide +kernel
theorem dX11_bitsAt_19 : decode cX11_bitsAt 19 = .ok (.iload_n 1, 1) := by decide +kernel
theorem dX11_bitsAt_20 : decode cX11_bitsAt 20 = .ok (.iload 4, 2) := by decide +kernel
theorem dX11_bitsAt_22 : decode cX11_bitsAt 22 = .ok (.iadd, 1) := by decide +kernel
theorem dX11_bitsAt_23 : decode cX11_bitsAt 23 = .ok (.invokevirtual 444, 3) := by decide +kernel
theorem dX11_bitsAt_26 : decode cX11_bitsAt 26 = .ok (.baload, 1) := by decide +kernel
theorem dX11_bitsAt_27 : decode cX11_bitsAt 27 = .ok (.iadd, 1) := by decide +kernel
theorem dX11_bitsAt_28 : decode cX11_bitsAt 28 = .ok (.istore_n 3, 1) := by decide +kernel
theorem dX11_bitsAt_29 : decode cX11_bitsAt 29 = .ok (.iinc 4 1, 3) := by decide +kernel
theorem dX11_bitsAt_32 : decode cX11_bitsAt 32 = .ok (.goto (-27), 3) := by decide +kernel
theorem dX11_bitsAt_35 : decode cX11_bitsAt 35 = .ok (.iload_n 3, 1) := by decide +kernel
theorem dX11_bitsAt_36 : decode cX11_bitsAt 36 = .ok (.ireturn, 1) := by decide +kernel
theorem dX11_characterAt_0 : decode cX11_characterAt 0 = .ok (.iload_n 1, 1) := by decide +kernel
theorem dX11_characterAt_1 : decode cX11_characterAt 1 = .ok (.bipush 13, 2) := by decide +kernel
theorem dX11_characterAt_3 : decode cX11_characterAt 3 = .ok (.iadd, 1) := by decide +kernel
theorem dX11_characterAt_4 : decode cX11_characterAt 4 = .ok (.aload_n 0, 1) := by decide +kernel
theorem dX11_characterAt_5 : decode cX11_characterAt 5 = .ok (.getfield 252, 3) := by decide +kernel
theorem dX11_characterAt_8 : decode cX11_characterAt 8 = .ok (.if_icmp .gt 20, 3) := by decide +kernel
theorem dX11_characterAt_11 : decode cX11_characterAt 11 = .ok (.aload_n 0, 1) := by decide +kernel
theorem dX11_characterAt_12 : decode cX11_characterAt 12 = .ok (.iload_n 1, 1) := by decide +kernel
theorem dX11_characterAt_13 : decode cX11_characterAt 13 = .ok (.bipush 13, 2) := by decide +kernel
theorem dX11_characterAt_15 : decode cX11_characterAt 15 = .ok (.invokevirtual 447, 3) := by decide +kernel
theorem dX11_characterAt_18 : decode cX11_characterAt 18 = .ok (.aload_n 0, 1) := by decide +kernel
theorem dX11_characterAt_19 : decode cX11_characterAt 19 = .ok (.getfield 281, 3) := by decide +kernel
theorem dX11_characterAt_22 : decode cX11_characterAt 22 = .ok (.if_icmp .ne 6, 3) := by decide +kernel
theorem dX11_characterAt_25 : decode cX11_characterAt 25 = .ok (.bipush 106, 2) := by decide +kernel
theorem dX11_characterAt_27 : decode cX11_characterAt 27 = .ok (.ireturn, 1) := by decide +kernel
theorem dX11_characterAt_28 : decode cX11_characterAt 28 = .ok (.iload_n 1, 1) := by decide +kernel
theorem dX11_characterAt_29 : decode cX11_characterAt 29 = .ok (.bipush 11, 2) := by decide +kernel
theorem dX11_characterAt_31 : decode cX11_characterAt 31 = .ok (.iadd, 1) := by decide +kernel
theorem dX11_characterAt_32 : decode cX11_characterAt 32 = .ok (.aload_n 0, 1) := by decide +kernel
theorem dX11_characterAt_33 : decode cX11_characterAt 33 = .ok (.getfield 252, 3) := by decide +kernel
theorem dX11_characterAt_36 : decode cX11_characterAt 36 = .ok (.if_icmp .le 5, 3) := by decide +kernel
theorem dX11_characterAt_39 : decode cX11_characterAt 39 = .ok (.iconst (-1), 1) := by decide +kernel
theorem dX11_characterAt_40 : decode cX11_characterAt 40 = .ok (.ireturn, 1) := by decide +kernel
theorem dX11_characterAt_41 : decode cX11_characterAt 41 = .ok (.aload_n 0, 1) := by decide +kernel
theorem dX11_characterAt_42 : decode cX11_characterAt 42 = .ok (.iload_n 1, 1) := by decide +kernel
theorem dX11_characterAt_43 : decode cX11_characterAt 43 = .ok (.bipush 11, 2) := by decide +kernel
theorem dX11_characterAt_45 : decode cX11_characterAt 45 = .ok (.invokevirtual 447, 3) := by decide +kernel
theorem dX11_characterAt_48 : decode cX11_characterAt 48 = .ok (.istore_n 2, 1) := by decide +kernel
theorem dX11_characterAt_49 : decode cX11_characterAt 49 = .ok (.iconst 0, 1) := by decide +kernel
theorem dX11_characterAt_50 : decode cX11_characterAt 50 = .ok (.istore_n 3, 1) := by decide +kernel
theorem dX11_characterAt_51 : decode cX11_characterAt 51 = .ok (.iload_n 3, 1) := by decide +kernel
theorem dX11_characterAt_52 : decode cX11_characterAt 52 = .ok (.bipush 106, 2) := by decide +kernel
theorem dX11_characterAt_54 : decode cX11_characterAt 54 = .ok (.if_icmp .ge 21, 3) := by decide +kernel
theorem dX11_characterAt_57 : decode cX11_characterAt 57 = .ok (.aload_n 0, 1) := by decide +kernel
theorem dX11_characterAt_58 : decode cX11_characterAt 58 = .ok (.getfield 225, 3) := by decide +kernel
theorem dX11_characterAt_61 : decode cX11_characterAt 61 = .ok (.iload_n 3, 1) := by decide +kernel
theorem dX11_characterAt_62 : decode cX11_characterAt 62 = .ok (.iaload, 1) := by decide +kernel
theorem dX11_characterAt_63 : decode cX11_characterAt 63 = .ok (.iload_n 2, 1) := by decide +kernel
theorem dX11_characterAt_64 : decode cX11_characterAt 64 = .ok (.if_icmp .ne 5, 3) := by decide +kernel
theorem dX11_characterAt_67 : decode cX11_characterAt 67 = .ok (.iload_n 3, 1) := by decide +kernel
theorem dX11_characterAt_68 : decode cX11_characterAt 68 = .ok (.ireturn, 1) := by decide +kernel
theorem dX11_characterAt_69 : decode cX11_characterAt 69 = .ok (.iinc 3 1, 3) := by decide +kernel
theorem dX11_characterAt_72 : decode cX11_characterAt 72 = .ok (.goto (-21), 3) := by decide +kernel
theorem dX11_characterAt_75 : decode cX11_characterAt 75 = .ok (.iconst (-1), 1) := by decide +kernel
theorem dX11_characterAt_76 : decode cX11_characterAt 76 = .ok (.ireturn, 1) := by decide +kernel
theorem dX11_begins_0 : decode cX11_begins 0 = .ok (.aload_n 0, 1) := by decide +kernel
theorem dX11_begins_1 : decode cX11_begins 1 = .ok (.iload_n 1, 1) := by decide +kernel
theorem dX11_begins_2 : decode cX11_begins 2 = .ok (.putfield 255, 3) := by decide +kernel
theorem dX11_begins_5 : decode cX11_begins 5 = .ok (.aload_n 0, 1) := by decide +kernel
theorem dX11_begins_6 : decode cX11_begins 6 = .ok (.getfield 252, 3) := by decide +kernel
theorem dX11_begins_9 : decode cX11_begins 9 = .ok (.bipush 11, 2) := by decide +kernel
theorem dX11_begins_11 : decode cX11_begins 11 = .ok (.if_icmp .ge 5, 3) := by decide +kernel
theorem dX11_begins_14 : decode cX11_begins 14 = .ok (.iconst 0, 1) := by decide +kernel
theorem dX11_begins_15 : decode cX11_begins 15 = .ok (.ireturn, 1) := by decide +kernel
theorem dX11_begins_16 : decode cX11_begins 16 = .ok (.aload_n 0, 1) := by decide +kernel
theorem dX11_begins_17 : decode cX11_begins 17 = .ok (.iconst 0, 1) := by decide +kernel
theorem dX11_begins_18 : decode cX11_begins 18 = .ok (.bipush 11, 2) := by decide +kernel
theorem dX11_begins_20 : decode cX11_begins 20 = .ok (.invokevirtual 447, 3) := by decide +kernel
theorem dX11_begins_23 : decode cX11_begins 23 = .ok (.istore_n 2, 1) := by decide +kernel
theorem dX11_begins_24 : decode cX11_begins 24 = .ok (.iload_n 2, 1) := by decide +kernel
theorem dX11_begins_25 : decode cX11_begins 25 = .ok (.aload_n 0, 1) := by decide +kernel
theorem dX11_begins_26 : decode cX11_begins 26 = .ok (.getfield 225, 3) := by decide +kernel
theorem dX11_begins_29 : decode cX11_begins 29 = .ok (.bipush 103, 2) := by decide +kernel
theorem dX11_begins_31 : decode cX11_begins 31 = .ok (.iaload, 1) := by decide +kernel
theorem dX11_begins_32 : decode cX11_begins 32 = .ok (.if_icmp .eq 25, 3) := by decide +kernel
theorem dX11_begins_35 : decode cX11_begins 35 = .ok (.iload_n 2, 1) := by decide +kernel
theorem dX11_begins_36 : decode cX11_begins 36 = .ok (.aload_n 0, 1) := by decide +kernel
theorem dX11_begins_37 : decode cX11_begins 37 = .ok (.getfield 225, 3) := by decide +kernel
theorem dX11_begins_40 : decode cX11_begins 40 = .ok (.bipush 104, 2) := by decide +kernel
theorem dX11_begins_42 : decode cX11_begins 42 = .ok (.iaload, 1) := by decide +kernel
theorem dX11_begins_43 : decode cX11_begins 43 = .ok (.if_icmp .eq 14, 3) := by decide +kernel
theorem dX11_begins_46 : decode cX11_begins 46 = .ok (.iload_n 2, 1) := by decide +kernel
theorem dX11_begins_47 : decode cX11_begins 47 = .ok (.aload_n 0, 1) := by decide +kernel
theorem dX11_begins_48 : decode cX11_begins 48 = .ok (.getfield 225, 3) := by decide +kernel
theorem dX11_begins_51 : decode cX11_begins 51 = .ok (.bipush 105, 2) := by decide +kernel
theorem dX11_begins_53 : decode cX11_begins 53 = .ok (.iaload, 1) := by decide +kernel
theorem dX11_begins_54 : decode cX11_begins 54 = .ok (.if_icmp .ne 7, 3) := by decide +kernel
theorem dX11_begins_57 : decode cX11_begins 57 = .ok (.iconst 1, 1) := by decide +kernel
theorem dX11_begins_58 : decode cX11_begins 58 = .ok (.goto 4, 3) := by decide +kernel
theorem dX11_begins_61 : decode cX11_begins 61 = .ok (.iconst 0, 1) := by decide +kernel
theorem dX11_begins_62 : decode cX11_begins 62 = .ok (.ireturn, 1) := by decide +kernel
theorem dX11_row_0 : decode cX11_row 0 = .ok (.iconst 0, 1) := by decide +kernel
theorem dX11_row_1 : decode cX11_row 1 = .ok (.istore_n 1, 1) := by decide +kernel
theorem dX11_row_2 : decode cX11_row 2 = .ok (.iconst 0, 1) := by decide +kernel
theorem dX11_row_3 : decode cX11_row 3 = .ok (.istore_n 2, 1) := by decide +kernel
theorem dX11_row_4 : decode cX11_row 4 = .ok (.aload_n 0, 1) := by decide +kernel
theorem dX11_row_5 : decode cX11_row 5 = .ok (.iload_n 2, 1) := by decide +kernel
theorem dX11_row_6 : decode cX11_row 6 = .ok (.invokevirtual 450, 3) := by decide +kernel
theorem dX11_row_9 : decode cX11_row 9 = .ok (.istore_n 3, 1) := by decide +kernel
theorem dX11_row_10 : decode cX11_row 10 = .ok (.iload_n 3, 1) := by decide +kernel
theorem dX11_row_11 : decode cX11_row 11 = .ok (.bipush 103, 2) := by decide +kernel
theorem dX11_row_13 : decode cX11_row 13 = .ok (.if_icmp .lt 13, 3) := by decide +kernel
theorem dX11_row_16 : decode cX11_row 16 = .ok (.iload_n 3, 1) := by decide +kernel
theorem dX11_row_17 : decode cX11_row 17 = .ok (.bipush 105, 2) := by decide +kernel
theorem dX11_row_19 : decode cX11_row 19 = .ok (.if_icmp .gt 7, 3) := by decide +kernel
theorem dX11_row_22 : decode cX11_row 22 = .ok (.iconst 1, 1) := by decide +kernel
theorem dX11_row_23 : decode cX11_row 23 = .ok (.goto 4, 3) := by decide +kernel
theorem dX11_row_26 : decode cX11_row 26 = .ok (.iconst 0, 1) := by decide +kernel
theorem dX11_row_27 : decode cX11_row 27 = .ok (.istore 4, 2) := by decide +kernel
theorem dX11_row_29 : decode cX11_row 29 = .ok (.iload_n 3, 1) := by decide +kernel
theorem dX11_row_30 : decode cX11_row 30 = .ok (.ifCond .lt 23, 3) := by decide +kernel
theorem dX11_row_33 : decode cX11_row 33 = .ok (.iload_n 1, 1) := by decide +kernel
theorem dX11_row_34 : decode cX11_row 34 = .ok (.bipush 100, 2) := by decide +kernel
theorem dX11_row_36 : decode cX11_row 36 = .ok (.if_icmp .eq 17, 3) := by decide +kernel
theorem dX11_row_39 : decode cX11_row 39 = .ok (.iload 4, 2) := by decide +kernel
theorem dX11_row_41 : decode cX11_row 41 = .ok (.iload_n 1, 1) := by decide +kernel
theorem dX11_row_42 : decode cX11_row 42 = .ok (.ifCond .ne 7, 3) := by decide +kernel
theorem dX11_row_45 : decode cX11_row 45 = .ok (.iconst 1, 1) := by decide +kernel
theorem dX11_row_46 : decode cX11_row 46 = .ok (.goto 4, 3) := by decide +kernel
theorem dX11_row_49 : decode cX11_row 49 = .ok (.iconst 0, 1) := by decide +kernel
theorem dX11_row_50 : decode cX11_row 50 = .ok (.if_icmp .eq 34, 3) := by decide +kernel
theorem dX11_row_53 : decode cX11_row 53 = .ok (.aload_n 0, 1) := by decide +kernel
theorem dX11_row_54 : decode cX11_row 54 = .ok (.bipush 12, 2) := by decide +kernel
theorem dX11_row_56 : decode cX11_row 56 = .ok (.aload_n 0, 1) := by decide +kernel
theorem dX11_row_57 : decode cX11_row 57 = .ok (.iload_n 2, 1) := by decide +kernel
theorem dX11_row_58 : decode cX11_row 58 = .ok (.aload_n 0, 1) := by decide +kernel
theorem dX11_row_59 : decode cX11_row 59 = .ok (.getfield 252, 3) := by decide +kernel
theorem dX11_row_62 : decode cX11_row 62 = .ok (.if_icmp .ge 7, 3) := by decide +kernel
theorem dX11_row_65 : decode cX11_row 65 = .ok (.iload_n 2, 1) := by decide +kernel
theorem dX11_row_66 : decode cX11_row 66 = .ok (.goto 9, 3) := by decide +kernel
theorem dX11_row_69 : decode cX11_row 69 = .ok (.aload_n 0, 1) := by decide +kernel
theorem dX11_row_70 : decode cX11_row 70 = .ok (.getfield 252, 3) := by decide +kernel
theorem dX11_row_73 : decode cX11_row 73 = .ok (.iconst 1, 1) := by decide +kernel
theorem dX11_row_74 : decode cX11_row 74 = .ok (.isub, 1) := by decide +kernel
theorem dX11_row_75 : decode cX11_row 75 = .ok (.invokevirtual 444, 3) := by decide +kernel
theorem dX11_row_78 : decode cX11_row 78 = .ok (.invokevirtual 304, 3) := by decide +kernel
theorem dX11_row_81 : decode cX11_row 81 = .ok (.pop, 1) := by decide +kernel
theorem dX11_row_82 : decode cX11_row 82 = .ok (.iconst (-1), 1) := by decide +kernel
theorem dX11_row_83 : decode cX11_row 83 = .ok (.ireturn, 1) := by decide +kernel
theorem dX11_row_84 : decode cX11_row 84 = .ok (.iload_n 3, 1) := by decide +kernel
theorem dX11_row_85 : decode cX11_row 85 = .ok (.bipush 106, 2) := by decide +kernel
theorem dX11_row_87 : decode cX11_row 87 = .ok (.if_icmp .ne 6, 3) := by decide +kernel
theorem dX11_row_90 : decode cX11_row 90 = .ok (.goto 26, 3) := by decide +kernel
theorem dX11_row_93 : decode cX11_row 93 = .ok (.aload_n 0, 1) := by decide +kernel
theorem dX11_row_94 : decode cX11_row 94 = .ok (.getfield 258, 3) := by decide +kernel
theorem dX11_row_97 : decode cX11_row 97 = .ok (.iload_n 1, 1) := by decide +kernel
theorem dX11_row_98 : decode cX11_row 98 = .ok (.iload_n 3, 1) := by decide +kernel
theorem dX11_row_99 : decode cX11_row 99 = .ok (.iastore, 1) := by decide +kernel
theorem dX11_row_100 : decode cX11_row 100 = .ok (.aload_n 0, 1) := by decide +kernel
theorem dX11_row_101 : decode cX11_row 101 = .ok (.getfield 261, 3) := by decide +kernel
theorem dX11_row_104 : decode cX11_row 104 = .ok (.iload_n 1, 1) := by decide +kernel
theorem dX11_row_105 : decode cX11_row 105 = .ok (.iload_n 2, 1) := by decide +kernel
theorem dX11_row_106 : decode cX11_row 106 = .ok (.iastore, 1) := by decide +kernel
theorem dX11_row_107 : decode cX11_row 107 = .ok (.iinc 1 1, 3) := by decide +kernel
theorem dX11_row_110 : decode cX11_row 110 = .ok (.iinc 2 11, 3) := by decide +kernel
theorem dX11_row_113 : decode cX11_row 113 = .ok (.goto (-109), 3) := by decide +kernel
theorem dX11_row_116 : decode cX11_row 116 = .ok (.iload_n 2, 1) := by decide +kernel
theorem dX11_row_117 : decode cX11_row 117 = .ok (.bipush 13, 2) := by decide +kernel
theorem dX11_row_119 : decode cX11_row 119 = .ok (.iadd, 1) := by decide +kernel
theorem dX11_row_120 : decode cX11_row 120 = .ok (.aload_n 0, 1) := by decide +kernel
theorem dX11_row_121 : decode cX11_row 121 = .ok (.getfield 252, 3) := by decide +kernel
theorem dX11_row_124 : decode cX11_row 124 = .ok (.if_icmp .ge 20, 3) := by decide +kernel
theorem dX11_row_127 : decode cX11_row 127 = .ok (.aload_n 0, 1) := by decide +kernel
theorem dX11_row_128 : decode cX11_row 128 = .ok (.bipush 13, 2) := by decide +kernel
theorem dX11_row_130 : decode cX11_row 130 = .ok (.aload_n 0, 1) := by decide +kernel
theorem dX11_row_131 : decode cX11_row 131 = .ok (.iload_n 2, 1) := by decide +kernel
theorem dX11_row_132 : decode cX11_row 132 = .ok (.bipush 13, 2) := by decide +kernel
theorem dX11_row_134 : decode cX11_row 134 = .ok (.iadd, 1) := by decide +kernel
theorem dX11_row_135 : decode cX11_row 135 = .ok (.invokevirtual 444, 3) := by decide +kernel
theorem dX11_row_138 : decode cX11_row 138 = .ok (.invokevirtual 304, 3) := by decide +kernel
theorem dX11_row_141 : decode cX11_row 141 = .ok (.pop, 1) := by decide +kernel
theorem dX11_row_142 : decode cX11_row 142 = .ok (.iconst (-1), 1) := by decide +kernel
theorem dX11_row_143 : decode cX11_row 143 = .ok (.ireturn, 1) := by decide +kernel
theorem dX11_row_144 : decode cX11_row 144 = .ok (.iload_n 1, 1) := by decide +kernel
theorem dX11_row_145 : decode cX11_row 145 = .ok (.ireturn, 1) := by decide +kernel
theorem dX11_scan_0 : decode cX11_scan 0 = .ok (.aload_n 0, 1) := by decide +kernel
theorem dX11_scan_1 : decode cX11_scan 1 = .ok (.iconst 0, 1) := by decide +kernel
theorem dX11_scan_2 : decode cX11_scan 2 = .ok (.putfield 48, 3) := by decide +kernel
theorem dX11_scan_5 : decode cX11_scan 5 = .ok (.aload_n 0, 1) := by decide +kernel
theorem dX11_scan_6 : decode cX11_scan 6 = .ok (.iconst 0, 1) := by decide +kernel
theorem dX11_scan_7 : decode cX11_scan 7 = .ok (.putfield 82, 3) := by decide +kernel
theorem dX11_scan_10 : decode cX11_scan 10 = .ok (.aload_n 0, 1) := by decide +kernel
theorem dX11_scan_11 : decode cX11_scan 11 = .ok (.iconst (-1), 1) := by decide +kernel
theorem dX11_scan_12 : decode cX11_scan 12 = .ok (.putfield 85, 3) := by decide +kernel
theorem dX11_scan_15 : decode cX11_scan 15 = .ok (.aload_n 0, 1) := by decide +kernel
theorem dX11_scan_16 : decode cX11_scan 16 = .ok (.getfield 246, 3) := by decide +kernel
theorem dX11_scan_19 : decode cX11_scan 19 = .ok (.iconst 1, 1) := by decide +kernel
theorem dX11_scan_20 : decode cX11_scan 20 = .ok (.isub, 1) := by decide +kernel
theorem dX11_scan_21 : decode cX11_scan 21 = .ok (.istore_n 1, 1) := by decide +kernel
theorem dX11_scan_22 : decode cX11_scan 22 = .ok (.aload_n 0, 1) := by decide +kernel
theorem dX11_scan_23 : decode cX11_scan 23 = .ok (.iconst 0, 1) := by decide +kernel
theorem dX11_scan_24 : decode cX11_scan 24 = .ok (.putfield 249, 3) := by decide +kernel
theorem dX11_scan_27 : decode cX11_scan 27 = .ok (.iload_n 1, 1) := by decide +kernel
theorem dX11_scan_28 : decode cX11_scan 28 = .ok (.ifCond .lt 18, 3) := by decide +kernel
theorem dX11_scan_31 : decode cX11_scan 31 = .ok (.aload_n 0, 1) := by decide +kernel
theorem dX11_scan_32 : decode cX11_scan 32 = .ok (.getfield 243, 3) := by decide +kernel
theorem dX11_scan_35 : decode cX11_scan 35 = .ok (.iload_n 1, 1) := by decide +kernel
theorem dX11_scan_36 : decode cX11_scan 36 = .ok (.baload, 1) := by decide +kernel
theorem dX11_scan_37 : decode cX11_scan 37 = .ok (.ifCond .ne 9, 3) := by decide +kernel
theorem dX11_scan_40 : decode cX11_scan 40 = .ok (.iinc 1 (-1), 3) := by decide +kernel
theorem dX11_scan_43 : decode cX11_scan 43 = .ok (.goto (-16), 3) := by decide +kernel
theorem dX11_scan_46 : decode cX11_scan 46 = .ok (.aload_n 0, 1) := by decide +kernel
theorem dX11_scan_47 : decode cX11_scan 47 = .ok (.getfield 249, 3) := by decide +kernel
theorem dX11_scan_50 : decode cX11_scan 50 = .ok (.iload_n 1, 1) := by decide +kernel
theorem dX11_scan_51 : decode cX11_scan 51 = .ok (.if_icmp .gt 28, 3) := by decide +kernel
theorem dX11_scan_54 : decode cX11_scan 54 = .ok (.aload_n 0, 1) := by decide +kernel
theorem dX11_scan_55 : decode cX11_scan 55 = .ok (.getfield 243, 3) := by decide +kernel
theorem dX11_scan_58 : decode cX11_scan 58 = .ok (.aload_n 0, 1) := by decide +kernel
theorem dX11_scan_59 : decode cX11_scan 59 = .ok (.getfield 249, 3) := by decide +kernel
theorem dX11_scan_62 : decode cX11_scan 62 = .ok (.baload, 1) := by decide +kernel
theorem dX11_scan_63 : decode cX11_scan 63 = .ok (.ifCond .ne 16, 3) := by decide +kernel
theorem dX11_scan_66 : decode cX11_scan 66 = .ok (.aload_n 0, 1) := by decide +kernel
theorem dX11_scan_67 : decode cX11_scan 67 = .ok (.dup, 1) := by decide +kernel
theorem dX11_scan_68 : decode cX11_scan 68 = .ok (.getfield 249, 3) := by decide +kernel
theorem dX11_scan_71 : decode cX11_scan 71 = .ok (.iconst 1, 1) := by decide +kernel
theorem dX11_scan_72 : decode cX11_scan 72 = .ok (.iadd, 1) := by decide +kernel
theorem dX11_scan_73 : decode cX11_scan 73 = .ok (.putfield 249, 3) := by decide +kernel
theorem dX11_scan_76 : decode cX11_scan 76 = .ok (.goto (-30), 3) := by decide +kernel
theorem dX11_scan_79 : decode cX11_scan 79 = .ok (.aload_n 0, 1) := by decide +kernel
theorem dX11_scan_80 : decode cX11_scan 80 = .ok (.iload_n 1, 1) := by decide +kernel
theorem dX11_scan_81 : decode cX11_scan 81 = .ok (.aload_n 0, 1) := by decide +kernel
theorem dX11_scan_82 : decode cX11_scan 82 = .ok (.getfield 249, 3) := by decide +kernel
theorem dX11_scan_85 : decode cX11_scan 85 = .ok (.isub, 1) := by decide +kernel
theorem dX11_scan_86 : decode cX11_scan 86 = .ok (.iconst 1, 1) := by decide +kernel
theorem dX11_scan_87 : decode cX11_scan 87 = .ok (.iadd, 1) := by decide +kernel
theorem dX11_scan_88 : decode cX11_scan 88 = .ok (.putfield 252, 3) := by decide +kernel
theorem dX11_scan_91 : decode cX11_scan 91 = .ok (.aload_n 0, 1) := by decide +kernel
theorem dX11_scan_92 : decode cX11_scan 92 = .ok (.getfield 252, 3) := by decide +kernel
theorem dX11_scan_95 : decode cX11_scan 95 = .ok (.ifCond .gt 13, 3) := by decide +kernel
theorem dX11_scan_98 : decode cX11_scan 98 = .ok (.aload_n 0, 1) := by decide +kernel
theorem dX11_scan_99 : decode cX11_scan 99 = .ok (.bipush 11, 2) := by decide +kernel
theorem dX11_scan_101 : decode cX11_scan 101 = .ok (.iconst 0, 1) := by decide +kernel
theorem dX11_scan_102 : decode cX11_scan 102 = .ok (.invokevirtual 304, 3) := by decide +kernel
theorem dX11_scan_105 : decode cX11_scan 105 = .ok (.pop, 1) := by decide +kernel
theorem dX11_scan_106 : decode cX11_scan 106 = .ok (.iconst (-1), 1) := by decide +kernel
theorem dX11_scan_107 : decode cX11_scan 107 = .ok (.ireturn, 1) := by decide +kernel
theorem dX11_scan_108 : decode cX11_scan 108 = .ok (.aload_n 0, 1) := by decide +kernel
theorem dX11_scan_109 : decode cX11_scan 109 = .ok (.iconst 0, 1) := by decide +kernel
theorem dX11_scan_110 : decode cX11_scan 110 = .ok (.invokevirtual 453, 3) := by decide +kernel
theorem dX11_scan_113 : decode cX11_scan 113 = .ok (.ifCond .ne 11, 3) := by decide +kernel
theorem dX11_scan_116 : decode cX11_scan 116 = .ok (.aload_n 0, 1) := by decide +kernel
theorem dX11_scan_117 : decode cX11_scan 117 = .ok (.iconst 1, 1) := by decide +kernel
theorem dX11_scan_118 : decode cX11_scan 118 = .ok (.invokevirtual 453, 3) := by decide +kernel
theorem dX11_scan_121 : decode cX11_scan 121 = .ok (.ifCond .ne 7, 3) := by decide +kernel
theorem dX11_scan_124 : decode cX11_scan 124 = .ok (.iconst 1, 1) := by decide +kernel
theorem dX11_scan_125 : decode cX11_scan 125 = .ok (.goto 4, 3) := by decide +kernel
theorem dX11_scan_128 : decode cX11_scan 128 = .ok (.iconst 0, 1) := by decide +kernel
theorem dX11_scan_129 : decode cX11_scan 129 = .ok (.istore_n 2, 1) := by decide +kernel
theorem dX11_scan_130 : decode cX11_scan 130 = .ok (.aload_n 0, 1) := by decide +kernel
theorem dX11_scan_131 : decode cX11_scan 131 = .ok (.iload_n 2, 1) := by decide +kernel
theorem dX11_scan_132 : decode cX11_scan 132 = .ok (.ifCond .ne 7, 3) := by decide +kernel
theorem dX11_scan_135 : decode cX11_scan 135 = .ok (.iconst 1, 1) := by decide +kernel
theorem dX11_scan_136 : decode cX11_scan 136 = .ok (.goto 4, 3) := by decide +kernel
theorem dX11_scan_139 : decode cX11_scan 139 = .ok (.iconst 0, 1) := by decide +kernel
theorem dX11_scan_140 : decode cX11_scan 140 = .ok (.putfield 255, 3) := by decide +kernel
theorem dX11_scan_143 : decode cX11_scan 143 = .ok (.aload_n 0, 1) := by decide +kernel
theorem dX11_scan_144 : decode cX11_scan 144 = .ok (.invokevirtual 456, 3) := by decide +kernel
theorem dX11_scan_147 : decode cX11_scan 147 = .ok (.istore_n 3, 1) := by decide +kernel
theorem dX11_scan_148 : decode cX11_scan 148 = .ok (.iload_n 3, 1) := by decide +kernel
theorem dX11_scan_149 : decode cX11_scan 149 = .ok (.ifCond .ge 5, 3) := by decide +kernel
theorem dX11_scan_152 : decode cX11_scan 152 = .ok (.iconst (-1), 1) := by decide +kernel
theorem dX11_scan_153 : decode cX11_scan 153 = .ok (.ireturn, 1) := by decide +kernel
theorem dX11_scan_154 : decode cX11_scan 154 = .ok (.iload_n 3, 1) := by decide +kernel
theorem dX11_scan_155 : decode cX11_scan 155 = .ok (.iconst 2, 1) := by decide +kernel
theorem dX11_scan_156 : decode cX11_scan 156 = .ok (.if_icmp .lt 24, 3) := by decide +kernel
theorem dX11_scan_159 : decode cX11_scan 159 = .ok (.aload_n 0, 1) := by decide +kernel
theorem dX11_scan_160 : decode cX11_scan 160 = .ok (.getfield 258, 3) := by decide +kernel
theorem dX11_scan_163 : decode cX11_scan 163 = .ok (.iload_n 3, 1) := by decide +kernel
theorem dX11_scan_164 : decode cX11_scan 164 = .ok (.iconst 1, 1) := by decide +kernel
theorem dX11_scan_165 : decode cX11_scan 165 = .ok (.isub, 1) := by decide +kernel
theorem dX11_scan_166 : decode cX11_scan 166 = .ok (.invokestatic 437, 3) := by decide +kernel
theorem dX11_scan_169 : decode cX11_scan 169 = .ok (.aload_n 0, 1) := by decide +kernel
theorem dX11_scan_170 : decode cX11_scan 170 = .ok (.getfield 258, 3) := by decide +kernel
theorem dX11_scan_173 : decode cX11_scan 173 = .ok (.iload_n 3, 1) := by decide +kernel
theorem dX11_scan_174 : decode cX11_scan 174 = .ok (.iconst 1, 1) := by decide +kernel
theorem dX11_scan_175 : decode cX11_scan 175 = .ok (.isub, 1) := by decide +kernel
theorem dX11_scan_176 : decode cX11_scan 176 = .ok (.iaload, 1) := by decide +kernel
theorem dX11_scan_177 : decode cX11_scan 177 = .ok (.if_icmp .eq 24, 3) := by decide +kernel
theorem dX11_scan_180 : decode cX11_scan 180 = .ok (.aload_n 0, 1) := by decide +kernel
theorem dX11_scan_181 : decode cX11_scan 181 = .ok (.bipush 14, 2) := by decide +kernel
theorem dX11_scan_183 : decode cX11_scan 183 = .ok (.aload_n 0, 1) := by decide +kernel
theorem dX11_scan_184 : decode cX11_scan 184 = .ok (.aload_n 0, 1) := by decide +kernel
theorem dX11_scan_185 : decode cX11_scan 185 = .ok (.getfield 261, 3) := by decide +kernel
theorem dX11_scan_188 : decode cX11_scan 188 = .ok (.iload_n 3, 1) := by decide +kernel
theorem dX11_scan_189 : decode cX11_scan 189 = .ok (.iconst 1, 1) := by decide +kernel
theorem dX11_scan_190 : decode cX11_scan 190 = .ok (.isub, 1) := by decide +kernel
theorem dX11_scan_191 : decode cX11_scan 191 = .ok (.iaload, 1) := by decide +kernel
theorem dX11_scan_192 : decode cX11_scan 192 = .ok (.invokevirtual 444, 3) := by decide +kernel
theorem dX11_scan_195 : decode cX11_scan 195 = .ok (.invokevirtual 304, 3) := by decide +kernel
theorem dX11_scan_198 : decode cX11_scan 198 = .ok (.pop, 1) := by decide +kernel
theorem dX11_scan_199 : decode cX11_scan 199 = .ok (.iconst (-1), 1) := by decide +kernel
theorem dX11_scan_200 : decode cX11_scan 200 = .ok (.ireturn, 1) := by decide +kernel
theorem dX11_scan_201 : decode cX11_scan 201 = .ok (.iload_n 3, 1) := by decide +kernel
theorem dX11_scan_202 : decode cX11_scan 202 = .ok (.iconst 2, 1) := by decide +kernel
theorem dX11_scan_203 : decode cX11_scan 203 = .ok (.if_icmp .eq 14, 3) := by decide +kernel
theorem dX11_scan_206 : decode cX11_scan 206 = .ok (.aload_n 0, 1) := by decide +kernel
theorem dX11_scan_207 : decode cX11_scan 207 = .ok (.getfield 258, 3) := by decide +kernel
theorem dX11_scan_210 : decode cX11_scan 210 = .ok (.iconst 1, 1) := by decide +kernel
theorem dX11_scan_211 : decode cX11_scan 211 = .ok (.iaload, 1) := by decide +kernel
theorem dX11_scan_212 : decode cX11_scan 212 = .ok (.bipush 102, 2) := by decide +kernel
theorem dX11_scan_214 : decode cX11_scan 214 = .ok (.if_icmp .eq 22, 3) := by decide +kernel
theorem dX11_scan_217 : decode cX11_scan 217 = .ok (.aload_n 0, 1) := by decide +kernel
theorem dX11_scan_218 : decode cX11_scan 218 = .ok (.bipush 15, 2) := by decide +kernel
theorem dX11_scan_220 : decode cX11_scan 220 = .ok (.aload_n 0, 1) := by decide +kernel
theorem dX11_scan_221 : decode cX11_scan 221 = .ok (.aload_n 0, 1) := by decide +kernel
theorem dX11_scan_222 : decode cX11_scan 222 = .ok (.getfield 261, 3) := by decide +kernel
theorem dX11_scan_225 : decode cX11_scan 225 = .ok (.iconst 1, 1) := by decide +kernel
theorem dX11_scan_226 : decode cX11_scan 226 = .ok (.iaload, 1) := by decide +kernel
theorem dX11_scan_227 : decode cX11_scan 227 = .ok (.invokevirtual 444, 3) := by decide +kernel
theorem dX11_scan_230 : decode cX11_scan 230 = .ok (.invokevirtual 304, 3) := by decide +kernel
theorem dX11_scan_233 : decode cX11_scan 233 = .ok (.pop, 1) := by decide +kernel
theorem dX11_scan_234 : decode cX11_scan 234 = .ok (.iconst (-1), 1) := by decide +kernel
theorem dX11_scan_235 : decode cX11_scan 235 = .ok (.ireturn, 1) := by decide +kernel
theorem dX11_scan_236 : decode cX11_scan 236 = .ok (.aload_n 0, 1) := by decide +kernel
theorem dX11_scan_237 : decode cX11_scan 237 = .ok (.iload_n 3, 1) := by decide +kernel
theorem dX11_scan_238 : decode cX11_scan 238 = .ok (.iconst 1, 1) := by decide +kernel
theorem dX11_scan_239 : decode cX11_scan 239 = .ok (.iadd, 1) := by decide +kernel
theorem dX11_scan_240 : decode cX11_scan 240 = .ok (.putfield 264, 3) := by decide +kernel
theorem dX11_scan_243 : decode cX11_scan 243 = .ok (.aload_n 0, 1) := by decide +kernel
theorem dX11_scan_244 : decode cX11_scan 244 = .ok (.aload_n 0, 1) := by decide +kernel
theorem dX11_scan_245 : decode cX11_scan 245 = .ok (.getfield 255, 3) := by decide +kernel
theorem dX11_scan_248 : decode cX11_scan 248 = .ok (.putfield 270, 3) := by decide +kernel
theorem dX11_scan_251 : decode cX11_scan 251 = .ok (.aload_n 0, 1) := by decide +kernel
theorem dX11_scan_252 : decode cX11_scan 252 = .ok (.iload_n 3, 1) := by decide +kernel
theorem dX11_scan_253 : decode cX11_scan 253 = .ok (.invokevirtual 459, 3) := by decide +kernel
theorem dX11_scan_256 : decode cX11_scan 256 = .ok (.istore 4, 2) := by decide +kernel
theorem dX11_scan_258 : decode cX11_scan 258 = .ok (.aload_n 0, 1) := by decide +kernel
theorem dX11_scan_259 : decode cX11_scan 259 = .ok (.iload 4, 2) := by decide +kernel
theorem dX11_scan_261 : decode cX11_scan 261 = .ok (.ifCond .eq 10, 3) := by decide +kernel
theorem dX11_scan_264 : decode cX11_scan 264 = .ok (.aload_n 0, 1) := by decide +kernel
theorem dX11_scan_265 : decode cX11_scan 265 = .ok (.getfield 76, 3) := by decide +kernel
theorem dX11_scan_268 : decode cX11_scan 268 = .ok (.goto 4, 3) := by decide +kernel
theorem dX11_scan_271 : decode cX11_scan 271 = .ok (.iconst 0, 1) := by decide +kernel
theorem dX11_scan_272 : decode cX11_scan 272 = .ok (.putfield 267, 3) := by decide +kernel
theorem dX11_scan_275 : decode cX11_scan 275 = .ok (.iload 4, 2) := by decide +kernel
theorem dX11_scan_277 : decode cX11_scan 277 = .ok (.ifCond .eq 12, 3) := by decide +kernel
theorem dX11_scan_280 : decode cX11_scan 280 = .ok (.aload_n 0, 1) := by decide +kernel
theorem dX11_scan_281 : decode cX11_scan 281 = .ok (.iconst 0, 1) := by decide +kernel
theorem dX11_scan_282 : decode cX11_scan 282 = .ok (.iconst 0, 1) := by decide +kernel
theorem dX11_scan_283 : decode cX11_scan 283 = .ok (.invokevirtual 383, 3) := by decide +kernel
theorem dX11_scan_286 : decode cX11_scan 286 = .ok (.goto 4, 3) := by decide +kernel
theorem dX11_scan_289 : decode cX11_scan 289 = .ok (.iconst (-1), 1) := by decide +kernel
theorem dX11_scan_290 : decode cX11_scan 290 = .ok (.ireturn, 1) := by decide +kernel
theorem dX11_byteOf_0 : decode cX11_byteOf 0 = .ok (.iload_n 0, 1) := by decide +kernel
theorem dX11_byteOf_1 : decode cX11_byteOf 1 = .ok (.ifCond .ne 18, 3) := by decide +kernel
theorem dX11_byteOf_4 : decode cX11_byteOf 4 = .ok (.iload_n 1, 1) := by decide +kernel
theorem dX11_byteOf_5 : decode cX11_byteOf 5 = .ok (.bipush 64, 2) := by decide +kernel
theorem dX11_byteOf_7 : decode cX11_byteOf 7 = .ok (.if_icmp .ge 10, 3) := by decide +kernel
theorem dX11_byteOf_10 : decode cX11_byteOf 10 = .ok (.iload_n 1, 1) := by decide +kernel
theorem dX11_byteOf_11 : decode cX11_byteOf 11 = .ok (.bipush 32, 2) := by decide +kernel
theorem dX11_byteOf_13 : decode cX11_byteOf 13 = .ok (.iadd, 1) := by decide +kernel
theorem dX11_byteOf_14 : decode cX11_byteOf 14 = .ok (.goto 4, 3) := by decide +kernel
theorem dX11_byteOf_17 : decode cX11_byteOf 17 = .ok (.iconst (-1), 1) := by decide +kernel
theorem dX11_byteOf_18 : decode cX11_byteOf 18 = .ok (.ireturn, 1) := by decide +kernel
theorem dX11_byteOf_19 : decode cX11_byteOf 19 = .ok (.iload_n 1, 1) := by decide +kernel
theorem dX11_byteOf_20 : decode cX11_byteOf 20 = .ok (.bipush 96, 2) := by decide +kernel
theorem dX11_byteOf_22 : decode cX11_byteOf 22 = .ok (.if_icmp .ge 10, 3) := by decide +kernel
theorem dX11_byteOf_25 : decode cX11_byteOf 25 = .ok (.iload_n 1, 1) := by decide +kernel
theorem dX11_byteOf_26 : decode cX11_byteOf 26 = .ok (.bipush 32, 2) := by decide +kernel
theorem dX11_byteOf_28 : decode cX11_byteOf 28 = .ok (.iadd, 1) := by decide +kernel
theorem dX11_byteOf_29 : decode cX11_byteOf 29 = .ok (.goto 4, 3) := by decide +kernel
theorem dX11_byteOf_32 : decode cX11_byteOf 32 = .ok (.iconst (-1), 1) := by decide +kernel
theorem dX11_byteOf_33 : decode cX11_byteOf 33 = .ok (.ireturn, 1) := by decide +kernel
theorem dX11_tell_0 : decode cX11_tell 0 = .ok (.aload_n 0, 1) := by decide +kernel
theorem dX11_tell_1 : decode cX11_tell 1 = .ok (.getfield 73, 3) := by decide +kernel
theorem dX11_tell_4 : decode cX11_tell 4 = .ok (.aload_n 0, 1) := by decide +kernel
theorem dX11_tell_5 : decode cX11_tell 5 = .ok (.getfield 76, 3) := by decide +kernel
theorem dX11_tell_8 : decode cX11_tell 8 = .ok (.iload_n 1, 1) := by decide +kernel
theorem dX11_tell_9 : decode cX11_tell 9 = .ok (.i2b, 1) := by decide +kernel
theorem dX11_tell_10 : decode cX11_tell 10 = .ok (.bastore, 1) := by decide +kernel
theorem dX11_tell_11 : decode cX11_tell 11 = .ok (.aload_n 0, 1) := by decide +kernel
theorem dX11_tell_12 : decode cX11_tell 12 = .ok (.dup, 1) := by decide +kernel
theorem dX11_tell_13 : decode cX11_tell 13 = .ok (.getfield 76, 3) := by decide +kernel
theorem dX11_tell_16 : decode cX11_tell 16 = .ok (.iconst 1, 1) := by decide +kernel
theorem dX11_tell_17 : decode cX11_tell 17 = .ok (.iadd, 1) := by decide +kernel
theorem dX11_tell_18 : decode cX11_tell 18 = .ok (.putfield 76, 3) := by decide +kernel
theorem dX11_tell_21 : decode cX11_tell 21 = .ok (.return_, 1) := by decide +kernel
theorem dX11_tells_0 : decode cX11_tells 0 = .ok (.aload_n 0, 1) := by decide +kernel
theorem dX11_tells_1 : decode cX11_tells 1 = .ok (.getfield 258, 3) := by decide +kernel
theorem dX11_tells_4 : decode cX11_tells 4 = .ok (.iconst 0, 1) := by decide +kernel
theorem dX11_tells_5 : decode cX11_tells 5 = .ok (.iaload, 1) := by decide +kernel
theorem dX11_tells_6 : decode cX11_tells 6 = .ok (.bipush 103, 2) := by decide +kernel
theorem dX11_tells_8 : decode cX11_tells 8 = .ok (.isub, 1) := by decide +kernel
theorem dX11_tells_9 : decode cX11_tells 9 = .ok (.istore_n 2, 1) := by decide +kernel
theorem dX11_tells_10 : decode cX11_tells 10 = .ok (.aload_n 0, 1) := by decide +kernel
theorem dX11_tells_11 : decode cX11_tells 11 = .ok (.iconst 0, 1) := by decide +kernel
theorem dX11_tells_12 : decode cX11_tells 12 = .ok (.putfield 76, 3) := by decide +kernel
theorem dX11_tells_15 : decode cX11_tells 15 = .ok (.iconst 2, 1) := by decide +kernel
theorem dX11_tells_16 : decode cX11_tells 16 = .ok (.istore_n 3, 1) := by decide +kernel
theorem dX11_tells_17 : decode cX11_tells 17 = .ok (.iload_n 3, 1) := by decide +kernel
theorem dX11_tells_18 : decode cX11_tells 18 = .ok (.iload_n 1, 1) := by decide +kernel
theorem dX11_tells_19 : decode cX11_tells 19 = .ok (.iconst 1, 1) := by decide +kernel
theorem dX11_tells_20 : decode cX11_tells 20 = .ok (.isub, 1) := by decide +kernel
theorem dX11_tells_21 : decode cX11_tells 21 = .ok (.if_icmp .ge 226, 3) := by decide +kernel
theorem dX11_tells_24 : decode cX11_tells 24 = .ok (.aload_n 0, 1) := by decide +kernel
theorem dX11_tells_25 : decode cX11_tells 25 = .ok (.getfield 258, 3) := by decide +kernel
theorem dX11_tells_28 : decode cX11_tells 28 = .ok (.iload_n 3, 1) := by decide +kernel
theorem dX11_tells_29 : decode cX11_tells 29 = .ok (.iaload, 1) := by decide +kernel
theorem dX11_tells_30 : decode cX11_tells 30 = .ok (.istore 4, 2) := by decide +kernel
theorem dX11_tells_32 : decode cX11_tells 32 = .ok (.iload 4, 2) := by decide +kernel
theorem dX11_tells_34 : decode cX11_tells 34 = .ok (.bipush 102, 2) := by decide +kernel
theorem dX11_tells_36 : decode cX11_tells 36 = .ok (.if_icmp .ne 12, 3) := by decide +kernel
theorem dX11_tells_39 : decode cX11_tells 39 = .ok (.aload_n 0, 1) := by decide +kernel
theorem dX11_tells_40 : decode cX11_tells 40 = .ok (.bipush 29, 2) := by decide +kernel
theorem dX11_tells_42 : decode cX11_tells 42 = .ok (.invokevirtual 462, 3) := by decide +kernel
theorem dX11_tells_45 : decode cX11_tells 45 = .ok (.goto 196, 3) := by decide +kernel
theorem dX11_tells_48 : decode cX11_tells 48 = .ok (.iload_n 2, 1) := by decide +kernel
theorem dX11_tells_49 : decode cX11_tells 49 = .ok (.iconst 2, 1) := by decide +kernel
theorem dX11_tells_50 : decode cX11_tells 50 = .ok (.if_icmp .ne 37, 3) := by decide +kernel
theorem dX11_tells_53 : decode cX11_tells 53 = .ok (.iload 4, 2) := by decide +kernel
theorem dX11_tells_55 : decode cX11_tells 55 = .ok (.bipush 100, 2) := by decide +kernel
theorem dX11_tells_57 : decode cX11_tells 57 = .ok (.if_icmp .ge 30, 3) := by decide +kernel
theorem dX11_tells_60 : decode cX11_tells 60 = .ok (.aload_n 0, 1) := by decide +kernel
theorem dX11_tells_61 : decode cX11_tells 61 = .ok (.bipush 48, 2) := by decide +kernel
theorem dX11_tells_63 : decode cX11_tells 63 = .ok (.iload 4, 2) := by decide +kernel
theorem dX11_tells_65 : decode cX11_tells 65 = .ok (.bipush 10, 2) := by decide +kernel
theorem dX11_tells_67 : decode cX11_tells 67 = .ok (.idiv, 1) := by decide +kernel
theorem dX11_tells_68 : decode cX11_tells 68 = .ok (.iadd, 1) := by decide +kernel
theorem dX11_tells_69 : decode cX11_tells 69 = .ok (.invokevirtual 462, 3) := by decide +kernel
theorem dX11_tells_72 : decode cX11_tells 72 = .ok (.aload_n 0, 1) := by decide +kernel
theorem dX11_tells_73 : decode cX11_tells 73 = .ok (.bipush 48, 2) := by decide +kernel
theorem dX11_tells_75 : decode cX11_tells 75 = .ok (.iload 4, 2) := by decide +kernel
theorem dX11_tells_77 : decode cX11_tells 77 = .ok (.bipush 10, 2) := by decide +kernel
theorem dX11_tells_79 : decode cX11_tells 79 = .ok (.irem, 1) := by decide +kernel
theorem dX11_tells_80 : decode cX11_tells 80 = .ok (.iadd, 1) := by decide +kernel
theorem dX11_tells_81 : decode cX11_tells 81 = .ok (.invokevirtual 462, 3) := by decide +kernel
theorem dX11_tells_84 : decode cX11_tells 84 = .ok (.goto 157, 3) := by decide +kernel
theorem dX11_tells_87 : decode cX11_tells 87 = .ok (.iload_n 2, 1) := by decide +kernel
theorem dX11_tells_88 : decode cX11_tells 88 = .ok (.iconst 2, 1) := by decide +kernel
theorem dX11_tells_89 : decode cX11_tells 89 = .ok (.if_icmp .ge 25, 3) := by decide +kernel
theorem dX11_tells_92 : decode cX11_tells 92 = .ok (.iload_n 2, 1) := by decide +kernel
theorem dX11_tells_93 : decode cX11_tells 93 = .ok (.iload 4, 2) := by decide +kernel
theorem dX11_tells_95 : decode cX11_tells 95 = .ok (.invokestatic 465, 3) := by decide +kernel
theorem dX11_tells_98 : decode cX11_tells 98 = .ok (.ifCond .lt 16, 3) := by decide +kernel
theorem dX11_tells_101 : decode cX11_tells 101 = .ok (.aload_n 0, 1) := by decide +kernel
theorem dX11_tells_102 : decode cX11_tells 102 = .ok (.iload_n 2, 1) := by decide +kernel
theorem dX11_tells_103 : decode cX11_tells 103 = .ok (.iload 4, 2) := by decide +kernel
theorem dX11_tells_105 : decode cX11_tells 105 = .ok (.invokestatic 465, 3) := by decide +kernel
theorem dX11_tells_108 : decode cX11_tells 108 = .ok (.invokevirtual 462, 3) := by decide +kernel
theorem dX11_tells_111 : decode cX11_tells 111 = .ok (.goto 130, 3) := by decide +kernel
theorem dX11_tells_114 : decode cX11_tells 114 = .ok (.iload_n 2, 1) := by decide +kernel
theorem dX11_tells_115 : decode cX11_tells 115 = .ok (.iconst 2, 1) := by decide +kernel
theorem dX11_tells_116 : decode cX11_tells 116 = .ok (.if_icmp .ge 58, 3) := by decide +kernel
theorem dX11_tells_119 : decode cX11_tells 119 = .ok (.iload 4, 2) := by decide +kernel
theorem dX11_tells_121 : decode cX11_tells 121 = .ok (.bipush 98, 2) := by decide +kernel
theorem dX11_tells_123 : decode cX11_tells 123 = .ok (.if_icmp .ne 51, 3) := by decide +kernel
theorem dX11_tells_126 : decode cX11_tells 126 = .ok (.iload_n 3, 1) := by decide +kernel
theorem dX11_tells_127 : decode cX11_tells 127 = .ok (.iconst 1, 1) := by decide +kernel
theorem dX11_tells_128 : decode cX11_tells 128 = .ok (.iadd, 1) := by decide +kernel
theorem dX11_tells_129 : decode cX11_tells 129 = .ok (.iload_n 1, 1) := by decide +kernel
theorem dX11_tells_130 : decode cX11_tells 130 = .ok (.iconst 1, 1) := by decide +kernel
theorem dX11_tells_131 : decode cX11_tells 131 = .ok (.isub, 1) := by decide +kernel
theorem dX11_tells_132 : decode cX11_tells 132 = .ok (.if_icmp .ge 42, 3) := by decide +kernel
theorem dX11_tells_135 : decode cX11_tells 135 = .ok (.iconst 1, 1) := by decide +kernel
theorem dX11_tells_136 : decode cX11_tells 136 = .ok (.iload_n 2, 1) := by decide +kernel
theorem dX11_tells_137 : decode cX11_tells 137 = .ok (.isub, 1) := by decide +kernel
theorem dX11_tells_138 : decode cX11_tells 138 = .ok (.aload_n 0, 1) := by decide +kernel
theorem dX11_tells_139 : decode cX11_tells 139 = .ok (.getfield 258, 3) := by decide +kernel
theorem dX11_tells_142 : decode cX11_tells 142 = .ok (.iload_n 3, 1) := by decide +kernel
theorem dX11_tells_143 : decode cX11_tells 143 = .ok (.iconst 1, 1) := by decide +kernel
theorem dX11_tells_144 : decode cX11_tells 144 = .ok (.iadd, 1) := by decide +kernel
theorem dX11_tells_145 : decode cX11_tells 145 = .ok (.iaload, 1) := by decide +kernel
theorem dX11_tells_146 : decode cX11_tells 146 = .ok (.invokestatic 465, 3) := by decide +kernel
theorem dX11_tells_149 : decode cX11_tells 149 = .ok (.ifCond .lt 25, 3) := by decide +kernel
theorem dX11_tells_152 : decode cX11_tells 152 = .ok (.iinc 3 1, 3) := by decide +kernel
theorem dX11_tells_155 : decode cX11_tells 155 = .ok (.aload_n 0, 1) := by decide +kernel
theorem dX11_tells_156 : decode cX11_tells 156 = .ok (.iconst 1, 1) := by decide +kernel
theorem dX11_tells_157 : decode cX11_tells 157 = .ok (.iload_n 2, 1) := by decide +kernel
theorem dX11_tells_158 : decode cX11_tells 158 = .ok (.isub, 1) := by decide +kernel
theorem dX11_tells_159 : decode cX11_tells 159 = .ok (.aload_n 0, 1) := by decide +kernel
theorem dX11_tells_160 : decode cX11_tells 160 = .ok (.getfield 258, 3) := by decide +kernel
theorem dX11_tells_163 : decode cX11_tells 163 = .ok (.iload_n 3, 1) := by decide +kernel
theorem dX11_tells_164 : decode cX11_tells 164 = .ok (.iaload, 1) := by decide +kernel
theorem dX11_tells_165 : decode cX11_tells 165 = .ok (.invokestatic 465, 3) := by decide +kernel
theorem dX11_tells_168 : decode cX11_tells 168 = .ok (.invokevirtual 462, 3) := by decide +kernel
theorem dX11_tells_171 : decode cX11_tells 171 = .ok (.goto 70, 3) := by decide +kernel
theorem dX11_tells_174 : decode cX11_tells 174 = .ok (.iload 4, 2) := by decide +kernel
theorem dX11_tells_176 : decode cX11_tells 176 = .ok (.bipush 99, 2) := by decide +kernel
theorem dX11_tells_178 : decode cX11_tells 178 = .ok (.if_icmp .ne 13, 3) := by decide +kernel
theorem dX11_tells_181 : decode cX11_tells 181 = .ok (.iload_n 2, 1) := by decide +kernel
theorem dX11_tells_182 : decode cX11_tells 182 = .ok (.iconst 2, 1) := by decide +kernel
theorem dX11_tells_183 : decode cX11_tells 183 = .ok (.if_icmp .ge 8, 3) := by decide +kernel
theorem dX11_tells_186 : decode cX11_tells 186 = .ok (.iconst 2, 1) := by decide +kernel
theorem dX11_tells_187 : decode cX11_tells 187 = .ok (.istore_n 2, 1) := by decide +kernel
theorem dX11_tells_188 : decode cX11_tells 188 = .ok (.goto 53, 3) := by decide +kernel
theorem dX11_tells_191 : decode cX11_tells 191 = .ok (.iload 4, 2) := by decide +kernel
theorem dX11_tells_193 : decode cX11_tells 193 = .ok (.bipush 100, 2) := by decide +kernel
theorem dX11_tells_195 : decode cX11_tells 195 = .ok (.if_icmp .ne 13, 3) := by decide +kernel
theorem dX11_tells_198 : decode cX11_tells 198 = .ok (.iload_n 2, 1) := by decide +kernel
theorem dX11_tells_199 : decode cX11_tells 199 = .ok (.iconst 1, 1) := by decide +kernel
theorem dX11_tells_200 : decode cX11_tells 200 = .ok (.if_icmp .eq 8, 3) := by decide +kernel
theorem dX11_tells_203 : decode cX11_tells 203 = .ok (.iconst 1, 1) := by decide +kernel
theorem dX11_tells_204 : decode cX11_tells 204 = .ok (.istore_n 2, 1) := by decide +kernel
theorem dX11_tells_205 : decode cX11_tells 205 = .ok (.goto 36, 3) := by decide +kernel
theorem dX11_tells_208 : decode cX11_tells 208 = .ok (.iload 4, 2) := by decide +kernel
theorem dX11_tells_210 : decode cX11_tells 210 = .ok (.bipush 101, 2) := by decide +kernel
theorem dX11_tells_212 : decode cX11_tells 212 = .ok (.if_icmp .ne 12, 3) := by decide +kernel
theorem dX11_tells_215 : decode cX11_tells 215 = .ok (.iload_n 2, 1) := by decide +kernel
theorem dX11_tells_216 : decode cX11_tells 216 = .ok (.ifCond .eq 8, 3) := by decide +kernel
theorem dX11_tells_219 : decode cX11_tells 219 = .ok (.iconst 0, 1) := by decide +kernel
theorem dX11_tells_220 : decode cX11_tells 220 = .ok (.istore_n 2, 1) := by decide +kernel
theorem dX11_tells_221 : decode cX11_tells 221 = .ok (.goto 20, 3) := by decide +kernel
theorem dX11_tells_224 : decode cX11_tells 224 = .ok (.aload_n 0, 1) := by decide +kernel
theorem dX11_tells_225 : decode cX11_tells 225 = .ok (.bipush 16, 2) := by decide +kernel
theorem dX11_tells_227 : decode cX11_tells 227 = .ok (.aload_n 0, 1) := by decide +kernel
theorem dX11_tells_228 : decode cX11_tells 228 = .ok (.aload_n 0, 1) := by decide +kernel
theorem dX11_tells_229 : decode cX11_tells 229 = .ok (.getfield 261, 3) := by decide +kernel
theorem dX11_tells_232 : decode cX11_tells 232 = .ok (.iload_n 3, 1) := by decide +kernel
theorem dX11_tells_233 : decode cX11_tells 233 = .ok (.iaload, 1) := by decide +kernel
theorem dX11_tells_234 : decode cX11_tells 234 = .ok (.invokevirtual 444, 3) := by decide +kernel
theorem dX11_tells_237 : decode cX11_tells 237 = .ok (.invokevirtual 304, 3) := by decide +kernel
theorem dX11_tells_240 : decode cX11_tells 240 = .ok (.ireturn, 1) := by decide +kernel
theorem dX11_tells_241 : decode cX11_tells 241 = .ok (.iinc 3 1, 3) := by decide +kernel
theorem dX11_tells_244 : decode cX11_tells 244 = .ok (.goto (-227), 3) := by decide +kernel
theorem dX11_tells_247 : decode cX11_tells 247 = .ok (.iconst 1, 1) := by decide +kernel
theorem dX11_tells_248 : decode cX11_tells 248 = .ok (.ireturn, 1) := by decide +kernel
theorem dX11_scanned_0 : decode cX11_scanned 0 = .ok (.aload_n 0, 1) := by decide +kernel
theorem dX11_scanned_1 : decode cX11_scanned 1 = .ok (.iconst 0, 1) := by decide +kernel
theorem dX11_scanned_2 : decode cX11_scanned 2 = .ok (.putfield 48, 3) := by decide +kernel
theorem dX11_scanned_5 : decode cX11_scanned 5 = .ok (.iload_n 1, 1) := by decide +kernel
theorem dX11_scanned_6 : decode cX11_scanned 6 = .ok (.ifCond .ne 8, 3) := by decide +kernel
theorem dX11_scanned_9 : decode cX11_scanned 9 = .ok (.aload_n 0, 1) := by decide +kernel
theorem dX11_scanned_10 : decode cX11_scanned 10 = .ok (.getfield 264, 3) := by decide +kernel
theorem dX11_scanned_13 : decode cX11_scanned 13 = .ok (.ireturn, 1) := by decide +kernel
theorem dX11_scanned_14 : decode cX11_scanned 14 = .ok (.iload_n 1, 1) := by decide +kernel
theorem dX11_scanned_15 : decode cX11_scanned 15 = .ok (.iconst 1, 1) := by decide +kernel
theorem dX11_scanned_16 : decode cX11_scanned 16 = .ok (.if_icmp .ne 8, 3) := by decide +kernel
theorem dX11_scanned_19 : decode cX11_scanned 19 = .ok (.aload_n 0, 1) := by decide +kernel
theorem dX11_scanned_20 : decode cX11_scanned 20 = .ok (.getfield 267, 3) := by decide +kernel
theorem dX11_scanned_23 : decode cX11_scanned 23 = .ok (.ireturn, 1) := by decide +kernel
theorem dX11_scanned_24 : decode cX11_scanned 24 = .ok (.iload_n 1, 1) := by decide +kernel
theorem dX11_scanned_25 : decode cX11_scanned 25 = .ok (.iconst 2, 1) := by decide +kernel
theorem dX11_scanned_26 : decode cX11_scanned 26 = .ok (.if_icmp .ne 18, 3) := by decide +kernel
theorem dX11_scanned_29 : decode cX11_scanned 29 = .ok (.aload_n 0, 1) := by decide +kernel
theorem dX11_scanned_30 : decode cX11_scanned 30 = .ok (.getfield 270, 3) := by decide +kernel
theorem dX11_scanned_33 : decode cX11_scanned 33 = .ok (.ifCond .eq 7, 3) := by decide +kernel
theorem dX11_scanned_36 : decode cX11_scanned 36 = .ok (.iconst 1, 1) := by decide +kernel
theorem dX11_scanned_37 : decode cX11_scanned 37 = .ok (.goto 8, 3) := by decide +kernel
theorem dX11_scanned_40 : decode cX11_scanned 40 = .ok (.iconst 0, 1) := by decide +kernel
theorem dX11_scanned_41 : decode cX11_scanned 41 = .ok (.goto 4, 3) := by decide +kernel
theorem dX11_scanned_44 : decode cX11_scanned 44 = .ok (.iconst (-1), 1) := by decide +kernel
theorem dX11_scanned_45 : decode cX11_scanned 45 = .ok (.ireturn, 1) := by decide +kernel
theorem dJ11_isValidCodePoint_9a6ad_0 : decode cJ11_isValidCodePoint_9a6ad 0 = .ok (.iload_n 0, 1) := by decide +kernel
theorem dJ11_isValidCodePoint_9a6ad_1 : decode cJ11_isValidCodePoint_9a6ad 1 = .ok (.bipush 16, 2) := by decide +kernel
theorem dJ11_isValidCodePoint_9a6ad_3 : decode cJ11_isValidCodePoint_9a6ad 3 = .ok (.iushr, 1) := by decide +kernel
theorem dJ11_isValidCodePoint_9a6ad_4 : decode cJ11_isValidCodePoint_9a6ad 4 = .ok (.istore_n 1, 1) := by decide +kernel
theorem dJ11_isValidCodePoint_9a6ad_5 : decode cJ11_isValidCodePoint_9a6ad 5 = .ok (.iload_n 1, 1) := by decide +kernel
theorem dJ11_isValidCodePoint_9a6ad_6 : decode cJ11_isValidCodePoint_9a6ad 6 = .ok (.bipush 17, 2) := by decide +kernel
theorem dJ11_isValidCodePoint_9a6ad_8 : decode cJ11_isValidCodePoint_9a6ad 8 = .ok (.if_icmp .ge 7, 3) := by decide +kernel
theorem dJ11_isValidCodePoint_9a6ad_11 : decode cJ11_isValidCodePoint_9a6ad 11 = .ok (.iconst 1, 1) := by decide +kernel
theorem dJ11_isValidCodePoint_9a6ad_12 : decode cJ11_isValidCodePoint_9a6ad 12 = .ok (.goto 4, 3) := by decide +kernel
theorem dJ11_isValidCodePoint_9a6ad_15 : decode cJ11_isValidCodePoint_9a6ad 15 = .ok (.iconst 0, 1) := by decide +kernel
theorem dJ11_isValidCodePoint_9a6ad_16 : decode cJ11_isValidCodePoint_9a6ad 16 = .ok (.ireturn, 1) := by decide +kernel
theorem dJ11_highSurrogate_5068e_0 : decode cJ11_highSurrogate_5068e 0 = .ok (.iload_n 0, 1) := by decide +kernel
theorem dJ11_highSurrogate_5068e_1 : decode cJ11_highSurrogate_5068e 1 = .ok (.bipush 10, 2) := by decide +kernel
theorem dJ11_highSurrogate_5068e_3 : decode cJ11_highSurrogate_5068e 3 = .ok (.iushr, 1) := by decide +kernel
theorem dJ11_highSurrogate_5068e_4 : decode cJ11_highSurrogate_5068e 4 = .ok (.ldc 110, 2) := by decide +kernel
theorem dJ11_highSurrogate_5068e_6 : decode cJ11_highSurrogate_5068e 6 = .ok (.iadd, 1) := by decide +kernel
theorem dJ11_highSurrogate_5068e_7 : decode cJ11_highSurrogate_5068e 7 = .ok (.i2c, 1) := by decide +kernel
theorem dJ11_highSurrogate_5068e_8 : decode cJ11_highSurrogate_5068e 8 = .ok (.ireturn, 1) := by decide +kernel
theorem dJ11_lowSurrogate_5068e_0 : decode cJ11_lowSurrogate_5068e 0 = .ok (.iload_n 0, 1) := by decide +kernel
theorem dJ11_lowSurrogate_5068e_1 : decode cJ11_lowSurrogate_5068e 1 = .ok (.sipush 1023, 3) := by decide +kernel
theorem dJ11_lowSurrogate_5068e_4 : decode cJ11_lowSurrogate_5068e 4 = .ok (.iand, 1) := by decide +kernel
theorem dJ11_lowSurrogate_5068e_5 : decode cJ11_lowSurrogate_5068e 5 = .ok (.ldc 76, 2) := by decide +kernel
theorem dJ11_lowSurrogate_5068e_7 : decode cJ11_lowSurrogate_5068e 7 = .ok (.iadd, 1) := by decide +kernel
theorem dJ11_lowSurrogate_5068e_8 : decode cJ11_lowSurrogate_5068e 8 = .ok (.i2c, 1) := by decide +kernel
theorem dJ11_lowSurrogate_5068e_9 : decode cJ11_lowSurrogate_5068e 9 = .ok (.ireturn, 1) := by decide +kernel
theorem dJ9_floorMod_7cf53_0 : decode cJ9_floorMod_7cf53 0 = .ok (.iload_n 0, 1) := by decide +kernel
theorem dJ9_floorMod_7cf53_1 : decode cJ9_floorMod_7cf53 1 = .ok (.iload_n 1, 1) := by decide +kernel
theorem dJ9_floorMod_7cf53_2 : decode cJ9_floorMod_7cf53 2 = .ok (.irem, 1) := by decide +kernel
theorem dJ9_floorMod_7cf53_3 : decode cJ9_floorMod_7cf53 3 = .ok (.istore_n 2, 1) := by decide +kernel
theorem dJ9_floorMod_7cf53_4 : decode cJ9_floorMod_7cf53 4 = .ok (.iload_n 0, 1) := by decide +kernel
theorem dJ9_floorMod_7cf53_5 : decode cJ9_floorMod_7cf53 5 = .ok (.iload_n 1, 1) := by decide +kernel
theorem dJ9_floorMod_7cf53_6 : decode cJ9_floorMod_7cf53 6 = .ok (.ixor, 1) := by decide +kernel
theorem dJ9_floorMod_7cf53_7 : decode cJ9_floorMod_7cf53 7 = .ok (.ifCond .ge 11, 3) := by decide +kernel
theorem dJ9_floorMod_7cf53_10 : decode cJ9_floorMod_7cf53 10 = .ok (.iload_n 2, 1) := by decide +kernel
theorem dJ9_floorMod_7cf53_11 : decode cJ9_floorMod_7cf53 11 = .ok (.ifCond .eq 7, 3) := by decide +kernel
theorem dJ9_floorMod_7cf53_14 : decode cJ9_floorMod_7cf53 14 = .ok (.iload_n 2, 1) := by decide +kernel
theorem dJ9_floorMod_7cf53_15 : decode cJ9_floorMod_7cf53 15 = .ok (.iload_n 1, 1) := by decide +kernel
theorem dJ9_floorMod_7cf53_16 : decode cJ9_floorMod_7cf53 16 = .ok (.iadd, 1) := by decide +kernel
theorem dJ9_floorMod_7cf53_17 : decode cJ9_floorMod_7cf53 17 = .ok (.ireturn, 1) := by decide +kernel
theorem dJ9_floorMod_7cf53_18 : decode cJ9_floorMod_7cf53 18 = .ok (.iload_n 2, 1) := by decide +kernel
theorem dJ9_floorMod_7cf53_19 : decode cJ9_floorMod_7cf53 19 = .ok (.ireturn, 1) := by decide +kernel
theorem dJ9_max_7cf53_0 : decode cJ9_max_7cf53 0 = .ok (.iload_n 0, 1) := by decide +kernel
theorem dJ9_max_7cf53_1 : decode cJ9_max_7cf53 1 = .ok (.iload_n 1, 1) := by decide +kernel
theorem dJ9_max_7cf53_2 : decode cJ9_max_7cf53 2 = .ok (.if_icmp .lt 7, 3) := by decide +kernel
theorem dJ9_max_7cf53_5 : decode cJ9_max_7cf53 5 = .ok (.iload_n 0, 1) := by decide +kernel
theorem dJ9_max_7cf53_6 : decode cJ9_max_7cf53 6 = .ok (.goto 4, 3) := by decide +kernel
theorem dJ9_max_7cf53_9 : decode cJ9_max_7cf53 9 = .ok (.iload_n 1, 1) := by decide +kernel
theorem dJ9_max_7cf53_10 : decode cJ9_max_7cf53 10 = .ok (.ireturn, 1) := by decide +kernel
theorem dJ9_min_7cf53_0 : decode cJ9_min_7cf53 0 = .ok (.iload_n 0, 1) := by decide +kernel
theorem dJ9_min_7cf53_1 : decode cJ9_min_7cf53 1 = .ok (.iload_n 1, 1) := by decide +kernel
theorem dJ9_min_7cf53_2 : decode cJ9_min_7cf53 2 = .ok (.if_icmp .gt 7, 3) := by decide +kernel
theorem dJ9_min_7cf53_5 : decode cJ9_min_7cf53 5 = .ok (.iload_n 0, 1) := by decide +kernel
theorem dJ9_min_7cf53_6 : decode cJ9_min_7cf53 6 = .ok (.goto 4, 3) := by decide +kernel
theorem dJ9_min_7cf53_9 : decode cJ9_min_7cf53 9 = .ok (.iload_n 1, 1) := by decide +kernel
theorem dJ9_min_7cf53_10 : decode cJ9_min_7cf53 10 = .ok (.ireturn, 1) := by decide +kernel
theorem dJ0_length_8abf5_0 : decode cJ0_length_8abf5 0 = .ok (.aload_n 0, 1) := by decide +kernel
theorem dJ0_length_8abf5_1 : decode cJ0_length_8abf5 1 = .ok (.getfield 9, 3) := by decide +kernel
theorem dJ0_length_8abf5_4 : decode cJ0_length_8abf5 4 = .ok (.arraylength, 1) := by decide +kernel
theorem dJ0_length_8abf5_5 : decode cJ0_length_8abf5 5 = .ok (.aload_n 0, 1) := by decide +kernel
theorem dJ0_length_8abf5_6 : decode cJ0_length_8abf5 6 = .ok (.invokevirtual 335, 3) := by decide +kernel
theorem dJ0_length_8abf5_9 : decode cJ0_length_8abf5 9 = .ok (.ishr, 1) := by decide +kernel
theorem dJ0_length_8abf5_10 : decode cJ0_length_8abf5 10 = .ok (.ireturn, 1) := by decide +kernel
theorem dJ0_indexOf_0f7a4_0 : decode cJ0_indexOf_0f7a4 0 = .ok (.aload_n 0, 1) := by decide +kernel
theorem dJ0_indexOf_0f7a4_1 : decode cJ0_indexOf_0f7a4 1 = .ok (.iload_n 1, 1) := by decide +kernel
theorem dJ0_indexOf_0f7a4_2 : decode cJ0_indexOf_0f7a4 2 = .ok (.iconst 0, 1) := by decide +kernel
theorem dJ0_indexOf_0f7a4_3 : decode cJ0_indexOf_0f7a4 3 = .ok (.invokevirtual 633, 3) := by decide +kernel
theorem dJ0_indexOf_0f7a4_6 : decode cJ0_indexOf_0f7a4 6 = .ok (.ireturn, 1) := by decide +kernel
theorem dJ0_indexOf_7cf53_0 : decode cJ0_indexOf_7cf53 0 = .ok (.aload_n 0, 1) := by decide +kernel
theorem dJ0_indexOf_7cf53_1 : decode cJ0_indexOf_7cf53 1 = .ok (.invokevirtual 492, 3) := by decide +kernel
theorem dJ0_indexOf_7cf53_4 : decode cJ0_indexOf_7cf53 4 = .ok (.ifCond .eq 19, 3) := by decide +kernel
theorem dJ0_indexOf_7cf53_7 : decode cJ0_indexOf_7cf53 7 = .ok (.aload_n 0, 1) := by decide +kernel
theorem dJ0_indexOf_7cf53_8 : decode cJ0_indexOf_7cf53 8 = .ok (.getfield 9, 3) := by decide +kernel
theorem dJ0_indexOf_7cf53_11 : decode cJ0_indexOf_7cf53 11 = .ok (.iload_n 1, 1) := by decide +kernel
theorem dJ0_indexOf_7cf53_12 : decode cJ0_indexOf_7cf53 12 = .ok (.iload_n 2, 1) := by decide +kernel
theorem dJ0_indexOf_7cf53_13 : decode cJ0_indexOf_7cf53 13 = .ok (.aload_n 0, 1) := by decide +kernel
theorem dJ0_indexOf_7cf53_14 : decode cJ0_indexOf_7cf53 14 = .ok (.invokevirtual 505, 3) := by decide +kernel
theorem dJ0_indexOf_7cf53_17 : decode cJ0_indexOf_7cf53 17 = .ok (.invokestatic 637, 3) := by decide +kernel
theorem dJ0_indexOf_7cf53_20 : decode cJ0_indexOf_7cf53 20 = .ok (.goto 16, 3) := by decide +kernel
theorem dJ0_indexOf_7cf53_23 : decode cJ0_indexOf_7cf53 23 = .ok (.aload_n 0, 1) := by decide +kernel
theorem dJ0_indexOf_7cf53_24 : decode cJ0_indexOf_7cf53 24 = .ok (.getfield 9, 3) := by decide +kernel
theorem dJ0_indexOf_7cf53_27 : decode cJ0_indexOf_7cf53 27 = .ok (.iload_n 1, 1) := by decide +kernel
theorem dJ0_indexOf_7cf53_28 : decode cJ0_indexOf_7cf53 28 = .ok (.iload_n 2, 1) := by decide +kernel
theorem dJ0_indexOf_7cf53_29 : decode cJ0_indexOf_7cf53 29 = .ok (.aload_n 0, 1) := by decide +kernel
theorem dJ0_indexOf_7cf53_30 : decode cJ0_indexOf_7cf53 30 = .ok (.invokevirtual 505, 3) := by decide +kernel
theorem dJ0_indexOf_7cf53_33 : decode cJ0_indexOf_7cf53 33 = .ok (.invokestatic 640, 3) := by decide +kernel
theorem dJ0_indexOf_7cf53_36 : decode cJ0_indexOf_7cf53 36 = .ok (.ireturn, 1) := by decide +kernel
theorem dJ0_coder_7d493_0 : decode cJ0_coder_7d493 0 = .ok (.getstatic 38, 3) := by decide +kernel
theorem dJ0_coder_7d493_3 : decode cJ0_coder_7d493 3 = .ok (.ifCond .eq 10, 3) := by decide +kernel
theorem dJ0_coder_7d493_6 : decode cJ0_coder_7d493 6 = .ok (.aload_n 0, 1) := by decide +kernel
theorem dJ0_coder_7d493_7 : decode cJ0_coder_7d493 7 = .ok (.getfield 15, 3) := by decide +kernel
theorem dJ0_coder_7d493_10 : decode cJ0_coder_7d493 10 = .ok (.goto 4, 3) := by decide +kernel
theorem dJ0_coder_7d493_13 : decode cJ0_coder_7d493 13 = .ok (.iconst 1, 1) := by decide +kernel
theorem dJ0_coder_7d493_14 : decode cJ0_coder_7d493 14 = .ok (.ireturn, 1) := by decide +kernel
theorem dJ0_isLatin1_aae02_0 : decode cJ0_isLatin1_aae02 0 = .ok (.getstatic 38, 3) := by decide +kernel
theorem dJ0_isLatin1_aae02_3 : decode cJ0_isLatin1_aae02 3 = .ok (.ifCond .eq 14, 3) := by decide +kernel
theorem dJ0_isLatin1_aae02_6 : decode cJ0_isLatin1_aae02 6 = .ok (.aload_n 0, 1) := by decide +kernel
theorem dJ0_isLatin1_aae02_7 : decode cJ0_isLatin1_aae02 7 = .ok (.getfield 15, 3) := by decide +kernel
theorem dJ0_isLatin1_aae02_10 : decode cJ0_isLatin1_aae02 10 = .ok (.ifCond .ne 7, 3) := by decide +kernel
theorem dJ0_isLatin1_aae02_13 : decode cJ0_isLatin1_aae02 13 = .ok (.iconst 1, 1) := by decide +kernel
theorem dJ0_isLatin1_aae02_14 : decode cJ0_isLatin1_aae02 14 = .ok (.goto 4, 3) := by decide +kernel
theorem dJ0_isLatin1_aae02_17 : decode cJ0_isLatin1_aae02 17 = .ok (.iconst 0, 1) := by decide +kernel
theorem dJ0_isLatin1_aae02_18 : decode cJ0_isLatin1_aae02 18 = .ok (.ireturn, 1) := by decide +kernel
theorem dJ0_checkBoundsBeginEnd_23922_0 : decode cJ0_checkBoundsBeginEnd_23922 0 = .ok (.iload_n 0, 1) := by decide +kernel
theorem dJ0_checkBoundsBeginEnd_23922_1 : decode cJ0_checkBoundsBeginEnd_23922 1 = .ok (.iload_n 1, 1) := by decide +kernel
theorem dJ0_checkBoundsBeginEnd_23922_2 : decode cJ0_checkBoundsBeginEnd_23922 2 = .ok (.iload_n 2, 1) := by decide +kernel
theorem dJ0_checkBoundsBeginEnd_23922_3 : decode cJ0_checkBoundsBeginEnd_23922 3 = .ok (.getstatic 1053, 3) := by decide +kernel
theorem dJ0_checkBoundsBeginEnd_23922_6 : decode cJ0_checkBoundsBeginEnd_23922 6 = .ok (.invokestatic 1062, 3) := by decide +kernel
theorem dJ0_checkBoundsBeginEnd_23922_9 : decode cJ0_checkBoundsBeginEnd_23922 9 = .ok (.pop, 1) := by decide +kernel
theorem dJ0_checkBoundsBeginEnd_23922_10 : decode cJ0_checkBoundsBeginEnd_23922 10 = .ok (.return_, 1) := by decide +kernel
theorem dJ1_canEncode_9a6ad_0 : decode cJ1_canEncode_9a6ad 0 = .ok (.iload_n 0, 1) := by decide +kernel
theorem dJ1_canEncode_9a6ad_1 : decode cJ1_canEncode_9a6ad 1 = .ok (.ifCond .lt 14, 3) := by decide +kernel
theorem dJ1_canEncode_9a6ad_4 : decode cJ1_canEncode_9a6ad 4 = .ok (.iload_n 0, 1) := by decide +kernel
theorem dJ1_canEncode_9a6ad_5 : decode cJ1_canEncode_9a6ad 5 = .ok (.sipush 255, 3) := by decide +kernel
theorem dJ1_canEncode_9a6ad_8 : decode cJ1_canEncode_9a6ad 8 = .ok (.if_icmp .gt 7, 3) := by decide +kernel
theorem dJ1_canEncode_9a6ad_11 : decode cJ1_canEncode_9a6ad 11 = .ok (.iconst 1, 1) := by decide +kernel
theorem dJ1_canEncode_9a6ad_12 : decode cJ1_canEncode_9a6ad 12 = .ok (.goto 4, 3) := by decide +kernel
theorem dJ1_canEncode_9a6ad_15 : decode cJ1_canEncode_9a6ad 15 = .ok (.iconst 0, 1) := by decide +kernel
theorem dJ1_canEncode_9a6ad_16 : decode cJ1_canEncode_9a6ad 16 = .ok (.ireturn, 1) := by decide +kernel
theorem dJ1_indexOf_4cfef_0 : decode cJ1_indexOf_4cfef 0 = .ok (.iload_n 1, 1) := by decide +kernel
theorem dJ1_indexOf_4cfef_1 : decode cJ1_indexOf_4cfef 1 = .ok (.invokestatic 88, 3) := by decide +kernel
theorem dJ1_indexOf_4cfef_4 : decode cJ1_indexOf_4cfef 4 = .ok (.ifCond .ne 5, 3) := by decide +kernel
theorem dJ1_indexOf_4cfef_7 : decode cJ1_indexOf_4cfef 7 = .ok (.iconst (-1), 1) := by decide +kernel
theorem dJ1_indexOf_4cfef_8 : decode cJ1_indexOf_4cfef 8 = .ok (.ireturn, 1) := by decide +kernel
theorem dJ1_indexOf_4cfef_9 : decode cJ1_indexOf_4cfef 9 = .ok (.iload_n 2, 1) := by decide +kernel
theorem dJ1_indexOf_4cfef_10 : decode cJ1_indexOf_4cfef 10 = .ok (.iconst 0, 1) := by decide +kernel
theorem dJ1_indexOf_4cfef_11 : decode cJ1_indexOf_4cfef 11 = .ok (.invokestatic 92, 3) := by decide +kernel
theorem dJ1_indexOf_4cfef_14 : decode cJ1_indexOf_4cfef 14 = .ok (.istore_n 2, 1) := by decide +kernel
theorem dJ1_indexOf_4cfef_15 : decode cJ1_indexOf_4cfef 15 = .ok (.iload_n 3, 1) := by decide +kernel
theorem dJ1_indexOf_4cfef_16 : decode cJ1_indexOf_4cfef 16 = .ok (.aload_n 0, 1) := by decide +kernel
theorem dJ1_indexOf_4cfef_17 : decode cJ1_indexOf_4cfef 17 = .ok (.arraylength, 1) := by decide +kernel
theorem dJ1_indexOf_4cfef_18 : decode cJ1_indexOf_4cfef 18 = .ok (.invokestatic 38, 3) := by decide +kernel
theorem dJ1_indexOf_4cfef_21 : decode cJ1_indexOf_4cfef 21 = .ok (.istore_n 3, 1) := by decide +kernel
theorem dJ1_indexOf_4cfef_22 : decode cJ1_indexOf_4cfef 22 = .ok (.iload_n 2, 1) := by decide +kernel
theorem dJ1_indexOf_4cfef_23 : decode cJ1_indexOf_4cfef 23 = .ok (.iload_n 3, 1) := by decide +kernel
theorem dJ1_indexOf_4cfef_24 : decode cJ1_indexOf_4cfef 24 = .ok (.if_icmp .lt 5, 3) := by decide +kernel
theorem dJ1_indexOf_4cfef_27 : decode cJ1_indexOf_4cfef 27 = .ok (.iconst (-1), 1) := by decide +kernel
theorem dJ1_indexOf_4cfef_28 : decode cJ1_indexOf_4cfef 28 = .ok (.ireturn, 1) := by decide +kernel
theorem dJ1_indexOf_4cfef_29 : decode cJ1_indexOf_4cfef 29 = .ok (.aload_n 0, 1) := by decide +kernel
theorem dJ1_indexOf_4cfef_30 : decode cJ1_indexOf_4cfef 30 = .ok (.iload_n 1, 1) := by decide +kernel
theorem dJ1_indexOf_4cfef_31 : decode cJ1_indexOf_4cfef 31 = .ok (.iload_n 2, 1) := by decide +kernel
theorem dJ1_indexOf_4cfef_32 : decode cJ1_indexOf_4cfef 32 = .ok (.iload_n 3, 1) := by decide +kernel
theorem dJ1_indexOf_4cfef_33 : decode cJ1_indexOf_4cfef 33 = .ok (.invokestatic 95, 3) := by decide +kernel
theorem dJ1_indexOf_4cfef_36 : decode cJ1_indexOf_4cfef 36 = .ok (.ireturn, 1) := by decide +kernel
theorem dJ1_indexOfChar_4cfef_0 : decode cJ1_indexOfChar_4cfef 0 = .ok (.iload_n 1, 1) := by decide +kernel
theorem dJ1_indexOfChar_4cfef_1 : decode cJ1_indexOfChar_4cfef 1 = .ok (.i2b, 1) := by decide +kernel
theorem dJ1_indexOfChar_4cfef_2 : decode cJ1_indexOfChar_4cfef 2 = .ok (.istore 4, 2) := by decide +kernel
theorem dJ1_indexOfChar_4cfef_4 : decode cJ1_indexOfChar_4cfef 4 = .ok (.iload_n 2, 1) := by decide +kernel
theorem dJ1_indexOfChar_4cfef_5 : decode cJ1_indexOfChar_4cfef 5 = .ok (.istore 5, 2) := by decide +kernel
theorem dJ1_indexOfChar_4cfef_7 : decode cJ1_indexOfChar_4cfef 7 = .ok (.iload 5, 2) := by decide +kernel
theorem dJ1_indexOfChar_4cfef_9 : decode cJ1_indexOfChar_4cfef 9 = .ok (.iload_n 3, 1) := by decide +kernel
theorem dJ1_indexOfChar_4cfef_10 : decode cJ1_indexOfChar_4cfef 10 = .ok (.if_icmp .ge 21, 3) := by decide +kernel
theorem dJ1_indexOfChar_4cfef_13 : decode cJ1_indexOfChar_4cfef 13 = .ok (.aload_n 0, 1) := by decide +kernel
theorem dJ1_indexOfChar_4cfef_14 : decode cJ1_indexOfChar_4cfef 14 = .ok (.iload 5, 2) := by decide +kernel
theorem dJ1_indexOfChar_4cfef_16 : decode cJ1_indexOfChar_4cfef 16 = .ok (.baload, 1) := by decide +kernel
theorem dJ1_indexOfChar_4cfef_17 : decode cJ1_indexOfChar_4cfef 17 = .ok (.iload 4, 2) := by decide +kernel
theorem dJ1_indexOfChar_4cfef_19 : decode cJ1_indexOfChar_4cfef 19 = .ok (.if_icmp .ne 6, 3) := by decide +kernel
theorem dJ1_indexOfChar_4cfef_22 : decode cJ1_indexOfChar_4cfef 22 = .ok (.iload 5, 2) := by decide +kernel
theorem dJ1_indexOfChar_4cfef_24 : decode cJ1_indexOfChar_4cfef 24 = .ok (.ireturn, 1) := by decide +kernel
theorem dJ1_indexOfChar_4cfef_25 : decode cJ1_indexOfChar_4cfef 25 = .ok (.iinc 5 1, 3) := by decide +kernel
theorem dJ1_indexOfChar_4cfef_28 : decode cJ1_indexOfChar_4cfef 28 = .ok (.goto (-21), 3) := by decide +kernel
theorem dJ1_indexOfChar_4cfef_31 : decode cJ1_indexOfChar_4cfef 31 = .ok (.iconst (-1), 1) := by decide +kernel
theorem dJ1_indexOfChar_4cfef_32 : decode cJ1_indexOfChar_4cfef 32 = .ok (.ireturn, 1) := by decide +kernel
theorem dJ2_getChar_3b067_0 : decode cJ2_getChar_3b067 0 = .ok (.getstatic 44, 3) := by decide +kernel
theorem dJ2_getChar_3b067_3 : decode cJ2_getChar_3b067 3 = .ok (.ifCond .ne 25, 3) := by decide +kernel
theorem dJ2_getChar_3b067_6 : decode cJ2_getChar_3b067 6 = .ok (.iload_n 1, 1) := by decide +kernel
theorem dJ2_getChar_3b067_7 : decode cJ2_getChar_3b067 7 = .ok (.ifCond .lt 11, 3) := by decide +kernel
theorem dJ2_getChar_3b067_10 : decode cJ2_getChar_3b067 10 = .ok (.iload_n 1, 1) := by decide +kernel
theorem dJ2_getChar_3b067_11 : decode cJ2_getChar_3b067 11 = .ok (.aload_n 0, 1) := by decide +kernel
theorem dJ2_getChar_3b067_12 : decode cJ2_getChar_3b067 12 = .ok (.invokestatic 48, 3) := by decide +kernel
theorem dJ2_getChar_3b067_15 : decode cJ2_getChar_3b067 15 = .ok (.if_icmp .lt 13, 3) := by decide +kernel
theorem dJ2_getChar_3b067_18 : decode cJ2_getChar_3b067 18 = .ok (.new 52, 3) := by decide +kernel
theorem dJ2_getChar_3b067_21 : decode cJ2_getChar_3b067 21 = .ok (.dup, 1) := by decide +kernel
theorem dJ2_getChar_3b067_22 : decode cJ2_getChar_3b067 22 = .ok (.ldc 54, 2) := by decide +kernel
theorem dJ2_getChar_3b067_24 : decode cJ2_getChar_3b067 24 = .ok (.invokespecial 56, 3) := by decide +kernel
theorem dJ2_getChar_3b067_27 : decode cJ2_getChar_3b067 27 = .ok (.athrow, 1) := by decide +kernel
theorem dJ2_getChar_3b067_28 : decode cJ2_getChar_3b067 28 = .ok (.iload_n 1, 1) := by decide +kernel
theorem dJ2_getChar_3b067_29 : decode cJ2_getChar_3b067 29 = .ok (.iconst 1, 1) := by decide +kernel
theorem dJ2_getChar_3b067_30 : decode cJ2_getChar_3b067 30 = .ok (.ishl, 1) := by decide +kernel
theorem dJ2_getChar_3b067_31 : decode cJ2_getChar_3b067 31 = .ok (.istore_n 1, 1) := by decide +kernel
theorem dJ2_getChar_3b067_32 : decode cJ2_getChar_3b067 32 = .ok (.aload_n 0, 1) := by decide +kernel
theorem dJ2_getChar_3b067_33 : decode cJ2_getChar_3b067 33 = .ok (.iload_n 1, 1) := by decide +kernel
theorem dJ2_getChar_3b067_34 : decode cJ2_getChar_3b067 34 = .ok (.iinc 1 1, 3) := by decide +kernel
theorem dJ2_getChar_3b067_37 : decode cJ2_getChar_3b067 37 = .ok (.baload, 1) := by decide +kernel
theorem dJ2_getChar_3b067_38 : decode cJ2_getChar_3b067 38 = .ok (.sipush 255, 3) := by decide +kernel
theorem dJ2_getChar_3b067_41 : decode cJ2_getChar_3b067 41 = .ok (.iand, 1) := by decide +kernel
theorem dJ2_getChar_3b067_42 : decode cJ2_getChar_3b067 42 = .ok (.getstatic 59, 3) := by decide +kernel
theorem dJ2_getChar_3b067_45 : decode cJ2_getChar_3b067 45 = .ok (.ishl, 1) := by decide +kernel
theorem dJ2_getChar_3b067_46 : decode cJ2_getChar_3b067 46 = .ok (.aload_n 0, 1) := by decide +kernel
theorem dJ2_getChar_3b067_47 : decode cJ2_getChar_3b067 47 = .ok (.iload_n 1, 1) := by decide +kernel
theorem dJ2_getChar_3b067_48 : decode cJ2_getChar_3b067 48 = .ok (.baload, 1) := by decide +kernel
theorem dJ2_getChar_3b067_49 : decode cJ2_getChar_3b067 49 = .ok (.sipush 255, 3) := by decide +kernel
theorem dJ2_getChar_3b067_52 : decode cJ2_getChar_3b067 52 = .ok (.iand, 1) := by decide +kernel
theorem dJ2_getChar_3b067_53 : decode cJ2_getChar_3b067 53 = .ok (.getstatic 63, 3) := by decide +kernel
theorem dJ2_getChar_3b067_56 : decode cJ2_getChar_3b067 56 = .ok (.ishl, 1) := by decide +kernel
theorem dJ2_getChar_3b067_57 : decode cJ2_getChar_3b067 57 = .ok (.ior, 1) := by decide +kernel
theorem dJ2_getChar_3b067_58 : decode cJ2_getChar_3b067 58 = .ok (.i2c, 1) := by decide +kernel
theorem dJ2_getChar_3b067_59 : decode cJ2_getChar_3b067 59 = .ok (.ireturn, 1) := by decide +kernel
theorem dJ2_length_9d52b_0 : decode cJ2_length_9d52b 0 = .ok (.aload_n 0, 1) := by decide +kernel
theorem dJ2_length_9d52b_1 : decode cJ2_length_9d52b 1 = .ok (.arraylength, 1) := by decide +kernel
theorem dJ2_length_9d52b_2 : decode cJ2_length_9d52b 2 = .ok (.iconst 1, 1) := by decide +kernel
theorem dJ2_length_9d52b_3 : decode cJ2_length_9d52b 3 = .ok (.ishr, 1) := by decide +kernel
theorem dJ2_length_9d52b_4 : decode cJ2_length_9d52b 4 = .ok (.ireturn, 1) := by decide +kernel
theorem dJ2_indexOf_4cfef_0 : decode cJ2_indexOf_4cfef 0 = .ok (.iload_n 2, 1) := by decide +kernel
theorem dJ2_indexOf_4cfef_1 : decode cJ2_indexOf_4cfef 1 = .ok (.iconst 0, 1) := by decide +kernel
theorem dJ2_indexOf_4cfef_2 : decode cJ2_indexOf_4cfef 2 = .ok (.invokestatic 224, 3) := by decide +kernel
theorem dJ2_indexOf_4cfef_5 : decode cJ2_indexOf_4cfef 5 = .ok (.istore_n 2, 1) := by decide +kernel
theorem dJ2_indexOf_4cfef_6 : decode cJ2_indexOf_4cfef 6 = .ok (.iload_n 3, 1) := by decide +kernel
theorem dJ2_indexOf_4cfef_7 : decode cJ2_indexOf_4cfef 7 = .ok (.aload_n 0, 1) := by decide +kernel
theorem dJ2_indexOf_4cfef_8 : decode cJ2_indexOf_4cfef 8 = .ok (.arraylength, 1) := by decide +kernel
theorem dJ2_indexOf_4cfef_9 : decode cJ2_indexOf_4cfef 9 = .ok (.iconst 1, 1) := by decide +kernel
theorem dJ2_indexOf_4cfef_10 : decode cJ2_indexOf_4cfef 10 = .ok (.ishr, 1) := by decide +kernel
theorem dJ2_indexOf_4cfef_11 : decode cJ2_indexOf_4cfef 11 = .ok (.invokestatic 183, 3) := by decide +kernel
theorem dJ2_indexOf_4cfef_14 : decode cJ2_indexOf_4cfef 14 = .ok (.istore_n 3, 1) := by decide +kernel
theorem dJ2_indexOf_4cfef_15 : decode cJ2_indexOf_4cfef 15 = .ok (.iload_n 2, 1) := by decide +kernel
theorem dJ2_indexOf_4cfef_16 : decode cJ2_indexOf_4cfef 16 = .ok (.iload_n 3, 1) := by decide +kernel
theorem dJ2_indexOf_4cfef_17 : decode cJ2_indexOf_4cfef 17 = .ok (.if_icmp .lt 5, 3) := by decide +kernel
theorem dJ2_indexOf_4cfef_20 : decode cJ2_indexOf_4cfef 20 = .ok (.iconst (-1), 1) := by decide +kernel
theorem dJ2_indexOf_4cfef_21 : decode cJ2_indexOf_4cfef 21 = .ok (.ireturn, 1) := by decide +kernel
theorem dJ2_indexOf_4cfef_22 : decode cJ2_indexOf_4cfef 22 = .ok (.iload_n 1, 1) := by decide +kernel
theorem dJ2_indexOf_4cfef_23 : decode cJ2_indexOf_4cfef 23 = .ok (.ldc 227, 2) := by decide +kernel
theorem dJ2_indexOf_4cfef_25 : decode cJ2_indexOf_4cfef 25 = .ok (.if_icmp .ge 11, 3) := by decide +kernel
theorem dJ2_indexOf_4cfef_28 : decode cJ2_indexOf_4cfef 28 = .ok (.aload_n 0, 1) := by decide +kernel
theorem dJ2_indexOf_4cfef_29 : decode cJ2_indexOf_4cfef 29 = .ok (.iload_n 1, 1) := by decide +kernel
theorem dJ2_indexOf_4cfef_30 : decode cJ2_indexOf_4cfef 30 = .ok (.iload_n 2, 1) := by decide +kernel
theorem dJ2_indexOf_4cfef_31 : decode cJ2_indexOf_4cfef 31 = .ok (.iload_n 3, 1) := by decide +kernel
theorem dJ2_indexOf_4cfef_32 : decode cJ2_indexOf_4cfef 32 = .ok (.invokestatic 228, 3) := by decide +kernel
theorem dJ2_indexOf_4cfef_35 : decode cJ2_indexOf_4cfef 35 = .ok (.ireturn, 1) := by decide +kernel
theorem dJ2_indexOf_4cfef_36 : decode cJ2_indexOf_4cfef 36 = .ok (.aload_n 0, 1) := by decide +kernel
theorem dJ2_indexOf_4cfef_37 : decode cJ2_indexOf_4cfef 37 = .ok (.iload_n 1, 1) := by decide +kernel
theorem dJ2_indexOf_4cfef_38 : decode cJ2_indexOf_4cfef 38 = .ok (.iload_n 2, 1) := by decide +kernel
theorem dJ2_indexOf_4cfef_39 : decode cJ2_indexOf_4cfef 39 = .ok (.iload_n 3, 1) := by decide +kernel
theorem dJ2_indexOf_4cfef_40 : decode cJ2_indexOf_4cfef 40 = .ok (.invokestatic 232, 3) := by decide +kernel
theorem dJ2_indexOf_4cfef_43 : decode cJ2_indexOf_4cfef 43 = .ok (.ireturn, 1) := by decide +kernel
theorem dJ2_indexOfChar_4cfef_0 : decode cJ2_indexOfChar_4cfef 0 = .ok (.iload_n 2, 1) := by decide +kernel
theorem dJ2_indexOfChar_4cfef_1 : decode cJ2_indexOfChar_4cfef 1 = .ok (.iload_n 3, 1) := by decide +kernel
theorem dJ2_indexOfChar_4cfef_2 : decode cJ2_indexOfChar_4cfef 2 = .ok (.aload_n 0, 1) := by decide +kernel
theorem dJ2_indexOfChar_4cfef_3 : decode cJ2_indexOfChar_4cfef 3 = .ok (.invokestatic 96, 3) := by decide +kernel
theorem dJ2_indexOfChar_4cfef_6 : decode cJ2_indexOfChar_4cfef 6 = .ok (.aload_n 0, 1) := by decide +kernel
theorem dJ2_indexOfChar_4cfef_7 : decode cJ2_indexOfChar_4cfef 7 = .ok (.iload_n 1, 1) := by decide +kernel
theorem dJ2_indexOfChar_4cfef_8 : decode cJ2_indexOfChar_4cfef 8 = .ok (.iload_n 2, 1) := by decide +kernel
theorem dJ2_indexOfChar_4cfef_9 : decode cJ2_indexOfChar_4cfef 9 = .ok (.iload_n 3, 1) := by decide +kernel
theorem dJ2_indexOfChar_4cfef_10 : decode cJ2_indexOfChar_4cfef 10 = .ok (.invokestatic 244, 3) := by decide +kernel
theorem dJ2_indexOfChar_4cfef_13 : decode cJ2_indexOfChar_4cfef 13 = .ok (.ireturn, 1) := by decide +kernel
theorem dJ2_indexOfCharUnsafe_4cfef_0 : decode cJ2_indexOfCharUnsafe_4cfef 0 = .ok (.iload_n 2, 1) := by decide +kernel
theorem dJ2_indexOfCharUnsafe_4cfef_1 : decode cJ2_indexOfCharUnsafe_4cfef 1 = .ok (.istore 4, 2) := by decide +kernel
theorem dJ2_indexOfCharUnsafe_4cfef_3 : decode cJ2_indexOfCharUnsafe_4cfef 3 = .ok (.iload 4, 2) := by decide +kernel
theorem dJ2_indexOfCharUnsafe_4cfef_5 : decode cJ2_indexOfCharUnsafe_4cfef 5 = .ok (.iload_n 3, 1) := by decide +kernel
theorem dJ2_indexOfCharUnsafe_4cfef_6 : decode cJ2_indexOfCharUnsafe_4cfef 6 = .ok (.if_icmp .ge 22, 3) := by decide +kernel
theorem dJ2_indexOfCharUnsafe_4cfef_9 : decode cJ2_indexOfCharUnsafe_4cfef 9 = .ok (.aload_n 0, 1) := by decide +kernel
theorem dJ2_indexOfCharUnsafe_4cfef_10 : decode cJ2_indexOfCharUnsafe_4cfef 10 = .ok (.iload 4, 2) := by decide +kernel
theorem dJ2_indexOfCharUnsafe_4cfef_12 : decode cJ2_indexOfCharUnsafe_4cfef 12 = .ok (.invokestatic 71, 3) := by decide +kernel
theorem dJ2_indexOfCharUnsafe_4cfef_15 : decode cJ2_indexOfCharUnsafe_4cfef 15 = .ok (.iload_n 1, 1) := by decide +kernel
theorem dJ2_indexOfCharUnsafe_4cfef_16 : decode cJ2_indexOfCharUnsafe_4cfef 16 = .ok (.if_icmp .ne 6, 3) := by decide +kernel
theorem dJ2_indexOfCharUnsafe_4cfef_19 : decode cJ2_indexOfCharUnsafe_4cfef 19 = .ok (.iload 4, 2) := by decide +kernel
theorem dJ2_indexOfCharUnsafe_4cfef_21 : decode cJ2_indexOfCharUnsafe_4cfef 21 = .ok (.ireturn, 1) := by decide +kernel
theorem dJ2_indexOfCharUnsafe_4cfef_22 : decode cJ2_indexOfCharUnsafe_4cfef 22 = .ok (.iinc 4 1, 3) := by decide +kernel
theorem dJ2_indexOfCharUnsafe_4cfef_25 : decode cJ2_indexOfCharUnsafe_4cfef 25 = .ok (.goto (-22), 3) := by decide +kernel
theorem dJ2_indexOfCharUnsafe_4cfef_28 : decode cJ2_indexOfCharUnsafe_4cfef 28 = .ok (.iconst (-1), 1) := by decide +kernel
theorem dJ2_indexOfCharUnsafe_4cfef_29 : decode cJ2_indexOfCharUnsafe_4cfef 29 = .ok (.ireturn, 1) := by decide +kernel
theorem dJ2_indexOfSupplementary_4cfef_0 : decode cJ2_indexOfSupplementary_4cfef 0 = .ok (.iload_n 1, 1) := by decide +kernel
theorem dJ2_indexOfSupplementary_4cfef_1 : decode cJ2_indexOfSupplementary_4cfef 1 = .ok (.invokestatic 164, 3) := by decide +kernel
theorem dJ2_indexOfSupplementary_4cfef_4 : decode cJ2_indexOfSupplementary_4cfef 4 = .ok (.ifCond .eq 65, 3) := by decide +kernel
theorem dJ2_indexOfSupplementary_4cfef_7 : decode cJ2_indexOfSupplementary_4cfef 7 = .ok (.iload_n 1, 1) := by decide +kernel
theorem dJ2_indexOfSupplementary_4cfef_8 : decode cJ2_indexOfSupplementary_4cfef 8 = .ok (.invokestatic 157, 3) := by decide +kernel
theorem dJ2_indexOfSupplementary_4cfef_11 : decode cJ2_indexOfSupplementary_4cfef 11 = .ok (.istore 4, 2) := by decide +kernel
theorem dJ2_indexOfSupplementary_4cfef_13 : decode cJ2_indexOfSupplementary_4cfef 13 = .ok (.iload_n 1, 1) := by decide +kernel
theorem dJ2_indexOfSupplementary_4cfef_14 : decode cJ2_indexOfSupplementary_4cfef 14 = .ok (.invokestatic 161, 3) := by decide +kernel
theorem dJ2_indexOfSupplementary_4cfef_17 : decode cJ2_indexOfSupplementary_4cfef 17 = .ok (.istore 5, 2) := by decide +kernel
theorem dJ2_indexOfSupplementary_4cfef_19 : decode cJ2_indexOfSupplementary_4cfef 19 = .ok (.iload_n 2, 1) := by decide +kernel
theorem dJ2_indexOfSupplementary_4cfef_20 : decode cJ2_indexOfSupplementary_4cfef 20 = .ok (.iload_n 3, 1) := by decide +kernel
theorem dJ2_indexOfSupplementary_4cfef_21 : decode cJ2_indexOfSupplementary_4cfef 21 = .ok (.aload_n 0, 1) := by decide +kernel
theorem dJ2_indexOfSupplementary_4cfef_22 : decode cJ2_indexOfSupplementary_4cfef 22 = .ok (.invokestatic 96, 3) := by decide +kernel
theorem dJ2_indexOfSupplementary_4cfef_25 : decode cJ2_indexOfSupplementary_4cfef 25 = .ok (.iload_n 2, 1) := by decide +kernel
theorem dJ2_indexOfSupplementary_4cfef_26 : decode cJ2_indexOfSupplementary_4cfef 26 = .ok (.istore 6, 2) := by decide +kernel
theorem dJ2_indexOfSupplementary_4cfef_28 : decode cJ2_indexOfSupplementary_4cfef 28 = .ok (.iload 6, 2) := by decide +kernel
theorem dJ2_indexOfSupplementary_4cfef_30 : decode cJ2_indexOfSupplementary_4cfef 30 = .ok (.iload_n 3, 1) := by decide +kernel
theorem dJ2_indexOfSupplementary_4cfef_31 : decode cJ2_indexOfSupplementary_4cfef 31 = .ok (.iconst 1, 1) := by decide +kernel
theorem dJ2_indexOfSupplementary_4cfef_32 : decode cJ2_indexOfSupplementary_4cfef 32 = .ok (.isub, 1) := by decide +kernel
theorem dJ2_indexOfSupplementary_4cfef_33 : decode cJ2_indexOfSupplementary_4cfef 33 = .ok (.if_icmp .ge 36, 3) := by decide +kernel
theorem dJ2_indexOfSupplementary_4cfef_36 : decode cJ2_indexOfSupplementary_4cfef 36 = .ok (.aload_n 0, 1) := by decide +kernel
theorem dJ2_indexOfSupplementary_4cfef_37 : decode cJ2_indexOfSupplementary_4cfef 37 = .ok (.iload 6, 2) := by decide +kernel
theorem dJ2_indexOfSupplementary_4cfef_39 : decode cJ2_indexOfSupplementary_4cfef 39 = .ok (.invokestatic 71, 3) := by decide +kernel
theorem dJ2_indexOfSupplementary_4cfef_42 : decode cJ2_indexOfSupplementary_4cfef 42 = .ok (.iload 4, 2) := by decide +kernel
theorem dJ2_indexOfSupplementary_4cfef_44 : decode cJ2_indexOfSupplementary_4cfef 44 = .ok (.if_icmp .ne 19, 3) := by decide +kernel
theorem dJ2_indexOfSupplementary_4cfef_47 : decode cJ2_indexOfSupplementary_4cfef 47 = .ok (.aload_n 0, 1) := by decide +kernel
theorem dJ2_indexOfSupplementary_4cfef_48 : decode cJ2_indexOfSupplementary_4cfef 48 = .ok (.iload 6, 2) := by decide +kernel
theorem dJ2_indexOfSupplementary_4cfef_50 : decode cJ2_indexOfSupplementary_4cfef 50 = .ok (.iconst 1, 1) := by decide +kernel
theorem dJ2_indexOfSupplementary_4cfef_51 : decode cJ2_indexOfSupplementary_4cfef 51 = .ok (.iadd, 1) := by decide +kernel
theorem dJ2_indexOfSupplementary_4cfef_52 : decode cJ2_indexOfSupplementary_4cfef 52 = .ok (.invokestatic 71, 3) := by decide +kernel
theorem dJ2_indexOfSupplementary_4cfef_55 : decode cJ2_indexOfSupplementary_4cfef 55 = .ok (.iload 5, 2) := by decide +kernel
theorem dJ2_indexOfSupplementary_4cfef_57 : decode cJ2_indexOfSupplementary_4cfef 57 = .ok (.if_icmp .ne 6, 3) := by decide +kernel
theorem dJ2_indexOfSupplementary_4cfef_60 : decode cJ2_indexOfSupplementary_4cfef 60 = .ok (.iload 6, 2) := by decide +kernel
theorem dJ2_indexOfSupplementary_4cfef_62 : decode cJ2_indexOfSupplementary_4cfef 62 = .ok (.ireturn, 1) := by decide +kernel
theorem dJ2_indexOfSupplementary_4cfef_63 : decode cJ2_indexOfSupplementary_4cfef 63 = .ok (.iinc 6 1, 3) := by decide +kernel
theorem dJ2_indexOfSupplementary_4cfef_66 : decode cJ2_indexOfSupplementary_4cfef 66 = .ok (.goto (-38), 3) := by decide +kernel
theorem dJ2_indexOfSupplementary_4cfef_69 : decode cJ2_indexOfSupplementary_4cfef 69 = .ok (.iconst (-1), 1) := by decide +kernel
theorem dJ2_indexOfSupplementary_4cfef_70 : decode cJ2_indexOfSupplementary_4cfef 70 = .ok (.ireturn, 1) := by decide +kernel
theorem dJ2_checkBoundsBeginEnd_d044e_0 : decode cJ2_checkBoundsBeginEnd_d044e 0 = .ok (.iload_n 0, 1) := by decide +kernel
theorem dJ2_checkBoundsBeginEnd_d044e_1 : decode cJ2_checkBoundsBeginEnd_d044e 1 = .ok (.iload_n 1, 1) := by decide +kernel
theorem dJ2_checkBoundsBeginEnd_d044e_2 : decode cJ2_checkBoundsBeginEnd_d044e 2 = .ok (.aload_n 2, 1) := by decide +kernel
theorem dJ2_checkBoundsBeginEnd_d044e_3 : decode cJ2_checkBoundsBeginEnd_d044e 3 = .ok (.invokestatic 48, 3) := by decide +kernel
theorem dJ2_checkBoundsBeginEnd_d044e_6 : decode cJ2_checkBoundsBeginEnd_d044e 6 = .ok (.invokestatic 241, 3) := by decide +kernel
theorem dJ2_checkBoundsBeginEnd_d044e_9 : decode cJ2_checkBoundsBeginEnd_d044e 9 = .ok (.return_, 1) := by decide +kernel
theorem dJ3_checkFromToIndex_8c36e_0 : decode cJ3_checkFromToIndex_8c36e 0 = .ok (.iload_n 0, 1) := by decide +kernel
theorem dJ3_checkFromToIndex_8c36e_1 : decode cJ3_checkFromToIndex_8c36e 1 = .ok (.ifCond .lt 13, 3) := by decide +kernel
theorem dJ3_checkFromToIndex_8c36e_4 : decode cJ3_checkFromToIndex_8c36e 4 = .ok (.iload_n 0, 1) := by decide +kernel
theorem dJ3_checkFromToIndex_8c36e_5 : decode cJ3_checkFromToIndex_8c36e 5 = .ok (.iload_n 1, 1) := by decide +kernel
theorem dJ3_checkFromToIndex_8c36e_6 : decode cJ3_checkFromToIndex_8c36e 6 = .ok (.if_icmp .gt 8, 3) := by decide +kernel
theorem dJ3_checkFromToIndex_8c36e_9 : decode cJ3_checkFromToIndex_8c36e 9 = .ok (.iload_n 1, 1) := by decide +kernel
theorem dJ3_checkFromToIndex_8c36e_10 : decode cJ3_checkFromToIndex_8c36e 10 = .ok (.iload_n 2, 1) := by decide +kernel
theorem dJ3_checkFromToIndex_8c36e_11 : decode cJ3_checkFromToIndex_8c36e 11 = .ok (.if_icmp .le 11, 3) := by decide +kernel
theorem dJ3_checkFromToIndex_8c36e_14 : decode cJ3_checkFromToIndex_8c36e 14 = .ok (.aload_n 3, 1) := by decide +kernel
theorem dJ3_checkFromToIndex_8c36e_15 : decode cJ3_checkFromToIndex_8c36e 15 = .ok (.iload_n 0, 1) := by decide +kernel
theorem dJ3_checkFromToIndex_8c36e_16 : decode cJ3_checkFromToIndex_8c36e 16 = .ok (.iload_n 1, 1) := by decide +kernel
theorem dJ3_checkFromToIndex_8c36e_17 : decode cJ3_checkFromToIndex_8c36e 17 = .ok (.iload_n 2, 1) := by decide +kernel
theorem dJ3_checkFromToIndex_8c36e_18 : decode cJ3_checkFromToIndex_8c36e 18 = .ok (.invokestatic 99, 3) := by decide +kernel
theorem dJ3_checkFromToIndex_8c36e_21 : decode cJ3_checkFromToIndex_8c36e 21 = .ok (.athrow, 1) := by decide +kernel
theorem dJ3_checkFromToIndex_8c36e_22 : decode cJ3_checkFromToIndex_8c36e 22 = .ok (.iload_n 0, 1) := by decide +kernel
theorem dJ3_checkFromToIndex_8c36e_23 : decode cJ3_checkFromToIndex_8c36e 23 = .ok (.ireturn, 1) := by decide +kernel
theorem dL_element_0 : decode cL_element 0 = .ok (.aload_n 3, 1) := by decide +kernel
theorem dL_element_1 : decode cL_element 1 = .ok (.iconst 0, 1) := by decide +kernel
theorem dL_element_2 : decode cL_element 2 = .ok (.aload_n 0, 1) := by decide +kernel
theorem dL_element_3 : decode cL_element 3 = .ok (.iload_n 1, 1) := by decide +kernel
theorem dL_element_4 : decode cL_element 4 = .ok (.iload_n 2, 1) := by decide +kernel
theorem dL_element_5 : decode cL_element 5 = .ok (.invokevirtual 7, 3) := by decide +kernel
theorem dL_element_8 : decode cL_element 8 = .ok (.i2l, 1) := by decide +kernel
theorem dL_element_9 : decode cL_element 9 = .ok (.lastore, 1) := by decide +kernel
theorem dL_element_10 : decode cL_element 10 = .ok (.goto 7, 3) := by decide +kernel
theorem dL_element_13 : decode cL_element 13 = .ok (.astore 4, 2) := by decide +kernel
theorem dL_element_15 : decode cL_element 15 = .ok (.iconst 1, 1) := by decide +kernel
theorem dL_element_16 : decode cL_element 16 = .ok (.ireturn, 1) := by decide +kernel
theorem dL_element_17 : decode cL_element 17 = .ok (.iconst 0, 1) := by decide +kernel
theorem dL_element_18 : decode cL_element 18 = .ok (.ireturn, 1) := by decide +kernel
theorem dL_letter_0 : decode cL_letter 0 = .ok (.aload_n 3, 1) := by decide +kernel
theorem dL_letter_1 : decode cL_letter 1 = .ok (.iconst 0, 1) := by decide +kernel
theorem dL_letter_2 : decode cL_letter 2 = .ok (.aload_n 0, 1) := by decide +kernel
theorem dL_letter_3 : decode cL_letter 3 = .ok (.iload_n 1, 1) := by decide +kernel
theorem dL_letter_4 : decode cL_letter 4 = .ok (.iload_n 2, 1) := by decide +kernel
theorem dL_letter_5 : decode cL_letter 5 = .ok (.invokevirtual 15, 3) := by decide +kernel
theorem dL_letter_8 : decode cL_letter 8 = .ok (.i2l, 1) := by decide +kernel
theorem dL_letter_9 : decode cL_letter 9 = .ok (.lastore, 1) := by decide +kernel
theorem dL_letter_10 : decode cL_letter 10 = .ok (.goto 7, 3) := by decide +kernel
theorem dL_letter_13 : decode cL_letter 13 = .ok (.astore 4, 2) := by decide +kernel
theorem dL_letter_15 : decode cL_letter 15 = .ok (.iconst 1, 1) := by decide +kernel
theorem dL_letter_16 : decode cL_letter 16 = .ok (.ireturn, 1) := by decide +kernel
theorem dL_letter_17 : decode cL_letter 17 = .ok (.iconst 0, 1) := by decide +kernel
theorem dL_letter_18 : decode cL_letter 18 = .ok (.ireturn, 1) := by decide +kernel
theorem dL_part_0 : decode cL_part 0 = .ok (.aload 4, 2) := by decide +kernel
theorem dL_part_2 : decode cL_part 2 = .ok (.iconst 0, 1) := by decide +kernel
theorem dL_part_3 : decode cL_part 3 = .ok (.aload_n 0, 1) := by decide +kernel
theorem dL_part_4 : decode cL_part 4 = .ok (.iload_n 1, 1) := by decide +kernel
theorem dL_part_5 : decode cL_part 5 = .ok (.iload_n 2, 1) := by decide +kernel
theorem dL_part_6 : decode cL_part 6 = .ok (.iload_n 3, 1) := by decide +kernel
theorem dL_part_7 : decode cL_part 7 = .ok (.invokevirtual 18, 3) := by decide +kernel
theorem dL_part_10 : decode cL_part 10 = .ok (.i2l, 1) := by decide +kernel
theorem dL_part_11 : decode cL_part 11 = .ok (.lastore, 1) := by decide +kernel
theorem dL_part_12 : decode cL_part 12 = .ok (.goto 7, 3) := by decide +kernel
theorem dL_part_15 : decode cL_part 15 = .ok (.astore 5, 2) := by decide +kernel
theorem dL_part_17 : decode cL_part 17 = .ok (.iconst 1, 1) := by decide +kernel
theorem dL_part_18 : decode cL_part 18 = .ok (.ireturn, 1) := by decide +kernel
theorem dL_part_19 : decode cL_part 19 = .ok (.iconst 0, 1) := by decide +kernel
theorem dL_part_20 : decode cL_part 20 = .ok (.ireturn, 1) := by decide +kernel
theorem dL_number_0 : decode cL_number 0 = .ok (.aload_n 3, 1) := by decide +kernel
theorem dL_number_1 : decode cL_number 1 = .ok (.iconst 0, 1) := by decide +kernel
theorem dL_number_2 : decode cL_number 2 = .ok (.aload_n 0, 1) := by decide +kernel
theorem dL_number_3 : decode cL_number 3 = .ok (.iload_n 1, 1) := by decide +kernel
theorem dL_number_4 : decode cL_number 4 = .ok (.iload_n 2, 1) := by decide +kernel
theorem dL_number_5 : decode cL_number 5 = .ok (.invokevirtual 22, 3) := by decide +kernel
theorem dL_number_8 : decode cL_number 8 = .ok (.lastore, 1) := by decide +kernel
theorem dL_number_9 : decode cL_number 9 = .ok (.goto 11, 3) := by decide +kernel
theorem dL_number_12 : decode cL_number 12 = .ok (.astore 4, 2) := by decide +kernel
theorem dL_number_14 : decode cL_number 14 = .ok (.iconst 1, 1) := by decide +kernel
theorem dL_number_15 : decode cL_number 15 = .ok (.ireturn, 1) := by decide +kernel
theorem dL_number_16 : decode cL_number 16 = .ok (.astore 4, 2) := by decide +kernel
theorem dL_number_18 : decode cL_number 18 = .ok (.iconst 2, 1) := by decide +kernel
theorem dL_number_19 : decode cL_number 19 = .ok (.ireturn, 1) := by decide +kernel
theorem dL_number_20 : decode cL_number 20 = .ok (.iconst 0, 1) := by decide +kernel
theorem dL_number_21 : decode cL_number 21 = .ok (.ireturn, 1) := by decide +kernel
theorem dL_date_0 : decode cL_date 0 = .ok (.aload 4, 2) := by decide +kernel
theorem dL_date_2 : decode cL_date 2 = .ok (.iconst 0, 1) := by decide +kernel
theorem dL_date_3 : decode cL_date 3 = .ok (.aload_n 0, 1) := by decide +kernel
theorem dL_date_4 : decode cL_date 4 = .ok (.iload_n 1, 1) := by decide +kernel
theorem dL_date_5 : decode cL_date 5 = .ok (.iload_n 2, 1) := by decide +kernel
theorem dL_date_6 : decode cL_date 6 = .ok (.iload_n 3, 1) := by decide +kernel
theorem dL_date_7 : decode cL_date 7 = .ok (.invokevirtual 28, 3) := by decide +kernel
theorem dL_date_10 : decode cL_date 10 = .ok (.i2l, 1) := by decide +kernel
theorem dL_date_11 : decode cL_date 11 = .ok (.lastore, 1) := by decide +kernel
theorem dL_date_12 : decode cL_date 12 = .ok (.goto 11, 3) := by decide +kernel
theorem dL_date_15 : decode cL_date 15 = .ok (.astore 5, 2) := by decide +kernel
theorem dL_date_17 : decode cL_date 17 = .ok (.iconst 1, 1) := by decide +kernel
theorem dL_date_18 : decode cL_date 18 = .ok (.ireturn, 1) := by decide +kernel
theorem dL_date_19 : decode cL_date 19 = .ok (.astore 5, 2) := by decide +kernel
theorem dL_date_21 : decode cL_date 21 = .ok (.iconst 2, 1) := by decide +kernel
theorem dL_date_22 : decode cL_date 22 = .ok (.ireturn, 1) := by decide +kernel
theorem dL_date_23 : decode cL_date 23 = .ok (.iconst 0, 1) := by decide +kernel
theorem dL_date_24 : decode cL_date 24 = .ok (.ireturn, 1) := by decide +kernel
theorem dL_shelve_0 : decode cL_shelve 0 = .ok (.aload_n 2, 1) := by decide +kernel
theorem dL_shelve_1 : decode cL_shelve 1 = .ok (.iconst 0, 1) := by decide +kernel
theorem dL_shelve_2 : decode cL_shelve 2 = .ok (.aload_n 0, 1) := by decide +kernel
theorem dL_shelve_3 : decode cL_shelve 3 = .ok (.iload_n 1, 1) := by decide +kernel
theorem dL_shelve_4 : decode cL_shelve 4 = .ok (.invokevirtual 31, 3) := by decide +kernel
theorem dL_shelve_7 : decode cL_shelve 7 = .ok (.i2l, 1) := by decide +kernel
theorem dL_shelve_8 : decode cL_shelve 8 = .ok (.lastore, 1) := by decide +kernel
theorem dL_shelve_9 : decode cL_shelve 9 = .ok (.goto 6, 3) := by decide +kernel
theorem dL_shelve_12 : decode cL_shelve 12 = .ok (.astore_n 3, 1) := by decide +kernel
theorem dL_shelve_13 : decode cL_shelve 13 = .ok (.iconst 1, 1) := by decide +kernel
theorem dL_shelve_14 : decode cL_shelve 14 = .ok (.ireturn, 1) := by decide +kernel
theorem dL_shelve_15 : decode cL_shelve 15 = .ok (.iconst 0, 1) := by decide +kernel
theorem dL_shelve_16 : decode cL_shelve 16 = .ok (.ireturn, 1) := by decide +kernel
theorem dL_fetch_0 : decode cL_fetch 0 = .ok (.aload_n 2, 1) := by decide +kernel
theorem dL_fetch_1 : decode cL_fetch 1 = .ok (.iconst 0, 1) := by decide +kernel
theorem dL_fetch_2 : decode cL_fetch 2 = .ok (.aload_n 0, 1) := by decide +kernel
theorem dL_fetch_3 : decode cL_fetch 3 = .ok (.iload_n 1, 1) := by decide +kernel
theorem dL_fetch_4 : decode cL_fetch 4 = .ok (.invokevirtual 35, 3) := by decide +kernel
theorem dL_fetch_7 : decode cL_fetch 7 = .ok (.i2l, 1) := by decide +kernel
theorem dL_fetch_8 : decode cL_fetch 8 = .ok (.lastore, 1) := by decide +kernel
theorem dL_fetch_9 : decode cL_fetch 9 = .ok (.goto 6, 3) := by decide +kernel
theorem dL_fetch_12 : decode cL_fetch 12 = .ok (.astore_n 3, 1) := by decide +kernel
theorem dL_fetch_13 : decode cL_fetch 13 = .ok (.iconst 1, 1) := by decide +kernel
theorem dL_fetch_14 : decode cL_fetch 14 = .ok (.ireturn, 1) := by decide +kernel
theorem dL_fetch_15 : decode cL_fetch 15 = .ok (.iconst 0, 1) := by decide +kernel
theorem dL_fetch_16 : decode cL_fetch 16 = .ok (.ireturn, 1) := by decide +kernel
theorem dL_same_0 : decode cL_same 0 = .ok (.aload_n 2, 1) := by decide +kernel
theorem dL_same_1 : decode cL_same 1 = .ok (.iconst 0, 1) := by decide +kernel
theorem dL_same_2 : decode cL_same 2 = .ok (.aload_n 0, 1) := by decide +kernel
theorem dL_same_3 : decode cL_same 3 = .ok (.iload_n 1, 1) := by decide +kernel
theorem dL_same_4 : decode cL_same 4 = .ok (.invokevirtual 38, 3) := by decide +kernel
theorem dL_same_7 : decode cL_same 7 = .ok (.ifCond .eq 7, 3) := by decide +kernel
theorem dL_same_10 : decode cL_same 10 = .ok (.lconst 1, 1) := by decide +kernel
theorem dL_same_11 : decode cL_same 11 = .ok (.goto 4, 3) := by decide +kernel
theorem dL_same_14 : decode cL_same 14 = .ok (.lconst 0, 1) := by decide +kernel
theorem dL_same_15 : decode cL_same 15 = .ok (.lastore, 1) := by decide +kernel
theorem dL_same_16 : decode cL_same 16 = .ok (.goto 6, 3) := by decide +kernel
theorem dL_same_19 : decode cL_same 19 = .ok (.astore_n 3, 1) := by decide +kernel
theorem dL_same_20 : decode cL_same 20 = .ok (.iconst 1, 1) := by decide +kernel
theorem dL_same_21 : decode cL_same 21 = .ok (.ireturn, 1) := by decide +kernel
theorem dL_same_22 : decode cL_same 22 = .ok (.iconst 0, 1) := by decide +kernel
theorem dL_same_23 : decode cL_same 23 = .ok (.ireturn, 1) := by decide +kernel
theorem dL_join_0 : decode cL_join 0 = .ok (.aload_n 2, 1) := by decide +kernel
theorem dL_join_1 : decode cL_join 1 = .ok (.iconst 0, 1) := by decide +kernel
theorem dL_join_2 : decode cL_join 2 = .ok (.aload_n 0, 1) := by decide +kernel
theorem dL_join_3 : decode cL_join 3 = .ok (.iload_n 1, 1) := by decide +kernel
theorem dL_join_4 : decode cL_join 4 = .ok (.invokevirtual 42, 3) := by decide +kernel
theorem dL_join_7 : decode cL_join 7 = .ok (.i2l, 1) := by decide +kernel
theorem dL_join_8 : decode cL_join 8 = .ok (.lastore, 1) := by decide +kernel
theorem dL_join_9 : decode cL_join 9 = .ok (.goto 6, 3) := by decide +kernel
theorem dL_join_12 : decode cL_join 12 = .ok (.astore_n 3, 1) := by decide +kernel
theorem dL_join_13 : decode cL_join 13 = .ok (.iconst 1, 1) := by decide +kernel
theorem dL_join_14 : decode cL_join 14 = .ok (.ireturn, 1) := by decide +kernel
theorem dL_join_15 : decode cL_join 15 = .ok (.iconst 0, 1) := by decide +kernel
theorem dL_join_16 : decode cL_join 16 = .ok (.ireturn, 1) := by decide +kernel
theorem dL_symbol_0 : decode cL_symbol 0 = .ok (.aload_n 2, 1) := by decide +kernel
theorem dL_symbol_1 : decode cL_symbol 1 = .ok (.iconst 0, 1) := by decide +kernel
theorem dL_symbol_2 : decode cL_symbol 2 = .ok (.aload_n 0, 1) := by decide +kernel
theorem dL_symbol_3 : decode cL_symbol 3 = .ok (.iload_n 1, 1) := by decide +kernel
theorem dL_symbol_4 : decode cL_symbol 4 = .ok (.invokevirtual 45, 3) := by decide +kernel
theorem dL_symbol_7 : decode cL_symbol 7 = .ok (.i2l, 1) := by decide +kernel
theorem dL_symbol_8 : decode cL_symbol 8 = .ok (.lastore, 1) := by decide +kernel
theorem dL_symbol_9 : decode cL_symbol 9 = .ok (.goto 6, 3) := by decide +kernel
theorem dL_symbol_12 : decode cL_symbol 12 = .ok (.astore_n 3, 1) := by decide +kernel
theorem dL_symbol_13 : decode cL_symbol 13 = .ok (.iconst 1, 1) := by decide +kernel
theorem dL_symbol_14 : decode cL_symbol 14 = .ok (.ireturn, 1) := by decide +kernel
theorem dL_symbol_15 : decode cL_symbol 15 = .ok (.iconst 0, 1) := by decide +kernel
theorem dL_symbol_16 : decode cL_symbol 16 = .ok (.ireturn, 1) := by decide +kernel
theorem dL_print_0 : decode cL_print 0 = .ok (.aload_n 1, 1) := by decide +kernel
theorem dL_print_1 : decode cL_print 1 = .ok (.iconst 0, 1) := by decide +kernel
theorem dL_print_2 : decode cL_print 2 = .ok (.aload_n 0, 1) := by decide +kernel
theorem dL_print_3 : decode cL_print 3 = .ok (.invokevirtual 48, 3) := by decide +kernel
theorem dL_print_6 : decode cL_print 6 = .ok (.i2l, 1) := by decide +kernel
theorem dL_print_7 : decode cL_print 7 = .ok (.lastore, 1) := by decide +kernel
theorem dL_print_8 : decode cL_print 8 = .ok (.goto 6, 3) := by decide +kernel
theorem dL_print_11 : decode cL_print 11 = .ok (.astore_n 2, 1) := by decide +kernel
theorem dL_print_12 : decode cL_print 12 = .ok (.iconst 1, 1) := by decide +kernel
theorem dL_print_13 : decode cL_print 13 = .ok (.ireturn, 1) := by decide +kernel
theorem dL_print_14 : decode cL_print 14 = .ok (.iconst 0, 1) := by decide +kernel
theorem dL_print_15 : decode cL_print 15 = .ok (.ireturn, 1) := by decide +kernel
theorem dL_law_0 : decode cL_law 0 = .ok (.new 8, 3) := by decide +kernel
theorem dL_law_3 : decode cL_law 3 = .ok (.dup, 1) := by decide +kernel
theorem dL_law_4 : decode cL_law 4 = .ok (.invokespecial 54, 3) := by decide +kernel
theorem dL_law_7 : decode cL_law 7 = .ok (.astore_n 1, 1) := by decide +kernel
theorem dL_law_8 : decode cL_law 8 = .ok (.new 55, 3) := by decide +kernel
theorem dL_law_11 : decode cL_law 11 = .ok (.dup, 1) := by decide +kernel
theorem dL_law_12 : decode cL_law 12 = .ok (.invokespecial 57, 3) := by decide +kernel
theorem dL_law_15 : decode cL_law 15 = .ok (.astore_n 2, 1) := by decide +kernel
theorem dL_law_16 : decode cL_law 16 = .ok (.iconst 1, 1) := by decide +kernel
theorem dL_law_17 : decode cL_law 17 = .ok (.newarray .long, 2) := by decide +kernel
theorem dL_law_19 : decode cL_law 19 = .ok (.astore_n 3, 1) := by decide +kernel
theorem dL_law_20 : decode cL_law 20 = .ok (.iconst 0, 1) := by decide +kernel
theorem dL_law_21 : decode cL_law 21 = .ok (.istore 4, 2) := by decide +kernel
theorem dL_law_23 : decode cL_law 23 = .ok (.iload 4, 2) := by decide +kernel
theorem dL_law_25 : decode cL_law 25 = .ok (.aload_n 0, 1) := by decide +kernel
theorem dL_law_26 : decode cL_law 26 = .ok (.arraylength, 1) := by decide +kernel
theorem dL_law_27 : decode cL_law 27 = .ok (.bipush 6, 2) := by decide +kernel
theorem dL_law_29 : decode cL_law 29 = .ok (.isub, 1) := by decide +kernel
theorem dL_law_30 : decode cL_law 30 = .ok (.if_icmp .gt 1458, 3) := by decide +kernel
theorem dL_law_33 : decode cL_law 33 = .ok (.aload_n 0, 1) := by decide +kernel
theorem dL_law_34 : decode cL_law 34 = .ok (.iload 4, 2) := by decide +kernel
theorem dL_law_36 : decode cL_law 36 = .ok (.iaload, 1) := by decide +kernel
theorem dL_law_37 : decode cL_law 37 = .ok (.bipush 31, 2) := by decide +kernel
theorem dL_law_39 : decode cL_law 39 = .ok (.iand, 1) := by decide +kernel
theorem dL_law_40 : decode cL_law 40 = .ok (.tableswitch 1442 0 30 #[140, 213, 238, 251, 276, 317, 342, 367, 435, 503, 583, 650, 730, 767, 808, 833, 846, 902, 958, 1021, 1077, 1090, 1146, 1171, 1215, 1288, 1313, 1326, 1379, 1404, 1417], 140) := by decide +kernel
theorem dL_law_180 : decode cL_law 180 = .ok (.aload_n 1, 1) := by decide +kernel
theorem dL_law_181 : decode cL_law 181 = .ok (.aload_n 0, 1) := by decide +kernel
theorem dL_law_182 : decode cL_law 182 = .ok (.iload 4, 2) := by decide +kernel
theorem dL_law_184 : decode cL_law 184 = .ok (.iconst 1, 1) := by decide +kernel
theorem dL_law_185 : decode cL_law 185 = .ok (.iadd, 1) := by decide +kernel
theorem dL_law_186 : decode cL_law 186 = .ok (.iaload, 1) := by decide +kernel
theorem dL_law_187 : decode cL_law 187 = .ok (.aload_n 0, 1) := by decide +kernel
theorem dL_law_188 : decode cL_law 188 = .ok (.iload 4, 2) := by decide +kernel
theorem dL_law_190 : decode cL_law 190 = .ok (.iconst 2, 1) := by decide +kernel
theorem dL_law_191 : decode cL_law 191 = .ok (.iadd, 1) := by decide +kernel
theorem dL_law_192 : decode cL_law 192 = .ok (.iaload, 1) := by decide +kernel
theorem dL_law_193 : decode cL_law 193 = .ok (.aload_n 0, 1) := by decide +kernel
theorem dL_law_194 : decode cL_law 194 = .ok (.iload 4, 2) := by decide +kernel
theorem dL_law_196 : decode cL_law 196 = .ok (.iconst 3, 1) := by decide +kernel
theorem dL_law_197 : decode cL_law 197 = .ok (.iadd, 1) := by decide +kernel
theorem dL_law_198 : decode cL_law 198 = .ok (.iaload, 1) := by decide +kernel
theorem dL_law_199 : decode cL_law 199 = .ok (.aload_n 0, 1) := by decide +kernel
theorem dL_law_200 : decode cL_law 200 = .ok (.iload 4, 2) := by decide +kernel
theorem dL_law_202 : decode cL_law 202 = .ok (.iconst 4, 1) := by decide +kernel
theorem dL_law_203 : decode cL_law 203 = .ok (.iadd, 1) := by decide +kernel
theorem dL_law_204 : decode cL_law 204 = .ok (.iaload, 1) := by decide +kernel
theorem dL_law_205 : decode cL_law 205 = .ok (.aload_n 0, 1) := by decide +kernel
theorem dL_law_206 : decode cL_law 206 = .ok (.iload 4, 2) := by decide +kernel
theorem dL_law_208 : decode cL_law 208 = .ok (.iconst 5, 1) := by decide +kernel
theorem dL_law_209 : decode cL_law 209 = .ok (.iadd, 1) := by decide +kernel
theorem dL_law_210 : decode cL_law 210 = .ok (.iaload, 1) := by decide +kernel
theorem dL_law_211 : decode cL_law 211 = .ok (.invokevirtual 58, 3) := by decide +kernel
theorem dL_law_214 : decode cL_law 214 = .ok (.aload_n 2, 1) := by decide +kernel
theorem dL_law_215 : decode cL_law 215 = .ok (.aload_n 0, 1) := by decide +kernel
theorem dL_law_216 : decode cL_law 216 = .ok (.iload 4, 2) := by decide +kernel
theorem dL_law_218 : decode cL_law 218 = .ok (.iconst 1, 1) := by decide +kernel
theorem dL_law_219 : decode cL_law 219 = .ok (.iadd, 1) := by decide +kernel
theorem dL_law_220 : decode cL_law 220 = .ok (.iaload, 1) := by decide +kernel
theorem dL_law_221 : decode cL_law 221 = .ok (.aload_n 0, 1) := by decide +kernel
theorem dL_law_222 : decode cL_law 222 = .ok (.iload 4, 2) := by decide +kernel
theorem dL_law_224 : decode cL_law 224 = .ok (.iconst 2, 1) := by decide +kernel
theorem dL_law_225 : decode cL_law 225 = .ok (.iadd, 1) := by decide +kernel
theorem dL_law_226 : decode cL_law 226 = .ok (.iaload, 1) := by decide +kernel
theorem dL_law_227 : decode cL_law 227 = .ok (.aload_n 0, 1) := by decide +kernel
theorem dL_law_228 : decode cL_law 228 = .ok (.iload 4, 2) := by decide +kernel
theorem dL_law_230 : decode cL_law 230 = .ok (.iconst 3, 1) := by decide +kernel
theorem dL_law_231 : decode cL_law 231 = .ok (.iadd, 1) := by decide +kernel
theorem dL_law_232 : decode cL_law 232 = .ok (.iaload, 1) := by decide +kernel
theorem dL_law_233 : decode cL_law 233 = .ok (.aload_n 0, 1) := by decide +kernel
theorem dL_law_234 : decode cL_law 234 = .ok (.iload 4, 2) := by decide +kernel
theorem dL_law_236 : decode cL_law 236 = .ok (.iconst 4, 1) := by decide +kernel
theorem dL_law_237 : decode cL_law 237 = .ok (.iadd, 1) := by decide +kernel
theorem dL_law_238 : decode cL_law 238 = .ok (.iaload, 1) := by decide +kernel
theorem dL_law_239 : decode cL_law 239 = .ok (.aload_n 0, 1) := by decide +kernel
theorem dL_law_240 : decode cL_law 240 = .ok (.iload 4, 2) := by decide +kernel
theorem dL_law_242 : decode cL_law 242 = .ok (.iconst 5, 1) := by decide +kernel
theorem dL_law_243 : decode cL_law 243 = .ok (.iadd, 1) := by decide +kernel
theorem dL_law_244 : decode cL_law 244 = .ok (.iaload, 1) := by decide +kernel
theorem dL_law_245 : decode cL_law 245 = .ok (.invokevirtual 62, 3) := by decide +kernel
theorem dL_law_248 : decode cL_law 248 = .ok (.if_icmp .eq 1234, 3) := by decide +kernel
theorem dL_law_251 : decode cL_law 251 = .ok (.iconst 0, 1) := by decide +kernel
theorem dL_law_252 : decode cL_law 252 = .ok (.ireturn, 1) := by decide +kernel
theorem dL_law_253 : decode cL_law 253 = .ok (.aload_n 1, 1) := by decide +kernel
theorem dL_law_254 : decode cL_law 254 = .ok (.aload_n 0, 1) := by decide +kernel
theorem dL_law_255 : decode cL_law 255 = .ok (.iload 4, 2) := by decide +kernel
theorem dL_law_257 : decode cL_law 257 = .ok (.iconst 1, 1) := by decide +kernel
theorem dL_law_258 : decode cL_law 258 = .ok (.iadd, 1) := by decide +kernel
theorem dL_law_259 : decode cL_law 259 = .ok (.iaload, 1) := by decide +kernel
theorem dL_law_260 : decode cL_law 260 = .ok (.invokevirtual 63, 3) := by decide +kernel
theorem dL_law_263 : decode cL_law 263 = .ok (.aload_n 2, 1) := by decide +kernel
theorem dL_law_264 : decode cL_law 264 = .ok (.aload_n 0, 1) := by decide +kernel
theorem dL_law_265 : decode cL_law 265 = .ok (.iload 4, 2) := by decide +kernel
theorem dL_law_267 : decode cL_law 267 = .ok (.iconst 1, 1) := by decide +kernel
theorem dL_law_268 : decode cL_law 268 = .ok (.iadd, 1) := by decide +kernel
theorem dL_law_269 : decode cL_law 269 = .ok (.iaload, 1) := by decide +kernel
theorem dL_law_270 : decode cL_law 270 = .ok (.invokevirtual 66, 3) := by decide +kernel
theorem dL_law_273 : decode cL_law 273 = .ok (.if_icmp .eq 1209, 3) := by decide +kernel
theorem dL_law_276 : decode cL_law 276 = .ok (.iconst 0, 1) := by decide +kernel
theorem dL_law_277 : decode cL_law 277 = .ok (.ireturn, 1) := by decide +kernel
theorem dL_law_278 : decode cL_law 278 = .ok (.aload_n 1, 1) := by decide +kernel
theorem dL_law_279 : decode cL_law 279 = .ok (.invokevirtual 67, 3) := by decide +kernel
theorem dL_law_282 : decode cL_law 282 = .ok (.aload_n 2, 1) := by decide +kernel
theorem dL_law_283 : decode cL_law 283 = .ok (.invokevirtual 70, 3) := by decide +kernel
theorem dL_law_286 : decode cL_law 286 = .ok (.if_icmp .eq 1196, 3) := by decide +kernel
theorem dL_law_289 : decode cL_law 289 = .ok (.iconst 0, 1) := by decide +kernel
theorem dL_law_290 : decode cL_law 290 = .ok (.ireturn, 1) := by decide +kernel
theorem dL_law_291 : decode cL_law 291 = .ok (.aload_n 1, 1) := by decide +kernel
theorem dL_law_292 : decode cL_law 292 = .ok (.aload_n 0, 1) := by decide +kernel
theorem dL_law_293 : decode cL_law 293 = .ok (.iload 4, 2) := by decide +kernel
theorem dL_law_295 : decode cL_law 295 = .ok (.iconst 1, 1) := by decide +kernel
theorem dL_law_296 : decode cL_law 296 = .ok (.iadd, 1) := by decide +kernel
theorem dL_law_297 : decode cL_law 297 = .ok (.iaload, 1) := by decide +kernel
theorem dL_law_298 : decode cL_law 298 = .ok (.invokevirtual 71, 3) := by decide +kernel
theorem dL_law_301 : decode cL_law 301 = .ok (.aload_n 2, 1) := by decide +kernel
theorem dL_law_302 : decode cL_law 302 = .ok (.aload_n 0, 1) := by decide +kernel
theorem dL_law_303 : decode cL_law 303 = .ok (.iload 4, 2) := by decide +kernel
theorem dL_law_305 : decode cL_law 305 = .ok (.iconst 1, 1) := by decide +kernel
theorem dL_law_306 : decode cL_law 306 = .ok (.iadd, 1) := by decide +kernel
theorem dL_law_307 : decode cL_law 307 = .ok (.iaload, 1) := by decide +kernel
theorem dL_law_308 : decode cL_law 308 = .ok (.invokevirtual 74, 3) := by decide +kernel
theorem dL_law_311 : decode cL_law 311 = .ok (.if_icmp .eq 1171, 3) := by decide +kernel
theorem dL_law_314 : decode cL_law 314 = .ok (.iconst 0, 1) := by decide +kernel
theorem dL_law_315 : decode cL_law 315 = .ok (.ireturn, 1) := by decide +kernel
theorem dL_law_316 : decode cL_law 316 = .ok (.aload_n 1, 1) := by decide +kernel
theorem dL_law_317 : decode cL_law 317 = .ok (.aload_n 0, 1) := by decide +kernel
theorem dL_law_318 : decode cL_law 318 = .ok (.iload 4, 2) := by decide +kernel
theorem dL_law_320 : decode cL_law 320 = .ok (.iconst 1, 1) := by decide +kernel
theorem dL_law_321 : decode cL_law 321 = .ok (.iadd, 1) := by decide +kernel
theorem dL_law_322 : decode cL_law 322 = .ok (.iaload, 1) := by decide +kernel
theorem dL_law_323 : decode cL_law 323 = .ok (.ifCond .eq 7, 3) := by decide +kernel
theorem dL_law_326 : decode cL_law 326 = .ok (.iconst 1, 1) := by decide +kernel
theorem dL_law_327 : decode cL_law 327 = .ok (.goto 4, 3) := by decide +kernel
theorem dL_law_330 : decode cL_law 330 = .ok (.iconst 0, 1) := by decide +kernel
theorem dL_law_331 : decode cL_law 331 = .ok (.invokevirtual 75, 3) := by decide +kernel
theorem dL_law_334 : decode cL_law 334 = .ok (.aload_n 2, 1) := by decide +kernel
theorem dL_law_335 : decode cL_law 335 = .ok (.aload_n 0, 1) := by decide +kernel
theorem dL_law_336 : decode cL_law 336 = .ok (.iload 4, 2) := by decide +kernel
theorem dL_law_338 : decode cL_law 338 = .ok (.iconst 1, 1) := by decide +kernel
theorem dL_law_339 : decode cL_law 339 = .ok (.iadd, 1) := by decide +kernel
theorem dL_law_340 : decode cL_law 340 = .ok (.iaload, 1) := by decide +kernel
theorem dL_law_341 : decode cL_law 341 = .ok (.ifCond .eq 7, 3) := by decide +kernel
theorem dL_law_344 : decode cL_law 344 = .ok (.iconst 1, 1) := by decide +kernel
theorem dL_law_345 : decode cL_law 345 = .ok (.goto 4, 3) := by decide +kernel
theorem dL_law_348 : decode cL_law 348 = .ok (.iconst 0, 1) := by decide +kernel
theorem dL_law_349 : decode cL_law 349 = .ok (.invokevirtual 79, 3) := by decide +kernel
theorem dL_law_352 : decode cL_law 352 = .ok (.if_icmp .eq 1130, 3) := by decide +kernel
theorem dL_law_355 : decode cL_law 355 = .ok (.iconst 0, 1) := by decide +kernel
theorem dL_law_356 : decode cL_law 356 = .ok (.ireturn, 1) := by decide +kernel
theorem dL_law_357 : decode cL_law 357 = .ok (.aload_n 1, 1) := by decide +kernel
theorem dL_law_358 : decode cL_law 358 = .ok (.aload_n 0, 1) := by decide +kernel
theorem dL_law_359 : decode cL_law 359 = .ok (.iload 4, 2) := by decide +kernel
theorem dL_law_361 : decode cL_law 361 = .ok (.iconst 1, 1) := by decide +kernel
theorem dL_law_362 : decode cL_law 362 = .ok (.iadd, 1) := by decide +kernel
theorem dL_law_363 : decode cL_law 363 = .ok (.iaload, 1) := by decide +kernel
theorem dL_law_364 : decode cL_law 364 = .ok (.invokevirtual 80, 3) := by decide +kernel
theorem dL_law_367 : decode cL_law 367 = .ok (.aload_n 2, 1) := by decide +kernel
theorem dL_law_368 : decode cL_law 368 = .ok (.aload_n 0, 1) := by decide +kernel
theorem dL_law_369 : decode cL_law 369 = .ok (.iload 4, 2) := by decide +kernel
theorem dL_law_371 : decode cL_law 371 = .ok (.iconst 1, 1) := by decide +kernel
theorem dL_law_372 : decode cL_law 372 = .ok (.iadd, 1) := by decide +kernel
theorem dL_law_373 : decode cL_law 373 = .ok (.iaload, 1) := by decide +kernel
theorem dL_law_374 : decode cL_law 374 = .ok (.invokevirtual 83, 3) := by decide +kernel
theorem dL_law_377 : decode cL_law 377 = .ok (.if_icmp .eq 1105, 3) := by decide +kernel
theorem dL_law_380 : decode cL_law 380 = .ok (.iconst 0, 1) := by decide +kernel
theorem dL_law_381 : decode cL_law 381 = .ok (.ireturn, 1) := by decide +kernel
theorem dL_law_382 : decode cL_law 382 = .ok (.aload_n 1, 1) := by decide +kernel
theorem dL_law_383 : decode cL_law 383 = .ok (.aload_n 0, 1) := by decide +kernel
theorem dL_law_384 : decode cL_law 384 = .ok (.iload 4, 2) := by decide +kernel
theorem dL_law_386 : decode cL_law 386 = .ok (.iconst 1, 1) := by decide +kernel
theorem dL_law_387 : decode cL_law 387 = .ok (.iadd, 1) := by decide +kernel
theorem dL_law_388 : decode cL_law 388 = .ok (.iaload, 1) := by decide +kernel
theorem dL_law_389 : decode cL_law 389 = .ok (.invokevirtual 84, 3) := by decide +kernel
theorem dL_law_392 : decode cL_law 392 = .ok (.aload_n 2, 1) := by decide +kernel
theorem dL_law_393 : decode cL_law 393 = .ok (.aload_n 0, 1) := by decide +kernel
theorem dL_law_394 : decode cL_law 394 = .ok (.iload 4, 2) := by decide +kernel
theorem dL_law_396 : decode cL_law 396 = .ok (.iconst 1, 1) := by decide +kernel
theorem dL_law_397 : decode cL_law 397 = .ok (.iadd, 1) := by decide +kernel
theorem dL_law_398 : decode cL_law 398 = .ok (.iaload, 1) := by decide +kernel
theorem dL_law_399 : decode cL_law 399 = .ok (.invokevirtual 87, 3) := by decide +kernel
theorem dL_law_402 : decode cL_law 402 = .ok (.if_icmp .eq 1080, 3) := by decide +kernel
theorem dL_law_405 : decode cL_law 405 = .ok (.iconst 0, 1) := by decide +kernel
theorem dL_law_406 : decode cL_law 406 = .ok (.ireturn, 1) := by decide +kernel
theorem dL_law_407 : decode cL_law 407 = .ok (.aload_n 1, 1) := by decide +kernel
theorem dL_law_408 : decode cL_law 408 = .ok (.aload_n 0, 1) := by decide +kernel
theorem dL_law_409 : decode cL_law 409 = .ok (.iload 4, 2) := by decide +kernel
theorem dL_law_411 : decode cL_law 411 = .ok (.iconst 1, 1) := by decide +kernel
theorem dL_law_412 : decode cL_law 412 = .ok (.iadd, 1) := by decide +kernel
theorem dL_law_413 : decode cL_law 413 = .ok (.iaload, 1) := by decide +kernel
theorem dL_law_414 : decode cL_law 414 = .ok (.aload_n 0, 1) := by decide +kernel
theorem dL_law_415 : decode cL_law 415 = .ok (.iload 4, 2) := by decide +kernel
theorem dL_law_417 : decode cL_law 417 = .ok (.iconst 2, 1) := by decide +kernel
theorem dL_law_418 : decode cL_law 418 = .ok (.iadd, 1) := by decide +kernel
theorem dL_law_419 : decode cL_law 419 = .ok (.iaload, 1) := by decide +kernel
theorem dL_law_420 : decode cL_law 420 = .ok (.aload_n 3, 1) := by decide +kernel
theorem dL_law_421 : decode cL_law 421 = .ok (.invokestatic 88, 3) := by decide +kernel
theorem dL_law_424 : decode cL_law 424 = .ok (.istore 5, 2) := by decide +kernel
theorem dL_law_426 : decode cL_law 426 = .ok (.aload_n 2, 1) := by decide +kernel
theorem dL_law_427 : decode cL_law 427 = .ok (.aload_n 0, 1) := by decide +kernel
theorem dL_law_428 : decode cL_law 428 = .ok (.iload 4, 2) := by decide +kernel
theorem dL_law_430 : decode cL_law 430 = .ok (.iconst 1, 1) := by decide +kernel
theorem dL_law_431 : decode cL_law 431 = .ok (.iadd, 1) := by decide +kernel
theorem dL_law_432 : decode cL_law 432 = .ok (.iaload, 1) := by decide +kernel
theorem dL_law_433 : decode cL_law 433 = .ok (.aload_n 0, 1) := by decide +kernel
theorem dL_law_434 : decode cL_law 434 = .ok (.iload 4, 2) := by decide +kernel
theorem dL_law_436 : decode cL_law 436 = .ok (.iconst 2, 1) := by decide +kernel
theorem dL_law_437 : decode cL_law 437 = .ok (.iadd, 1) := by decide +kernel
theorem dL_law_438 : decode cL_law 438 = .ok (.iaload, 1) := by decide +kernel
theorem dL_law_439 : decode cL_law 439 = .ok (.invokevirtual 93, 3) := by decide +kernel
theorem dL_law_442 : decode cL_law 442 = .ok (.istore 6, 2) := by decide +kernel
theorem dL_law_444 : decode cL_law 444 = .ok (.aload_n 2, 1) := by decide +kernel
theorem dL_law_445 : decode cL_law 445 = .ok (.invokevirtual 94, 3) := by decide +kernel
theorem dL_law_448 : decode cL_law 448 = .ok (.iload 5, 2) := by decide +kernel
theorem dL_law_450 : decode cL_law 450 = .ok (.if_icmp .eq 5, 3) := by decide +kernel
theorem dL_law_453 : decode cL_law 453 = .ok (.iconst 0, 1) := by decide +kernel
theorem dL_law_454 : decode cL_law 454 = .ok (.ireturn, 1) := by decide +kernel
theorem dL_law_455 : decode cL_law 455 = .ok (.iload 5, 2) := by decide +kernel
theorem dL_law_457 : decode cL_law 457 = .ok (.ifCond .ne 15, 3) := by decide +kernel
theorem dL_law_460 : decode cL_law 460 = .ok (.aload_n 3, 1) := by decide +kernel
theorem dL_law_461 : decode cL_law 461 = .ok (.iconst 0, 1) := by decide +kernel
theorem dL_law_462 : decode cL_law 462 = .ok (.laload, 1) := by decide +kernel
theorem dL_law_463 : decode cL_law 463 = .ok (.iload 6, 2) := by decide +kernel
theorem dL_law_465 : decode cL_law 465 = .ok (.i2l, 1) := by decide +kernel
theorem dL_law_466 : decode cL_law 466 = .ok (.lcmp, 1) := by decide +kernel
theorem dL_law_467 : decode cL_law 467 = .ok (.ifCond .eq 5, 3) := by decide +kernel
theorem dL_law_470 : decode cL_law 470 = .ok (.iconst 0, 1) := by decide +kernel
theorem dL_law_471 : decode cL_law 471 = .ok (.ireturn, 1) := by decide +kernel
theorem dL_law_472 : decode cL_law 472 = .ok (.goto 1010, 3) := by decide +kernel
theorem dL_law_475 : decode cL_law 475 = .ok (.aload_n 1, 1) := by decide +kernel
theorem dL_law_476 : decode cL_law 476 = .ok (.aload_n 0, 1) := by decide +kernel
theorem dL_law_477 : decode cL_law 477 = .ok (.iload 4, 2) := by decide +kernel
theorem dL_law_479 : decode cL_law 479 = .ok (.iconst 1, 1) := by decide +kernel
theorem dL_law_480 : decode cL_law 480 = .ok (.iadd, 1) := by decide +kernel
theorem dL_law_481 : decode cL_law 481 = .ok (.iaload, 1) := by decide +kernel
theorem dL_law_482 : decode cL_law 482 = .ok (.aload_n 0, 1) := by decide +kernel
theorem dL_law_483 : decode cL_law 483 = .ok (.iload 4, 2) := by decide +kernel
theorem dL_law_485 : decode cL_law 485 = .ok (.iconst 2, 1) := by decide +kernel
theorem dL_law_486 : decode cL_law 486 = .ok (.iadd, 1) := by decide +kernel
theorem dL_law_487 : decode cL_law 487 = .ok (.iaload, 1) := by decide +kernel
theorem dL_law_488 : decode cL_law 488 = .ok (.aload_n 3, 1) := by decide +kernel
theorem dL_law_489 : decode cL_law 489 = .ok (.invokestatic 97, 3) := by decide +kernel
theorem dL_law_492 : decode cL_law 492 = .ok (.istore 5, 2) := by decide +kernel
theorem dL_law_494 : decode cL_law 494 = .ok (.aload_n 2, 1) := by decide +kernel
theorem dL_law_495 : decode cL_law 495 = .ok (.aload_n 0, 1) := by decide +kernel
theorem dL_law_496 : decode cL_law 496 = .ok (.iload 4, 2) := by decide +kernel
theorem dL_law_498 : decode cL_law 498 = .ok (.iconst 1, 1) := by decide +kernel
theorem dL_law_499 : decode cL_law 499 = .ok (.iadd, 1) := by decide +kernel
theorem dL_law_500 : decode cL_law 500 = .ok (.iaload, 1) := by decide +kernel
theorem dL_law_501 : decode cL_law 501 = .ok (.aload_n 0, 1) := by decide +kernel
theorem dL_law_502 : decode cL_law 502 = .ok (.iload 4, 2) := by decide +kernel
theorem dL_law_504 : decode cL_law 504 = .ok (.iconst 2, 1) := by decide +kernel
theorem dL_law_505 : decode cL_law 505 = .ok (.iadd, 1) := by decide +kernel
theorem dL_law_506 : decode cL_law 506 = .ok (.iaload, 1) := by decide +kernel
theorem dL_law_507 : decode cL_law 507 = .ok (.invokevirtual 99, 3) := by decide +kernel
theorem dL_law_510 : decode cL_law 510 = .ok (.istore 6, 2) := by decide +kernel
theorem dL_law_512 : decode cL_law 512 = .ok (.aload_n 2, 1) := by decide +kernel
theorem dL_law_513 : decode cL_law 513 = .ok (.invokevirtual 94, 3) := by decide +kernel
theorem dL_law_516 : decode cL_law 516 = .ok (.iload 5, 2) := by decide +kernel
theorem dL_law_518 : decode cL_law 518 = .ok (.if_icmp .eq 5, 3) := by decide +kernel
theorem dL_law_521 : decode cL_law 521 = .ok (.iconst 0, 1) := by decide +kernel
theorem dL_law_522 : decode cL_law 522 = .ok (.ireturn, 1) := by decide +kernel
theorem dL_law_523 : decode cL_law 523 = .ok (.iload 5, 2) := by decide +kernel
theorem dL_law_525 : decode cL_law 525 = .ok (.ifCond .ne 15, 3) := by decide +kernel
theorem dL_law_528 : decode cL_law 528 = .ok (.aload_n 3, 1) := by decide +kernel
theorem dL_law_529 : decode cL_law 529 = .ok (.iconst 0, 1) := by decide +kernel
theorem dL_law_530 : decode cL_law 530 = .ok (.laload, 1) := by decide +kernel
theorem dL_law_531 : decode cL_law 531 = .ok (.iload 6, 2) := by decide +kernel
theorem dL_law_533 : decode cL_law 533 = .ok (.i2l, 1) := by decide +kernel
theorem dL_law_534 : decode cL_law 534 = .ok (.lcmp, 1) := by decide +kernel
theorem dL_law_535 : decode cL_law 535 = .ok (.ifCond .eq 5, 3) := by decide +kernel
theorem dL_law_538 : decode cL_law 538 = .ok (.iconst 0, 1) := by decide +kernel
theorem dL_law_539 : decode cL_law 539 = .ok (.ireturn, 1) := by decide +kernel
theorem dL_law_540 : decode cL_law 540 = .ok (.goto 942, 3) := by decide +kernel
theorem dL_law_543 : decode cL_law 543 = .ok (.aload_n 1, 1) := by decide +kernel
theorem dL_law_544 : decode cL_law 544 = .ok (.aload_n 0, 1) := by decide +kernel
theorem dL_law_545 : decode cL_law 545 = .ok (.iload 4, 2) := by decide +kernel
theorem dL_law_547 : decode cL_law 547 = .ok (.iconst 1, 1) := by decide +kernel
theorem dL_law_548 : decode cL_law 548 = .ok (.iadd, 1) := by decide +kernel
theorem dL_law_549 : decode cL_law 549 = .ok (.iaload, 1) := by decide +kernel
theorem dL_law_550 : decode cL_law 550 = .ok (.aload_n 0, 1) := by decide +kernel
theorem dL_law_551 : decode cL_law 551 = .ok (.iload 4, 2) := by decide +kernel
theorem dL_law_553 : decode cL_law 553 = .ok (.iconst 2, 1) := by decide +kernel
theorem dL_law_554 : decode cL_law 554 = .ok (.iadd, 1) := by decide +kernel
theorem dL_law_555 : decode cL_law 555 = .ok (.iaload, 1) := by decide +kernel
theorem dL_law_556 : decode cL_law 556 = .ok (.aload_n 0, 1) := by decide +kernel
theorem dL_law_557 : decode cL_law 557 = .ok (.iload 4, 2) := by decide +kernel
theorem dL_law_559 : decode cL_law 559 = .ok (.iconst 3, 1) := by decide +kernel
theorem dL_law_560 : decode cL_law 560 = .ok (.iadd, 1) := by decide +kernel
theorem dL_law_561 : decode cL_law 561 = .ok (.iaload, 1) := by decide +kernel
theorem dL_law_562 : decode cL_law 562 = .ok (.aload_n 3, 1) := by decide +kernel
theorem dL_law_563 : decode cL_law 563 = .ok (.invokestatic 100, 3) := by decide +kernel
theorem dL_law_566 : decode cL_law 566 = .ok (.istore 5, 2) := by decide +kernel
theorem dL_law_568 : decode cL_law 568 = .ok (.aload_n 2, 1) := by decide +kernel
theorem dL_law_569 : decode cL_law 569 = .ok (.aload_n 0, 1) := by decide +kernel
theorem dL_law_570 : decode cL_law 570 = .ok (.iload 4, 2) := by decide +kernel
theorem dL_law_572 : decode cL_law 572 = .ok (.iconst 1, 1) := by decide +kernel
theorem dL_law_573 : decode cL_law 573 = .ok (.iadd, 1) := by decide +kernel
theorem dL_law_574 : decode cL_law 574 = .ok (.iaload, 1) := by decide +kernel
theorem dL_law_575 : decode cL_law 575 = .ok (.aload_n 0, 1) := by decide +kernel
theorem dL_law_576 : decode cL_law 576 = .ok (.iload 4, 2) := by decide +kernel
theorem dL_law_578 : decode cL_law 578 = .ok (.iconst 2, 1) := by decide +kernel
theorem dL_law_579 : decode cL_law 579 = .ok (.iadd, 1) := by decide +kernel
theorem dL_law_580 : decode cL_law 580 = .ok (.iaload, 1) := by decide +kernel
theorem dL_law_581 : decode cL_law 581 = .ok (.aload_n 0, 1) := by decide +kernel
theorem dL_law_582 : decode cL_law 582 = .ok (.iload 4, 2) := by decide +kernel
theorem dL_law_584 : decode cL_law 584 = .ok (.iconst 3, 1) := by decide +kernel
theorem dL_law_585 : decode cL_law 585 = .ok (.iadd, 1) := by decide +kernel
theorem dL_law_586 : decode cL_law 586 = .ok (.iaload, 1) := by decide +kernel
theorem dL_law_587 : decode cL_law 587 = .ok (.invokevirtual 103, 3) := by decide +kernel
theorem dL_law_590 : decode cL_law 590 = .ok (.istore 6, 2) := by decide +kernel
theorem dL_law_592 : decode cL_law 592 = .ok (.aload_n 2, 1) := by decide +kernel
theorem dL_law_593 : decode cL_law 593 = .ok (.invokevirtual 94, 3) := by decide +kernel
theorem dL_law_596 : decode cL_law 596 = .ok (.iload 5, 2) := by decide +kernel
theorem dL_law_598 : decode cL_law 598 = .ok (.if_icmp .eq 5, 3) := by decide +kernel
theorem dL_law_601 : decode cL_law 601 = .ok (.iconst 0, 1) := by decide +kernel
theorem dL_law_602 : decode cL_law 602 = .ok (.ireturn, 1) := by decide +kernel
theorem dL_law_603 : decode cL_law 603 = .ok (.iload 5, 2) := by decide +kernel
theorem dL_law_605 : decode cL_law 605 = .ok (.ifCond .ne 15, 3) := by decide +kernel
theorem dL_law_608 : decode cL_law 608 = .ok (.aload_n 3, 1) := by decide +kernel
theorem dL_law_609 : decode cL_law 609 = .ok (.iconst 0, 1) := by decide +kernel
theorem dL_law_610 : decode cL_law 610 = .ok (.laload, 1) := by decide +kernel
theorem dL_law_611 : decode cL_law 611 = .ok (.iload 6, 2) := by decide +kernel
theorem dL_law_613 : decode cL_law 613 = .ok (.i2l, 1) := by decide +kernel
theorem dL_law_614 : decode cL_law 614 = .ok (.lcmp, 1) := by decide +kernel
theorem dL_law_615 : decode cL_law 615 = .ok (.ifCond .eq 5, 3) := by decide +kernel
theorem dL_law_618 : decode cL_law 618 = .ok (.iconst 0, 1) := by decide +kernel
theorem dL_law_619 : decode cL_law 619 = .ok (.ireturn, 1) := by decide +kernel
theorem dL_law_620 : decode cL_law 620 = .ok (.goto 862, 3) := by decide +kernel
theorem dL_law_623 : decode cL_law 623 = .ok (.aload_n 1, 1) := by decide +kernel
theorem dL_law_624 : decode cL_law 624 = .ok (.aload_n 0, 1) := by decide +kernel
theorem dL_law_625 : decode cL_law 625 = .ok (.iload 4, 2) := by decide +kernel
theorem dL_law_627 : decode cL_law 627 = .ok (.iconst 1, 1) := by decide +kernel
theorem dL_law_628 : decode cL_law 628 = .ok (.iadd, 1) := by decide +kernel
theorem dL_law_629 : decode cL_law 629 = .ok (.iaload, 1) := by decide +kernel
theorem dL_law_630 : decode cL_law 630 = .ok (.aload_n 0, 1) := by decide +kernel
theorem dL_law_631 : decode cL_law 631 = .ok (.iload 4, 2) := by decide +kernel
theorem dL_law_633 : decode cL_law 633 = .ok (.iconst 2, 1) := by decide +kernel
theorem dL_law_634 : decode cL_law 634 = .ok (.iadd, 1) := by decide +kernel
theorem dL_law_635 : decode cL_law 635 = .ok (.iaload, 1) := by decide +kernel
theorem dL_law_636 : decode cL_law 636 = .ok (.aload_n 3, 1) := by decide +kernel
theorem dL_law_637 : decode cL_law 637 = .ok (.invokestatic 104, 3) := by decide +kernel
theorem dL_law_640 : decode cL_law 640 = .ok (.istore 5, 2) := by decide +kernel
theorem dL_law_642 : decode cL_law 642 = .ok (.aload_n 2, 1) := by decide +kernel
theorem dL_law_643 : decode cL_law 643 = .ok (.aload_n 0, 1) := by decide +kernel
theorem dL_law_644 : decode cL_law 644 = .ok (.iload 4, 2) := by decide +kernel
theorem dL_law_646 : decode cL_law 646 = .ok (.iconst 1, 1) := by decide +kernel
theorem dL_law_647 : decode cL_law 647 = .ok (.iadd, 1) := by decide +kernel
theorem dL_law_648 : decode cL_law 648 = .ok (.iaload, 1) := by decide +kernel
theorem dL_law_649 : decode cL_law 649 = .ok (.aload_n 0, 1) := by decide +kernel
theorem dL_law_650 : decode cL_law 650 = .ok (.iload 4, 2) := by decide +kernel
theorem dL_law_652 : decode cL_law 652 = .ok (.iconst 2, 1) := by decide +kernel
theorem dL_law_653 : decode cL_law 653 = .ok (.iadd, 1) := by decide +kernel
theorem dL_law_654 : decode cL_law 654 = .ok (.iaload, 1) := by decide +kernel
theorem dL_law_655 : decode cL_law 655 = .ok (.invokevirtual 106, 3) := by decide +kernel
theorem dL_law_658 : decode cL_law 658 = .ok (.lstore 6, 2) := by decide +kernel
theorem dL_law_660 : decode cL_law 660 = .ok (.aload_n 2, 1) := by decide +kernel
theorem dL_law_661 : decode cL_law 661 = .ok (.invokevirtual 94, 3) := by decide +kernel
theorem dL_law_664 : decode cL_law 664 = .ok (.iload 5, 2) := by decide +kernel
theorem dL_law_666 : decode cL_law 666 = .ok (.if_icmp .eq 5, 3) := by decide +kernel
theorem dL_law_669 : decode cL_law 669 = .ok (.iconst 0, 1) := by decide +kernel
theorem dL_law_670 : decode cL_law 670 = .ok (.ireturn, 1) := by decide +kernel
theorem dL_law_671 : decode cL_law 671 = .ok (.iload 5, 2) := by decide +kernel
theorem dL_law_673 : decode cL_law 673 = .ok (.ifCond .ne 14, 3) := by decide +kernel
theorem dL_law_676 : decode cL_law 676 = .ok (.aload_n 3, 1) := by decide +kernel
theorem dL_law_677 : decode cL_law 677 = .ok (.iconst 0, 1) := by decide +kernel
theorem dL_law_678 : decode cL_law 678 = .ok (.laload, 1) := by decide +kernel
theorem dL_law_679 : decode cL_law 679 = .ok (.lload 6, 2) := by decide +kernel
theorem dL_law_681 : decode cL_law 681 = .ok (.lcmp, 1) := by decide +kernel
theorem dL_law_682 : decode cL_law 682 = .ok (.ifCond .eq 5, 3) := by decide +kernel
theorem dL_law_685 : decode cL_law 685 = .ok (.iconst 0, 1) := by decide +kernel
theorem dL_law_686 : decode cL_law 686 = .ok (.ireturn, 1) := by decide +kernel
theorem dL_law_687 : decode cL_law 687 = .ok (.goto 795, 3) := by decide +kernel
theorem dL_law_690 : decode cL_law 690 = .ok (.aload_n 1, 1) := by decide +kernel
theorem dL_law_691 : decode cL_law 691 = .ok (.aload_n 0, 1) := by decide +kernel
theorem dL_law_692 : decode cL_law 692 = .ok (.iload 4, 2) := by decide +kernel
theorem dL_law_694 : decode cL_law 694 = .ok (.iconst 1, 1) := by decide +kernel
theorem dL_law_695 : decode cL_law 695 = .ok (.iadd, 1) := by decide +kernel
theorem dL_law_696 : decode cL_law 696 = .ok (.iaload, 1) := by decide +kernel
theorem dL_law_697 : decode cL_law 697 = .ok (.aload_n 0, 1) := by decide +kernel
theorem dL_law_698 : decode cL_law 698 = .ok (.iload 4, 2) := by decide +kernel
theorem dL_law_700 : decode cL_law 700 = .ok (.iconst 2, 1) := by decide +kernel
theorem dL_law_701 : decode cL_law 701 = .ok (.iadd, 1) := by decide +kernel
theorem dL_law_702 : decode cL_law 702 = .ok (.iaload, 1) := by decide +kernel
theorem dL_law_703 : decode cL_law 703 = .ok (.aload_n 0, 1) := by decide +kernel
theorem dL_law_704 : decode cL_law 704 = .ok (.iload 4, 2) := by decide +kernel
theorem dL_law_706 : decode cL_law 706 = .ok (.iconst 3, 1) := by decide +kernel
theorem dL_law_707 : decode cL_law 707 = .ok (.iadd, 1) := by decide +kernel
theorem dL_law_708 : decode cL_law 708 = .ok (.iaload, 1) := by decide +kernel
theorem dL_law_709 : decode cL_law 709 = .ok (.aload_n 3, 1) := by decide +kernel
theorem dL_law_710 : decode cL_law 710 = .ok (.invokestatic 107, 3) := by decide +kernel
theorem dL_law_713 : decode cL_law 713 = .ok (.istore 5, 2) := by decide +kernel
theorem dL_law_715 : decode cL_law 715 = .ok (.aload_n 2, 1) := by decide +kernel
theorem dL_law_716 : decode cL_law 716 = .ok (.aload_n 0, 1) := by decide +kernel
theorem dL_law_717 : decode cL_law 717 = .ok (.iload 4, 2) := by decide +kernel
theorem dL_law_719 : decode cL_law 719 = .ok (.iconst 1, 1) := by decide +kernel
theorem dL_law_720 : decode cL_law 720 = .ok (.iadd, 1) := by decide +kernel
theorem dL_law_721 : decode cL_law 721 = .ok (.iaload, 1) := by decide +kernel
theorem dL_law_722 : decode cL_law 722 = .ok (.aload_n 0, 1) := by decide +kernel
theorem dL_law_723 : decode cL_law 723 = .ok (.iload 4, 2) := by decide +kernel
theorem dL_law_725 : decode cL_law 725 = .ok (.iconst 2, 1) := by decide +kernel
theorem dL_law_726 : decode cL_law 726 = .ok (.iadd, 1) := by decide +kernel
theorem dL_law_727 : decode cL_law 727 = .ok (.iaload, 1) := by decide +kernel
theorem dL_law_728 : decode cL_law 728 = .ok (.aload_n 0, 1) := by decide +kernel
theorem dL_law_729 : decode cL_law 729 = .ok (.iload 4, 2) := by decide +kernel
theorem dL_law_731 : decode cL_law 731 = .ok (.iconst 3, 1) := by decide +kernel
theorem dL_law_732 : decode cL_law 732 = .ok (.iadd, 1) := by decide +kernel
theorem dL_law_733 : decode cL_law 733 = .ok (.iaload, 1) := by decide +kernel
theorem dL_law_734 : decode cL_law 734 = .ok (.invokevirtual 109, 3) := by decide +kernel
theorem dL_law_737 : decode cL_law 737 = .ok (.istore 6, 2) := by decide +kernel
theorem dL_law_739 : decode cL_law 739 = .ok (.aload_n 2, 1) := by decide +kernel
theorem dL_law_740 : decode cL_law 740 = .ok (.invokevirtual 94, 3) := by decide +kernel
theorem dL_law_743 : decode cL_law 743 = .ok (.iload 5, 2) := by decide +kernel
theorem dL_law_745 : decode cL_law 745 = .ok (.if_icmp .eq 5, 3) := by decide +kernel
theorem dL_law_748 : decode cL_law 748 = .ok (.iconst 0, 1) := by decide +kernel
theorem dL_law_749 : decode cL_law 749 = .ok (.ireturn, 1) := by decide +kernel
theorem dL_law_750 : decode cL_law 750 = .ok (.iload 5, 2) := by decide +kernel
theorem dL_law_752 : decode cL_law 752 = .ok (.ifCond .ne 15, 3) := by decide +kernel
theorem dL_law_755 : decode cL_law 755 = .ok (.aload_n 3, 1) := by decide +kernel
theorem dL_law_756 : decode cL_law 756 = .ok (.iconst 0, 1) := by decide +kernel
theorem dL_law_757 : decode cL_law 757 = .ok (.laload, 1) := by decide +kernel
theorem dL_law_758 : decode cL_law 758 = .ok (.iload 6, 2) := by decide +kernel
theorem dL_law_760 : decode cL_law 760 = .ok (.i2l, 1) := by decide +kernel
theorem dL_law_761 : decode cL_law 761 = .ok (.lcmp, 1) := by decide +kernel
theorem dL_law_762 : decode cL_law 762 = .ok (.ifCond .eq 5, 3) := by decide +kernel
theorem dL_law_765 : decode cL_law 765 = .ok (.iconst 0, 1) := by decide +kernel
theorem dL_law_766 : decode cL_law 766 = .ok (.ireturn, 1) := by decide +kernel
theorem dL_law_767 : decode cL_law 767 = .ok (.goto 715, 3) := by decide +kernel
theorem dL_law_770 : decode cL_law 770 = .ok (.aload_n 1, 1) := by decide +kernel
theorem dL_law_771 : decode cL_law 771 = .ok (.aload_n 0, 1) := by decide +kernel
theorem dL_law_772 : decode cL_law 772 = .ok (.iload 4, 2) := by decide +kernel
theorem dL_law_774 : decode cL_law 774 = .ok (.iconst 1, 1) := by decide +kernel
theorem dL_law_775 : decode cL_law 775 = .ok (.iadd, 1) := by decide +kernel
theorem dL_law_776 : decode cL_law 776 = .ok (.iaload, 1) := by decide +kernel
theorem dL_law_777 : decode cL_law 777 = .ok (.aload_n 0, 1) := by decide +kernel
theorem dL_law_778 : decode cL_law 778 = .ok (.iload 4, 2) := by decide +kernel
theorem dL_law_780 : decode cL_law 780 = .ok (.iconst 2, 1) := by decide +kernel
theorem dL_law_781 : decode cL_law 781 = .ok (.iadd, 1) := by decide +kernel
theorem dL_law_782 : decode cL_law 782 = .ok (.iaload, 1) := by decide +kernel
theorem dL_law_783 : decode cL_law 783 = .ok (.invokevirtual 110, 3) := by decide +kernel
theorem dL_law_786 : decode cL_law 786 = .ok (.aload_n 2, 1) := by decide +kernel
theorem dL_law_787 : decode cL_law 787 = .ok (.aload_n 0, 1) := by decide +kernel
theorem dL_law_788 : decode cL_law 788 = .ok (.iload 4, 2) := by decide +kernel
theorem dL_law_790 : decode cL_law 790 = .ok (.iconst 1, 1) := by decide +kernel
theorem dL_law_791 : decode cL_law 791 = .ok (.iadd, 1) := by decide +kernel
theorem dL_law_792 : decode cL_law 792 = .ok (.iaload, 1) := by decide +kernel
theorem dL_law_793 : decode cL_law 793 = .ok (.aload_n 0, 1) := by decide +kernel
theorem dL_law_794 : decode cL_law 794 = .ok (.iload 4, 2) := by decide +kernel
theorem dL_law_796 : decode cL_law 796 = .ok (.iconst 2, 1) := by decide +kernel
theorem dL_law_797 : decode cL_law 797 = .ok (.iadd, 1) := by decide +kernel
theorem dL_law_798 : decode cL_law 798 = .ok (.iaload, 1) := by decide +kernel
theorem dL_law_799 : decode cL_law 799 = .ok (.invokevirtual 113, 3) := by decide +kernel
theorem dL_law_802 : decode cL_law 802 = .ok (.if_icmp .eq 680, 3) := by decide +kernel
theorem dL_law_805 : decode cL_law 805 = .ok (.iconst 0, 1) := by decide +kernel
theorem dL_law_806 : decode cL_law 806 = .ok (.ireturn, 1) := by decide +kernel
theorem dL_law_807 : decode cL_law 807 = .ok (.aload_n 1, 1) := by decide +kernel
theorem dL_law_808 : decode cL_law 808 = .ok (.aload_n 0, 1) := by decide +kernel
theorem dL_law_809 : decode cL_law 809 = .ok (.iload 4, 2) := by decide +kernel
theorem dL_law_811 : decode cL_law 811 = .ok (.iconst 1, 1) := by decide +kernel
theorem dL_law_812 : decode cL_law 812 = .ok (.iadd, 1) := by decide +kernel
theorem dL_law_813 : decode cL_law 813 = .ok (.iaload, 1) := by decide +kernel
theorem dL_law_814 : decode cL_law 814 = .ok (.ifCond .eq 7, 3) := by decide +kernel
theorem dL_law_817 : decode cL_law 817 = .ok (.iconst 1, 1) := by decide +kernel
theorem dL_law_818 : decode cL_law 818 = .ok (.goto 4, 3) := by decide +kernel
theorem dL_law_821 : decode cL_law 821 = .ok (.iconst 0, 1) := by decide +kernel
theorem dL_law_822 : decode cL_law 822 = .ok (.invokevirtual 114, 3) := by decide +kernel
theorem dL_law_825 : decode cL_law 825 = .ok (.aload_n 2, 1) := by decide +kernel
theorem dL_law_826 : decode cL_law 826 = .ok (.aload_n 0, 1) := by decide +kernel
theorem dL_law_827 : decode cL_law 827 = .ok (.iload 4, 2) := by decide +kernel
theorem dL_law_829 : decode cL_law 829 = .ok (.iconst 1, 1) := by decide +kernel
theorem dL_law_830 : decode cL_law 830 = .ok (.iadd, 1) := by decide +kernel
theorem dL_law_831 : decode cL_law 831 = .ok (.iaload, 1) := by decide +kernel
theorem dL_law_832 : decode cL_law 832 = .ok (.ifCond .eq 7, 3) := by decide +kernel
theorem dL_law_835 : decode cL_law 835 = .ok (.iconst 1, 1) := by decide +kernel
theorem dL_law_836 : decode cL_law 836 = .ok (.goto 4, 3) := by decide +kernel
theorem dL_law_839 : decode cL_law 839 = .ok (.iconst 0, 1) := by decide +kernel
theorem dL_law_840 : decode cL_law 840 = .ok (.invokevirtual 117, 3) := by decide +kernel
theorem dL_law_843 : decode cL_law 843 = .ok (.if_icmp .eq 639, 3) := by decide +kernel
theorem dL_law_846 : decode cL_law 846 = .ok (.iconst 0, 1) := by decide +kernel
theorem dL_law_847 : decode cL_law 847 = .ok (.ireturn, 1) := by decide +kernel
theorem dL_law_848 : decode cL_law 848 = .ok (.aload_n 1, 1) := by decide +kernel
theorem dL_law_849 : decode cL_law 849 = .ok (.aload_n 0, 1) := by decide +kernel
theorem dL_law_850 : decode cL_law 850 = .ok (.iload 4, 2) := by decide +kernel
theorem dL_law_852 : decode cL_law 852 = .ok (.iconst 1, 1) := by decide +kernel
theorem dL_law_853 : decode cL_law 853 = .ok (.iadd, 1) := by decide +kernel
theorem dL_law_854 : decode cL_law 854 = .ok (.iaload, 1) := by decide +kernel
theorem dL_law_855 : decode cL_law 855 = .ok (.invokevirtual 118, 3) := by decide +kernel
theorem dL_law_858 : decode cL_law 858 = .ok (.aload_n 2, 1) := by decide +kernel
theorem dL_law_859 : decode cL_law 859 = .ok (.aload_n 0, 1) := by decide +kernel
theorem dL_law_860 : decode cL_law 860 = .ok (.iload 4, 2) := by decide +kernel
theorem dL_law_862 : decode cL_law 862 = .ok (.iconst 1, 1) := by decide +kernel
theorem dL_law_863 : decode cL_law 863 = .ok (.iadd, 1) := by decide +kernel
theorem dL_law_864 : decode cL_law 864 = .ok (.iaload, 1) := by decide +kernel
theorem dL_law_865 : decode cL_law 865 = .ok (.invokevirtual 121, 3) := by decide +kernel
theorem dL_law_868 : decode cL_law 868 = .ok (.if_icmp .eq 614, 3) := by decide +kernel
theorem dL_law_871 : decode cL_law 871 = .ok (.iconst 0, 1) := by decide +kernel
theorem dL_law_872 : decode cL_law 872 = .ok (.ireturn, 1) := by decide +kernel
theorem dL_law_873 : decode cL_law 873 = .ok (.aload_n 1, 1) := by decide +kernel
theorem dL_law_874 : decode cL_law 874 = .ok (.invokevirtual 122, 3) := by decide +kernel
theorem dL_law_877 : decode cL_law 877 = .ok (.aload_n 2, 1) := by decide +kernel
theorem dL_law_878 : decode cL_law 878 = .ok (.invokevirtual 125, 3) := by decide +kernel
theorem dL_law_881 : decode cL_law 881 = .ok (.if_icmp .eq 601, 3) := by decide +kernel
theorem dL_law_884 : decode cL_law 884 = .ok (.iconst 0, 1) := by decide +kernel
theorem dL_law_885 : decode cL_law 885 = .ok (.ireturn, 1) := by decide +kernel
theorem dL_law_886 : decode cL_law 886 = .ok (.aload_n 1, 1) := by decide +kernel
theorem dL_law_887 : decode cL_law 887 = .ok (.aload_n 0, 1) := by decide +kernel
theorem dL_law_888 : decode cL_law 888 = .ok (.iload 4, 2) := by decide +kernel
theorem dL_law_890 : decode cL_law 890 = .ok (.iconst 1, 1) := by decide +kernel
theorem dL_law_891 : decode cL_law 891 = .ok (.iadd, 1) := by decide +kernel
theorem dL_law_892 : decode cL_law 892 = .ok (.iaload, 1) := by decide +kernel
theorem dL_law_893 : decode cL_law 893 = .ok (.aload_n 3, 1) := by decide +kernel
theorem dL_law_894 : decode cL_law 894 = .ok (.invokestatic 126, 3) := by decide +kernel
theorem dL_law_897 : decode cL_law 897 = .ok (.istore 5, 2) := by decide +kernel
theorem dL_law_899 : decode cL_law 899 = .ok (.aload_n 2, 1) := by decide +kernel
theorem dL_law_900 : decode cL_law 900 = .ok (.aload_n 0, 1) := by decide +kernel
theorem dL_law_901 : decode cL_law 901 = .ok (.iload 4, 2) := by decide +kernel
theorem dL_law_903 : decode cL_law 903 = .ok (.iconst 1, 1) := by decide +kernel
theorem dL_law_904 : decode cL_law 904 = .ok (.iadd, 1) := by decide +kernel
theorem dL_law_905 : decode cL_law 905 = .ok (.iaload, 1) := by decide +kernel
theorem dL_law_906 : decode cL_law 906 = .ok (.invokevirtual 129, 3) := by decide +kernel
theorem dL_law_909 : decode cL_law 909 = .ok (.istore 6, 2) := by decide +kernel
theorem dL_law_911 : decode cL_law 911 = .ok (.aload_n 2, 1) := by decide +kernel
theorem dL_law_912 : decode cL_law 912 = .ok (.invokevirtual 94, 3) := by decide +kernel
theorem dL_law_915 : decode cL_law 915 = .ok (.iload 5, 2) := by decide +kernel
theorem dL_law_917 : decode cL_law 917 = .ok (.if_icmp .eq 5, 3) := by decide +kernel
theorem dL_law_920 : decode cL_law 920 = .ok (.iconst 0, 1) := by decide +kernel
theorem dL_law_921 : decode cL_law 921 = .ok (.ireturn, 1) := by decide +kernel
theorem dL_law_922 : decode cL_law 922 = .ok (.iload 5, 2) := by decide +kernel
theorem dL_law_924 : decode cL_law 924 = .ok (.ifCond .ne 15, 3) := by decide +kernel
theorem dL_law_927 : decode cL_law 927 = .ok (.aload_n 3, 1) := by decide +kernel
theorem dL_law_928 : decode cL_law 928 = .ok (.iconst 0, 1) := by decide +kernel
theorem dL_law_929 : decode cL_law 929 = .ok (.laload, 1) := by decide +kernel
theorem dL_law_930 : decode cL_law 930 = .ok (.iload 6, 2) := by decide +kernel
theorem dL_law_932 : decode cL_law 932 = .ok (.i2l, 1) := by decide +kernel
theorem dL_law_933 : decode cL_law 933 = .ok (.lcmp, 1) := by decide +kernel
theorem dL_law_934 : decode cL_law 934 = .ok (.ifCond .eq 5, 3) := by decide +kernel
theorem dL_law_937 : decode cL_law 937 = .ok (.iconst 0, 1) := by decide +kernel
theorem dL_law_938 : decode cL_law 938 = .ok (.ireturn, 1) := by decide +kernel
theorem dL_law_939 : decode cL_law 939 = .ok (.goto 543, 3) := by decide +kernel
theorem dL_law_942 : decode cL_law 942 = .ok (.aload_n 1, 1) := by decide +kernel
theorem dL_law_943 : decode cL_law 943 = .ok (.aload_n 0, 1) := by decide +kernel
theorem dL_law_944 : decode cL_law 944 = .ok (.iload 4, 2) := by decide +kernel
theorem dL_law_946 : decode cL_law 946 = .ok (.iconst 1, 1) := by decide +kernel
theorem dL_law_947 : decode cL_law 947 = .ok (.iadd, 1) := by decide +kernel
theorem dL_law_948 : decode cL_law 948 = .ok (.iaload, 1) := by decide +kernel
theorem dL_law_949 : decode cL_law 949 = .ok (.aload_n 3, 1) := by decide +kernel
theorem dL_law_950 : decode cL_law 950 = .ok (.invokestatic 130, 3) := by decide +kernel
theorem dL_law_953 : decode cL_law 953 = .ok (.istore 5, 2) := by decide +kernel
theorem dL_law_955 : decode cL_law 955 = .ok (.aload_n 2, 1) := by decide +kernel
theorem dL_law_956 : decode cL_law 956 = .ok (.aload_n 0, 1) := by decide +kernel
theorem dL_law_957 : decode cL_law 957 = .ok (.iload 4, 2) := by decide +kernel
theorem dL_law_959 : decode cL_law 959 = .ok (.iconst 1, 1) := by decide +kernel
theorem dL_law_960 : decode cL_law 960 = .ok (.iadd, 1) := by decide +kernel
theorem dL_law_961 : decode cL_law 961 = .ok (.iaload, 1) := by decide +kernel
theorem dL_law_962 : decode cL_law 962 = .ok (.invokevirtual 132, 3) := by decide +kernel
theorem dL_law_965 : decode cL_law 965 = .ok (.istore 6, 2) := by decide +kernel
theorem dL_law_967 : decode cL_law 967 = .ok (.aload_n 2, 1) := by decide +kernel
theorem dL_law_968 : decode cL_law 968 = .ok (.invokevirtual 94, 3) := by decide +kernel
theorem dL_law_971 : decode cL_law 971 = .ok (.iload 5, 2) := by decide +kernel
theorem dL_law_973 : decode cL_law 973 = .ok (.if_icmp .eq 5, 3) := by decide +kernel
theorem dL_law_976 : decode cL_law 976 = .ok (.iconst 0, 1) := by decide +kernel
theorem dL_law_977 : decode cL_law 977 = .ok (.ireturn, 1) := by decide +kernel
theorem dL_law_978 : decode cL_law 978 = .ok (.iload 5, 2) := by decide +kernel
theorem dL_law_980 : decode cL_law 980 = .ok (.ifCond .ne 15, 3) := by decide +kernel
theorem dL_law_983 : decode cL_law 983 = .ok (.aload_n 3, 1) := by decide +kernel
theorem dL_law_984 : decode cL_law 984 = .ok (.iconst 0, 1) := by decide +kernel
theorem dL_law_985 : decode cL_law 985 = .ok (.laload, 1) := by decide +kernel
theorem dL_law_986 : decode cL_law 986 = .ok (.iload 6, 2) := by decide +kernel
theorem dL_law_988 : decode cL_law 988 = .ok (.i2l, 1) := by decide +kernel
theorem dL_law_989 : decode cL_law 989 = .ok (.lcmp, 1) := by decide +kernel
theorem dL_law_990 : decode cL_law 990 = .ok (.ifCond .eq 5, 3) := by decide +kernel
theorem dL_law_993 : decode cL_law 993 = .ok (.iconst 0, 1) := by decide +kernel
theorem dL_law_994 : decode cL_law 994 = .ok (.ireturn, 1) := by decide +kernel
theorem dL_law_995 : decode cL_law 995 = .ok (.goto 487, 3) := by decide +kernel
theorem dL_law_998 : decode cL_law 998 = .ok (.aload_n 1, 1) := by decide +kernel
theorem dL_law_999 : decode cL_law 999 = .ok (.aload_n 0, 1) := by decide +kernel
theorem dL_law_1000 : decode cL_law 1000 = .ok (.iload 4, 2) := by decide +kernel
theorem dL_law_1002 : decode cL_law 1002 = .ok (.iconst 1, 1) := by decide +kernel
theorem dL_law_1003 : decode cL_law 1003 = .ok (.iadd, 1) := by decide +kernel
theorem dL_law_1004 : decode cL_law 1004 = .ok (.iaload, 1) := by decide +kernel
theorem dL_law_1005 : decode cL_law 1005 = .ok (.aload_n 3, 1) := by decide +kernel
theorem dL_law_1006 : decode cL_law 1006 = .ok (.invokestatic 133, 3) := by decide +kernel
theorem dL_law_1009 : decode cL_law 1009 = .ok (.istore 5, 2) := by decide +kernel
theorem dL_law_1011 : decode cL_law 1011 = .ok (.aload_n 2, 1) := by decide +kernel
theorem dL_law_1012 : decode cL_law 1012 = .ok (.aload_n 0, 1) := by decide +kernel
theorem dL_law_1013 : decode cL_law 1013 = .ok (.iload 4, 2) := by decide +kernel
theorem dL_law_1015 : decode cL_law 1015 = .ok (.iconst 1, 1) := by decide +kernel
theorem dL_law_1016 : decode cL_law 1016 = .ok (.iadd, 1) := by decide +kernel
theorem dL_law_1017 : decode cL_law 1017 = .ok (.iaload, 1) := by decide +kernel
theorem dL_law_1018 : decode cL_law 1018 = .ok (.invokevirtual 135, 3) := by decide +kernel
theorem dL_law_1021 : decode cL_law 1021 = .ok (.istore 6, 2) := by decide +kernel
theorem dL_law_1023 : decode cL_law 1023 = .ok (.aload_n 2, 1) := by decide +kernel
theorem dL_law_1024 : decode cL_law 1024 = .ok (.invokevirtual 94, 3) := by decide +kernel
theorem dL_law_1027 : decode cL_law 1027 = .ok (.iload 5, 2) := by decide +kernel
theorem dL_law_1029 : decode cL_law 1029 = .ok (.if_icmp .eq 5, 3) := by decide +kernel
theorem dL_law_1032 : decode cL_law 1032 = .ok (.iconst 0, 1) := by decide +kernel
theorem dL_law_1033 : decode cL_law 1033 = .ok (.ireturn, 1) := by decide +kernel
theorem dL_law_1034 : decode cL_law 1034 = .ok (.iload 5, 2) := by decide +kernel
theorem dL_law_1036 : decode cL_law 1036 = .ok (.ifCond .ne 22, 3) := by decide +kernel
theorem dL_law_1039 : decode cL_law 1039 = .ok (.aload_n 3, 1) := by decide +kernel
theorem dL_law_1040 : decode cL_law 1040 = .ok (.iconst 0, 1) := by decide +kernel
theorem dL_law_1041 : decode cL_law 1041 = .ok (.laload, 1) := by decide +kernel
theorem dL_law_1042 : decode cL_law 1042 = .ok (.iload 6, 2) := by decide +kernel
theorem dL_law_1044 : decode cL_law 1044 = .ok (.ifCond .eq 7, 3) := by decide +kernel
theorem dL_law_1047 : decode cL_law 1047 = .ok (.lconst 1, 1) := by decide +kernel
theorem dL_law_1048 : decode cL_law 1048 = .ok (.goto 4, 3) := by decide +kernel
theorem dL_law_1051 : decode cL_law 1051 = .ok (.lconst 0, 1) := by decide +kernel
theorem dL_law_1052 : decode cL_law 1052 = .ok (.lcmp, 1) := by decide +kernel
theorem dL_law_1053 : decode cL_law 1053 = .ok (.ifCond .eq 5, 3) := by decide +kernel
theorem dL_law_1056 : decode cL_law 1056 = .ok (.iconst 0, 1) := by decide +kernel
theorem dL_law_1057 : decode cL_law 1057 = .ok (.ireturn, 1) := by decide +kernel
theorem dL_law_1058 : decode cL_law 1058 = .ok (.goto 424, 3) := by decide +kernel
theorem dL_law_1061 : decode cL_law 1061 = .ok (.aload_n 1, 1) := by decide +kernel
theorem dL_law_1062 : decode cL_law 1062 = .ok (.aload_n 0, 1) := by decide +kernel
theorem dL_law_1063 : decode cL_law 1063 = .ok (.iload 4, 2) := by decide +kernel
theorem dL_law_1065 : decode cL_law 1065 = .ok (.iconst 1, 1) := by decide +kernel
theorem dL_law_1066 : decode cL_law 1066 = .ok (.iadd, 1) := by decide +kernel
theorem dL_law_1067 : decode cL_law 1067 = .ok (.iaload, 1) := by decide +kernel
theorem dL_law_1068 : decode cL_law 1068 = .ok (.aload_n 3, 1) := by decide +kernel
theorem dL_law_1069 : decode cL_law 1069 = .ok (.invokestatic 136, 3) := by decide +kernel
theorem dL_law_1072 : decode cL_law 1072 = .ok (.istore 5, 2) := by decide +kernel
theorem dL_law_1074 : decode cL_law 1074 = .ok (.aload_n 2, 1) := by decide +kernel
theorem dL_law_1075 : decode cL_law 1075 = .ok (.aload_n 0, 1) := by decide +kernel
theorem dL_law_1076 : decode cL_law 1076 = .ok (.iload 4, 2) := by decide +kernel
theorem dL_law_1078 : decode cL_law 1078 = .ok (.iconst 1, 1) := by decide +kernel
theorem dL_law_1079 : decode cL_law 1079 = .ok (.iadd, 1) := by decide +kernel
theorem dL_law_1080 : decode cL_law 1080 = .ok (.iaload, 1) := by decide +kernel
theorem dL_law_1081 : decode cL_law 1081 = .ok (.invokevirtual 138, 3) := by decide +kernel
theorem dL_law_1084 : decode cL_law 1084 = .ok (.istore 6, 2) := by decide +kernel
theorem dL_law_1086 : decode cL_law 1086 = .ok (.aload_n 2, 1) := by decide +kernel
theorem dL_law_1087 : decode cL_law 1087 = .ok (.invokevirtual 94, 3) := by decide +kernel
theorem dL_law_1090 : decode cL_law 1090 = .ok (.iload 5, 2) := by decide +kernel
theorem dL_law_1092 : decode cL_law 1092 = .ok (.if_icmp .eq 5, 3) := by decide +kernel
theorem dL_law_1095 : decode cL_law 1095 = .ok (.iconst 0, 1) := by decide +kernel
theorem dL_law_1096 : decode cL_law 1096 = .ok (.ireturn, 1) := by decide +kernel
theorem dL_law_1097 : decode cL_law 1097 = .ok (.iload 5, 2) := by decide +kernel
theorem dL_law_1099 : decode cL_law 1099 = .ok (.ifCond .ne 15, 3) := by decide +kernel
theorem dL_law_1102 : decode cL_law 1102 = .ok (.aload_n 3, 1) := by decide +kernel
theorem dL_law_1103 : decode cL_law 1103 = .ok (.iconst 0, 1) := by decide +kernel
theorem dL_law_1104 : decode cL_law 1104 = .ok (.laload, 1) := by decide +kernel
theorem dL_law_1105 : decode cL_law 1105 = .ok (.iload 6, 2) := by decide +kernel
theorem dL_law_1107 : decode cL_law 1107 = .ok (.i2l, 1) := by decide +kernel
theorem dL_law_1108 : decode cL_law 1108 = .ok (.lcmp, 1) := by decide +kernel
theorem dL_law_1109 : decode cL_law 1109 = .ok (.ifCond .eq 5, 3) := by decide +kernel
theorem dL_law_1112 : decode cL_law 1112 = .ok (.iconst 0, 1) := by decide +kernel
theorem dL_law_1113 : decode cL_law 1113 = .ok (.ireturn, 1) := by decide +kernel
theorem dL_law_1114 : decode cL_law 1114 = .ok (.goto 368, 3) := by decide +kernel
theorem dL_law_1117 : decode cL_law 1117 = .ok (.aload_n 1, 1) := by decide +kernel
theorem dL_law_1118 : decode cL_law 1118 = .ok (.invokevirtual 139, 3) := by decide +kernel
theorem dL_law_1121 : decode cL_law 1121 = .ok (.aload_n 2, 1) := by decide +kernel
theorem dL_law_1122 : decode cL_law 1122 = .ok (.invokevirtual 142, 3) := by decide +kernel
theorem dL_law_1125 : decode cL_law 1125 = .ok (.if_icmp .eq 357, 3) := by decide +kernel
theorem dL_law_1128 : decode cL_law 1128 = .ok (.iconst 0, 1) := by decide +kernel
theorem dL_law_1129 : decode cL_law 1129 = .ok (.ireturn, 1) := by decide +kernel
theorem dL_law_1130 : decode cL_law 1130 = .ok (.aload_n 1, 1) := by decide +kernel
theorem dL_law_1131 : decode cL_law 1131 = .ok (.aload_n 0, 1) := by decide +kernel
theorem dL_law_1132 : decode cL_law 1132 = .ok (.iload 4, 2) := by decide +kernel
theorem dL_law_1134 : decode cL_law 1134 = .ok (.iconst 1, 1) := by decide +kernel
theorem dL_law_1135 : decode cL_law 1135 = .ok (.iadd, 1) := by decide +kernel
theorem dL_law_1136 : decode cL_law 1136 = .ok (.iaload, 1) := by decide +kernel
theorem dL_law_1137 : decode cL_law 1137 = .ok (.aload_n 3, 1) := by decide +kernel
theorem dL_law_1138 : decode cL_law 1138 = .ok (.invokestatic 143, 3) := by decide +kernel
theorem dL_law_1141 : decode cL_law 1141 = .ok (.istore 5, 2) := by decide +kernel
theorem dL_law_1143 : decode cL_law 1143 = .ok (.aload_n 2, 1) := by decide +kernel
theorem dL_law_1144 : decode cL_law 1144 = .ok (.aload_n 0, 1) := by decide +kernel
theorem dL_law_1145 : decode cL_law 1145 = .ok (.iload 4, 2) := by decide +kernel
theorem dL_law_1147 : decode cL_law 1147 = .ok (.iconst 1, 1) := by decide +kernel
theorem dL_law_1148 : decode cL_law 1148 = .ok (.iadd, 1) := by decide +kernel
theorem dL_law_1149 : decode cL_law 1149 = .ok (.iaload, 1) := by decide +kernel
theorem dL_law_1150 : decode cL_law 1150 = .ok (.invokevirtual 145, 3) := by decide +kernel
theorem dL_law_1153 : decode cL_law 1153 = .ok (.istore 6, 2) := by decide +kernel
theorem dL_law_1155 : decode cL_law 1155 = .ok (.aload_n 2, 1) := by decide +kernel
theorem dL_law_1156 : decode cL_law 1156 = .ok (.invokevirtual 94, 3) := by decide +kernel
theorem dL_law_1159 : decode cL_law 1159 = .ok (.iload 5, 2) := by decide +kernel
theorem dL_law_1161 : decode cL_law 1161 = .ok (.if_icmp .eq 5, 3) := by decide +kernel
theorem dL_law_1164 : decode cL_law 1164 = .ok (.iconst 0, 1) := by decide +kernel
theorem dL_law_1165 : decode cL_law 1165 = .ok (.ireturn, 1) := by decide +kernel
theorem dL_law_1166 : decode cL_law 1166 = .ok (.iload 5, 2) := by decide +kernel
theorem dL_law_1168 : decode cL_law 1168 = .ok (.ifCond .ne 15, 3) := by decide +kernel
theorem dL_law_1171 : decode cL_law 1171 = .ok (.aload_n 3, 1) := by decide +kernel
theorem dL_law_1172 : decode cL_law 1172 = .ok (.iconst 0, 1) := by decide +kernel
theorem dL_law_1173 : decode cL_law 1173 = .ok (.laload, 1) := by decide +kernel
theorem dL_law_1174 : decode cL_law 1174 = .ok (.iload 6, 2) := by decide +kernel
theorem dL_law_1176 : decode cL_law 1176 = .ok (.i2l, 1) := by decide +kernel
theorem dL_law_1177 : decode cL_law 1177 = .ok (.lcmp, 1) := by decide +kernel
theorem dL_law_1178 : decode cL_law 1178 = .ok (.ifCond .eq 5, 3) := by decide +kernel
theorem dL_law_1181 : decode cL_law 1181 = .ok (.iconst 0, 1) := by decide +kernel
theorem dL_law_1182 : decode cL_law 1182 = .ok (.ireturn, 1) := by decide +kernel
theorem dL_law_1183 : decode cL_law 1183 = .ok (.goto 299, 3) := by decide +kernel
theorem dL_law_1186 : decode cL_law 1186 = .ok (.aload_n 1, 1) := by decide +kernel
theorem dL_law_1187 : decode cL_law 1187 = .ok (.aload_n 0, 1) := by decide +kernel
theorem dL_law_1188 : decode cL_law 1188 = .ok (.iload 4, 2) := by decide +kernel
theorem dL_law_1190 : decode cL_law 1190 = .ok (.iconst 1, 1) := by decide +kernel
theorem dL_law_1191 : decode cL_law 1191 = .ok (.iadd, 1) := by decide +kernel
theorem dL_law_1192 : decode cL_law 1192 = .ok (.iaload, 1) := by decide +kernel
theorem dL_law_1193 : decode cL_law 1193 = .ok (.invokevirtual 146, 3) := by decide +kernel
theorem dL_law_1196 : decode cL_law 1196 = .ok (.aload_n 2, 1) := by decide +kernel
theorem dL_law_1197 : decode cL_law 1197 = .ok (.aload_n 0, 1) := by decide +kernel
theorem dL_law_1198 : decode cL_law 1198 = .ok (.iload 4, 2) := by decide +kernel
theorem dL_law_1200 : decode cL_law 1200 = .ok (.iconst 1, 1) := by decide +kernel
theorem dL_law_1201 : decode cL_law 1201 = .ok (.iadd, 1) := by decide +kernel
theorem dL_law_1202 : decode cL_law 1202 = .ok (.iaload, 1) := by decide +kernel
theorem dL_law_1203 : decode cL_law 1203 = .ok (.invokevirtual 149, 3) := by decide +kernel
theorem dL_law_1206 : decode cL_law 1206 = .ok (.if_icmp .eq 276, 3) := by decide +kernel
theorem dL_law_1209 : decode cL_law 1209 = .ok (.iconst 0, 1) := by decide +kernel
theorem dL_law_1210 : decode cL_law 1210 = .ok (.ireturn, 1) := by decide +kernel
theorem dL_law_1211 : decode cL_law 1211 = .ok (.aload_n 1, 1) := by decide +kernel
theorem dL_law_1212 : decode cL_law 1212 = .ok (.aload_n 3, 1) := by decide +kernel
theorem dL_law_1213 : decode cL_law 1213 = .ok (.invokestatic 150, 3) := by decide +kernel
theorem dL_law_1216 : decode cL_law 1216 = .ok (.istore 5, 2) := by decide +kernel
theorem dL_law_1218 : decode cL_law 1218 = .ok (.aload_n 2, 1) := by decide +kernel
theorem dL_law_1219 : decode cL_law 1219 = .ok (.invokevirtual 153, 3) := by decide +kernel
theorem dL_law_1222 : decode cL_law 1222 = .ok (.istore 6, 2) := by decide +kernel
theorem dL_law_1224 : decode cL_law 1224 = .ok (.aload_n 2, 1) := by decide +kernel
theorem dL_law_1225 : decode cL_law 1225 = .ok (.invokevirtual 94, 3) := by decide +kernel
theorem dL_law_1228 : decode cL_law 1228 = .ok (.iload 5, 2) := by decide +kernel
theorem dL_law_1230 : decode cL_law 1230 = .ok (.if_icmp .eq 5, 3) := by decide +kernel
theorem dL_law_1233 : decode cL_law 1233 = .ok (.iconst 0, 1) := by decide +kernel
theorem dL_law_1234 : decode cL_law 1234 = .ok (.ireturn, 1) := by decide +kernel
theorem dL_law_1235 : decode cL_law 1235 = .ok (.iload 5, 2) := by decide +kernel
theorem dL_law_1237 : decode cL_law 1237 = .ok (.ifCond .ne 15, 3) := by decide +kernel
theorem dL_law_1240 : decode cL_law 1240 = .ok (.aload_n 3, 1) := by decide +kernel
theorem dL_law_1241 : decode cL_law 1241 = .ok (.iconst 0, 1) := by decide +kernel
theorem dL_law_1242 : decode cL_law 1242 = .ok (.laload, 1) := by decide +kernel
theorem dL_law_1243 : decode cL_law 1243 = .ok (.iload 6, 2) := by decide +kernel
theorem dL_law_1245 : decode cL_law 1245 = .ok (.i2l, 1) := by decide +kernel
theorem dL_law_1246 : decode cL_law 1246 = .ok (.lcmp, 1) := by decide +kernel
theorem dL_law_1247 : decode cL_law 1247 = .ok (.ifCond .eq 5, 3) := by decide +kernel
theorem dL_law_1250 : decode cL_law 1250 = .ok (.iconst 0, 1) := by decide +kernel
theorem dL_law_1251 : decode cL_law 1251 = .ok (.ireturn, 1) := by decide +kernel
theorem dL_law_1252 : decode cL_law 1252 = .ok (.goto 230, 3) := by decide +kernel
theorem dL_law_1255 : decode cL_law 1255 = .ok (.aload_n 1, 1) := by decide +kernel
theorem dL_law_1256 : decode cL_law 1256 = .ok (.aload_n 0, 1) := by decide +kernel
theorem dL_law_1257 : decode cL_law 1257 = .ok (.iload 4, 2) := by decide +kernel
theorem dL_law_1259 : decode cL_law 1259 = .ok (.iconst 1, 1) := by decide +kernel
theorem dL_law_1260 : decode cL_law 1260 = .ok (.iadd, 1) := by decide +kernel
theorem dL_law_1261 : decode cL_law 1261 = .ok (.iaload, 1) := by decide +kernel
theorem dL_law_1262 : decode cL_law 1262 = .ok (.aload_n 0, 1) := by decide +kernel
theorem dL_law_1263 : decode cL_law 1263 = .ok (.iload 4, 2) := by decide +kernel
theorem dL_law_1265 : decode cL_law 1265 = .ok (.iconst 2, 1) := by decide +kernel
theorem dL_law_1266 : decode cL_law 1266 = .ok (.iadd, 1) := by decide +kernel
theorem dL_law_1267 : decode cL_law 1267 = .ok (.iaload, 1) := by decide +kernel
theorem dL_law_1268 : decode cL_law 1268 = .ok (.aload_n 0, 1) := by decide +kernel
theorem dL_law_1269 : decode cL_law 1269 = .ok (.iload 4, 2) := by decide +kernel
theorem dL_law_1271 : decode cL_law 1271 = .ok (.iconst 3, 1) := by decide +kernel
theorem dL_law_1272 : decode cL_law 1272 = .ok (.iadd, 1) := by decide +kernel
theorem dL_law_1273 : decode cL_law 1273 = .ok (.iaload, 1) := by decide +kernel
theorem dL_law_1274 : decode cL_law 1274 = .ok (.aload_n 0, 1) := by decide +kernel
theorem dL_law_1275 : decode cL_law 1275 = .ok (.iload 4, 2) := by decide +kernel
theorem dL_law_1277 : decode cL_law 1277 = .ok (.iconst 4, 1) := by decide +kernel
theorem dL_law_1278 : decode cL_law 1278 = .ok (.iadd, 1) := by decide +kernel
theorem dL_law_1279 : decode cL_law 1279 = .ok (.iaload, 1) := by decide +kernel
theorem dL_law_1280 : decode cL_law 1280 = .ok (.aload_n 0, 1) := by decide +kernel
theorem dL_law_1281 : decode cL_law 1281 = .ok (.iload 4, 2) := by decide +kernel
theorem dL_law_1283 : decode cL_law 1283 = .ok (.iconst 5, 1) := by decide +kernel
theorem dL_law_1284 : decode cL_law 1284 = .ok (.iadd, 1) := by decide +kernel
theorem dL_law_1285 : decode cL_law 1285 = .ok (.iaload, 1) := by decide +kernel
theorem dL_law_1286 : decode cL_law 1286 = .ok (.invokevirtual 154, 3) := by decide +kernel
theorem dL_law_1289 : decode cL_law 1289 = .ok (.aload_n 2, 1) := by decide +kernel
theorem dL_law_1290 : decode cL_law 1290 = .ok (.aload_n 0, 1) := by decide +kernel
theorem dL_law_1291 : decode cL_law 1291 = .ok (.iload 4, 2) := by decide +kernel
theorem dL_law_1293 : decode cL_law 1293 = .ok (.iconst 1, 1) := by decide +kernel
theorem dL_law_1294 : decode cL_law 1294 = .ok (.iadd, 1) := by decide +kernel
theorem dL_law_1295 : decode cL_law 1295 = .ok (.iaload, 1) := by decide +kernel
theorem dL_law_1296 : decode cL_law 1296 = .ok (.aload_n 0, 1) := by decide +kernel
theorem dL_law_1297 : decode cL_law 1297 = .ok (.iload 4, 2) := by decide +kernel
theorem dL_law_1299 : decode cL_law 1299 = .ok (.iconst 2, 1) := by decide +kernel
theorem dL_law_1300 : decode cL_law 1300 = .ok (.iadd, 1) := by decide +kernel
theorem dL_law_1301 : decode cL_law 1301 = .ok (.iaload, 1) := by decide +kernel
theorem dL_law_1302 : decode cL_law 1302 = .ok (.aload_n 0, 1) := by decide +kernel
theorem dL_law_1303 : decode cL_law 1303 = .ok (.iload 4, 2) := by decide +kernel
theorem dL_law_1305 : decode cL_law 1305 = .ok (.iconst 3, 1) := by decide +kernel
theorem dL_law_1306 : decode cL_law 1306 = .ok (.iadd, 1) := by decide +kernel
theorem dL_law_1307 : decode cL_law 1307 = .ok (.iaload, 1) := by decide +kernel
theorem dL_law_1308 : decode cL_law 1308 = .ok (.aload_n 0, 1) := by decide +kernel
theorem dL_law_1309 : decode cL_law 1309 = .ok (.iload 4, 2) := by decide +kernel
theorem dL_law_1311 : decode cL_law 1311 = .ok (.iconst 4, 1) := by decide +kernel
theorem dL_law_1312 : decode cL_law 1312 = .ok (.iadd, 1) := by decide +kernel
theorem dL_law_1313 : decode cL_law 1313 = .ok (.iaload, 1) := by decide +kernel
theorem dL_law_1314 : decode cL_law 1314 = .ok (.aload_n 0, 1) := by decide +kernel
theorem dL_law_1315 : decode cL_law 1315 = .ok (.iload 4, 2) := by decide +kernel
theorem dL_law_1317 : decode cL_law 1317 = .ok (.iconst 5, 1) := by decide +kernel
theorem dL_law_1318 : decode cL_law 1318 = .ok (.iadd, 1) := by decide +kernel
theorem dL_law_1319 : decode cL_law 1319 = .ok (.iaload, 1) := by decide +kernel
theorem dL_law_1320 : decode cL_law 1320 = .ok (.invokevirtual 157, 3) := by decide +kernel
theorem dL_law_1323 : decode cL_law 1323 = .ok (.if_icmp .eq 159, 3) := by decide +kernel
theorem dL_law_1326 : decode cL_law 1326 = .ok (.iconst 0, 1) := by decide +kernel
theorem dL_law_1327 : decode cL_law 1327 = .ok (.ireturn, 1) := by decide +kernel
theorem dL_law_1328 : decode cL_law 1328 = .ok (.aload_n 1, 1) := by decide +kernel
theorem dL_law_1329 : decode cL_law 1329 = .ok (.aload_n 0, 1) := by decide +kernel
theorem dL_law_1330 : decode cL_law 1330 = .ok (.iload 4, 2) := by decide +kernel
theorem dL_law_1332 : decode cL_law 1332 = .ok (.iconst 1, 1) := by decide +kernel
theorem dL_law_1333 : decode cL_law 1333 = .ok (.iadd, 1) := by decide +kernel
theorem dL_law_1334 : decode cL_law 1334 = .ok (.iaload, 1) := by decide +kernel
theorem dL_law_1335 : decode cL_law 1335 = .ok (.invokevirtual 158, 3) := by decide +kernel
theorem dL_law_1338 : decode cL_law 1338 = .ok (.aload_n 2, 1) := by decide +kernel
theorem dL_law_1339 : decode cL_law 1339 = .ok (.aload_n 0, 1) := by decide +kernel
theorem dL_law_1340 : decode cL_law 1340 = .ok (.iload 4, 2) := by decide +kernel
theorem dL_law_1342 : decode cL_law 1342 = .ok (.iconst 1, 1) := by decide +kernel
theorem dL_law_1343 : decode cL_law 1343 = .ok (.iadd, 1) := by decide +kernel
theorem dL_law_1344 : decode cL_law 1344 = .ok (.iaload, 1) := by decide +kernel
theorem dL_law_1345 : decode cL_law 1345 = .ok (.invokevirtual 161, 3) := by decide +kernel
theorem dL_law_1348 : decode cL_law 1348 = .ok (.if_icmp .eq 134, 3) := by decide +kernel
theorem dL_law_1351 : decode cL_law 1351 = .ok (.iconst 0, 1) := by decide +kernel
theorem dL_law_1352 : decode cL_law 1352 = .ok (.ireturn, 1) := by decide +kernel
theorem dL_law_1353 : decode cL_law 1353 = .ok (.aload_n 1, 1) := by decide +kernel
theorem dL_law_1354 : decode cL_law 1354 = .ok (.invokevirtual 162, 3) := by decide +kernel
theorem dL_law_1357 : decode cL_law 1357 = .ok (.aload_n 2, 1) := by decide +kernel
theorem dL_law_1358 : decode cL_law 1358 = .ok (.invokevirtual 165, 3) := by decide +kernel
theorem dL_law_1361 : decode cL_law 1361 = .ok (.if_icmp .eq 121, 3) := by decide +kernel
theorem dL_law_1364 : decode cL_law 1364 = .ok (.iconst 0, 1) := by decide +kernel
theorem dL_law_1365 : decode cL_law 1365 = .ok (.ireturn, 1) := by decide +kernel
theorem dL_law_1366 : decode cL_law 1366 = .ok (.aload_n 1, 1) := by decide +kernel
theorem dL_law_1367 : decode cL_law 1367 = .ok (.aload_n 0, 1) := by decide +kernel
theorem dL_law_1368 : decode cL_law 1368 = .ok (.iload 4, 2) := by decide +kernel
theorem dL_law_1370 : decode cL_law 1370 = .ok (.iconst 1, 1) := by decide +kernel
theorem dL_law_1371 : decode cL_law 1371 = .ok (.iadd, 1) := by decide +kernel
theorem dL_law_1372 : decode cL_law 1372 = .ok (.iaload, 1) := by decide +kernel
theorem dL_law_1373 : decode cL_law 1373 = .ok (.aload_n 0, 1) := by decide +kernel
theorem dL_law_1374 : decode cL_law 1374 = .ok (.iload 4, 2) := by decide +kernel
theorem dL_law_1376 : decode cL_law 1376 = .ok (.iconst 2, 1) := by decide +kernel
theorem dL_law_1377 : decode cL_law 1377 = .ok (.iadd, 1) := by decide +kernel
theorem dL_law_1378 : decode cL_law 1378 = .ok (.iaload, 1) := by decide +kernel
theorem dL_law_1379 : decode cL_law 1379 = .ok (.ifCond .eq 7, 3) := by decide +kernel
theorem dL_law_1382 : decode cL_law 1382 = .ok (.iconst 1, 1) := by decide +kernel
theorem dL_law_1383 : decode cL_law 1383 = .ok (.goto 4, 3) := by decide +kernel
theorem dL_law_1386 : decode cL_law 1386 = .ok (.iconst 0, 1) := by decide +kernel
theorem dL_law_1387 : decode cL_law 1387 = .ok (.invokevirtual 166, 3) := by decide +kernel
theorem dL_law_1390 : decode cL_law 1390 = .ok (.aload_n 2, 1) := by decide +kernel
theorem dL_law_1391 : decode cL_law 1391 = .ok (.aload_n 0, 1) := by decide +kernel
theorem dL_law_1392 : decode cL_law 1392 = .ok (.iload 4, 2) := by decide +kernel
theorem dL_law_1394 : decode cL_law 1394 = .ok (.iconst 1, 1) := by decide +kernel
theorem dL_law_1395 : decode cL_law 1395 = .ok (.iadd, 1) := by decide +kernel
theorem dL_law_1396 : decode cL_law 1396 = .ok (.iaload, 1) := by decide +kernel
theorem dL_law_1397 : decode cL_law 1397 = .ok (.aload_n 0, 1) := by decide +kernel
theorem dL_law_1398 : decode cL_law 1398 = .ok (.iload 4, 2) := by decide +kernel
theorem dL_law_1400 : decode cL_law 1400 = .ok (.iconst 2, 1) := by decide +kernel
theorem dL_law_1401 : decode cL_law 1401 = .ok (.iadd, 1) := by decide +kernel
theorem dL_law_1402 : decode cL_law 1402 = .ok (.iaload, 1) := by decide +kernel
theorem dL_law_1403 : decode cL_law 1403 = .ok (.ifCond .eq 7, 3) := by decide +kernel
theorem dL_law_1406 : decode cL_law 1406 = .ok (.iconst 1, 1) := by decide +kernel
theorem dL_law_1407 : decode cL_law 1407 = .ok (.goto 4, 3) := by decide +kernel
theorem dL_law_1410 : decode cL_law 1410 = .ok (.iconst 0, 1) := by decide +kernel
theorem dL_law_1411 : decode cL_law 1411 = .ok (.invokevirtual 170, 3) := by decide +kernel
theorem dL_law_1414 : decode cL_law 1414 = .ok (.if_icmp .eq 68, 3) := by decide +kernel
theorem dL_law_1417 : decode cL_law 1417 = .ok (.iconst 0, 1) := by decide +kernel
theorem dL_law_1418 : decode cL_law 1418 = .ok (.ireturn, 1) := by decide +kernel
theorem dL_law_1419 : decode cL_law 1419 = .ok (.aload_n 1, 1) := by decide +kernel
theorem dL_law_1420 : decode cL_law 1420 = .ok (.aload_n 0, 1) := by decide +kernel
theorem dL_law_1421 : decode cL_law 1421 = .ok (.iload 4, 2) := by decide +kernel
theorem dL_law_1423 : decode cL_law 1423 = .ok (.iconst 1, 1) := by decide +kernel
theorem dL_law_1424 : decode cL_law 1424 = .ok (.iadd, 1) := by decide +kernel
theorem dL_law_1425 : decode cL_law 1425 = .ok (.iaload, 1) := by decide +kernel
theorem dL_law_1426 : decode cL_law 1426 = .ok (.invokevirtual 171, 3) := by decide +kernel
theorem dL_law_1429 : decode cL_law 1429 = .ok (.aload_n 2, 1) := by decide +kernel
theorem dL_law_1430 : decode cL_law 1430 = .ok (.aload_n 0, 1) := by decide +kernel
theorem dL_law_1431 : decode cL_law 1431 = .ok (.iload 4, 2) := by decide +kernel
theorem dL_law_1433 : decode cL_law 1433 = .ok (.iconst 1, 1) := by decide +kernel
theorem dL_law_1434 : decode cL_law 1434 = .ok (.iadd, 1) := by decide +kernel
theorem dL_law_1435 : decode cL_law 1435 = .ok (.iaload, 1) := by decide +kernel
theorem dL_law_1436 : decode cL_law 1436 = .ok (.invokevirtual 174, 3) := by decide +kernel
theorem dL_law_1439 : decode cL_law 1439 = .ok (.if_icmp .eq 43, 3) := by decide +kernel
theorem dL_law_1442 : decode cL_law 1442 = .ok (.iconst 0, 1) := by decide +kernel
theorem dL_law_1443 : decode cL_law 1443 = .ok (.ireturn, 1) := by decide +kernel
theorem dL_law_1444 : decode cL_law 1444 = .ok (.aload_n 1, 1) := by decide +kernel
theorem dL_law_1445 : decode cL_law 1445 = .ok (.invokevirtual 175, 3) := by decide +kernel
theorem dL_law_1448 : decode cL_law 1448 = .ok (.aload_n 2, 1) := by decide +kernel
theorem dL_law_1449 : decode cL_law 1449 = .ok (.invokevirtual 178, 3) := by decide +kernel
theorem dL_law_1452 : decode cL_law 1452 = .ok (.if_icmp .eq 30, 3) := by decide +kernel
theorem dL_law_1455 : decode cL_law 1455 = .ok (.iconst 0, 1) := by decide +kernel
theorem dL_law_1456 : decode cL_law 1456 = .ok (.ireturn, 1) := by decide +kernel
theorem dL_law_1457 : decode cL_law 1457 = .ok (.aload_n 1, 1) := by decide +kernel
theorem dL_law_1458 : decode cL_law 1458 = .ok (.aload_n 0, 1) := by decide +kernel
theorem dL_law_1459 : decode cL_law 1459 = .ok (.iload 4, 2) := by decide +kernel
theorem dL_law_1461 : decode cL_law 1461 = .ok (.iconst 1, 1) := by decide +kernel
theorem dL_law_1462 : decode cL_law 1462 = .ok (.iadd, 1) := by decide +kernel
theorem dL_law_1463 : decode cL_law 1463 = .ok (.iaload, 1) := by decide +kernel
theorem dL_law_1464 : decode cL_law 1464 = .ok (.invokevirtual 179, 3) := by decide +kernel
theorem dL_law_1467 : decode cL_law 1467 = .ok (.aload_n 2, 1) := by decide +kernel
theorem dL_law_1468 : decode cL_law 1468 = .ok (.aload_n 0, 1) := by decide +kernel
theorem dL_law_1469 : decode cL_law 1469 = .ok (.iload 4, 2) := by decide +kernel
theorem dL_law_1471 : decode cL_law 1471 = .ok (.iconst 1, 1) := by decide +kernel
theorem dL_law_1472 : decode cL_law 1472 = .ok (.iadd, 1) := by decide +kernel
theorem dL_law_1473 : decode cL_law 1473 = .ok (.iaload, 1) := by decide +kernel
theorem dL_law_1474 : decode cL_law 1474 = .ok (.invokevirtual 182, 3) := by decide +kernel
theorem dL_law_1477 : decode cL_law 1477 = .ok (.if_icmp .eq 5, 3) := by decide +kernel
theorem dL_law_1480 : decode cL_law 1480 = .ok (.iconst 0, 1) := by decide +kernel
theorem dL_law_1481 : decode cL_law 1481 = .ok (.ireturn, 1) := by decide +kernel
theorem dL_law_1482 : decode cL_law 1482 = .ok (.iinc 4 6, 3) := by decide +kernel
theorem dL_law_1485 : decode cL_law 1485 = .ok (.goto (-1462), 3) := by decide +kernel
theorem dL_law_1488 : decode cL_law 1488 = .ok (.iconst 1, 1) := by decide +kernel
theorem dL_law_1489 : decode cL_law 1489 = .ok (.ireturn, 1) := by decide +kernel
