theorem dX8_init_0 : decode cX8_init 0 = .ok (.aload_n 0, 1) := by decide +kernel
theorem dX8_init_1 : decode cX8_init 1 = .ok (.invokespecial 1, 3) := by decide +kernel
theorem dX8_init_4 : decode cX8_init 4 = .ok (.aload_n 0, 1) := by decide +kernel
theorem dX8_init_5 : decode cX8_init 5 = .ok (.new 7, 3) := by decide +kernel
theorem dX8_init_8 : decode cX8_init 8 = .ok (.dup, 1) := by decide +kernel
theorem dX8_init_9 : decode cX8_init 9 = .ok (.invokespecial 9, 3) := by decide +kernel
theorem dX8_init_12 : decode cX8_init 12 = .ok (.putfield 10, 3) := by decide +kernel
theorem dX8_init_15 : decode cX8_init 15 = .ok (.aload_n 0, 1) := by decide +kernel
theorem dX8_init_16 : decode cX8_init 16 = .ok (.new 7, 3) := by decide +kernel
theorem dX8_init_19 : decode cX8_init 19 = .ok (.dup, 1) := by decide +kernel
theorem dX8_init_20 : decode cX8_init 20 = .ok (.invokespecial 9, 3) := by decide +kernel
theorem dX8_init_23 : decode cX8_init 23 = .ok (.putfield 16, 3) := by decide +kernel
theorem dX8_init_26 : decode cX8_init 26 = .ok (.aload_n 0, 1) := by decide +kernel
theorem dX8_init_27 : decode cX8_init 27 = .ok (.new 19, 3) := by decide +kernel
theorem dX8_init_30 : decode cX8_init 30 = .ok (.dup, 1) := by decide +kernel
theorem dX8_init_31 : decode cX8_init 31 = .ok (.invokespecial 21, 3) := by decide +kernel
theorem dX8_init_34 : decode cX8_init 34 = .ok (.putfield 22, 3) := by decide +kernel
theorem dX8_init_37 : decode cX8_init 37 = .ok (.aload_n 0, 1) := by decide +kernel
theorem dX8_init_38 : decode cX8_init 38 = .ok (.new 26, 3) := by decide +kernel
theorem dX8_init_41 : decode cX8_init 41 = .ok (.dup, 1) := by decide +kernel
theorem dX8_init_42 : decode cX8_init 42 = .ok (.invokespecial 28, 3) := by decide +kernel
theorem dX8_init_45 : decode cX8_init 45 = .ok (.putfield 29, 3) := by decide +kernel
theorem dX8_init_48 : decode cX8_init 48 = .ok (.aload_n 0, 1) := by decide +kernel
theorem dX8_init_49 : decode cX8_init 49 = .ok (.new 26, 3) := by decide +kernel
theorem dX8_init_52 : decode cX8_init 52 = .ok (.dup, 1) := by decide +kernel
theorem dX8_init_53 : decode cX8_init 53 = .ok (.invokespecial 28, 3) := by decide +kernel
theorem dX8_init_56 : decode cX8_init 56 = .ok (.putfield 33, 3) := by decide +kernel
theorem dX8_init_59 : decode cX8_init 59 = .ok (.aload_n 0, 1) := by decide +kernel
theorem dX8_init_60 : decode cX8_init 60 = .ok (.new 36, 3) := by decide +kernel
theorem dX8_init_63 : decode cX8_init 63 = .ok (.dup, 1) := by decide +kernel
theorem dX8_init_64 : decode cX8_init 64 = .ok (.invokespecial 38, 3) := by decide +kernel
theorem dX8_init_67 : decode cX8_init 67 = .ok (.putfield 39, 3) := by decide +kernel
theorem dX8_init_70 : decode cX8_init 70 = .ok (.aload_n 0, 1) := by decide +kernel
theorem dX8_init_71 : decode cX8_init 71 = .ok (.new 43, 3) := by decide +kernel
theorem dX8_init_74 : decode cX8_init 74 = .ok (.dup, 1) := by decide +kernel
theorem dX8_init_75 : decode cX8_init 75 = .ok (.invokespecial 45, 3) := by decide +kernel
theorem dX8_init_78 : decode cX8_init 78 = .ok (.putfield 46, 3) := by decide +kernel
theorem dX8_init_81 : decode cX8_init 81 = .ok (.aload_n 0, 1) := by decide +kernel
theorem dX8_init_82 : decode cX8_init 82 = .ok (.new 50, 3) := by decide +kernel
theorem dX8_init_85 : decode cX8_init 85 = .ok (.dup, 1) := by decide +kernel
theorem dX8_init_86 : decode cX8_init 86 = .ok (.invokespecial 52, 3) := by decide +kernel
theorem dX8_init_89 : decode cX8_init 89 = .ok (.putfield 53, 3) := by decide +kernel
theorem dX8_init_92 : decode cX8_init 92 = .ok (.aload_n 0, 1) := by decide +kernel
theorem dX8_init_93 : decode cX8_init 93 = .ok (.iconst 4, 1) := by decide +kernel
theorem dX8_init_94 : decode cX8_init 94 = .ok (.anewarray 57, 3) := by decide +kernel
theorem dX8_init_97 : decode cX8_init 97 = .ok (.putfield 59, 3) := by decide +kernel
theorem dX8_init_100 : decode cX8_init 100 = .ok (.aload_n 0, 1) := by decide +kernel
theorem dX8_init_101 : decode cX8_init 101 = .ok (.new 63, 3) := by decide +kernel
theorem dX8_init_104 : decode cX8_init 104 = .ok (.dup, 1) := by decide +kernel
theorem dX8_init_105 : decode cX8_init 105 = .ok (.invokespecial 65, 3) := by decide +kernel
theorem dX8_init_108 : decode cX8_init 108 = .ok (.putfield 66, 3) := by decide +kernel
theorem dX8_init_111 : decode cX8_init 111 = .ok (.aload_n 0, 1) := by decide +kernel
theorem dX8_init_112 : decode cX8_init 112 = .ok (.iconst 4, 1) := by decide +kernel
theorem dX8_init_113 : decode cX8_init 113 = .ok (.anewarray 57, 3) := by decide +kernel
theorem dX8_init_116 : decode cX8_init 116 = .ok (.putfield 70, 3) := by decide +kernel
theorem dX8_init_119 : decode cX8_init 119 = .ok (.aload_n 0, 1) := by decide +kernel
theorem dX8_init_120 : decode cX8_init 120 = .ok (.new 63, 3) := by decide +kernel
theorem dX8_init_123 : decode cX8_init 123 = .ok (.dup, 1) := by decide +kernel
theorem dX8_init_124 : decode cX8_init 124 = .ok (.invokespecial 65, 3) := by decide +kernel
theorem dX8_init_127 : decode cX8_init 127 = .ok (.putfield 73, 3) := by decide +kernel
theorem dX8_init_130 : decode cX8_init 130 = .ok (.iconst 0, 1) := by decide +kernel
theorem dX8_init_131 : decode cX8_init 131 = .ok (.istore_n 1, 1) := by decide +kernel
theorem dX8_init_132 : decode cX8_init 132 = .ok (.iload_n 1, 1) := by decide +kernel
theorem dX8_init_133 : decode cX8_init 133 = .ok (.iconst 4, 1) := by decide +kernel
theorem dX8_init_134 : decode cX8_init 134 = .ok (.if_icmp .ge 35, 3) := by decide +kernel
theorem dX8_init_137 : decode cX8_init 137 = .ok (.aload_n 0, 1) := by decide +kernel
theorem dX8_init_138 : decode cX8_init 138 = .ok (.getfield 59, 3) := by decide +kernel
theorem dX8_init_141 : decode cX8_init 141 = .ok (.iload_n 1, 1) := by decide +kernel
theorem dX8_init_142 : decode cX8_init 142 = .ok (.new 57, 3) := by decide +kernel
theorem dX8_init_145 : decode cX8_init 145 = .ok (.dup, 1) := by decide +kernel
theorem dX8_init_146 : decode cX8_init 146 = .ok (.invokespecial 76, 3) := by decide +kernel
theorem dX8_init_149 : decode cX8_init 149 = .ok (.aastore, 1) := by decide +kernel
theorem dX8_init_150 : decode cX8_init 150 = .ok (.aload_n 0, 1) := by decide +kernel
theorem dX8_init_151 : decode cX8_init 151 = .ok (.getfield 70, 3) := by decide +kernel
theorem dX8_init_154 : decode cX8_init 154 = .ok (.iload_n 1, 1) := by decide +kernel
theorem dX8_init_155 : decode cX8_init 155 = .ok (.new 57, 3) := by decide +kernel
theorem dX8_init_158 : decode cX8_init 158 = .ok (.dup, 1) := by decide +kernel
theorem dX8_init_159 : decode cX8_init 159 = .ok (.invokespecial 76, 3) := by decide +kernel
theorem dX8_init_162 : decode cX8_init 162 = .ok (.aastore, 1) := by decide +kernel
theorem dX8_init_163 : decode cX8_init 163 = .ok (.iinc 1 1, 3) := by decide +kernel
theorem dX8_init_166 : decode cX8_init 166 = .ok (.goto (-34), 3) := by decide +kernel
theorem dX8_init_169 : decode cX8_init 169 = .ok (.return_, 1) := by decide +kernel
theorem dX8_letter_0 : decode cX8_letter 0 = .ok (.iload_n 1, 1) := by decide +kernel
theorem dX8_letter_1 : decode cX8_letter 1 = .ok (.bipush 32, 2) := by decide +kernel
theorem dX8_letter_3 : decode cX8_letter 3 = .ok (.if_icmp .lt 9, 3) := by decide +kernel
theorem dX8_letter_6 : decode cX8_letter 6 = .ok (.iload_n 1, 1) := by decide +kernel
theorem dX8_letter_7 : decode cX8_letter 7 = .ok (.bipush 126, 2) := by decide +kernel
theorem dX8_letter_9 : decode cX8_letter 9 = .ok (.if_icmp .le 6, 3) := by decide +kernel
theorem dX8_letter_12 : decode cX8_letter 12 = .ok (.bipush (-102), 2) := by decide +kernel
theorem dX8_letter_14 : decode cX8_letter 14 = .ok (.ireturn, 1) := by decide +kernel
theorem dX8_letter_15 : decode cX8_letter 15 = .ok (.aload_n 0, 1) := by decide +kernel
theorem dX8_letter_16 : decode cX8_letter 16 = .ok (.getfield 10, 3) := by decide +kernel
theorem dX8_letter_19 : decode cX8_letter 19 = .ok (.iload_n 1, 1) := by decide +kernel
theorem dX8_letter_20 : decode cX8_letter 20 = .ok (.invokevirtual 77, 3) := by decide +kernel
theorem dX8_letter_23 : decode cX8_letter 23 = .ok (.ifCond .eq 13, 3) := by decide +kernel
theorem dX8_letter_26 : decode cX8_letter 26 = .ok (.aload_n 0, 1) := by decide +kernel
theorem dX8_letter_27 : decode cX8_letter 27 = .ok (.getfield 10, 3) := by decide +kernel
theorem dX8_letter_30 : decode cX8_letter 30 = .ok (.getfield 81, 3) := by decide +kernel
theorem dX8_letter_33 : decode cX8_letter 33 = .ok (.goto 5, 3) := by decide +kernel
theorem dX8_letter_36 : decode cX8_letter 36 = .ok (.bipush (-104), 2) := by decide +kernel
theorem dX8_letter_38 : decode cX8_letter 38 = .ok (.ireturn, 1) := by decide +kernel
theorem dX8_blank_0 : decode cX8_blank 0 = .ok (.aload_n 0, 1) := by decide +kernel
theorem dX8_blank_1 : decode cX8_blank 1 = .ok (.getfield 10, 3) := by decide +kernel
theorem dX8_blank_4 : decode cX8_blank 4 = .ok (.getfield 81, 3) := by decide +kernel
theorem dX8_blank_7 : decode cX8_blank 7 = .ok (.istore_n 1, 1) := by decide +kernel
theorem dX8_blank_8 : decode cX8_blank 8 = .ok (.aload_n 0, 1) := by decide +kernel
theorem dX8_blank_9 : decode cX8_blank 9 = .ok (.getfield 10, 3) := by decide +kernel
theorem dX8_blank_12 : decode cX8_blank 12 = .ok (.iconst 0, 1) := by decide +kernel
theorem dX8_blank_13 : decode cX8_blank 13 = .ok (.putfield 81, 3) := by decide +kernel
theorem dX8_blank_16 : decode cX8_blank 16 = .ok (.iload_n 1, 1) := by decide +kernel
theorem dX8_blank_17 : decode cX8_blank 17 = .ok (.ireturn, 1) := by decide +kernel
theorem dX8_fault_0 : decode cX8_fault 0 = .ok (.aload_n 0, 1) := by decide +kernel
theorem dX8_fault_1 : decode cX8_fault 1 = .ok (.getfield 22, 3) := by decide +kernel
theorem dX8_fault_4 : decode cX8_fault 4 = .ok (.aload_n 0, 1) := by decide +kernel
theorem dX8_fault_5 : decode cX8_fault 5 = .ok (.getfield 10, 3) := by decide +kernel
theorem dX8_fault_8 : decode cX8_fault 8 = .ok (.invokevirtual 85, 3) := by decide +kernel
theorem dX8_fault_11 : decode cX8_fault 11 = .ok (.ireturn, 1) := by decide +kernel
theorem dX8_desk_0 : decode cX8_desk 0 = .ok (.aload_n 0, 1) := by decide +kernel
theorem dX8_desk_1 : decode cX8_desk 1 = .ok (.getfield 10, 3) := by decide +kernel
theorem dX8_desk_4 : decode cX8_desk 4 = .ok (.getfield 81, 3) := by decide +kernel
theorem dX8_desk_7 : decode cX8_desk 7 = .ok (.istore_n 1, 1) := by decide +kernel
theorem dX8_desk_8 : decode cX8_desk 8 = .ok (.iload_n 1, 1) := by decide +kernel
theorem dX8_desk_9 : decode cX8_desk 9 = .ok (.iconst 1, 1) := by decide +kernel
theorem dX8_desk_10 : decode cX8_desk 10 = .ok (.if_icmp .lt 8, 3) := by decide +kernel
theorem dX8_desk_13 : decode cX8_desk 13 = .ok (.iload_n 1, 1) := by decide +kernel
theorem dX8_desk_14 : decode cX8_desk 14 = .ok (.iconst 4, 1) := by decide +kernel
theorem dX8_desk_15 : decode cX8_desk 15 = .ok (.if_icmp .le 6, 3) := by decide +kernel
theorem dX8_desk_18 : decode cX8_desk 18 = .ok (.bipush (-103), 2) := by decide +kernel
theorem dX8_desk_20 : decode cX8_desk 20 = .ok (.ireturn, 1) := by decide +kernel
theorem dX8_desk_21 : decode cX8_desk 21 = .ok (.iconst 0, 1) := by decide +kernel
theorem dX8_desk_22 : decode cX8_desk 22 = .ok (.istore_n 2, 1) := by decide +kernel
theorem dX8_desk_23 : decode cX8_desk 23 = .ok (.iload_n 2, 1) := by decide +kernel
theorem dX8_desk_24 : decode cX8_desk 24 = .ok (.iload_n 1, 1) := by decide +kernel
theorem dX8_desk_25 : decode cX8_desk 25 = .ok (.if_icmp .ge 27, 3) := by decide +kernel
theorem dX8_desk_28 : decode cX8_desk 28 = .ok (.aload_n 0, 1) := by decide +kernel
theorem dX8_desk_29 : decode cX8_desk 29 = .ok (.getfield 10, 3) := by decide +kernel
theorem dX8_desk_32 : decode cX8_desk 32 = .ok (.iload_n 2, 1) := by decide +kernel
theorem dX8_desk_33 : decode cX8_desk 33 = .ok (.invokevirtual 89, 3) := by decide +kernel
theorem dX8_desk_36 : decode cX8_desk 36 = .ok (.invokestatic 93, 3) := by decide +kernel
theorem dX8_desk_39 : decode cX8_desk 39 = .ok (.iconst (-1), 1) := by decide +kernel
theorem dX8_desk_40 : decode cX8_desk 40 = .ok (.if_icmp .ne 6, 3) := by decide +kernel
theorem dX8_desk_43 : decode cX8_desk 43 = .ok (.bipush (-103), 2) := by decide +kernel
theorem dX8_desk_45 : decode cX8_desk 45 = .ok (.ireturn, 1) := by decide +kernel
theorem dX8_desk_46 : decode cX8_desk 46 = .ok (.iinc 2 1, 3) := by decide +kernel
theorem dX8_desk_49 : decode cX8_desk 49 = .ok (.goto (-26), 3) := by decide +kernel
theorem dX8_desk_52 : decode cX8_desk 52 = .ok (.iconst 0, 1) := by decide +kernel
theorem dX8_desk_53 : decode cX8_desk 53 = .ok (.istore_n 2, 1) := by decide +kernel
theorem dX8_desk_54 : decode cX8_desk 54 = .ok (.iload_n 2, 1) := by decide +kernel
theorem dX8_desk_55 : decode cX8_desk 55 = .ok (.iload_n 1, 1) := by decide +kernel
theorem dX8_desk_56 : decode cX8_desk 56 = .ok (.if_icmp .ge 39, 3) := by decide +kernel
theorem dX8_desk_59 : decode cX8_desk 59 = .ok (.aload_n 0, 1) := by decide +kernel
theorem dX8_desk_60 : decode cX8_desk 60 = .ok (.getfield 59, 3) := by decide +kernel
theorem dX8_desk_63 : decode cX8_desk 63 = .ok (.iload_n 2, 1) := by decide +kernel
theorem dX8_desk_64 : decode cX8_desk 64 = .ok (.aaload, 1) := by decide +kernel
theorem dX8_desk_65 : decode cX8_desk 65 = .ok (.aload_n 0, 1) := by decide +kernel
theorem dX8_desk_66 : decode cX8_desk 66 = .ok (.getfield 10, 3) := by decide +kernel
theorem dX8_desk_69 : decode cX8_desk 69 = .ok (.iload_n 2, 1) := by decide +kernel
theorem dX8_desk_70 : decode cX8_desk 70 = .ok (.invokevirtual 89, 3) := by decide +kernel
theorem dX8_desk_73 : decode cX8_desk 73 = .ok (.invokestatic 93, 3) := by decide +kernel
theorem dX8_desk_76 : decode cX8_desk 76 = .ok (.putfield 96, 3) := by decide +kernel
theorem dX8_desk_79 : decode cX8_desk 79 = .ok (.aload_n 0, 1) := by decide +kernel
theorem dX8_desk_80 : decode cX8_desk 80 = .ok (.getfield 59, 3) := by decide +kernel
theorem dX8_desk_83 : decode cX8_desk 83 = .ok (.iload_n 2, 1) := by decide +kernel
theorem dX8_desk_84 : decode cX8_desk 84 = .ok (.aaload, 1) := by decide +kernel
theorem dX8_desk_85 : decode cX8_desk 85 = .ok (.iconst 0, 1) := by decide +kernel
theorem dX8_desk_86 : decode cX8_desk 86 = .ok (.putfield 99, 3) := by decide +kernel
theorem dX8_desk_89 : decode cX8_desk 89 = .ok (.iinc 2 1, 3) := by decide +kernel
theorem dX8_desk_92 : decode cX8_desk 92 = .ok (.goto (-38), 3) := by decide +kernel
theorem dX8_desk_95 : decode cX8_desk 95 = .ok (.aload_n 0, 1) := by decide +kernel
theorem dX8_desk_96 : decode cX8_desk 96 = .ok (.iload_n 1, 1) := by decide +kernel
theorem dX8_desk_97 : decode cX8_desk 97 = .ok (.putfield 103, 3) := by decide +kernel
theorem dX8_desk_100 : decode cX8_desk 100 = .ok (.aload_n 0, 1) := by decide +kernel
theorem dX8_desk_101 : decode cX8_desk 101 = .ok (.dup, 1) := by decide +kernel
theorem dX8_desk_102 : decode cX8_desk 102 = .ok (.getfield 106, 3) := by decide +kernel
theorem dX8_desk_105 : decode cX8_desk 105 = .ok (.iconst 1, 1) := by decide +kernel
theorem dX8_desk_106 : decode cX8_desk 106 = .ok (.iadd, 1) := by decide +kernel
theorem dX8_desk_107 : decode cX8_desk 107 = .ok (.putfield 106, 3) := by decide +kernel
theorem dX8_desk_110 : decode cX8_desk 110 = .ok (.aload_n 0, 1) := by decide +kernel
theorem dX8_desk_111 : decode cX8_desk 111 = .ok (.getfield 66, 3) := by decide +kernel
theorem dX8_desk_114 : decode cX8_desk 114 = .ok (.iconst 0, 1) := by decide +kernel
theorem dX8_desk_115 : decode cX8_desk 115 = .ok (.putfield 109, 3) := by decide +kernel
theorem dX8_desk_118 : decode cX8_desk 118 = .ok (.aload_n 0, 1) := by decide +kernel
theorem dX8_desk_119 : decode cX8_desk 119 = .ok (.getfield 10, 3) := by decide +kernel
theorem dX8_desk_122 : decode cX8_desk 122 = .ok (.iconst 0, 1) := by decide +kernel
theorem dX8_desk_123 : decode cX8_desk 123 = .ok (.putfield 81, 3) := by decide +kernel
theorem dX8_desk_126 : decode cX8_desk 126 = .ok (.iload_n 1, 1) := by decide +kernel
theorem dX8_desk_127 : decode cX8_desk 127 = .ok (.ireturn, 1) := by decide +kernel
theorem dX8_kindOfLetter_0 : decode cX8_kindOfLetter 0 = .ok (.iconst 0, 1) := by decide +kernel
theorem dX8_kindOfLetter_1 : decode cX8_kindOfLetter 1 = .ok (.istore_n 1, 1) := by decide +kernel
theorem dX8_kindOfLetter_2 : decode cX8_kindOfLetter 2 = .ok (.iload_n 1, 1) := by decide +kernel
theorem dX8_kindOfLetter_3 : decode cX8_kindOfLetter 3 = .ok (.getstatic 112, 3) := by decide +kernel
theorem dX8_kindOfLetter_6 : decode cX8_kindOfLetter 6 = .ok (.arraylength, 1) := by decide +kernel
theorem dX8_kindOfLetter_7 : decode cX8_kindOfLetter 7 = .ok (.if_icmp .ge 20, 3) := by decide +kernel
theorem dX8_kindOfLetter_10 : decode cX8_kindOfLetter 10 = .ok (.getstatic 112, 3) := by decide +kernel
theorem dX8_kindOfLetter_13 : decode cX8_kindOfLetter 13 = .ok (.iload_n 1, 1) := by decide +kernel
theorem dX8_kindOfLetter_14 : decode cX8_kindOfLetter 14 = .ok (.caload, 1) := by decide +kernel
theorem dX8_kindOfLetter_15 : decode cX8_kindOfLetter 15 = .ok (.iload_n 0, 1) := by decide +kernel
theorem dX8_kindOfLetter_16 : decode cX8_kindOfLetter 16 = .ok (.if_icmp .ne 5, 3) := by decide +kernel
theorem dX8_kindOfLetter_19 : decode cX8_kindOfLetter 19 = .ok (.iload_n 1, 1) := by decide +kernel
theorem dX8_kindOfLetter_20 : decode cX8_kindOfLetter 20 = .ok (.ireturn, 1) := by decide +kernel
theorem dX8_kindOfLetter_21 : decode cX8_kindOfLetter 21 = .ok (.iinc 1 1, 3) := by decide +kernel
theorem dX8_kindOfLetter_24 : decode cX8_kindOfLetter 24 = .ok (.goto (-22), 3) := by decide +kernel
theorem dX8_kindOfLetter_27 : decode cX8_kindOfLetter 27 = .ok (.iconst (-1), 1) := by decide +kernel
theorem dX8_kindOfLetter_28 : decode cX8_kindOfLetter 28 = .ok (.ireturn, 1) := by decide +kernel
theorem dX8_put_0 : decode cX8_put 0 = .ok (.aload_n 0, 1) := by decide +kernel
theorem dX8_put_1 : decode cX8_put 1 = .ok (.iload_n 1, 1) := by decide +kernel
theorem dX8_put_2 : decode cX8_put 2 = .ok (.invokevirtual 116, 3) := by decide +kernel
theorem dX8_put_5 : decode cX8_put 5 = .ok (.astore_n 2, 1) := by decide +kernel
theorem dX8_put_6 : decode cX8_put 6 = .ok (.aload_n 2, 1) := by decide +kernel
theorem dX8_put_7 : decode cX8_put 7 = .ok (.ifnonnull 6, 3) := by decide +kernel
theorem dX8_put_10 : decode cX8_put 10 = .ok (.bipush (-101), 2) := by decide +kernel
theorem dX8_put_12 : decode cX8_put 12 = .ok (.ireturn, 1) := by decide +kernel
theorem dX8_put_13 : decode cX8_put 13 = .ok (.aload_n 0, 1) := by decide +kernel
theorem dX8_put_14 : decode cX8_put 14 = .ok (.getfield 22, 3) := by decide +kernel
theorem dX8_put_17 : decode cX8_put 17 = .ok (.aload_n 0, 1) := by decide +kernel
theorem dX8_put_18 : decode cX8_put 18 = .ok (.getfield 10, 3) := by decide +kernel
theorem dX8_put_21 : decode cX8_put 21 = .ok (.invokevirtual 85, 3) := by decide +kernel
theorem dX8_put_24 : decode cX8_put 24 = .ok (.aload_n 0, 1) := by decide +kernel
theorem dX8_put_25 : decode cX8_put 25 = .ok (.getfield 10, 3) := by decide +kernel
theorem dX8_put_28 : decode cX8_put 28 = .ok (.getfield 81, 3) := by decide +kernel
theorem dX8_put_31 : decode cX8_put 31 = .ok (.if_icmp .ne 13, 3) := by decide +kernel
theorem dX8_put_34 : decode cX8_put 34 = .ok (.aload_n 0, 1) := by decide +kernel
theorem dX8_put_35 : decode cX8_put 35 = .ok (.getfield 22, 3) := by decide +kernel
theorem dX8_put_38 : decode cX8_put 38 = .ok (.invokevirtual 120, 3) := by decide +kernel
theorem dX8_put_41 : decode cX8_put 41 = .ok (.ifCond .ne 6, 3) := by decide +kernel
theorem dX8_put_44 : decode cX8_put 44 = .ok (.bipush (-103), 2) := by decide +kernel
theorem dX8_put_46 : decode cX8_put 46 = .ok (.ireturn, 1) := by decide +kernel
theorem dX8_put_47 : decode cX8_put 47 = .ok (.aload_n 0, 1) := by decide +kernel
theorem dX8_put_48 : decode cX8_put 48 = .ok (.getfield 29, 3) := by decide +kernel
theorem dX8_put_51 : decode cX8_put 51 = .ok (.aload_n 0, 1) := by decide +kernel
theorem dX8_put_52 : decode cX8_put 52 = .ok (.getfield 22, 3) := by decide +kernel
theorem dX8_put_55 : decode cX8_put 55 = .ok (.getfield 124, 3) := by decide +kernel
theorem dX8_put_58 : decode cX8_put 58 = .ok (.invokevirtual 127, 3) := by decide +kernel
theorem dX8_put_61 : decode cX8_put 61 = .ok (.aload_n 0, 1) := by decide +kernel
theorem dX8_put_62 : decode cX8_put 62 = .ok (.aload_n 2, 1) := by decide +kernel
theorem dX8_put_63 : decode cX8_put 63 = .ok (.invokevirtual 131, 3) := by decide +kernel
theorem dX8_put_66 : decode cX8_put 66 = .ok (.istore_n 3, 1) := by decide +kernel
theorem dX8_put_67 : decode cX8_put 67 = .ok (.iload_n 3, 1) := by decide +kernel
theorem dX8_put_68 : decode cX8_put 68 = .ok (.bipush (-104), 2) := by decide +kernel
theorem dX8_put_70 : decode cX8_put 70 = .ok (.if_icmp .eq 11, 3) := by decide +kernel
theorem dX8_put_73 : decode cX8_put 73 = .ok (.aload_n 0, 1) := by decide +kernel
theorem dX8_put_74 : decode cX8_put 74 = .ok (.getfield 10, 3) := by decide +kernel
theorem dX8_put_77 : decode cX8_put 77 = .ok (.iconst 0, 1) := by decide +kernel
theorem dX8_put_78 : decode cX8_put 78 = .ok (.putfield 81, 3) := by decide +kernel
theorem dX8_put_81 : decode cX8_put 81 = .ok (.iload_n 3, 1) := by decide +kernel
theorem dX8_put_82 : decode cX8_put 82 = .ok (.ireturn, 1) := by decide +kernel
theorem dX8_anySlot_0 : decode cX8_anySlot 0 = .ok (.iload_n 1, 1) := by decide +kernel
theorem dX8_anySlot_1 : decode cX8_anySlot 1 = .ok (.ifCond .lt 29, 3) := by decide +kernel
theorem dX8_anySlot_4 : decode cX8_anySlot 4 = .ok (.iload_n 1, 1) := by decide +kernel
theorem dX8_anySlot_5 : decode cX8_anySlot 5 = .ok (.aload_n 0, 1) := by decide +kernel
theorem dX8_anySlot_6 : decode cX8_anySlot 6 = .ok (.getfield 103, 3) := by decide +kernel
theorem dX8_anySlot_9 : decode cX8_anySlot 9 = .ok (.if_icmp .ge 21, 3) := by decide +kernel
theorem dX8_anySlot_12 : decode cX8_anySlot 12 = .ok (.iload_n 1, 1) := by decide +kernel
theorem dX8_anySlot_13 : decode cX8_anySlot 13 = .ok (.aload_n 0, 1) := by decide +kernel
theorem dX8_anySlot_14 : decode cX8_anySlot 14 = .ok (.getfield 59, 3) := by decide +kernel
theorem dX8_anySlot_17 : decode cX8_anySlot 17 = .ok (.arraylength, 1) := by decide +kernel
theorem dX8_anySlot_18 : decode cX8_anySlot 18 = .ok (.if_icmp .ge 12, 3) := by decide +kernel
theorem dX8_anySlot_21 : decode cX8_anySlot 21 = .ok (.aload_n 0, 1) := by decide +kernel
theorem dX8_anySlot_22 : decode cX8_anySlot 22 = .ok (.getfield 59, 3) := by decide +kernel
theorem dX8_anySlot_25 : decode cX8_anySlot 25 = .ok (.iload_n 1, 1) := by decide +kernel
theorem dX8_anySlot_26 : decode cX8_anySlot 26 = .ok (.aaload, 1) := by decide +kernel
theorem dX8_anySlot_27 : decode cX8_anySlot 27 = .ok (.goto 4, 3) := by decide +kernel
theorem dX8_anySlot_30 : decode cX8_anySlot 30 = .ok (.aconst_null, 1) := by decide +kernel
theorem dX8_anySlot_31 : decode cX8_anySlot 31 = .ok (.areturn, 1) := by decide +kernel
theorem dX8_filledSlot_0 : decode cX8_filledSlot 0 = .ok (.aload_n 0, 1) := by decide +kernel
theorem dX8_filledSlot_1 : decode cX8_filledSlot 1 = .ok (.iload_n 1, 1) := by decide +kernel
theorem dX8_filledSlot_2 : decode cX8_filledSlot 2 = .ok (.invokevirtual 116, 3) := by decide +kernel
theorem dX8_filledSlot_5 : decode cX8_filledSlot 5 = .ok (.astore_n 2, 1) := by decide +kernel
theorem dX8_filledSlot_6 : decode cX8_filledSlot 6 = .ok (.aload_n 2, 1) := by decide +kernel
theorem dX8_filledSlot_7 : decode cX8_filledSlot 7 = .ok (.ifnull 14, 3) := by decide +kernel
theorem dX8_filledSlot_10 : decode cX8_filledSlot 10 = .ok (.aload_n 2, 1) := by decide +kernel
theorem dX8_filledSlot_11 : decode cX8_filledSlot 11 = .ok (.getfield 99, 3) := by decide +kernel
theorem dX8_filledSlot_14 : decode cX8_filledSlot 14 = .ok (.ifCond .eq 7, 3) := by decide +kernel
theorem dX8_filledSlot_17 : decode cX8_filledSlot 17 = .ok (.aload_n 2, 1) := by decide +kernel
theorem dX8_filledSlot_18 : decode cX8_filledSlot 18 = .ok (.goto 4, 3) := by decide +kernel
theorem dX8_filledSlot_21 : decode cX8_filledSlot 21 = .ok (.aconst_null, 1) := by decide +kernel
theorem dX8_filledSlot_22 : decode cX8_filledSlot 22 = .ok (.areturn, 1) := by decide +kernel
theorem dX8_slot_0 : decode cX8_slot 0 = .ok (.aload_n 0, 1) := by decide +kernel
theorem dX8_slot_1 : decode cX8_slot 1 = .ok (.iload_n 1, 1) := by decide +kernel
theorem dX8_slot_2 : decode cX8_slot 2 = .ok (.invokevirtual 116, 3) := by decide +kernel
theorem dX8_slot_5 : decode cX8_slot 5 = .ok (.astore_n 3, 1) := by decide +kernel
theorem dX8_slot_6 : decode cX8_slot 6 = .ok (.aload_n 3, 1) := by decide +kernel
theorem dX8_slot_7 : decode cX8_slot 7 = .ok (.ifnonnull 6, 3) := by decide +kernel
theorem dX8_slot_10 : decode cX8_slot 10 = .ok (.bipush (-101), 2) := by decide +kernel
theorem dX8_slot_12 : decode cX8_slot 12 = .ok (.ireturn, 1) := by decide +kernel
theorem dX8_slot_13 : decode cX8_slot 13 = .ok (.iload_n 2, 1) := by decide +kernel
theorem dX8_slot_14 : decode cX8_slot 14 = .ok (.tableswitch 159 0 7 #[46, 51, 70, 94, 100, 119, 138, 147], 46) := by decide +kernel
theorem dX8_slot_60 : decode cX8_slot 60 = .ok (.aload_n 3, 1) := by decide +kernel
theorem dX8_slot_61 : decode cX8_slot 61 = .ok (.getfield 96, 3) := by decide +kernel
theorem dX8_slot_64 : decode cX8_slot 64 = .ok (.ireturn, 1) := by decide +kernel
theorem dX8_slot_65 : decode cX8_slot 65 = .ok (.aload_n 3, 1) := by decide +kernel
theorem dX8_slot_66 : decode cX8_slot 66 = .ok (.getfield 99, 3) := by decide +kernel
theorem dX8_slot_69 : decode cX8_slot 69 = .ok (.ifCond .eq 13, 3) := by decide +kernel
theorem dX8_slot_72 : decode cX8_slot 72 = .ok (.aload_n 3, 1) := by decide +kernel
theorem dX8_slot_73 : decode cX8_slot 73 = .ok (.getfield 135, 3) := by decide +kernel
theorem dX8_slot_76 : decode cX8_slot 76 = .ok (.invokevirtual 138, 3) := by decide +kernel
theorem dX8_slot_79 : decode cX8_slot 79 = .ok (.goto 4, 3) := by decide +kernel
theorem dX8_slot_82 : decode cX8_slot 82 = .ok (.iconst (-1), 1) := by decide +kernel
theorem dX8_slot_83 : decode cX8_slot 83 = .ok (.ireturn, 1) := by decide +kernel
theorem dX8_slot_84 : decode cX8_slot 84 = .ok (.aload_n 3, 1) := by decide +kernel
theorem dX8_slot_85 : decode cX8_slot 85 = .ok (.getfield 99, 3) := by decide +kernel
theorem dX8_slot_88 : decode cX8_slot 88 = .ok (.ifCond .eq 18, 3) := by decide +kernel
theorem dX8_slot_91 : decode cX8_slot 91 = .ok (.sipush 1000, 3) := by decide +kernel
theorem dX8_slot_94 : decode cX8_slot 94 = .ok (.aload_n 3, 1) := by decide +kernel
theorem dX8_slot_95 : decode cX8_slot 95 = .ok (.getfield 135, 3) := by decide +kernel
theorem dX8_slot_98 : decode cX8_slot 98 = .ok (.invokevirtual 142, 3) := by decide +kernel
theorem dX8_slot_101 : decode cX8_slot 101 = .ok (.l2i, 1) := by decide +kernel
theorem dX8_slot_102 : decode cX8_slot 102 = .ok (.iadd, 1) := by decide +kernel
theorem dX8_slot_103 : decode cX8_slot 103 = .ok (.goto 4, 3) := by decide +kernel
theorem dX8_slot_106 : decode cX8_slot 106 = .ok (.iconst 0, 1) := by decide +kernel
theorem dX8_slot_107 : decode cX8_slot 107 = .ok (.ireturn, 1) := by decide +kernel
theorem dX8_slot_108 : decode cX8_slot 108 = .ok (.aload_n 0, 1) := by decide +kernel
theorem dX8_slot_109 : decode cX8_slot 109 = .ok (.aload_n 3, 1) := by decide +kernel
theorem dX8_slot_110 : decode cX8_slot 110 = .ok (.invokevirtual 146, 3) := by decide +kernel
theorem dX8_slot_113 : decode cX8_slot 113 = .ok (.ireturn, 1) := by decide +kernel
theorem dX8_slot_114 : decode cX8_slot 114 = .ok (.aload_n 3, 1) := by decide +kernel
theorem dX8_slot_115 : decode cX8_slot 115 = .ok (.getfield 99, 3) := by decide +kernel
theorem dX8_slot_118 : decode cX8_slot 118 = .ok (.ifCond .eq 13, 3) := by decide +kernel
theorem dX8_slot_121 : decode cX8_slot 121 = .ok (.aload_n 3, 1) := by decide +kernel
theorem dX8_slot_122 : decode cX8_slot 122 = .ok (.getfield 149, 3) := by decide +kernel
theorem dX8_slot_125 : decode cX8_slot 125 = .ok (.getfield 152, 3) := by decide +kernel
theorem dX8_slot_128 : decode cX8_slot 128 = .ok (.goto 4, 3) := by decide +kernel
theorem dX8_slot_131 : decode cX8_slot 131 = .ok (.iconst 0, 1) := by decide +kernel
theorem dX8_slot_132 : decode cX8_slot 132 = .ok (.ireturn, 1) := by decide +kernel
theorem dX8_slot_133 : decode cX8_slot 133 = .ok (.aload_n 3, 1) := by decide +kernel
theorem dX8_slot_134 : decode cX8_slot 134 = .ok (.getfield 99, 3) := by decide +kernel
theorem dX8_slot_137 : decode cX8_slot 137 = .ok (.ifCond .eq 13, 3) := by decide +kernel
theorem dX8_slot_140 : decode cX8_slot 140 = .ok (.aload_n 3, 1) := by decide +kernel
theorem dX8_slot_141 : decode cX8_slot 141 = .ok (.getfield 149, 3) := by decide +kernel
theorem dX8_slot_144 : decode cX8_slot 144 = .ok (.invokevirtual 153, 3) := by decide +kernel
theorem dX8_slot_147 : decode cX8_slot 147 = .ok (.goto 4, 3) := by decide +kernel
theorem dX8_slot_150 : decode cX8_slot 150 = .ok (.iconst 0, 1) := by decide +kernel
theorem dX8_slot_151 : decode cX8_slot 151 = .ok (.ireturn, 1) := by decide +kernel
theorem dX8_slot_152 : decode cX8_slot 152 = .ok (.aload_n 0, 1) := by decide +kernel
theorem dX8_slot_153 : decode cX8_slot 153 = .ok (.getfield 66, 3) := by decide +kernel
theorem dX8_slot_156 : decode cX8_slot 156 = .ok (.iload_n 1, 1) := by decide +kernel
theorem dX8_slot_157 : decode cX8_slot 157 = .ok (.invokevirtual 156, 3) := by decide +kernel
theorem dX8_slot_160 : decode cX8_slot 160 = .ok (.ireturn, 1) := by decide +kernel
theorem dX8_slot_161 : decode cX8_slot 161 = .ok (.aload_n 0, 1) := by decide +kernel
theorem dX8_slot_162 : decode cX8_slot 162 = .ok (.getfield 66, 3) := by decide +kernel
theorem dX8_slot_165 : decode cX8_slot 165 = .ok (.iload_n 1, 1) := by decide +kernel
theorem dX8_slot_166 : decode cX8_slot 166 = .ok (.invokevirtual 156, 3) := by decide +kernel
theorem dX8_slot_169 : decode cX8_slot 169 = .ok (.invokestatic 159, 3) := by decide +kernel
theorem dX8_slot_172 : decode cX8_slot 172 = .ok (.ireturn, 1) := by decide +kernel
theorem dX8_slot_173 : decode cX8_slot 173 = .ok (.bipush (-102), 2) := by decide +kernel
theorem dX8_slot_175 : decode cX8_slot 175 = .ok (.ireturn, 1) := by decide +kernel
theorem dX8_textLength_0 : decode cX8_textLength 0 = .ok (.aload_n 1, 1) := by decide +kernel
theorem dX8_textLength_1 : decode cX8_textLength 1 = .ok (.getfield 99, 3) := by decide +kernel
theorem dX8_textLength_4 : decode cX8_textLength 4 = .ok (.ifCond .ne 5, 3) := by decide +kernel
theorem dX8_textLength_7 : decode cX8_textLength 7 = .ok (.iconst 0, 1) := by decide +kernel
theorem dX8_textLength_8 : decode cX8_textLength 8 = .ok (.ireturn, 1) := by decide +kernel
theorem dX8_textLength_9 : decode cX8_textLength 9 = .ok (.aload_n 1, 1) := by decide +kernel
theorem dX8_textLength_10 : decode cX8_textLength 10 = .ok (.getfield 135, 3) := by decide +kernel
theorem dX8_textLength_13 : decode cX8_textLength 13 = .ok (.aload_n 0, 1) := by decide +kernel
theorem dX8_textLength_14 : decode cX8_textLength 14 = .ok (.getfield 16, 3) := by decide +kernel
theorem dX8_textLength_17 : decode cX8_textLength 17 = .ok (.invokevirtual 162, 3) := by decide +kernel
theorem dX8_textLength_20 : decode cX8_textLength 20 = .ok (.aload_n 0, 1) := by decide +kernel
theorem dX8_textLength_21 : decode cX8_textLength 21 = .ok (.getfield 16, 3) := by decide +kernel
theorem dX8_textLength_24 : decode cX8_textLength 24 = .ok (.getfield 81, 3) := by decide +kernel
theorem dX8_textLength_27 : decode cX8_textLength 27 = .ok (.ireturn, 1) := by decide +kernel
theorem dX8_as_0 : decode cX8_as 0 = .ok (.aload_n 0, 1) := by decide +kernel
theorem dX8_as_1 : decode cX8_as 1 = .ok (.iload_n 1, 1) := by decide +kernel
theorem dX8_as_2 : decode cX8_as 2 = .ok (.invokevirtual 116, 3) := by decide +kernel
theorem dX8_as_5 : decode cX8_as 5 = .ok (.astore_n 3, 1) := by decide +kernel
theorem dX8_as_6 : decode cX8_as 6 = .ok (.aload_n 3, 1) := by decide +kernel
theorem dX8_as_7 : decode cX8_as 7 = .ok (.ifnonnull 6, 3) := by decide +kernel
theorem dX8_as_10 : decode cX8_as 10 = .ok (.bipush (-101), 2) := by decide +kernel
theorem dX8_as_12 : decode cX8_as 12 = .ok (.ireturn, 1) := by decide +kernel
theorem dX8_as_13 : decode cX8_as 13 = .ok (.iload_n 2, 1) := by decide +kernel
theorem dX8_as_14 : decode cX8_as 14 = .ok (.invokestatic 166, 3) := by decide +kernel
theorem dX8_as_17 : decode cX8_as 17 = .ok (.ifCond .ne 6, 3) := by decide +kernel
theorem dX8_as_20 : decode cX8_as 20 = .ok (.bipush (-102), 2) := by decide +kernel
theorem dX8_as_22 : decode cX8_as 22 = .ok (.ireturn, 1) := by decide +kernel
theorem dX8_as_23 : decode cX8_as 23 = .ok (.iload_n 2, 1) := by decide +kernel
theorem dX8_as_24 : decode cX8_as 24 = .ok (.ifCond .eq 24, 3) := by decide +kernel
theorem dX8_as_27 : decode cX8_as 27 = .ok (.iload_n 2, 1) := by decide +kernel
theorem dX8_as_28 : decode cX8_as 28 = .ok (.aload_n 3, 1) := by decide +kernel
theorem dX8_as_29 : decode cX8_as 29 = .ok (.getfield 96, 3) := by decide +kernel
theorem dX8_as_32 : decode cX8_as 32 = .ok (.if_icmp .eq 16, 3) := by decide +kernel
theorem dX8_as_35 : decode cX8_as 35 = .ok (.iload_n 2, 1) := by decide +kernel
theorem dX8_as_36 : decode cX8_as 36 = .ok (.iconst 1, 1) := by decide +kernel
theorem dX8_as_37 : decode cX8_as 37 = .ok (.if_icmp .ne 15, 3) := by decide +kernel
theorem dX8_as_40 : decode cX8_as 40 = .ok (.aload_n 3, 1) := by decide +kernel
theorem dX8_as_41 : decode cX8_as 41 = .ok (.getfield 96, 3) := by decide +kernel
theorem dX8_as_44 : decode cX8_as 44 = .ok (.iconst 2, 1) := by decide +kernel
theorem dX8_as_45 : decode cX8_as 45 = .ok (.if_icmp .ne 7, 3) := by decide +kernel
theorem dX8_as_48 : decode cX8_as 48 = .ok (.iconst 1, 1) := by decide +kernel
theorem dX8_as_49 : decode cX8_as 49 = .ok (.goto 4, 3) := by decide +kernel
theorem dX8_as_52 : decode cX8_as 52 = .ok (.iconst 0, 1) := by decide +kernel
theorem dX8_as_53 : decode cX8_as 53 = .ok (.istore 4, 2) := by decide +kernel
theorem dX8_as_55 : decode cX8_as 55 = .ok (.iload 4, 2) := by decide +kernel
theorem dX8_as_57 : decode cX8_as 57 = .ok (.ifCond .eq 7, 3) := by decide +kernel
theorem dX8_as_60 : decode cX8_as 60 = .ok (.iload_n 1, 1) := by decide +kernel
theorem dX8_as_61 : decode cX8_as 61 = .ok (.goto 4, 3) := by decide +kernel
theorem dX8_as_64 : decode cX8_as 64 = .ok (.iconst (-1), 1) := by decide +kernel
theorem dX8_as_65 : decode cX8_as 65 = .ok (.ireturn, 1) := by decide +kernel
theorem dX8_isKind_0 : decode cX8_isKind 0 = .ok (.iload_n 0, 1) := by decide +kernel
theorem dX8_isKind_1 : decode cX8_isKind 1 = .ok (.ifCond .lt 12, 3) := by decide +kernel
theorem dX8_isKind_4 : decode cX8_isKind 4 = .ok (.iload_n 0, 1) := by decide +kernel
theorem dX8_isKind_5 : decode cX8_isKind 5 = .ok (.iconst 5, 1) := by decide +kernel
theorem dX8_isKind_6 : decode cX8_isKind 6 = .ok (.if_icmp .ge 7, 3) := by decide +kernel
theorem dX8_isKind_9 : decode cX8_isKind 9 = .ok (.iconst 1, 1) := by decide +kernel
theorem dX8_isKind_10 : decode cX8_isKind 10 = .ok (.goto 4, 3) := by decide +kernel
theorem dX8_isKind_13 : decode cX8_isKind 13 = .ok (.iconst 0, 1) := by decide +kernel
theorem dX8_isKind_14 : decode cX8_isKind 14 = .ok (.ireturn, 1) := by decide +kernel
theorem dX8_number_0 : decode cX8_number 0 = .ok (.aload_n 0, 1) := by decide +kernel
theorem dX8_number_1 : decode cX8_number 1 = .ok (.iload_n 1, 1) := by decide +kernel
theorem dX8_number_2 : decode cX8_number 2 = .ok (.invokevirtual 169, 3) := by decide +kernel
theorem dX8_number_5 : decode cX8_number 5 = .ok (.astore_n 3, 1) := by decide +kernel
theorem dX8_number_6 : decode cX8_number 6 = .ok (.aload_n 3, 1) := by decide +kernel
theorem dX8_number_7 : decode cX8_number 7 = .ok (.ifnonnull 6, 3) := by decide +kernel
theorem dX8_number_10 : decode cX8_number 10 = .ok (.bipush (-101), 2) := by decide +kernel
theorem dX8_number_12 : decode cX8_number 12 = .ok (.ireturn, 1) := by decide +kernel
theorem dX8_number_13 : decode cX8_number 13 = .ok (.iload_n 2, 1) := by decide +kernel
theorem dX8_number_14 : decode cX8_number 14 = .ok (.ifCond .lt 8, 3) := by decide +kernel
theorem dX8_number_17 : decode cX8_number 17 = .ok (.iload_n 2, 1) := by decide +kernel
theorem dX8_number_18 : decode cX8_number 18 = .ok (.iconst 5, 1) := by decide +kernel
theorem dX8_number_19 : decode cX8_number 19 = .ok (.if_icmp .le 6, 3) := by decide +kernel
theorem dX8_number_22 : decode cX8_number 22 = .ok (.bipush (-102), 2) := by decide +kernel
theorem dX8_number_24 : decode cX8_number 24 = .ok (.ireturn, 1) := by decide +kernel
theorem dX8_number_25 : decode cX8_number 25 = .ok (.sipush 1000, 3) := by decide +kernel
theorem dX8_number_28 : decode cX8_number 28 = .ok (.aload_n 3, 1) := by decide +kernel
theorem dX8_number_29 : decode cX8_number 29 = .ok (.getfield 135, 3) := by decide +kernel
theorem dX8_number_32 : decode cX8_number 32 = .ok (.iload_n 2, 1) := by decide +kernel
theorem dX8_number_33 : decode cX8_number 33 = .ok (.invokevirtual 172, 3) := by decide +kernel
theorem dX8_number_36 : decode cX8_number 36 = .ok (.l2i, 1) := by decide +kernel
theorem dX8_number_37 : decode cX8_number 37 = .ok (.iadd, 1) := by decide +kernel
theorem dX8_number_38 : decode cX8_number 38 = .ok (.ireturn, 1) := by decide +kernel
theorem dX8_text_0 : decode cX8_text 0 = .ok (.aload_n 0, 1) := by decide +kernel
theorem dX8_text_1 : decode cX8_text 1 = .ok (.iload_n 1, 1) := by decide +kernel
theorem dX8_text_2 : decode cX8_text 2 = .ok (.invokevirtual 169, 3) := by decide +kernel
theorem dX8_text_5 : decode cX8_text 5 = .ok (.astore_n 3, 1) := by decide +kernel
theorem dX8_text_6 : decode cX8_text 6 = .ok (.aload_n 3, 1) := by decide +kernel
theorem dX8_text_7 : decode cX8_text 7 = .ok (.ifnonnull 6, 3) := by decide +kernel
theorem dX8_text_10 : decode cX8_text 10 = .ok (.bipush (-101), 2) := by decide +kernel
theorem dX8_text_12 : decode cX8_text 12 = .ok (.ireturn, 1) := by decide +kernel
theorem dX8_text_13 : decode cX8_text 13 = .ok (.aload_n 3, 1) := by decide +kernel
theorem dX8_text_14 : decode cX8_text 14 = .ok (.getfield 135, 3) := by decide +kernel
theorem dX8_text_17 : decode cX8_text 17 = .ok (.aload_n 0, 1) := by decide +kernel
theorem dX8_text_18 : decode cX8_text 18 = .ok (.getfield 16, 3) := by decide +kernel
theorem dX8_text_21 : decode cX8_text 21 = .ok (.invokevirtual 162, 3) := by decide +kernel
theorem dX8_text_24 : decode cX8_text 24 = .ok (.aload_n 0, 1) := by decide +kernel
theorem dX8_text_25 : decode cX8_text 25 = .ok (.getfield 16, 3) := by decide +kernel
theorem dX8_text_28 : decode cX8_text 28 = .ok (.iload_n 2, 1) := by decide +kernel
theorem dX8_text_29 : decode cX8_text 29 = .ok (.invokevirtual 89, 3) := by decide +kernel
theorem dX8_text_32 : decode cX8_text 32 = .ok (.istore 4, 2) := by decide +kernel
theorem dX8_text_34 : decode cX8_text 34 = .ok (.iload 4, 2) := by decide +kernel
theorem dX8_text_36 : decode cX8_text 36 = .ok (.iconst (-1), 1) := by decide +kernel
theorem dX8_text_37 : decode cX8_text 37 = .ok (.if_icmp .ne 8, 3) := by decide +kernel
theorem dX8_text_40 : decode cX8_text 40 = .ok (.bipush (-101), 2) := by decide +kernel
theorem dX8_text_42 : decode cX8_text 42 = .ok (.goto 5, 3) := by decide +kernel
theorem dX8_text_45 : decode cX8_text 45 = .ok (.iload 4, 2) := by decide +kernel
theorem dX8_text_47 : decode cX8_text 47 = .ok (.ireturn, 1) := by decide +kernel
theorem dX8_factor_0 : decode cX8_factor 0 = .ok (.aload_n 0, 1) := by decide +kernel
theorem dX8_factor_1 : decode cX8_factor 1 = .ok (.iload_n 1, 1) := by decide +kernel
theorem dX8_factor_2 : decode cX8_factor 2 = .ok (.invokevirtual 169, 3) := by decide +kernel
theorem dX8_factor_5 : decode cX8_factor 5 = .ok (.astore 4, 2) := by decide +kernel
theorem dX8_factor_7 : decode cX8_factor 7 = .ok (.aload 4, 2) := by decide +kernel
theorem dX8_factor_9 : decode cX8_factor 9 = .ok (.ifnonnull 7, 3) := by decide +kernel
theorem dX8_factor_12 : decode cX8_factor 12 = .ok (.aconst_null, 1) := by decide +kernel
theorem dX8_factor_13 : decode cX8_factor 13 = .ok (.goto 12, 3) := by decide +kernel
theorem dX8_factor_16 : decode cX8_factor 16 = .ok (.aload 4, 2) := by decide +kernel
theorem dX8_factor_18 : decode cX8_factor 18 = .ok (.getfield 149, 3) := by decide +kernel
theorem dX8_factor_21 : decode cX8_factor 21 = .ok (.iload_n 2, 1) := by decide +kernel
theorem dX8_factor_22 : decode cX8_factor 22 = .ok (.invokevirtual 176, 3) := by decide +kernel
theorem dX8_factor_25 : decode cX8_factor 25 = .ok (.astore 5, 2) := by decide +kernel
theorem dX8_factor_27 : decode cX8_factor 27 = .ok (.aload 5, 2) := by decide +kernel
theorem dX8_factor_29 : decode cX8_factor 29 = .ok (.ifnonnull 6, 3) := by decide +kernel
theorem dX8_factor_32 : decode cX8_factor 32 = .ok (.bipush (-101), 2) := by decide +kernel
theorem dX8_factor_34 : decode cX8_factor 34 = .ok (.ireturn, 1) := by decide +kernel
theorem dX8_factor_35 : decode cX8_factor 35 = .ok (.iload_n 3, 1) := by decide +kernel
theorem dX8_factor_36 : decode cX8_factor 36 = .ok (.ifCond .lt 9, 3) := by decide +kernel
theorem dX8_factor_39 : decode cX8_factor 39 = .ok (.iload_n 3, 1) := by decide +kernel
theorem dX8_factor_40 : decode cX8_factor 40 = .ok (.bipush 8, 2) := by decide +kernel
theorem dX8_factor_42 : decode cX8_factor 42 = .ok (.if_icmp .lt 6, 3) := by decide +kernel
theorem dX8_factor_45 : decode cX8_factor 45 = .ok (.bipush (-102), 2) := by decide +kernel
theorem dX8_factor_47 : decode cX8_factor 47 = .ok (.ireturn, 1) := by decide +kernel
theorem dX8_factor_48 : decode cX8_factor 48 = .ok (.iload_n 3, 1) := by decide +kernel
theorem dX8_factor_49 : decode cX8_factor 49 = .ok (.ifCond .ne 9, 3) := by decide +kernel
theorem dX8_factor_52 : decode cX8_factor 52 = .ok (.aload 5, 2) := by decide +kernel
theorem dX8_factor_54 : decode cX8_factor 54 = .ok (.invokevirtual 138, 3) := by decide +kernel
theorem dX8_factor_57 : decode cX8_factor 57 = .ok (.ireturn, 1) := by decide +kernel
theorem dX8_factor_58 : decode cX8_factor 58 = .ok (.iload_n 3, 1) := by decide +kernel
theorem dX8_factor_59 : decode cX8_factor 59 = .ok (.iconst 1, 1) := by decide +kernel
theorem dX8_factor_60 : decode cX8_factor 60 = .ok (.if_icmp .ne 13, 3) := by decide +kernel
theorem dX8_factor_63 : decode cX8_factor 63 = .ok (.aload 4, 2) := by decide +kernel
theorem dX8_factor_65 : decode cX8_factor 65 = .ok (.getfield 149, 3) := by decide +kernel
theorem dX8_factor_68 : decode cX8_factor 68 = .ok (.iload_n 2, 1) := by decide +kernel
theorem dX8_factor_69 : decode cX8_factor 69 = .ok (.invokevirtual 180, 3) := by decide +kernel
theorem dX8_factor_72 : decode cX8_factor 72 = .ok (.ireturn, 1) := by decide +kernel
theorem dX8_factor_73 : decode cX8_factor 73 = .ok (.ldc 183, 2) := by decide +kernel
theorem dX8_factor_75 : decode cX8_factor 75 = .ok (.aload 5, 2) := by decide +kernel
theorem dX8_factor_77 : decode cX8_factor 77 = .ok (.iload_n 3, 1) := by decide +kernel
theorem dX8_factor_78 : decode cX8_factor 78 = .ok (.iconst 2, 1) := by decide +kernel
theorem dX8_factor_79 : decode cX8_factor 79 = .ok (.isub, 1) := by decide +kernel
theorem dX8_factor_80 : decode cX8_factor 80 = .ok (.invokevirtual 172, 3) := by decide +kernel
theorem dX8_factor_83 : decode cX8_factor 83 = .ok (.l2i, 1) := by decide +kernel
theorem dX8_factor_84 : decode cX8_factor 84 = .ok (.iadd, 1) := by decide +kernel
theorem dX8_factor_85 : decode cX8_factor 85 = .ok (.ireturn, 1) := by decide +kernel
theorem dX8_value_0 : decode cX8_value 0 = .ok (.aload_n 0, 1) := by decide +kernel
theorem dX8_value_1 : decode cX8_value 1 = .ok (.iload_n 1, 1) := by decide +kernel
theorem dX8_value_2 : decode cX8_value 2 = .ok (.invokevirtual 169, 3) := by decide +kernel
theorem dX8_value_5 : decode cX8_value 5 = .ok (.astore_n 3, 1) := by decide +kernel
theorem dX8_value_6 : decode cX8_value 6 = .ok (.aload_n 3, 1) := by decide +kernel
theorem dX8_value_7 : decode cX8_value 7 = .ok (.ifnonnull 7, 3) := by decide +kernel
theorem dX8_value_10 : decode cX8_value 10 = .ok (.ldc2_w 184, 3) := by decide +kernel
theorem dX8_value_13 : decode cX8_value 13 = .ok (.lreturn, 1) := by decide +kernel
theorem dX8_value_14 : decode cX8_value 14 = .ok (.iload_n 2, 1) := by decide +kernel
theorem dX8_value_15 : decode cX8_value 15 = .ok (.bipush (-9), 2) := by decide +kernel
theorem dX8_value_17 : decode cX8_value 17 = .ok (.if_icmp .lt 9, 3) := by decide +kernel
theorem dX8_value_20 : decode cX8_value 20 = .ok (.iload_n 2, 1) := by decide +kernel
theorem dX8_value_21 : decode cX8_value 21 = .ok (.bipush 9, 2) := by decide +kernel
theorem dX8_value_23 : decode cX8_value 23 = .ok (.if_icmp .le 7, 3) := by decide +kernel
theorem dX8_value_26 : decode cX8_value 26 = .ok (.ldc2_w 186, 3) := by decide +kernel
theorem dX8_value_29 : decode cX8_value 29 = .ok (.lreturn, 1) := by decide +kernel
theorem dX8_value_30 : decode cX8_value 30 = .ok (.aload_n 3, 1) := by decide +kernel
theorem dX8_value_31 : decode cX8_value 31 = .ok (.getfield 135, 3) := by decide +kernel
theorem dX8_value_34 : decode cX8_value 34 = .ok (.iload_n 2, 1) := by decide +kernel
theorem dX8_value_35 : decode cX8_value 35 = .ok (.invokevirtual 188, 3) := by decide +kernel
theorem dX8_value_38 : decode cX8_value 38 = .ok (.lreturn, 1) := by decide +kernel
theorem dX8_settle_0 : decode cX8_settle 0 = .ok (.aload_n 0, 1) := by decide +kernel
theorem dX8_settle_1 : decode cX8_settle 1 = .ok (.getfield 29, 3) := by decide +kernel
theorem dX8_settle_4 : decode cX8_settle 4 = .ok (.invokevirtual 191, 3) := by decide +kernel
theorem dX8_settle_7 : decode cX8_settle 7 = .ok (.ifCond .ne 6, 3) := by decide +kernel
theorem dX8_settle_10 : decode cX8_settle 10 = .ok (.bipush (-104), 2) := by decide +kernel
theorem dX8_settle_12 : decode cX8_settle 12 = .ok (.ireturn, 1) := by decide +kernel
theorem dX8_settle_13 : decode cX8_settle 13 = .ok (.aload_n 1, 1) := by decide +kernel
theorem dX8_settle_14 : decode cX8_settle 14 = .ok (.getfield 96, 3) := by decide +kernel
theorem dX8_settle_17 : decode cX8_settle 17 = .ok (.tableswitch 116 1 4 #[31, 59, 88, 102], 31) := by decide +kernel
theorem dX8_settle_48 : decode cX8_settle 48 = .ok (.aload_n 0, 1) := by decide +kernel
theorem dX8_settle_49 : decode cX8_settle 49 = .ok (.getfield 33, 3) := by decide +kernel
theorem dX8_settle_52 : decode cX8_settle 52 = .ok (.aload_n 0, 1) := by decide +kernel
theorem dX8_settle_53 : decode cX8_settle 53 = .ok (.getfield 29, 3) := by decide +kernel
theorem dX8_settle_56 : decode cX8_settle 56 = .ok (.invokevirtual 127, 3) := by decide +kernel
theorem dX8_settle_59 : decode cX8_settle 59 = .ok (.aload_n 0, 1) := by decide +kernel
theorem dX8_settle_60 : decode cX8_settle 60 = .ok (.getfield 33, 3) := by decide +kernel
theorem dX8_settle_63 : decode cX8_settle 63 = .ok (.aload_n 0, 1) := by decide +kernel
theorem dX8_settle_64 : decode cX8_settle 64 = .ok (.getfield 29, 3) := by decide +kernel
theorem dX8_settle_67 : decode cX8_settle 67 = .ok (.invokevirtual 142, 3) := by decide +kernel
theorem dX8_settle_70 : decode cX8_settle 70 = .ok (.invokevirtual 194, 3) := by decide +kernel
theorem dX8_settle_73 : decode cX8_settle 73 = .ok (.goto 71, 3) := by decide +kernel
theorem dX8_settle_76 : decode cX8_settle 76 = .ok (.aload_n 0, 1) := by decide +kernel
theorem dX8_settle_77 : decode cX8_settle 77 = .ok (.getfield 39, 3) := by decide +kernel
theorem dX8_settle_80 : decode cX8_settle 80 = .ok (.aload_n 0, 1) := by decide +kernel
theorem dX8_settle_81 : decode cX8_settle 81 = .ok (.getfield 29, 3) := by decide +kernel
theorem dX8_settle_84 : decode cX8_settle 84 = .ok (.aload_n 0, 1) := by decide +kernel
theorem dX8_settle_85 : decode cX8_settle 85 = .ok (.getfield 46, 3) := by decide +kernel
theorem dX8_settle_88 : decode cX8_settle 88 = .ok (.invokevirtual 198, 3) := by decide +kernel
theorem dX8_settle_91 : decode cX8_settle 91 = .ok (.aload_n 0, 1) := by decide +kernel
theorem dX8_settle_92 : decode cX8_settle 92 = .ok (.getfield 46, 3) := by decide +kernel
theorem dX8_settle_95 : decode cX8_settle 95 = .ok (.aload_n 0, 1) := by decide +kernel
theorem dX8_settle_96 : decode cX8_settle 96 = .ok (.getfield 33, 3) := by decide +kernel
theorem dX8_settle_99 : decode cX8_settle 99 = .ok (.invokevirtual 202, 3) := by decide +kernel
theorem dX8_settle_102 : decode cX8_settle 102 = .ok (.goto 42, 3) := by decide +kernel
theorem dX8_settle_105 : decode cX8_settle 105 = .ok (.aload_n 0, 1) := by decide +kernel
theorem dX8_settle_106 : decode cX8_settle 106 = .ok (.getfield 33, 3) := by decide +kernel
theorem dX8_settle_109 : decode cX8_settle 109 = .ok (.aload_n 0, 1) := by decide +kernel
theorem dX8_settle_110 : decode cX8_settle 110 = .ok (.getfield 29, 3) := by decide +kernel
theorem dX8_settle_113 : decode cX8_settle 113 = .ok (.invokevirtual 205, 3) := by decide +kernel
theorem dX8_settle_116 : decode cX8_settle 116 = .ok (.goto 28, 3) := by decide +kernel
theorem dX8_settle_119 : decode cX8_settle 119 = .ok (.aload_n 0, 1) := by decide +kernel
theorem dX8_settle_120 : decode cX8_settle 120 = .ok (.getfield 33, 3) := by decide +kernel
theorem dX8_settle_123 : decode cX8_settle 123 = .ok (.aload_n 0, 1) := by decide +kernel
theorem dX8_settle_124 : decode cX8_settle 124 = .ok (.getfield 29, 3) := by decide +kernel
theorem dX8_settle_127 : decode cX8_settle 127 = .ok (.invokevirtual 208, 3) := by decide +kernel
theorem dX8_settle_130 : decode cX8_settle 130 = .ok (.goto 14, 3) := by decide +kernel
theorem dX8_settle_133 : decode cX8_settle 133 = .ok (.aload_n 0, 1) := by decide +kernel
theorem dX8_settle_134 : decode cX8_settle 134 = .ok (.getfield 33, 3) := by decide +kernel
theorem dX8_settle_137 : decode cX8_settle 137 = .ok (.aload_n 0, 1) := by decide +kernel
theorem dX8_settle_138 : decode cX8_settle 138 = .ok (.getfield 29, 3) := by decide +kernel
theorem dX8_settle_141 : decode cX8_settle 141 = .ok (.invokevirtual 127, 3) := by decide +kernel
theorem dX8_settle_144 : decode cX8_settle 144 = .ok (.aload_n 0, 1) := by decide +kernel
theorem dX8_settle_145 : decode cX8_settle 145 = .ok (.getfield 33, 3) := by decide +kernel
theorem dX8_settle_148 : decode cX8_settle 148 = .ok (.invokevirtual 191, 3) := by decide +kernel
theorem dX8_settle_151 : decode cX8_settle 151 = .ok (.ifCond .ne 6, 3) := by decide +kernel
theorem dX8_settle_154 : decode cX8_settle 154 = .ok (.bipush (-104), 2) := by decide +kernel
theorem dX8_settle_156 : decode cX8_settle 156 = .ok (.ireturn, 1) := by decide +kernel
theorem dX8_settle_157 : decode cX8_settle 157 = .ok (.aload_n 1, 1) := by decide +kernel
theorem dX8_settle_158 : decode cX8_settle 158 = .ok (.getfield 135, 3) := by decide +kernel
theorem dX8_settle_161 : decode cX8_settle 161 = .ok (.aload_n 0, 1) := by decide +kernel
theorem dX8_settle_162 : decode cX8_settle 162 = .ok (.getfield 33, 3) := by decide +kernel
theorem dX8_settle_165 : decode cX8_settle 165 = .ok (.invokevirtual 127, 3) := by decide +kernel
theorem dX8_settle_168 : decode cX8_settle 168 = .ok (.aload_n 1, 1) := by decide +kernel
theorem dX8_settle_169 : decode cX8_settle 169 = .ok (.iconst 1, 1) := by decide +kernel
theorem dX8_settle_170 : decode cX8_settle 170 = .ok (.putfield 99, 3) := by decide +kernel
theorem dX8_settle_173 : decode cX8_settle 173 = .ok (.aload_n 0, 1) := by decide +kernel
theorem dX8_settle_174 : decode cX8_settle 174 = .ok (.getfield 39, 3) := by decide +kernel
theorem dX8_settle_177 : decode cX8_settle 177 = .ok (.aload_n 1, 1) := by decide +kernel
theorem dX8_settle_178 : decode cX8_settle 178 = .ok (.getfield 135, 3) := by decide +kernel
theorem dX8_settle_181 : decode cX8_settle 181 = .ok (.aload_n 1, 1) := by decide +kernel
theorem dX8_settle_182 : decode cX8_settle 182 = .ok (.getfield 149, 3) := by decide +kernel
theorem dX8_settle_185 : decode cX8_settle 185 = .ok (.invokevirtual 198, 3) := by decide +kernel
theorem dX8_settle_188 : decode cX8_settle 188 = .ok (.aload_n 1, 1) := by decide +kernel
theorem dX8_settle_189 : decode cX8_settle 189 = .ok (.getfield 135, 3) := by decide +kernel
theorem dX8_settle_192 : decode cX8_settle 192 = .ok (.invokevirtual 138, 3) := by decide +kernel
theorem dX8_settle_195 : decode cX8_settle 195 = .ok (.ireturn, 1) := by decide +kernel
theorem dX8_add_0 : decode cX8_add 0 = .ok (.aload_n 0, 1) := by decide +kernel
theorem dX8_add_1 : decode cX8_add 1 = .ok (.iload_n 1, 1) := by decide +kernel
theorem dX8_add_2 : decode cX8_add 2 = .ok (.invokevirtual 169, 3) := by decide +kernel
theorem dX8_add_5 : decode cX8_add 5 = .ok (.astore 4, 2) := by decide +kernel
theorem dX8_add_7 : decode cX8_add 7 = .ok (.aload_n 0, 1) := by decide +kernel
theorem dX8_add_8 : decode cX8_add 8 = .ok (.iload_n 2, 1) := by decide +kernel
theorem dX8_add_9 : decode cX8_add 9 = .ok (.invokevirtual 169, 3) := by decide +kernel
theorem dX8_add_12 : decode cX8_add 12 = .ok (.astore 5, 2) := by decide +kernel
theorem dX8_add_14 : decode cX8_add 14 = .ok (.aload_n 0, 1) := by decide +kernel
theorem dX8_add_15 : decode cX8_add 15 = .ok (.iload_n 3, 1) := by decide +kernel
theorem dX8_add_16 : decode cX8_add 16 = .ok (.invokevirtual 116, 3) := by decide +kernel
theorem dX8_add_19 : decode cX8_add 19 = .ok (.astore 6, 2) := by decide +kernel
theorem dX8_add_21 : decode cX8_add 21 = .ok (.aload 4, 2) := by decide +kernel
theorem dX8_add_23 : decode cX8_add 23 = .ok (.ifnull 13, 3) := by decide +kernel
theorem dX8_add_26 : decode cX8_add 26 = .ok (.aload 5, 2) := by decide +kernel
theorem dX8_add_28 : decode cX8_add 28 = .ok (.ifnull 8, 3) := by decide +kernel
theorem dX8_add_31 : decode cX8_add 31 = .ok (.aload 6, 2) := by decide +kernel
theorem dX8_add_33 : decode cX8_add 33 = .ok (.ifnonnull 6, 3) := by decide +kernel
theorem dX8_add_36 : decode cX8_add 36 = .ok (.bipush (-101), 2) := by decide +kernel
theorem dX8_add_38 : decode cX8_add 38 = .ok (.ireturn, 1) := by decide +kernel
theorem dX8_add_39 : decode cX8_add 39 = .ok (.aload_n 0, 1) := by decide +kernel
theorem dX8_add_40 : decode cX8_add 40 = .ok (.getfield 29, 3) := by decide +kernel
theorem dX8_add_43 : decode cX8_add 43 = .ok (.aload 4, 2) := by decide +kernel
theorem dX8_add_45 : decode cX8_add 45 = .ok (.getfield 135, 3) := by decide +kernel
theorem dX8_add_48 : decode cX8_add 48 = .ok (.aload 5, 2) := by decide +kernel
theorem dX8_add_50 : decode cX8_add 50 = .ok (.getfield 135, 3) := by decide +kernel
theorem dX8_add_53 : decode cX8_add 53 = .ok (.invokevirtual 211, 3) := by decide +kernel
theorem dX8_add_56 : decode cX8_add 56 = .ok (.aload_n 0, 1) := by decide +kernel
theorem dX8_add_57 : decode cX8_add 57 = .ok (.getfield 29, 3) := by decide +kernel
theorem dX8_add_60 : decode cX8_add 60 = .ok (.invokevirtual 138, 3) := by decide +kernel
theorem dX8_add_63 : decode cX8_add 63 = .ok (.iconst (-1), 1) := by decide +kernel
theorem dX8_add_64 : decode cX8_add 64 = .ok (.if_icmp .ne 8, 3) := by decide +kernel
theorem dX8_add_67 : decode cX8_add 67 = .ok (.bipush (-103), 2) := by decide +kernel
theorem dX8_add_69 : decode cX8_add 69 = .ok (.goto 9, 3) := by decide +kernel
theorem dX8_add_72 : decode cX8_add 72 = .ok (.aload_n 0, 1) := by decide +kernel
theorem dX8_add_73 : decode cX8_add 73 = .ok (.aload 6, 2) := by decide +kernel
theorem dX8_add_75 : decode cX8_add 75 = .ok (.invokevirtual 131, 3) := by decide +kernel
theorem dX8_add_78 : decode cX8_add 78 = .ok (.ireturn, 1) := by decide +kernel
theorem dX8_times_0 : decode cX8_times 0 = .ok (.aload_n 0, 1) := by decide +kernel
theorem dX8_times_1 : decode cX8_times 1 = .ok (.iload_n 1, 1) := by decide +kernel
theorem dX8_times_2 : decode cX8_times 2 = .ok (.invokevirtual 169, 3) := by decide +kernel
theorem dX8_times_5 : decode cX8_times 5 = .ok (.astore 4, 2) := by decide +kernel
theorem dX8_times_7 : decode cX8_times 7 = .ok (.aload_n 0, 1) := by decide +kernel
theorem dX8_times_8 : decode cX8_times 8 = .ok (.iload_n 2, 1) := by decide +kernel
theorem dX8_times_9 : decode cX8_times 9 = .ok (.invokevirtual 169, 3) := by decide +kernel
theorem dX8_times_12 : decode cX8_times 12 = .ok (.astore 5, 2) := by decide +kernel
theorem dX8_times_14 : decode cX8_times 14 = .ok (.aload_n 0, 1) := by decide +kernel
theorem dX8_times_15 : decode cX8_times 15 = .ok (.iload_n 3, 1) := by decide +kernel
theorem dX8_times_16 : decode cX8_times 16 = .ok (.invokevirtual 116, 3) := by decide +kernel
theorem dX8_times_19 : decode cX8_times 19 = .ok (.astore 6, 2) := by decide +kernel
theorem dX8_times_21 : decode cX8_times 21 = .ok (.aload 4, 2) := by decide +kernel
theorem dX8_times_23 : decode cX8_times 23 = .ok (.ifnull 13, 3) := by decide +kernel
theorem dX8_times_26 : decode cX8_times 26 = .ok (.aload 5, 2) := by decide +kernel
theorem dX8_times_28 : decode cX8_times 28 = .ok (.ifnull 8, 3) := by decide +kernel
theorem dX8_times_31 : decode cX8_times 31 = .ok (.aload 6, 2) := by decide +kernel
theorem dX8_times_33 : decode cX8_times 33 = .ok (.ifnonnull 6, 3) := by decide +kernel
theorem dX8_times_36 : decode cX8_times 36 = .ok (.bipush (-101), 2) := by decide +kernel
theorem dX8_times_38 : decode cX8_times 38 = .ok (.ireturn, 1) := by decide +kernel
theorem dX8_times_39 : decode cX8_times 39 = .ok (.aload 4, 2) := by decide +kernel
theorem dX8_times_41 : decode cX8_times 41 = .ok (.getfield 135, 3) := by decide +kernel
theorem dX8_times_44 : decode cX8_times 44 = .ok (.invokevirtual 138, 3) := by decide +kernel
theorem dX8_times_47 : decode cX8_times 47 = .ok (.aload 5, 2) := by decide +kernel
theorem dX8_times_49 : decode cX8_times 49 = .ok (.getfield 135, 3) := by decide +kernel
theorem dX8_times_52 : decode cX8_times 52 = .ok (.invokevirtual 138, 3) := by decide +kernel
theorem dX8_times_55 : decode cX8_times 55 = .ok (.iadd, 1) := by decide +kernel
theorem dX8_times_56 : decode cX8_times 56 = .ok (.iconst 5, 1) := by decide +kernel
theorem dX8_times_57 : decode cX8_times 57 = .ok (.if_icmp .le 6, 3) := by decide +kernel
theorem dX8_times_60 : decode cX8_times 60 = .ok (.bipush (-104), 2) := by decide +kernel
theorem dX8_times_62 : decode cX8_times 62 = .ok (.ireturn, 1) := by decide +kernel
theorem dX8_times_63 : decode cX8_times 63 = .ok (.aload_n 0, 1) := by decide +kernel
theorem dX8_times_64 : decode cX8_times 64 = .ok (.getfield 29, 3) := by decide +kernel
theorem dX8_times_67 : decode cX8_times 67 = .ok (.aload 4, 2) := by decide +kernel
theorem dX8_times_69 : decode cX8_times 69 = .ok (.getfield 135, 3) := by decide +kernel
theorem dX8_times_72 : decode cX8_times 72 = .ok (.invokevirtual 127, 3) := by decide +kernel
theorem dX8_times_75 : decode cX8_times 75 = .ok (.aload_n 0, 1) := by decide +kernel
theorem dX8_times_76 : decode cX8_times 76 = .ok (.getfield 29, 3) := by decide +kernel
theorem dX8_times_79 : decode cX8_times 79 = .ok (.aload 5, 2) := by decide +kernel
theorem dX8_times_81 : decode cX8_times 81 = .ok (.getfield 135, 3) := by decide +kernel
theorem dX8_times_84 : decode cX8_times 84 = .ok (.invokevirtual 215, 3) := by decide +kernel
theorem dX8_times_87 : decode cX8_times 87 = .ok (.aload_n 0, 1) := by decide +kernel
theorem dX8_times_88 : decode cX8_times 88 = .ok (.aload 6, 2) := by decide +kernel
theorem dX8_times_90 : decode cX8_times 90 = .ok (.invokevirtual 131, 3) := by decide +kernel
theorem dX8_times_93 : decode cX8_times 93 = .ok (.ireturn, 1) := by decide +kernel
theorem dX8_common_0 : decode cX8_common 0 = .ok (.aload_n 0, 1) := by decide +kernel
theorem dX8_common_1 : decode cX8_common 1 = .ok (.iload_n 1, 1) := by decide +kernel
theorem dX8_common_2 : decode cX8_common 2 = .ok (.invokevirtual 169, 3) := by decide +kernel
theorem dX8_common_5 : decode cX8_common 5 = .ok (.astore 4, 2) := by decide +kernel
theorem dX8_common_7 : decode cX8_common 7 = .ok (.aload_n 0, 1) := by decide +kernel
theorem dX8_common_8 : decode cX8_common 8 = .ok (.iload_n 2, 1) := by decide +kernel
theorem dX8_common_9 : decode cX8_common 9 = .ok (.invokevirtual 169, 3) := by decide +kernel
theorem dX8_common_12 : decode cX8_common 12 = .ok (.astore 5, 2) := by decide +kernel
theorem dX8_common_14 : decode cX8_common 14 = .ok (.aload_n 0, 1) := by decide +kernel
theorem dX8_common_15 : decode cX8_common 15 = .ok (.iload_n 3, 1) := by decide +kernel
theorem dX8_common_16 : decode cX8_common 16 = .ok (.invokevirtual 116, 3) := by decide +kernel
theorem dX8_common_19 : decode cX8_common 19 = .ok (.astore 6, 2) := by decide +kernel
theorem dX8_common_21 : decode cX8_common 21 = .ok (.aload 4, 2) := by decide +kernel
theorem dX8_common_23 : decode cX8_common 23 = .ok (.ifnull 13, 3) := by decide +kernel
theorem dX8_common_26 : decode cX8_common 26 = .ok (.aload 5, 2) := by decide +kernel
theorem dX8_common_28 : decode cX8_common 28 = .ok (.ifnull 8, 3) := by decide +kernel
theorem dX8_common_31 : decode cX8_common 31 = .ok (.aload 6, 2) := by decide +kernel
theorem dX8_common_33 : decode cX8_common 33 = .ok (.ifnonnull 6, 3) := by decide +kernel
theorem dX8_common_36 : decode cX8_common 36 = .ok (.bipush (-101), 2) := by decide +kernel
theorem dX8_common_38 : decode cX8_common 38 = .ok (.ireturn, 1) := by decide +kernel
theorem dX8_common_39 : decode cX8_common 39 = .ok (.aload_n 0, 1) := by decide +kernel
theorem dX8_common_40 : decode cX8_common 40 = .ok (.getfield 29, 3) := by decide +kernel
theorem dX8_common_43 : decode cX8_common 43 = .ok (.aload 4, 2) := by decide +kernel
theorem dX8_common_45 : decode cX8_common 45 = .ok (.getfield 135, 3) := by decide +kernel
theorem dX8_common_48 : decode cX8_common 48 = .ok (.invokevirtual 142, 3) := by decide +kernel
theorem dX8_common_51 : decode cX8_common 51 = .ok (.aload 5, 2) := by decide +kernel
theorem dX8_common_53 : decode cX8_common 53 = .ok (.getfield 135, 3) := by decide +kernel
theorem dX8_common_56 : decode cX8_common 56 = .ok (.invokevirtual 142, 3) := by decide +kernel
theorem dX8_common_59 : decode cX8_common 59 = .ok (.invokestatic 218, 3) := by decide +kernel
theorem dX8_common_62 : decode cX8_common 62 = .ok (.invokevirtual 222, 3) := by decide +kernel
theorem dX8_common_65 : decode cX8_common 65 = .ok (.aload 4, 2) := by decide +kernel
theorem dX8_common_67 : decode cX8_common 67 = .ok (.getfield 149, 3) := by decide +kernel
theorem dX8_common_70 : decode cX8_common 70 = .ok (.aload 5, 2) := by decide +kernel
theorem dX8_common_72 : decode cX8_common 72 = .ok (.getfield 149, 3) := by decide +kernel
theorem dX8_common_75 : decode cX8_common 75 = .ok (.aload_n 0, 1) := by decide +kernel
theorem dX8_common_76 : decode cX8_common 76 = .ok (.getfield 29, 3) := by decide +kernel
theorem dX8_common_79 : decode cX8_common 79 = .ok (.invokevirtual 225, 3) := by decide +kernel
theorem dX8_common_82 : decode cX8_common 82 = .ok (.aload_n 0, 1) := by decide +kernel
theorem dX8_common_83 : decode cX8_common 83 = .ok (.aload 6, 2) := by decide +kernel
theorem dX8_common_85 : decode cX8_common 85 = .ok (.invokevirtual 131, 3) := by decide +kernel
theorem dX8_common_88 : decode cX8_common 88 = .ok (.ireturn, 1) := by decide +kernel
theorem dX8_slope_0 : decode cX8_slope 0 = .ok (.aload_n 0, 1) := by decide +kernel
theorem dX8_slope_1 : decode cX8_slope 1 = .ok (.iload_n 1, 1) := by decide +kernel
theorem dX8_slope_2 : decode cX8_slope 2 = .ok (.invokevirtual 169, 3) := by decide +kernel
theorem dX8_slope_5 : decode cX8_slope 5 = .ok (.astore_n 3, 1) := by decide +kernel
theorem dX8_slope_6 : decode cX8_slope 6 = .ok (.aload_n 0, 1) := by decide +kernel
theorem dX8_slope_7 : decode cX8_slope 7 = .ok (.iload_n 2, 1) := by decide +kernel
theorem dX8_slope_8 : decode cX8_slope 8 = .ok (.invokevirtual 116, 3) := by decide +kernel
theorem dX8_slope_11 : decode cX8_slope 11 = .ok (.astore 4, 2) := by decide +kernel
theorem dX8_slope_13 : decode cX8_slope 13 = .ok (.aload_n 3, 1) := by decide +kernel
theorem dX8_slope_14 : decode cX8_slope 14 = .ok (.ifnull 8, 3) := by decide +kernel
theorem dX8_slope_17 : decode cX8_slope 17 = .ok (.aload 4, 2) := by decide +kernel
theorem dX8_slope_19 : decode cX8_slope 19 = .ok (.ifnonnull 6, 3) := by decide +kernel
theorem dX8_slope_22 : decode cX8_slope 22 = .ok (.bipush (-101), 2) := by decide +kernel
theorem dX8_slope_24 : decode cX8_slope 24 = .ok (.ireturn, 1) := by decide +kernel
theorem dX8_slope_25 : decode cX8_slope 25 = .ok (.aload_n 3, 1) := by decide +kernel
theorem dX8_slope_26 : decode cX8_slope 26 = .ok (.getfield 135, 3) := by decide +kernel
theorem dX8_slope_29 : decode cX8_slope 29 = .ok (.invokevirtual 138, 3) := by decide +kernel
theorem dX8_slope_32 : decode cX8_slope 32 = .ok (.iconst 1, 1) := by decide +kernel
theorem dX8_slope_33 : decode cX8_slope 33 = .ok (.if_icmp .ge 6, 3) := by decide +kernel
theorem dX8_slope_36 : decode cX8_slope 36 = .ok (.bipush (-103), 2) := by decide +kernel
theorem dX8_slope_38 : decode cX8_slope 38 = .ok (.ireturn, 1) := by decide +kernel
theorem dX8_slope_39 : decode cX8_slope 39 = .ok (.aload_n 0, 1) := by decide +kernel
theorem dX8_slope_40 : decode cX8_slope 40 = .ok (.getfield 29, 3) := by decide +kernel
theorem dX8_slope_43 : decode cX8_slope 43 = .ok (.aload_n 3, 1) := by decide +kernel
theorem dX8_slope_44 : decode cX8_slope 44 = .ok (.getfield 135, 3) := by decide +kernel
theorem dX8_slope_47 : decode cX8_slope 47 = .ok (.invokevirtual 229, 3) := by decide +kernel
theorem dX8_slope_50 : decode cX8_slope 50 = .ok (.aload_n 0, 1) := by decide +kernel
theorem dX8_slope_51 : decode cX8_slope 51 = .ok (.aload 4, 2) := by decide +kernel
theorem dX8_slope_53 : decode cX8_slope 53 = .ok (.invokevirtual 131, 3) := by decide +kernel
theorem dX8_slope_56 : decode cX8_slope 56 = .ok (.ireturn, 1) := by decide +kernel
theorem dX8_move_0 : decode cX8_move 0 = .ok (.aload_n 0, 1) := by decide +kernel
theorem dX8_move_1 : decode cX8_move 1 = .ok (.iload_n 1, 1) := by decide +kernel
theorem dX8_move_2 : decode cX8_move 2 = .ok (.invokevirtual 169, 3) := by decide +kernel
theorem dX8_move_5 : decode cX8_move 5 = .ok (.astore 4, 2) := by decide +kernel
theorem dX8_move_7 : decode cX8_move 7 = .ok (.aload_n 0, 1) := by decide +kernel
theorem dX8_move_8 : decode cX8_move 8 = .ok (.iload_n 3, 1) := by decide +kernel
theorem dX8_move_9 : decode cX8_move 9 = .ok (.invokevirtual 116, 3) := by decide +kernel
theorem dX8_move_12 : decode cX8_move 12 = .ok (.astore 5, 2) := by decide +kernel
theorem dX8_move_14 : decode cX8_move 14 = .ok (.aload 4, 2) := by decide +kernel
theorem dX8_move_16 : decode cX8_move 16 = .ok (.ifnull 8, 3) := by decide +kernel
theorem dX8_move_19 : decode cX8_move 19 = .ok (.aload 5, 2) := by decide +kernel
theorem dX8_move_21 : decode cX8_move 21 = .ok (.ifnonnull 6, 3) := by decide +kernel
theorem dX8_move_24 : decode cX8_move 24 = .ok (.bipush (-101), 2) := by decide +kernel
theorem dX8_move_26 : decode cX8_move 26 = .ok (.ireturn, 1) := by decide +kernel
theorem dX8_move_27 : decode cX8_move 27 = .ok (.iload_n 2, 1) := by decide +kernel
theorem dX8_move_28 : decode cX8_move 28 = .ok (.bipush (-9), 2) := by decide +kernel
theorem dX8_move_30 : decode cX8_move 30 = .ok (.if_icmp .lt 9, 3) := by decide +kernel
theorem dX8_move_33 : decode cX8_move 33 = .ok (.iload_n 2, 1) := by decide +kernel
theorem dX8_move_34 : decode cX8_move 34 = .ok (.bipush 9, 2) := by decide +kernel
theorem dX8_move_36 : decode cX8_move 36 = .ok (.if_icmp .le 6, 3) := by decide +kernel
theorem dX8_move_39 : decode cX8_move 39 = .ok (.bipush (-102), 2) := by decide +kernel
theorem dX8_move_41 : decode cX8_move 41 = .ok (.ireturn, 1) := by decide +kernel
theorem dX8_move_42 : decode cX8_move 42 = .ok (.aload_n 0, 1) := by decide +kernel
theorem dX8_move_43 : decode cX8_move 43 = .ok (.getfield 29, 3) := by decide +kernel
theorem dX8_move_46 : decode cX8_move 46 = .ok (.aload 4, 2) := by decide +kernel
theorem dX8_move_48 : decode cX8_move 48 = .ok (.getfield 135, 3) := by decide +kernel
theorem dX8_move_51 : decode cX8_move 51 = .ok (.iload_n 2, 1) := by decide +kernel
theorem dX8_move_52 : decode cX8_move 52 = .ok (.invokevirtual 232, 3) := by decide +kernel
theorem dX8_move_55 : decode cX8_move 55 = .ok (.aload_n 0, 1) := by decide +kernel
theorem dX8_move_56 : decode cX8_move 56 = .ok (.aload 5, 2) := by decide +kernel
theorem dX8_move_58 : decode cX8_move 58 = .ok (.invokevirtual 131, 3) := by decide +kernel
theorem dX8_move_61 : decode cX8_move 61 = .ok (.ireturn, 1) := by decide +kernel
theorem dX8_be_0 : decode cX8_be 0 = .ok (.aload_n 0, 1) := by decide +kernel
theorem dX8_be_1 : decode cX8_be 1 = .ok (.iload_n 1, 1) := by decide +kernel
theorem dX8_be_2 : decode cX8_be 2 = .ok (.invokevirtual 116, 3) := by decide +kernel
theorem dX8_be_5 : decode cX8_be 5 = .ok (.astore_n 3, 1) := by decide +kernel
theorem dX8_be_6 : decode cX8_be 6 = .ok (.aload_n 3, 1) := by decide +kernel
theorem dX8_be_7 : decode cX8_be 7 = .ok (.ifnonnull 6, 3) := by decide +kernel
theorem dX8_be_10 : decode cX8_be 10 = .ok (.bipush (-101), 2) := by decide +kernel
theorem dX8_be_12 : decode cX8_be 12 = .ok (.ireturn, 1) := by decide +kernel
theorem dX8_be_13 : decode cX8_be 13 = .ok (.iload_n 2, 1) := by decide +kernel
theorem dX8_be_14 : decode cX8_be 14 = .ok (.invokestatic 166, 3) := by decide +kernel
theorem dX8_be_17 : decode cX8_be 17 = .ok (.ifCond .ne 6, 3) := by decide +kernel
theorem dX8_be_20 : decode cX8_be 20 = .ok (.bipush (-102), 2) := by decide +kernel
theorem dX8_be_22 : decode cX8_be 22 = .ok (.ireturn, 1) := by decide +kernel
theorem dX8_be_23 : decode cX8_be 23 = .ok (.aload_n 3, 1) := by decide +kernel
theorem dX8_be_24 : decode cX8_be 24 = .ok (.getfield 96, 3) := by decide +kernel
theorem dX8_be_27 : decode cX8_be 27 = .ok (.istore 4, 2) := by decide +kernel
theorem dX8_be_29 : decode cX8_be 29 = .ok (.aload_n 3, 1) := by decide +kernel
theorem dX8_be_30 : decode cX8_be 30 = .ok (.iload_n 2, 1) := by decide +kernel
theorem dX8_be_31 : decode cX8_be 31 = .ok (.putfield 96, 3) := by decide +kernel
theorem dX8_be_34 : decode cX8_be 34 = .ok (.iload 4, 2) := by decide +kernel
theorem dX8_be_36 : decode cX8_be 36 = .ok (.ireturn, 1) := by decide +kernel
theorem dX8_parts_0 : decode cX8_parts 0 = .ok (.aload_n 0, 1) := by decide +kernel
theorem dX8_parts_1 : decode cX8_parts 1 = .ok (.iload_n 1, 1) := by decide +kernel
theorem dX8_parts_2 : decode cX8_parts 2 = .ok (.invokevirtual 169, 3) := by decide +kernel
theorem dX8_parts_5 : decode cX8_parts 5 = .ok (.astore 4, 2) := by decide +kernel
theorem dX8_parts_7 : decode cX8_parts 7 = .ok (.aload 4, 2) := by decide +kernel
theorem dX8_parts_9 : decode cX8_parts 9 = .ok (.ifnonnull 6, 3) := by decide +kernel
theorem dX8_parts_12 : decode cX8_parts 12 = .ok (.bipush (-101), 2) := by decide +kernel
theorem dX8_parts_14 : decode cX8_parts 14 = .ok (.ireturn, 1) := by decide +kernel
theorem dX8_parts_15 : decode cX8_parts 15 = .ok (.iload_n 2, 1) := by decide +kernel
theorem dX8_parts_16 : decode cX8_parts 16 = .ok (.invokestatic 236, 3) := by decide +kernel
theorem dX8_parts_19 : decode cX8_parts 19 = .ok (.ifCond .eq 12, 3) := by decide +kernel
theorem dX8_parts_22 : decode cX8_parts 22 = .ok (.iload_n 3, 1) := by decide +kernel
theorem dX8_parts_23 : decode cX8_parts 23 = .ok (.ifCond .lt 8, 3) := by decide +kernel
theorem dX8_parts_26 : decode cX8_parts 26 = .ok (.iload_n 3, 1) := by decide +kernel
theorem dX8_parts_27 : decode cX8_parts 27 = .ok (.iconst 1, 1) := by decide +kernel
theorem dX8_parts_28 : decode cX8_parts 28 = .ok (.if_icmp .le 6, 3) := by decide +kernel
theorem dX8_parts_31 : decode cX8_parts 31 = .ok (.bipush (-102), 2) := by decide +kernel
theorem dX8_parts_33 : decode cX8_parts 33 = .ok (.ireturn, 1) := by decide +kernel
theorem dX8_parts_34 : decode cX8_parts 34 = .ok (.aload_n 0, 1) := by decide +kernel
theorem dX8_parts_35 : decode cX8_parts 35 = .ok (.getfield 53, 3) := by decide +kernel
theorem dX8_parts_38 : decode cX8_parts 38 = .ok (.aload 4, 2) := by decide +kernel
theorem dX8_parts_40 : decode cX8_parts 40 = .ok (.getfield 135, 3) := by decide +kernel
theorem dX8_parts_43 : decode cX8_parts 43 = .ok (.iload_n 2, 1) := by decide +kernel
theorem dX8_parts_44 : decode cX8_parts 44 = .ok (.invokevirtual 239, 3) := by decide +kernel
theorem dX8_parts_47 : decode cX8_parts 47 = .ok (.ifCond .ne 5, 3) := by decide +kernel
theorem dX8_parts_50 : decode cX8_parts 50 = .ok (.iconst (-1), 1) := by decide +kernel
theorem dX8_parts_51 : decode cX8_parts 51 = .ok (.ireturn, 1) := by decide +kernel
theorem dX8_parts_52 : decode cX8_parts 52 = .ok (.iload_n 3, 1) := by decide +kernel
theorem dX8_parts_53 : decode cX8_parts 53 = .ok (.ifCond .ne 13, 3) := by decide +kernel
theorem dX8_parts_56 : decode cX8_parts 56 = .ok (.aload_n 0, 1) := by decide +kernel
theorem dX8_parts_57 : decode cX8_parts 57 = .ok (.getfield 53, 3) := by decide +kernel
theorem dX8_parts_60 : decode cX8_parts 60 = .ok (.invokevirtual 243, 3) := by decide +kernel
theorem dX8_parts_63 : decode cX8_parts 63 = .ok (.goto 10, 3) := by decide +kernel
theorem dX8_parts_66 : decode cX8_parts 66 = .ok (.aload_n 0, 1) := by decide +kernel
theorem dX8_parts_67 : decode cX8_parts 67 = .ok (.getfield 53, 3) := by decide +kernel
theorem dX8_parts_70 : decode cX8_parts 70 = .ok (.invokevirtual 246, 3) := by decide +kernel
theorem dX8_parts_73 : decode cX8_parts 73 = .ok (.ireturn, 1) := by decide +kernel
theorem dX8_isSmallPrime_0 : decode cX8_isSmallPrime 0 = .ok (.iconst 0, 1) := by decide +kernel
theorem dX8_isSmallPrime_1 : decode cX8_isSmallPrime 1 = .ok (.istore_n 1, 1) := by decide +kernel
theorem dX8_isSmallPrime_2 : decode cX8_isSmallPrime 2 = .ok (.iload_n 1, 1) := by decide +kernel
theorem dX8_isSmallPrime_3 : decode cX8_isSmallPrime 3 = .ok (.getstatic 249, 3) := by decide +kernel
theorem dX8_isSmallPrime_6 : decode cX8_isSmallPrime 6 = .ok (.arraylength, 1) := by decide +kernel
theorem dX8_isSmallPrime_7 : decode cX8_isSmallPrime 7 = .ok (.if_icmp .ge 20, 3) := by decide +kernel
theorem dX8_isSmallPrime_10 : decode cX8_isSmallPrime 10 = .ok (.getstatic 249, 3) := by decide +kernel
theorem dX8_isSmallPrime_13 : decode cX8_isSmallPrime 13 = .ok (.iload_n 1, 1) := by decide +kernel
theorem dX8_isSmallPrime_14 : decode cX8_isSmallPrime 14 = .ok (.iaload, 1) := by decide +kernel
theorem dX8_isSmallPrime_15 : decode cX8_isSmallPrime 15 = .ok (.iload_n 0, 1) := by decide +kernel
theorem dX8_isSmallPrime_16 : decode cX8_isSmallPrime 16 = .ok (.if_icmp .ne 5, 3) := by decide +kernel
theorem dX8_isSmallPrime_19 : decode cX8_isSmallPrime 19 = .ok (.iconst 1, 1) := by decide +kernel
theorem dX8_isSmallPrime_20 : decode cX8_isSmallPrime 20 = .ok (.ireturn, 1) := by decide +kernel
theorem dX8_isSmallPrime_21 : decode cX8_isSmallPrime 21 = .ok (.iinc 1 1, 3) := by decide +kernel
theorem dX8_isSmallPrime_24 : decode cX8_isSmallPrime 24 = .ok (.goto (-22), 3) := by decide +kernel
theorem dX8_isSmallPrime_27 : decode cX8_isSmallPrime 27 = .ok (.iconst 0, 1) := by decide +kernel
theorem dX8_isSmallPrime_28 : decode cX8_isSmallPrime 28 = .ok (.ireturn, 1) := by decide +kernel
theorem dX8_degrees_0 : decode cX8_degrees 0 = .ok (.aload_n 0, 1) := by decide +kernel
theorem dX8_degrees_1 : decode cX8_degrees 1 = .ok (.iload_n 1, 1) := by decide +kernel
theorem dX8_degrees_2 : decode cX8_degrees 2 = .ok (.invokevirtual 169, 3) := by decide +kernel
theorem dX8_degrees_5 : decode cX8_degrees 5 = .ok (.astore_n 2, 1) := by decide +kernel
theorem dX8_degrees_6 : decode cX8_degrees 6 = .ok (.aload_n 2, 1) := by decide +kernel
theorem dX8_degrees_7 : decode cX8_degrees 7 = .ok (.ifnonnull 6, 3) := by decide +kernel
theorem dX8_degrees_10 : decode cX8_degrees 10 = .ok (.bipush (-101), 2) := by decide +kernel
theorem dX8_degrees_12 : decode cX8_degrees 12 = .ok (.ireturn, 1) := by decide +kernel
theorem dX8_degrees_13 : decode cX8_degrees 13 = .ok (.iconst 1, 1) := by decide +kernel
theorem dX8_degrees_14 : decode cX8_degrees 14 = .ok (.aload_n 2, 1) := by decide +kernel
theorem dX8_degrees_15 : decode cX8_degrees 15 = .ok (.getfield 135, 3) := by decide +kernel
theorem dX8_degrees_18 : decode cX8_degrees 18 = .ok (.invokevirtual 138, 3) := by decide +kernel
theorem dX8_degrees_21 : decode cX8_degrees 21 = .ok (.iconst 1, 1) := by decide +kernel
theorem dX8_degrees_22 : decode cX8_degrees 22 = .ok (.iadd, 1) := by decide +kernel
theorem dX8_degrees_23 : decode cX8_degrees 23 = .ok (.ishl, 1) := by decide +kernel
theorem dX8_degrees_24 : decode cX8_degrees 24 = .ok (.iconst 1, 1) := by decide +kernel
theorem dX8_degrees_25 : decode cX8_degrees 25 = .ok (.isub, 1) := by decide +kernel
theorem dX8_degrees_26 : decode cX8_degrees 26 = .ok (.istore_n 3, 1) := by decide +kernel
theorem dX8_degrees_27 : decode cX8_degrees 27 = .ok (.iconst 0, 1) := by decide +kernel
theorem dX8_degrees_28 : decode cX8_degrees 28 = .ok (.istore 4, 2) := by decide +kernel
theorem dX8_degrees_30 : decode cX8_degrees 30 = .ok (.iload 4, 2) := by decide +kernel
theorem dX8_degrees_32 : decode cX8_degrees 32 = .ok (.getstatic 249, 3) := by decide +kernel
theorem dX8_degrees_35 : decode cX8_degrees 35 = .ok (.arraylength, 1) := by decide +kernel
theorem dX8_degrees_36 : decode cX8_degrees 36 = .ok (.if_icmp .ge 39, 3) := by decide +kernel
theorem dX8_degrees_39 : decode cX8_degrees 39 = .ok (.aload_n 0, 1) := by decide +kernel
theorem dX8_degrees_40 : decode cX8_degrees 40 = .ok (.getfield 53, 3) := by decide +kernel
theorem dX8_degrees_43 : decode cX8_degrees 43 = .ok (.aload_n 2, 1) := by decide +kernel
theorem dX8_degrees_44 : decode cX8_degrees 44 = .ok (.getfield 135, 3) := by decide +kernel
theorem dX8_degrees_47 : decode cX8_degrees 47 = .ok (.getstatic 249, 3) := by decide +kernel
theorem dX8_degrees_50 : decode cX8_degrees 50 = .ok (.iload 4, 2) := by decide +kernel
theorem dX8_degrees_52 : decode cX8_degrees 52 = .ok (.iaload, 1) := by decide +kernel
theorem dX8_degrees_53 : decode cX8_degrees 53 = .ok (.invokevirtual 239, 3) := by decide +kernel
theorem dX8_degrees_56 : decode cX8_degrees 56 = .ok (.ifCond .eq 13, 3) := by decide +kernel
theorem dX8_degrees_59 : decode cX8_degrees 59 = .ok (.iload_n 3, 1) := by decide +kernel
theorem dX8_degrees_60 : decode cX8_degrees 60 = .ok (.aload_n 0, 1) := by decide +kernel
theorem dX8_degrees_61 : decode cX8_degrees 61 = .ok (.getfield 53, 3) := by decide +kernel
theorem dX8_degrees_64 : decode cX8_degrees 64 = .ok (.invokevirtual 253, 3) := by decide +kernel
theorem dX8_degrees_67 : decode cX8_degrees 67 = .ok (.iand, 1) := by decide +kernel
theorem dX8_degrees_68 : decode cX8_degrees 68 = .ok (.istore_n 3, 1) := by decide +kernel
theorem dX8_degrees_69 : decode cX8_degrees 69 = .ok (.iinc 4 1, 3) := by decide +kernel
theorem dX8_degrees_72 : decode cX8_degrees 72 = .ok (.goto (-42), 3) := by decide +kernel
theorem dX8_degrees_75 : decode cX8_degrees 75 = .ok (.iload_n 3, 1) := by decide +kernel
theorem dX8_degrees_76 : decode cX8_degrees 76 = .ok (.ireturn, 1) := by decide +kernel
theorem dX8_see_0 : decode cX8_see 0 = .ok (.aload_n 0, 1) := by decide +kernel
theorem dX8_see_1 : decode cX8_see 1 = .ok (.iload_n 1, 1) := by decide +kernel
theorem dX8_see_2 : decode cX8_see 2 = .ok (.invokevirtual 116, 3) := by decide +kernel
theorem dX8_see_5 : decode cX8_see 5 = .ok (.ifnonnull 6, 3) := by decide +kernel
theorem dX8_see_8 : decode cX8_see 8 = .ok (.bipush (-101), 2) := by decide +kernel
theorem dX8_see_10 : decode cX8_see 10 = .ok (.ireturn, 1) := by decide +kernel
theorem dX8_see_11 : decode cX8_see 11 = .ok (.iload_n 2, 1) := by decide +kernel
theorem dX8_see_12 : decode cX8_see 12 = .ok (.ifCond .lt 11, 3) := by decide +kernel
theorem dX8_see_15 : decode cX8_see 15 = .ok (.iload_n 2, 1) := by decide +kernel
theorem dX8_see_16 : decode cX8_see 16 = .ok (.getstatic 256, 3) := by decide +kernel
theorem dX8_see_19 : decode cX8_see 19 = .ok (.arraylength, 1) := by decide +kernel
theorem dX8_see_20 : decode cX8_see 20 = .ok (.if_icmp .lt 6, 3) := by decide +kernel
theorem dX8_see_23 : decode cX8_see 23 = .ok (.bipush (-102), 2) := by decide +kernel
theorem dX8_see_25 : decode cX8_see 25 = .ok (.ireturn, 1) := by decide +kernel
theorem dX8_see_26 : decode cX8_see 26 = .ok (.aload_n 0, 1) := by decide +kernel
theorem dX8_see_27 : decode cX8_see 27 = .ok (.getfield 66, 3) := by decide +kernel
theorem dX8_see_30 : decode cX8_see 30 = .ok (.iload_n 1, 1) := by decide +kernel
theorem dX8_see_31 : decode cX8_see 31 = .ok (.iload_n 2, 1) := by decide +kernel
theorem dX8_see_32 : decode cX8_see 32 = .ok (.iload_n 3, 1) := by decide +kernel
theorem dX8_see_33 : decode cX8_see 33 = .ok (.invokevirtual 259, 3) := by decide +kernel
theorem dX8_see_36 : decode cX8_see 36 = .ok (.ifCond .eq 13, 3) := by decide +kernel
theorem dX8_see_39 : decode cX8_see 39 = .ok (.aload_n 0, 1) := by decide +kernel
theorem dX8_see_40 : decode cX8_see 40 = .ok (.getfield 66, 3) := by decide +kernel
theorem dX8_see_43 : decode cX8_see 43 = .ok (.getfield 109, 3) := by decide +kernel
theorem dX8_see_46 : decode cX8_see 46 = .ok (.goto 5, 3) := by decide +kernel
theorem dX8_see_49 : decode cX8_see 49 = .ok (.bipush (-104), 2) := by decide +kernel
theorem dX8_see_51 : decode cX8_see 51 = .ok (.ireturn, 1) := by decide +kernel
theorem dX8_forget_0 : decode cX8_forget 0 = .ok (.aload_n 0, 1) := by decide +kernel
theorem dX8_forget_1 : decode cX8_forget 1 = .ok (.getfield 66, 3) := by decide +kernel
theorem dX8_forget_4 : decode cX8_forget 4 = .ok (.getfield 109, 3) := by decide +kernel
theorem dX8_forget_7 : decode cX8_forget 7 = .ok (.istore_n 1, 1) := by decide +kernel
theorem dX8_forget_8 : decode cX8_forget 8 = .ok (.aload_n 0, 1) := by decide +kernel
theorem dX8_forget_9 : decode cX8_forget 9 = .ok (.getfield 66, 3) := by decide +kernel
theorem dX8_forget_12 : decode cX8_forget 12 = .ok (.iconst 0, 1) := by decide +kernel
theorem dX8_forget_13 : decode cX8_forget 13 = .ok (.putfield 109, 3) := by decide +kernel
theorem dX8_forget_16 : decode cX8_forget 16 = .ok (.iload_n 1, 1) := by decide +kernel
theorem dX8_forget_17 : decode cX8_forget 17 = .ok (.ireturn, 1) := by decide +kernel
theorem dX8_drawn_0 : decode cX8_drawn 0 = .ok (.iload_n 1, 1) := by decide +kernel
theorem dX8_drawn_1 : decode cX8_drawn 1 = .ok (.iconst 1, 1) := by decide +kernel
theorem dX8_drawn_2 : decode cX8_drawn 2 = .ok (.if_icmp .lt 21, 3) := by decide +kernel
theorem dX8_drawn_5 : decode cX8_drawn 5 = .ok (.iload_n 1, 1) := by decide +kernel
theorem dX8_drawn_6 : decode cX8_drawn 6 = .ok (.iconst 4, 1) := by decide +kernel
theorem dX8_drawn_7 : decode cX8_drawn 7 = .ok (.if_icmp .gt 16, 3) := by decide +kernel
theorem dX8_drawn_10 : decode cX8_drawn 10 = .ok (.iload_n 2, 1) := by decide +kernel
theorem dX8_drawn_11 : decode cX8_drawn 11 = .ok (.ifCond .lt 12, 3) := by decide +kernel
theorem dX8_drawn_14 : decode cX8_drawn 14 = .ok (.iload_n 3, 1) := by decide +kernel
theorem dX8_drawn_15 : decode cX8_drawn 15 = .ok (.ifCond .lt 8, 3) := by decide +kernel
theorem dX8_drawn_18 : decode cX8_drawn 18 = .ok (.iload_n 3, 1) := by decide +kernel
theorem dX8_drawn_19 : decode cX8_drawn 19 = .ok (.iconst 2, 1) := by decide +kernel
theorem dX8_drawn_20 : decode cX8_drawn 20 = .ok (.if_icmp .le 6, 3) := by decide +kernel
theorem dX8_drawn_23 : decode cX8_drawn 23 = .ok (.bipush (-102), 2) := by decide +kernel
theorem dX8_drawn_25 : decode cX8_drawn 25 = .ok (.ireturn, 1) := by decide +kernel
theorem dX8_drawn_26 : decode cX8_drawn 26 = .ok (.iload_n 2, 1) := by decide +kernel
theorem dX8_drawn_27 : decode cX8_drawn 27 = .ok (.i2l, 1) := by decide +kernel
theorem dX8_drawn_28 : decode cX8_drawn 28 = .ok (.lstore 4, 2) := by decide +kernel
theorem dX8_drawn_30 : decode cX8_drawn 30 = .ok (.iconst 0, 1) := by decide +kernel
theorem dX8_drawn_31 : decode cX8_drawn 31 = .ok (.istore 6, 2) := by decide +kernel
theorem dX8_drawn_33 : decode cX8_drawn 33 = .ok (.iconst 0, 1) := by decide +kernel
theorem dX8_drawn_34 : decode cX8_drawn 34 = .ok (.istore 7, 2) := by decide +kernel
theorem dX8_drawn_36 : decode cX8_drawn 36 = .ok (.iconst 0, 1) := by decide +kernel
theorem dX8_drawn_37 : decode cX8_drawn 37 = .ok (.istore 8, 2) := by decide +kernel
theorem dX8_drawn_39 : decode cX8_drawn 39 = .ok (.iload 8, 2) := by decide +kernel
theorem dX8_drawn_41 : decode cX8_drawn 41 = .ok (.iload_n 1, 1) := by decide +kernel
theorem dX8_drawn_42 : decode cX8_drawn 42 = .ok (.if_icmp .ge 126, 3) := by decide +kernel
theorem dX8_drawn_45 : decode cX8_drawn 45 = .ok (.aload_n 0, 1) := by decide +kernel
theorem dX8_drawn_46 : decode cX8_drawn 46 = .ok (.getfield 29, 3) := by decide +kernel
theorem dX8_drawn_49 : decode cX8_drawn 49 = .ok (.lconst 0, 1) := by decide +kernel
theorem dX8_drawn_50 : decode cX8_drawn 50 = .ok (.invokevirtual 222, 3) := by decide +kernel
theorem dX8_drawn_53 : decode cX8_drawn 53 = .ok (.aload_n 0, 1) := by decide +kernel
theorem dX8_drawn_54 : decode cX8_drawn 54 = .ok (.getfield 29, 3) := by decide +kernel
theorem dX8_drawn_57 : decode cX8_drawn 57 = .ok (.iconst 4, 1) := by decide +kernel
theorem dX8_drawn_58 : decode cX8_drawn 58 = .ok (.lconst 1, 1) := by decide +kernel
theorem dX8_drawn_59 : decode cX8_drawn 59 = .ok (.invokevirtual 262, 3) := by decide +kernel
theorem dX8_drawn_62 : decode cX8_drawn 62 = .ok (.iconst 3, 1) := by decide +kernel
theorem dX8_drawn_63 : decode cX8_drawn 63 = .ok (.istore 9, 2) := by decide +kernel
theorem dX8_drawn_65 : decode cX8_drawn 65 = .ok (.iload 9, 2) := by decide +kernel
theorem dX8_drawn_67 : decode cX8_drawn 67 = .ok (.ifCond .lt 48, 3) := by decide +kernel
theorem dX8_drawn_70 : decode cX8_drawn 70 = .ok (.ldc2_w 266, 3) := by decide +kernel
theorem dX8_drawn_73 : decode cX8_drawn 73 = .ok (.lload 4, 2) := by decide +kernel
theorem dX8_drawn_75 : decode cX8_drawn 75 = .ok (.lmul, 1) := by decide +kernel
theorem dX8_drawn_76 : decode cX8_drawn 76 = .ok (.ldc2_w 268, 3) := by decide +kernel
theorem dX8_drawn_79 : decode cX8_drawn 79 = .ok (.ladd, 1) := by decide +kernel
theorem dX8_drawn_80 : decode cX8_drawn 80 = .ok (.ldc2_w 270, 3) := by decide +kernel
theorem dX8_drawn_83 : decode cX8_drawn 83 = .ok (.land, 1) := by decide +kernel
theorem dX8_drawn_84 : decode cX8_drawn 84 = .ok (.lstore 4, 2) := by decide +kernel
theorem dX8_drawn_86 : decode cX8_drawn 86 = .ok (.aload_n 0, 1) := by decide +kernel
theorem dX8_drawn_87 : decode cX8_drawn 87 = .ok (.getfield 29, 3) := by decide +kernel
theorem dX8_drawn_90 : decode cX8_drawn 90 = .ok (.iload 9, 2) := by decide +kernel
theorem dX8_drawn_92 : decode cX8_drawn 92 = .ok (.lload 4, 2) := by decide +kernel
theorem dX8_drawn_94 : decode cX8_drawn 94 = .ok (.ldc2_w 272, 3) := by decide +kernel
theorem dX8_drawn_97 : decode cX8_drawn 97 = .ok (.ldiv, 1) := by decide +kernel
theorem dX8_drawn_98 : decode cX8_drawn 98 = .ok (.ldc2_w 274, 3) := by decide +kernel
theorem dX8_drawn_101 : decode cX8_drawn 101 = .ok (.lrem, 1) := by decide +kernel
theorem dX8_drawn_102 : decode cX8_drawn 102 = .ok (.ldc2_w 276, 3) := by decide +kernel
theorem dX8_drawn_105 : decode cX8_drawn 105 = .ok (.lsub, 1) := by decide +kernel
theorem dX8_drawn_106 : decode cX8_drawn 106 = .ok (.invokevirtual 262, 3) := by decide +kernel
theorem dX8_drawn_109 : decode cX8_drawn 109 = .ok (.iinc 9 (-1), 3) := by decide +kernel
theorem dX8_drawn_112 : decode cX8_drawn 112 = .ok (.goto (-47), 3) := by decide +kernel
theorem dX8_drawn_115 : decode cX8_drawn 115 = .ok (.aload_n 0, 1) := by decide +kernel
theorem dX8_drawn_116 : decode cX8_drawn 116 = .ok (.getfield 39, 3) := by decide +kernel
theorem dX8_drawn_119 : decode cX8_drawn 119 = .ok (.aload_n 0, 1) := by decide +kernel
theorem dX8_drawn_120 : decode cX8_drawn 120 = .ok (.getfield 29, 3) := by decide +kernel
theorem dX8_drawn_123 : decode cX8_drawn 123 = .ok (.aload_n 0, 1) := by decide +kernel
theorem dX8_drawn_124 : decode cX8_drawn 124 = .ok (.getfield 46, 3) := by decide +kernel
theorem dX8_drawn_127 : decode cX8_drawn 127 = .ok (.invokevirtual 198, 3) := by decide +kernel
theorem dX8_drawn_130 : decode cX8_drawn 130 = .ok (.aload_n 0, 1) := by decide +kernel
theorem dX8_drawn_131 : decode cX8_drawn 131 = .ok (.getfield 46, 3) := by decide +kernel
theorem dX8_drawn_134 : decode cX8_drawn 134 = .ok (.invokevirtual 153, 3) := by decide +kernel
theorem dX8_drawn_137 : decode cX8_drawn 137 = .ok (.istore 9, 2) := by decide +kernel
theorem dX8_drawn_139 : decode cX8_drawn 139 = .ok (.iload 7, 2) := by decide +kernel
theorem dX8_drawn_141 : decode cX8_drawn 141 = .ok (.iload 9, 2) := by decide +kernel
theorem dX8_drawn_143 : decode cX8_drawn 143 = .ok (.iadd, 1) := by decide +kernel
theorem dX8_drawn_144 : decode cX8_drawn 144 = .ok (.istore 7, 2) := by decide +kernel
theorem dX8_drawn_146 : decode cX8_drawn 146 = .ok (.iload 6, 2) := by decide +kernel
theorem dX8_drawn_148 : decode cX8_drawn 148 = .ok (.iload 9, 2) := by decide +kernel
theorem dX8_drawn_150 : decode cX8_drawn 150 = .ok (.iconst 1, 1) := by decide +kernel
theorem dX8_drawn_151 : decode cX8_drawn 151 = .ok (.if_icmp .ne 7, 3) := by decide +kernel
theorem dX8_drawn_154 : decode cX8_drawn 154 = .ok (.iconst 1, 1) := by decide +kernel
theorem dX8_drawn_155 : decode cX8_drawn 155 = .ok (.goto 4, 3) := by decide +kernel
theorem dX8_drawn_158 : decode cX8_drawn 158 = .ok (.iconst 0, 1) := by decide +kernel
theorem dX8_drawn_159 : decode cX8_drawn 159 = .ok (.iadd, 1) := by decide +kernel
theorem dX8_drawn_160 : decode cX8_drawn 160 = .ok (.istore 6, 2) := by decide +kernel
theorem dX8_drawn_162 : decode cX8_drawn 162 = .ok (.iinc 8 1, 3) := by decide +kernel
theorem dX8_drawn_165 : decode cX8_drawn 165 = .ok (.goto (-126), 3) := by decide +kernel
theorem dX8_drawn_168 : decode cX8_drawn 168 = .ok (.iload_n 3, 1) := by decide +kernel
theorem dX8_drawn_169 : decode cX8_drawn 169 = .ok (.iconst 2, 1) := by decide +kernel
theorem dX8_drawn_170 : decode cX8_drawn 170 = .ok (.if_icmp .ne 7, 3) := by decide +kernel
theorem dX8_drawn_173 : decode cX8_drawn 173 = .ok (.lload 4, 2) := by decide +kernel
theorem dX8_drawn_175 : decode cX8_drawn 175 = .ok (.l2i, 1) := by decide +kernel
theorem dX8_drawn_176 : decode cX8_drawn 176 = .ok (.ireturn, 1) := by decide +kernel
theorem dX8_drawn_177 : decode cX8_drawn 177 = .ok (.iload_n 3, 1) := by decide +kernel
theorem dX8_drawn_178 : decode cX8_drawn 178 = .ok (.iconst 1, 1) := by decide +kernel
theorem dX8_drawn_179 : decode cX8_drawn 179 = .ok (.if_icmp .ne 8, 3) := by decide +kernel
theorem dX8_drawn_182 : decode cX8_drawn 182 = .ok (.iload 7, 2) := by decide +kernel
theorem dX8_drawn_184 : decode cX8_drawn 184 = .ok (.goto 5, 3) := by decide +kernel
theorem dX8_drawn_187 : decode cX8_drawn 187 = .ok (.iload 6, 2) := by decide +kernel
theorem dX8_drawn_189 : decode cX8_drawn 189 = .ok (.ireturn, 1) := by decide +kernel
theorem dX8_image_0 : decode cX8_image 0 = .ok (.aload_n 0, 1) := by decide +kernel
theorem dX8_image_1 : decode cX8_image 1 = .ok (.getfield 103, 3) := by decide +kernel
theorem dX8_image_4 : decode cX8_image 4 = .ok (.ifCond .ne 6, 3) := by decide +kernel
theorem dX8_image_7 : decode cX8_image 7 = .ok (.bipush (-103), 2) := by decide +kernel
theorem dX8_image_9 : decode cX8_image 9 = .ok (.ireturn, 1) := by decide +kernel
theorem dX8_image_10 : decode cX8_image 10 = .ok (.iconst 0, 1) := by decide +kernel
theorem dX8_image_11 : decode cX8_image 11 = .ok (.istore_n 1, 1) := by decide +kernel
theorem dX8_image_12 : decode cX8_image 12 = .ok (.iload_n 1, 1) := by decide +kernel
theorem dX8_image_13 : decode cX8_image 13 = .ok (.iconst 4, 1) := by decide +kernel
theorem dX8_image_14 : decode cX8_image 14 = .ok (.if_icmp .ge 24, 3) := by decide +kernel
theorem dX8_image_17 : decode cX8_image 17 = .ok (.aload_n 0, 1) := by decide +kernel
theorem dX8_image_18 : decode cX8_image 18 = .ok (.getfield 70, 3) := by decide +kernel
theorem dX8_image_21 : decode cX8_image 21 = .ok (.iload_n 1, 1) := by decide +kernel
theorem dX8_image_22 : decode cX8_image 22 = .ok (.aaload, 1) := by decide +kernel
theorem dX8_image_23 : decode cX8_image 23 = .ok (.aload_n 0, 1) := by decide +kernel
theorem dX8_image_24 : decode cX8_image 24 = .ok (.getfield 59, 3) := by decide +kernel
theorem dX8_image_27 : decode cX8_image 27 = .ok (.iload_n 1, 1) := by decide +kernel
theorem dX8_image_28 : decode cX8_image 28 = .ok (.aaload, 1) := by decide +kernel
theorem dX8_image_29 : decode cX8_image 29 = .ok (.invokevirtual 278, 3) := by decide +kernel
theorem dX8_image_32 : decode cX8_image 32 = .ok (.iinc 1 1, 3) := by decide +kernel
theorem dX8_image_35 : decode cX8_image 35 = .ok (.goto (-23), 3) := by decide +kernel
theorem dX8_image_38 : decode cX8_image 38 = .ok (.aload_n 0, 1) := by decide +kernel
theorem dX8_image_39 : decode cX8_image 39 = .ok (.getfield 73, 3) := by decide +kernel
theorem dX8_image_42 : decode cX8_image 42 = .ok (.aload_n 0, 1) := by decide +kernel
theorem dX8_image_43 : decode cX8_image 43 = .ok (.getfield 66, 3) := by decide +kernel
theorem dX8_image_46 : decode cX8_image 46 = .ok (.invokevirtual 281, 3) := by decide +kernel
theorem dX8_image_49 : decode cX8_image 49 = .ok (.aload_n 0, 1) := by decide +kernel
theorem dX8_image_50 : decode cX8_image 50 = .ok (.aload_n 0, 1) := by decide +kernel
theorem dX8_image_51 : decode cX8_image 51 = .ok (.getfield 106, 3) := by decide +kernel
theorem dX8_image_54 : decode cX8_image 54 = .ok (.putfield 284, 3) := by decide +kernel
theorem dX8_image_57 : decode cX8_image 57 = .ok (.aload_n 0, 1) := by decide +kernel
theorem dX8_image_58 : decode cX8_image 58 = .ok (.invokevirtual 287, 3) := by decide +kernel
theorem dX8_image_61 : decode cX8_image 61 = .ok (.ireturn, 1) := by decide +kernel
theorem dX8_restore_0 : decode cX8_restore 0 = .ok (.aload_n 0, 1) := by decide +kernel
theorem dX8_restore_1 : decode cX8_restore 1 = .ok (.getfield 284, 3) := by decide +kernel
theorem dX8_restore_4 : decode cX8_restore 4 = .ok (.ifCond .eq 14, 3) := by decide +kernel
theorem dX8_restore_7 : decode cX8_restore 7 = .ok (.aload_n 0, 1) := by decide +kernel
theorem dX8_restore_8 : decode cX8_restore 8 = .ok (.getfield 284, 3) := by decide +kernel
theorem dX8_restore_11 : decode cX8_restore 11 = .ok (.aload_n 0, 1) := by decide +kernel
theorem dX8_restore_12 : decode cX8_restore 12 = .ok (.getfield 106, 3) := by decide +kernel
theorem dX8_restore_15 : decode cX8_restore 15 = .ok (.if_icmp .eq 6, 3) := by decide +kernel
theorem dX8_restore_18 : decode cX8_restore 18 = .ok (.bipush (-103), 2) := by decide +kernel
theorem dX8_restore_20 : decode cX8_restore 20 = .ok (.ireturn, 1) := by decide +kernel
theorem dX8_restore_21 : decode cX8_restore 21 = .ok (.iconst 0, 1) := by decide +kernel
theorem dX8_restore_22 : decode cX8_restore 22 = .ok (.istore_n 1, 1) := by decide +kernel
theorem dX8_restore_23 : decode cX8_restore 23 = .ok (.iload_n 1, 1) := by decide +kernel
theorem dX8_restore_24 : decode cX8_restore 24 = .ok (.iconst 4, 1) := by decide +kernel
theorem dX8_restore_25 : decode cX8_restore 25 = .ok (.if_icmp .ge 24, 3) := by decide +kernel
theorem dX8_restore_28 : decode cX8_restore 28 = .ok (.aload_n 0, 1) := by decide +kernel
theorem dX8_restore_29 : decode cX8_restore 29 = .ok (.getfield 59, 3) := by decide +kernel
theorem dX8_restore_32 : decode cX8_restore 32 = .ok (.iload_n 1, 1) := by decide +kernel
theorem dX8_restore_33 : decode cX8_restore 33 = .ok (.aaload, 1) := by decide +kernel
theorem dX8_restore_34 : decode cX8_restore 34 = .ok (.aload_n 0, 1) := by decide +kernel
theorem dX8_restore_35 : decode cX8_restore 35 = .ok (.getfield 70, 3) := by decide +kernel
theorem dX8_restore_38 : decode cX8_restore 38 = .ok (.iload_n 1, 1) := by decide +kernel
theorem dX8_restore_39 : decode cX8_restore 39 = .ok (.aaload, 1) := by decide +kernel
theorem dX8_restore_40 : decode cX8_restore 40 = .ok (.invokevirtual 278, 3) := by decide +kernel
theorem dX8_restore_43 : decode cX8_restore 43 = .ok (.iinc 1 1, 3) := by decide +kernel
theorem dX8_restore_46 : decode cX8_restore 46 = .ok (.goto (-23), 3) := by decide +kernel
theorem dX8_restore_49 : decode cX8_restore 49 = .ok (.aload_n 0, 1) := by decide +kernel
theorem dX8_restore_50 : decode cX8_restore 50 = .ok (.getfield 66, 3) := by decide +kernel
theorem dX8_restore_53 : decode cX8_restore 53 = .ok (.aload_n 0, 1) := by decide +kernel
theorem dX8_restore_54 : decode cX8_restore 54 = .ok (.getfield 73, 3) := by decide +kernel
theorem dX8_restore_57 : decode cX8_restore 57 = .ok (.invokevirtual 281, 3) := by decide +kernel
theorem dX8_restore_60 : decode cX8_restore 60 = .ok (.aload_n 0, 1) := by decide +kernel
theorem dX8_restore_61 : decode cX8_restore 61 = .ok (.invokevirtual 287, 3) := by decide +kernel
theorem dX8_restore_64 : decode cX8_restore 64 = .ok (.ireturn, 1) := by decide +kernel
theorem dX8_filledSlots_0 : decode cX8_filledSlots 0 = .ok (.iconst 0, 1) := by decide +kernel
theorem dX8_filledSlots_1 : decode cX8_filledSlots 1 = .ok (.istore_n 1, 1) := by decide +kernel
theorem dX8_filledSlots_2 : decode cX8_filledSlots 2 = .ok (.iconst 0, 1) := by decide +kernel
theorem dX8_filledSlots_3 : decode cX8_filledSlots 3 = .ok (.istore_n 2, 1) := by decide +kernel
theorem dX8_filledSlots_4 : decode cX8_filledSlots 4 = .ok (.iload_n 2, 1) := by decide +kernel
theorem dX8_filledSlots_5 : decode cX8_filledSlots 5 = .ok (.aload_n 0, 1) := by decide +kernel
theorem dX8_filledSlots_6 : decode cX8_filledSlots 6 = .ok (.getfield 103, 3) := by decide +kernel
theorem dX8_filledSlots_9 : decode cX8_filledSlots 9 = .ok (.if_icmp .ge 25, 3) := by decide +kernel
theorem dX8_filledSlots_12 : decode cX8_filledSlots 12 = .ok (.iload_n 1, 1) := by decide +kernel
theorem dX8_filledSlots_13 : decode cX8_filledSlots 13 = .ok (.aload_n 0, 1) := by decide +kernel
theorem dX8_filledSlots_14 : decode cX8_filledSlots 14 = .ok (.iload_n 2, 1) := by decide +kernel
theorem dX8_filledSlots_15 : decode cX8_filledSlots 15 = .ok (.invokevirtual 169, 3) := by decide +kernel
theorem dX8_filledSlots_18 : decode cX8_filledSlots 18 = .ok (.ifnonnull 7, 3) := by decide +kernel
theorem dX8_filledSlots_21 : decode cX8_filledSlots 21 = .ok (.iconst 0, 1) := by decide +kernel
theorem dX8_filledSlots_22 : decode cX8_filledSlots 22 = .ok (.goto 4, 3) := by decide +kernel
theorem dX8_filledSlots_25 : decode cX8_filledSlots 25 = .ok (.iconst 1, 1) := by decide +kernel
theorem dX8_filledSlots_26 : decode cX8_filledSlots 26 = .ok (.iadd, 1) := by decide +kernel
theorem dX8_filledSlots_27 : decode cX8_filledSlots 27 = .ok (.istore_n 1, 1) := by decide +kernel
theorem dX8_filledSlots_28 : decode cX8_filledSlots 28 = .ok (.iinc 2 1, 3) := by decide +kernel
theorem dX8_filledSlots_31 : decode cX8_filledSlots 31 = .ok (.goto (-27), 3) := by decide +kernel
theorem dX8_filledSlots_34 : decode cX8_filledSlots 34 = .ok (.iload_n 1, 1) := by decide +kernel
theorem dX8_filledSlots_35 : decode cX8_filledSlots 35 = .ok (.ireturn, 1) := by decide +kernel
theorem dX8_count_0 : decode cX8_count 0 = .ok (.iload_n 1, 1) := by decide +kernel
theorem dX8_count_1 : decode cX8_count 1 = .ok (.tableswitch 93 0 7 #[47, 52, 57, 62, 67, 72, 80, 88], 47) := by decide +kernel
theorem dX8_count_48 : decode cX8_count 48 = .ok (.aload_n 0, 1) := by decide +kernel
theorem dX8_count_49 : decode cX8_count 49 = .ok (.getfield 103, 3) := by decide +kernel
theorem dX8_count_52 : decode cX8_count 52 = .ok (.ireturn, 1) := by decide +kernel
theorem dX8_count_53 : decode cX8_count 53 = .ok (.aload_n 0, 1) := by decide +kernel
theorem dX8_count_54 : decode cX8_count 54 = .ok (.invokevirtual 287, 3) := by decide +kernel
theorem dX8_count_57 : decode cX8_count 57 = .ok (.ireturn, 1) := by decide +kernel
theorem dX8_count_58 : decode cX8_count 58 = .ok (.aload_n 0, 1) := by decide +kernel
theorem dX8_count_59 : decode cX8_count 59 = .ok (.invokevirtual 290, 3) := by decide +kernel
theorem dX8_count_62 : decode cX8_count 62 = .ok (.ireturn, 1) := by decide +kernel
theorem dX8_count_63 : decode cX8_count 63 = .ok (.aload_n 0, 1) := by decide +kernel
theorem dX8_count_64 : decode cX8_count 64 = .ok (.invokevirtual 293, 3) := by decide +kernel
theorem dX8_count_67 : decode cX8_count 67 = .ok (.ireturn, 1) := by decide +kernel
theorem dX8_count_68 : decode cX8_count 68 = .ok (.aload_n 0, 1) := by decide +kernel
theorem dX8_count_69 : decode cX8_count 69 = .ok (.invokevirtual 296, 3) := by decide +kernel
theorem dX8_count_72 : decode cX8_count 72 = .ok (.ireturn, 1) := by decide +kernel
theorem dX8_count_73 : decode cX8_count 73 = .ok (.aload_n 0, 1) := by decide +kernel
theorem dX8_count_74 : decode cX8_count 74 = .ok (.getfield 66, 3) := by decide +kernel
theorem dX8_count_77 : decode cX8_count 77 = .ok (.getfield 109, 3) := by decide +kernel
theorem dX8_count_80 : decode cX8_count 80 = .ok (.ireturn, 1) := by decide +kernel
theorem dX8_count_81 : decode cX8_count 81 = .ok (.aload_n 0, 1) := by decide +kernel
theorem dX8_count_82 : decode cX8_count 82 = .ok (.getfield 10, 3) := by decide +kernel
theorem dX8_count_85 : decode cX8_count 85 = .ok (.getfield 81, 3) := by decide +kernel
theorem dX8_count_88 : decode cX8_count 88 = .ok (.ireturn, 1) := by decide +kernel
theorem dX8_count_89 : decode cX8_count 89 = .ok (.aload_n 0, 1) := by decide +kernel
theorem dX8_count_90 : decode cX8_count 90 = .ok (.getfield 106, 3) := by decide +kernel
theorem dX8_count_93 : decode cX8_count 93 = .ok (.ireturn, 1) := by decide +kernel
theorem dX8_count_94 : decode cX8_count 94 = .ok (.bipush (-102), 2) := by decide +kernel
theorem dX8_count_96 : decode cX8_count 96 = .ok (.ireturn, 1) := by decide +kernel
theorem dX8_irreducibleSlots_0 : decode cX8_irreducibleSlots 0 = .ok (.iconst 0, 1) := by decide +kernel
theorem dX8_irreducibleSlots_1 : decode cX8_irreducibleSlots 1 = .ok (.istore_n 1, 1) := by decide +kernel
theorem dX8_irreducibleSlots_2 : decode cX8_irreducibleSlots 2 = .ok (.iconst 0, 1) := by decide +kernel
theorem dX8_irreducibleSlots_3 : decode cX8_irreducibleSlots 3 = .ok (.istore_n 2, 1) := by decide +kernel
theorem dX8_irreducibleSlots_4 : decode cX8_irreducibleSlots 4 = .ok (.iload_n 2, 1) := by decide +kernel
theorem dX8_irreducibleSlots_5 : decode cX8_irreducibleSlots 5 = .ok (.aload_n 0, 1) := by decide +kernel
theorem dX8_irreducibleSlots_6 : decode cX8_irreducibleSlots 6 = .ok (.getfield 103, 3) := by decide +kernel
theorem dX8_irreducibleSlots_9 : decode cX8_irreducibleSlots 9 = .ok (.if_icmp .ge 45, 3) := by decide +kernel
theorem dX8_irreducibleSlots_12 : decode cX8_irreducibleSlots 12 = .ok (.aload_n 0, 1) := by decide +kernel
theorem dX8_irreducibleSlots_13 : decode cX8_irreducibleSlots 13 = .ok (.iload_n 2, 1) := by decide +kernel
theorem dX8_irreducibleSlots_14 : decode cX8_irreducibleSlots 14 = .ok (.invokevirtual 169, 3) := by decide +kernel
theorem dX8_irreducibleSlots_17 : decode cX8_irreducibleSlots 17 = .ok (.astore_n 3, 1) := by decide +kernel
theorem dX8_irreducibleSlots_18 : decode cX8_irreducibleSlots 18 = .ok (.aload_n 3, 1) := by decide +kernel
theorem dX8_irreducibleSlots_19 : decode cX8_irreducibleSlots 19 = .ok (.ifnull 29, 3) := by decide +kernel
theorem dX8_irreducibleSlots_22 : decode cX8_irreducibleSlots 22 = .ok (.aload_n 3, 1) := by decide +kernel
theorem dX8_irreducibleSlots_23 : decode cX8_irreducibleSlots 23 = .ok (.getfield 135, 3) := by decide +kernel
theorem dX8_irreducibleSlots_26 : decode cX8_irreducibleSlots 26 = .ok (.invokevirtual 142, 3) := by decide +kernel
theorem dX8_irreducibleSlots_29 : decode cX8_irreducibleSlots 29 = .ok (.lconst 1, 1) := by decide +kernel
theorem dX8_irreducibleSlots_30 : decode cX8_irreducibleSlots 30 = .ok (.lcmp, 1) := by decide +kernel
theorem dX8_irreducibleSlots_31 : decode cX8_irreducibleSlots 31 = .ok (.ifCond .ne 17, 3) := by decide +kernel
theorem dX8_irreducibleSlots_34 : decode cX8_irreducibleSlots 34 = .ok (.aload_n 3, 1) := by decide +kernel
theorem dX8_irreducibleSlots_35 : decode cX8_irreducibleSlots 35 = .ok (.getfield 149, 3) := by decide +kernel
theorem dX8_irreducibleSlots_38 : decode cX8_irreducibleSlots 38 = .ok (.invokevirtual 153, 3) := by decide +kernel
theorem dX8_irreducibleSlots_41 : decode cX8_irreducibleSlots 41 = .ok (.iconst 1, 1) := by decide +kernel
theorem dX8_irreducibleSlots_42 : decode cX8_irreducibleSlots 42 = .ok (.if_icmp .ne 6, 3) := by decide +kernel
theorem dX8_irreducibleSlots_45 : decode cX8_irreducibleSlots 45 = .ok (.iinc 1 1, 3) := by decide +kernel
theorem dX8_irreducibleSlots_48 : decode cX8_irreducibleSlots 48 = .ok (.iinc 2 1, 3) := by decide +kernel
theorem dX8_irreducibleSlots_51 : decode cX8_irreducibleSlots 51 = .ok (.goto (-47), 3) := by decide +kernel
theorem dX8_irreducibleSlots_54 : decode cX8_irreducibleSlots 54 = .ok (.iload_n 1, 1) := by decide +kernel
theorem dX8_irreducibleSlots_55 : decode cX8_irreducibleSlots 55 = .ok (.ireturn, 1) := by decide +kernel
theorem dX8_degreeSum_0 : decode cX8_degreeSum 0 = .ok (.iconst 0, 1) := by decide +kernel
theorem dX8_degreeSum_1 : decode cX8_degreeSum 1 = .ok (.istore_n 1, 1) := by decide +kernel
theorem dX8_degreeSum_2 : decode cX8_degreeSum 2 = .ok (.iconst 0, 1) := by decide +kernel
theorem dX8_degreeSum_3 : decode cX8_degreeSum 3 = .ok (.istore_n 2, 1) := by decide +kernel
theorem dX8_degreeSum_4 : decode cX8_degreeSum 4 = .ok (.iload_n 2, 1) := by decide +kernel
theorem dX8_degreeSum_5 : decode cX8_degreeSum 5 = .ok (.aload_n 0, 1) := by decide +kernel
theorem dX8_degreeSum_6 : decode cX8_degreeSum 6 = .ok (.getfield 103, 3) := by decide +kernel
theorem dX8_degreeSum_9 : decode cX8_degreeSum 9 = .ok (.if_icmp .ge 33, 3) := by decide +kernel
theorem dX8_degreeSum_12 : decode cX8_degreeSum 12 = .ok (.aload_n 0, 1) := by decide +kernel
theorem dX8_degreeSum_13 : decode cX8_degreeSum 13 = .ok (.iload_n 2, 1) := by decide +kernel
theorem dX8_degreeSum_14 : decode cX8_degreeSum 14 = .ok (.invokevirtual 169, 3) := by decide +kernel
theorem dX8_degreeSum_17 : decode cX8_degreeSum 17 = .ok (.astore_n 3, 1) := by decide +kernel
theorem dX8_degreeSum_18 : decode cX8_degreeSum 18 = .ok (.iload_n 1, 1) := by decide +kernel
theorem dX8_degreeSum_19 : decode cX8_degreeSum 19 = .ok (.aload_n 3, 1) := by decide +kernel
theorem dX8_degreeSum_20 : decode cX8_degreeSum 20 = .ok (.ifnonnull 7, 3) := by decide +kernel
theorem dX8_degreeSum_23 : decode cX8_degreeSum 23 = .ok (.iconst 0, 1) := by decide +kernel
theorem dX8_degreeSum_24 : decode cX8_degreeSum 24 = .ok (.goto 10, 3) := by decide +kernel
theorem dX8_degreeSum_27 : decode cX8_degreeSum 27 = .ok (.aload_n 3, 1) := by decide +kernel
theorem dX8_degreeSum_28 : decode cX8_degreeSum 28 = .ok (.getfield 135, 3) := by decide +kernel
theorem dX8_degreeSum_31 : decode cX8_degreeSum 31 = .ok (.invokevirtual 138, 3) := by decide +kernel
theorem dX8_degreeSum_34 : decode cX8_degreeSum 34 = .ok (.iadd, 1) := by decide +kernel
theorem dX8_degreeSum_35 : decode cX8_degreeSum 35 = .ok (.istore_n 1, 1) := by decide +kernel
theorem dX8_degreeSum_36 : decode cX8_degreeSum 36 = .ok (.iinc 2 1, 3) := by decide +kernel
theorem dX8_degreeSum_39 : decode cX8_degreeSum 39 = .ok (.goto (-35), 3) := by decide +kernel
theorem dX8_degreeSum_42 : decode cX8_degreeSum 42 = .ok (.iload_n 1, 1) := by decide +kernel
theorem dX8_degreeSum_43 : decode cX8_degreeSum 43 = .ok (.ireturn, 1) := by decide +kernel
theorem dX8_textLengthSum_0 : decode cX8_textLengthSum 0 = .ok (.iconst 0, 1) := by decide +kernel
theorem dX8_textLengthSum_1 : decode cX8_textLengthSum 1 = .ok (.istore_n 1, 1) := by decide +kernel
theorem dX8_textLengthSum_2 : decode cX8_textLengthSum 2 = .ok (.iconst 0, 1) := by decide +kernel
theorem dX8_textLengthSum_3 : decode cX8_textLengthSum 3 = .ok (.istore_n 2, 1) := by decide +kernel
theorem dX8_textLengthSum_4 : decode cX8_textLengthSum 4 = .ok (.iload_n 2, 1) := by decide +kernel
theorem dX8_textLengthSum_5 : decode cX8_textLengthSum 5 = .ok (.aload_n 0, 1) := by decide +kernel
theorem dX8_textLengthSum_6 : decode cX8_textLengthSum 6 = .ok (.getfield 103, 3) := by decide +kernel
theorem dX8_textLengthSum_9 : decode cX8_textLengthSum 9 = .ok (.if_icmp .ge 31, 3) := by decide +kernel
theorem dX8_textLengthSum_12 : decode cX8_textLengthSum 12 = .ok (.aload_n 0, 1) := by decide +kernel
theorem dX8_textLengthSum_13 : decode cX8_textLengthSum 13 = .ok (.iload_n 2, 1) := by decide +kernel
theorem dX8_textLengthSum_14 : decode cX8_textLengthSum 14 = .ok (.invokevirtual 169, 3) := by decide +kernel
theorem dX8_textLengthSum_17 : decode cX8_textLengthSum 17 = .ok (.astore_n 3, 1) := by decide +kernel
theorem dX8_textLengthSum_18 : decode cX8_textLengthSum 18 = .ok (.iload_n 1, 1) := by decide +kernel
theorem dX8_textLengthSum_19 : decode cX8_textLengthSum 19 = .ok (.aload_n 3, 1) := by decide +kernel
theorem dX8_textLengthSum_20 : decode cX8_textLengthSum 20 = .ok (.ifnonnull 7, 3) := by decide +kernel
theorem dX8_textLengthSum_23 : decode cX8_textLengthSum 23 = .ok (.iconst 0, 1) := by decide +kernel
theorem dX8_textLengthSum_24 : decode cX8_textLengthSum 24 = .ok (.goto 8, 3) := by decide +kernel
theorem dX8_textLengthSum_27 : decode cX8_textLengthSum 27 = .ok (.aload_n 0, 1) := by decide +kernel
theorem dX8_textLengthSum_28 : decode cX8_textLengthSum 28 = .ok (.aload_n 3, 1) := by decide +kernel
theorem dX8_textLengthSum_29 : decode cX8_textLengthSum 29 = .ok (.invokevirtual 146, 3) := by decide +kernel
theorem dX8_textLengthSum_32 : decode cX8_textLengthSum 32 = .ok (.iadd, 1) := by decide +kernel
theorem dX8_textLengthSum_33 : decode cX8_textLengthSum 33 = .ok (.istore_n 1, 1) := by decide +kernel
theorem dX8_textLengthSum_34 : decode cX8_textLengthSum 34 = .ok (.iinc 2 1, 3) := by decide +kernel
theorem dX8_textLengthSum_37 : decode cX8_textLengthSum 37 = .ok (.goto (-33), 3) := by decide +kernel
theorem dX8_textLengthSum_40 : decode cX8_textLengthSum 40 = .ok (.iload_n 1, 1) := by decide +kernel
theorem dX8_textLengthSum_41 : decode cX8_textLengthSum 41 = .ok (.ireturn, 1) := by decide +kernel
theorem dX8_digest_0 : decode cX8_digest 0 = .ok (.ldc2_w 299, 3) := by decide +kernel
theorem dX8_digest_3 : decode cX8_digest 3 = .ok (.lstore_n 1, 1) := by decide +kernel
theorem dX8_digest_4 : decode cX8_digest 4 = .ok (.iconst 0, 1) := by decide +kernel
theorem dX8_digest_5 : decode cX8_digest 5 = .ok (.istore_n 3, 1) := by decide +kernel
theorem dX8_digest_6 : decode cX8_digest 6 = .ok (.iload_n 3, 1) := by decide +kernel
theorem dX8_digest_7 : decode cX8_digest 7 = .ok (.aload_n 0, 1) := by decide +kernel
theorem dX8_digest_8 : decode cX8_digest 8 = .ok (.getfield 103, 3) := by decide +kernel
theorem dX8_digest_11 : decode cX8_digest 11 = .ok (.if_icmp .ge 61, 3) := by decide +kernel
theorem dX8_digest_14 : decode cX8_digest 14 = .ok (.iconst 0, 1) := by decide +kernel
theorem dX8_digest_15 : decode cX8_digest 15 = .ok (.istore 4, 2) := by decide +kernel
theorem dX8_digest_17 : decode cX8_digest 17 = .ok (.iload 4, 2) := by decide +kernel
theorem dX8_digest_19 : decode cX8_digest 19 = .ok (.bipush 8, 2) := by decide +kernel
theorem dX8_digest_21 : decode cX8_digest 21 = .ok (.if_icmp .ge 24, 3) := by decide +kernel
theorem dX8_digest_24 : decode cX8_digest 24 = .ok (.ldc2_w 301, 3) := by decide +kernel
theorem dX8_digest_27 : decode cX8_digest 27 = .ok (.lload_n 1, 1) := by decide +kernel
theorem dX8_digest_28 : decode cX8_digest 28 = .ok (.lmul, 1) := by decide +kernel
theorem dX8_digest_29 : decode cX8_digest 29 = .ok (.aload_n 0, 1) := by decide +kernel
theorem dX8_digest_30 : decode cX8_digest 30 = .ok (.iload_n 3, 1) := by decide +kernel
theorem dX8_digest_31 : decode cX8_digest 31 = .ok (.iload 4, 2) := by decide +kernel
theorem dX8_digest_33 : decode cX8_digest 33 = .ok (.invokevirtual 303, 3) := by decide +kernel
theorem dX8_digest_36 : decode cX8_digest 36 = .ok (.i2l, 1) := by decide +kernel
theorem dX8_digest_37 : decode cX8_digest 37 = .ok (.ladd, 1) := by decide +kernel
theorem dX8_digest_38 : decode cX8_digest 38 = .ok (.lstore_n 1, 1) := by decide +kernel
theorem dX8_digest_39 : decode cX8_digest 39 = .ok (.iinc 4 1, 3) := by decide +kernel
theorem dX8_digest_42 : decode cX8_digest 42 = .ok (.goto (-25), 3) := by decide +kernel
theorem dX8_digest_45 : decode cX8_digest 45 = .ok (.aload_n 0, 1) := by decide +kernel
theorem dX8_digest_46 : decode cX8_digest 46 = .ok (.iload_n 3, 1) := by decide +kernel
theorem dX8_digest_47 : decode cX8_digest 47 = .ok (.invokevirtual 169, 3) := by decide +kernel
theorem dX8_digest_50 : decode cX8_digest 50 = .ok (.astore 4, 2) := by decide +kernel
theorem dX8_digest_52 : decode cX8_digest 52 = .ok (.aload 4, 2) := by decide +kernel
theorem dX8_digest_54 : decode cX8_digest 54 = .ok (.ifnull 12, 3) := by decide +kernel
theorem dX8_digest_57 : decode cX8_digest 57 = .ok (.aload_n 0, 1) := by decide +kernel
theorem dX8_digest_58 : decode cX8_digest 58 = .ok (.lload_n 1, 1) := by decide +kernel
theorem dX8_digest_59 : decode cX8_digest 59 = .ok (.iload_n 3, 1) := by decide +kernel
theorem dX8_digest_60 : decode cX8_digest 60 = .ok (.aload 4, 2) := by decide +kernel
theorem dX8_digest_62 : decode cX8_digest 62 = .ok (.invokevirtual 307, 3) := by decide +kernel
theorem dX8_digest_65 : decode cX8_digest 65 = .ok (.lstore_n 1, 1) := by decide +kernel
theorem dX8_digest_66 : decode cX8_digest 66 = .ok (.iinc 3 1, 3) := by decide +kernel
theorem dX8_digest_69 : decode cX8_digest 69 = .ok (.goto (-63), 3) := by decide +kernel
theorem dX8_digest_72 : decode cX8_digest 72 = .ok (.lload_n 1, 1) := by decide +kernel
theorem dX8_digest_73 : decode cX8_digest 73 = .ok (.aload_n 0, 1) := by decide +kernel
theorem dX8_digest_74 : decode cX8_digest 74 = .ok (.getfield 10, 3) := by decide +kernel
theorem dX8_digest_77 : decode cX8_digest 77 = .ok (.invokestatic 311, 3) := by decide +kernel
theorem dX8_digest_80 : decode cX8_digest 80 = .ok (.lstore_n 1, 1) := by decide +kernel
theorem dX8_digest_81 : decode cX8_digest 81 = .ok (.iconst 0, 1) := by decide +kernel
theorem dX8_digest_82 : decode cX8_digest 82 = .ok (.istore_n 3, 1) := by decide +kernel
theorem dX8_digest_83 : decode cX8_digest 83 = .ok (.iload_n 3, 1) := by decide +kernel
theorem dX8_digest_84 : decode cX8_digest 84 = .ok (.bipush 8, 2) := by decide +kernel
theorem dX8_digest_86 : decode cX8_digest 86 = .ok (.if_icmp .ge 22, 3) := by decide +kernel
theorem dX8_digest_89 : decode cX8_digest 89 = .ok (.ldc2_w 301, 3) := by decide +kernel
theorem dX8_digest_92 : decode cX8_digest 92 = .ok (.lload_n 1, 1) := by decide +kernel
theorem dX8_digest_93 : decode cX8_digest 93 = .ok (.lmul, 1) := by decide +kernel
theorem dX8_digest_94 : decode cX8_digest 94 = .ok (.aload_n 0, 1) := by decide +kernel
theorem dX8_digest_95 : decode cX8_digest 95 = .ok (.iload_n 3, 1) := by decide +kernel
theorem dX8_digest_96 : decode cX8_digest 96 = .ok (.invokevirtual 315, 3) := by decide +kernel
theorem dX8_digest_99 : decode cX8_digest 99 = .ok (.i2l, 1) := by decide +kernel
theorem dX8_digest_100 : decode cX8_digest 100 = .ok (.ladd, 1) := by decide +kernel
theorem dX8_digest_101 : decode cX8_digest 101 = .ok (.lstore_n 1, 1) := by decide +kernel
theorem dX8_digest_102 : decode cX8_digest 102 = .ok (.iinc 3 1, 3) := by decide +kernel
theorem dX8_digest_105 : decode cX8_digest 105 = .ok (.goto (-22), 3) := by decide +kernel
theorem dX8_digest_108 : decode cX8_digest 108 = .ok (.lload_n 1, 1) := by decide +kernel
theorem dX8_digest_109 : decode cX8_digest 109 = .ok (.lreturn, 1) := by decide +kernel
theorem dX8_digestHeld_0 : decode cX8_digestHeld 0 = .ok (.lload_n 1, 1) := by decide +kernel
theorem dX8_digestHeld_1 : decode cX8_digestHeld 1 = .ok (.lstore 5, 2) := by decide +kernel
theorem dX8_digestHeld_3 : decode cX8_digestHeld 3 = .ok (.iconst 0, 1) := by decide +kernel
theorem dX8_digestHeld_4 : decode cX8_digestHeld 4 = .ok (.istore 7, 2) := by decide +kernel
theorem dX8_digestHeld_6 : decode cX8_digestHeld 6 = .ok (.iload 7, 2) := by decide +kernel
theorem dX8_digestHeld_8 : decode cX8_digestHeld 8 = .ok (.iconst 5, 1) := by decide +kernel
theorem dX8_digestHeld_9 : decode cX8_digestHeld 9 = .ok (.if_icmp .gt 26, 3) := by decide +kernel
theorem dX8_digestHeld_12 : decode cX8_digestHeld 12 = .ok (.ldc2_w 301, 3) := by decide +kernel
theorem dX8_digestHeld_15 : decode cX8_digestHeld 15 = .ok (.lload 5, 2) := by decide +kernel
theorem dX8_digestHeld_17 : decode cX8_digestHeld 17 = .ok (.lmul, 1) := by decide +kernel
theorem dX8_digestHeld_18 : decode cX8_digestHeld 18 = .ok (.aload_n 0, 1) := by decide +kernel
theorem dX8_digestHeld_19 : decode cX8_digestHeld 19 = .ok (.iload_n 3, 1) := by decide +kernel
theorem dX8_digestHeld_20 : decode cX8_digestHeld 20 = .ok (.iload 7, 2) := by decide +kernel
theorem dX8_digestHeld_22 : decode cX8_digestHeld 22 = .ok (.invokevirtual 318, 3) := by decide +kernel
theorem dX8_digestHeld_25 : decode cX8_digestHeld 25 = .ok (.i2l, 1) := by decide +kernel
theorem dX8_digestHeld_26 : decode cX8_digestHeld 26 = .ok (.ladd, 1) := by decide +kernel
theorem dX8_digestHeld_27 : decode cX8_digestHeld 27 = .ok (.lstore 5, 2) := by decide +kernel
theorem dX8_digestHeld_29 : decode cX8_digestHeld 29 = .ok (.iinc 7 1, 3) := by decide +kernel
theorem dX8_digestHeld_32 : decode cX8_digestHeld 32 = .ok (.goto (-26), 3) := by decide +kernel
theorem dX8_digestHeld_35 : decode cX8_digestHeld 35 = .ok (.iconst 0, 1) := by decide +kernel
theorem dX8_digestHeld_36 : decode cX8_digestHeld 36 = .ok (.istore 7, 2) := by decide +kernel
theorem dX8_digestHeld_38 : decode cX8_digestHeld 38 = .ok (.iload 7, 2) := by decide +kernel
theorem dX8_digestHeld_40 : decode cX8_digestHeld 40 = .ok (.aload 4, 2) := by decide +kernel
theorem dX8_digestHeld_42 : decode cX8_digestHeld 42 = .ok (.getfield 149, 3) := by decide +kernel
theorem dX8_digestHeld_45 : decode cX8_digestHeld 45 = .ok (.getfield 152, 3) := by decide +kernel
theorem dX8_digestHeld_48 : decode cX8_digestHeld 48 = .ok (.if_icmp .ge 44, 3) := by decide +kernel
theorem dX8_digestHeld_51 : decode cX8_digestHeld 51 = .ok (.iconst 0, 1) := by decide +kernel
theorem dX8_digestHeld_52 : decode cX8_digestHeld 52 = .ok (.istore 8, 2) := by decide +kernel
theorem dX8_digestHeld_54 : decode cX8_digestHeld 54 = .ok (.iload 8, 2) := by decide +kernel
theorem dX8_digestHeld_56 : decode cX8_digestHeld 56 = .ok (.bipush 8, 2) := by decide +kernel
theorem dX8_digestHeld_58 : decode cX8_digestHeld 58 = .ok (.if_icmp .ge 28, 3) := by decide +kernel
theorem dX8_digestHeld_61 : decode cX8_digestHeld 61 = .ok (.ldc2_w 301, 3) := by decide +kernel
theorem dX8_digestHeld_64 : decode cX8_digestHeld 64 = .ok (.lload 5, 2) := by decide +kernel
theorem dX8_digestHeld_66 : decode cX8_digestHeld 66 = .ok (.lmul, 1) := by decide +kernel
theorem dX8_digestHeld_67 : decode cX8_digestHeld 67 = .ok (.aload_n 0, 1) := by decide +kernel
theorem dX8_digestHeld_68 : decode cX8_digestHeld 68 = .ok (.iload_n 3, 1) := by decide +kernel
theorem dX8_digestHeld_69 : decode cX8_digestHeld 69 = .ok (.iload 7, 2) := by decide +kernel
theorem dX8_digestHeld_71 : decode cX8_digestHeld 71 = .ok (.iload 8, 2) := by decide +kernel
theorem dX8_digestHeld_73 : decode cX8_digestHeld 73 = .ok (.invokevirtual 321, 3) := by decide +kernel
theorem dX8_digestHeld_76 : decode cX8_digestHeld 76 = .ok (.i2l, 1) := by decide +kernel
theorem dX8_digestHeld_77 : decode cX8_digestHeld 77 = .ok (.ladd, 1) := by decide +kernel
theorem dX8_digestHeld_78 : decode cX8_digestHeld 78 = .ok (.lstore 5, 2) := by decide +kernel
theorem dX8_digestHeld_80 : decode cX8_digestHeld 80 = .ok (.iinc 8 1, 3) := by decide +kernel
theorem dX8_digestHeld_83 : decode cX8_digestHeld 83 = .ok (.goto (-29), 3) := by decide +kernel
theorem dX8_digestHeld_86 : decode cX8_digestHeld 86 = .ok (.iinc 7 1, 3) := by decide +kernel
theorem dX8_digestHeld_89 : decode cX8_digestHeld 89 = .ok (.goto (-51), 3) := by decide +kernel
theorem dX8_digestHeld_92 : decode cX8_digestHeld 92 = .ok (.ldc2_w 301, 3) := by decide +kernel
theorem dX8_digestHeld_95 : decode cX8_digestHeld 95 = .ok (.lload 5, 2) := by decide +kernel
theorem dX8_digestHeld_97 : decode cX8_digestHeld 97 = .ok (.lmul, 1) := by decide +kernel
theorem dX8_digestHeld_98 : decode cX8_digestHeld 98 = .ok (.aload_n 0, 1) := by decide +kernel
theorem dX8_digestHeld_99 : decode cX8_digestHeld 99 = .ok (.iload_n 3, 1) := by decide +kernel
theorem dX8_digestHeld_100 : decode cX8_digestHeld 100 = .ok (.invokevirtual 325, 3) := by decide +kernel
theorem dX8_digestHeld_103 : decode cX8_digestHeld 103 = .ok (.i2l, 1) := by decide +kernel
theorem dX8_digestHeld_104 : decode cX8_digestHeld 104 = .ok (.ladd, 1) := by decide +kernel
theorem dX8_digestHeld_105 : decode cX8_digestHeld 105 = .ok (.lstore 5, 2) := by decide +kernel
theorem dX8_digestHeld_107 : decode cX8_digestHeld 107 = .ok (.ldc2_w 301, 3) := by decide +kernel
theorem dX8_digestHeld_110 : decode cX8_digestHeld 110 = .ok (.lload 5, 2) := by decide +kernel
theorem dX8_digestHeld_112 : decode cX8_digestHeld 112 = .ok (.lmul, 1) := by decide +kernel
theorem dX8_digestHeld_113 : decode cX8_digestHeld 113 = .ok (.aload_n 0, 1) := by decide +kernel
theorem dX8_digestHeld_114 : decode cX8_digestHeld 114 = .ok (.iload_n 3, 1) := by decide +kernel
theorem dX8_digestHeld_115 : decode cX8_digestHeld 115 = .ok (.iconst 3, 1) := by decide +kernel
theorem dX8_digestHeld_116 : decode cX8_digestHeld 116 = .ok (.invokevirtual 328, 3) := by decide +kernel
theorem dX8_digestHeld_119 : decode cX8_digestHeld 119 = .ok (.ladd, 1) := by decide +kernel
theorem dX8_digestHeld_120 : decode cX8_digestHeld 120 = .ok (.lstore 5, 2) := by decide +kernel
theorem dX8_digestHeld_122 : decode cX8_digestHeld 122 = .ok (.aload 4, 2) := by decide +kernel
theorem dX8_digestHeld_124 : decode cX8_digestHeld 124 = .ok (.getfield 135, 3) := by decide +kernel
theorem dX8_digestHeld_127 : decode cX8_digestHeld 127 = .ok (.aload_n 0, 1) := by decide +kernel
theorem dX8_digestHeld_128 : decode cX8_digestHeld 128 = .ok (.getfield 16, 3) := by decide +kernel
theorem dX8_digestHeld_131 : decode cX8_digestHeld 131 = .ok (.invokevirtual 162, 3) := by decide +kernel
theorem dX8_digestHeld_134 : decode cX8_digestHeld 134 = .ok (.lload 5, 2) := by decide +kernel
theorem dX8_digestHeld_136 : decode cX8_digestHeld 136 = .ok (.aload_n 0, 1) := by decide +kernel
theorem dX8_digestHeld_137 : decode cX8_digestHeld 137 = .ok (.getfield 16, 3) := by decide +kernel
theorem dX8_digestHeld_140 : decode cX8_digestHeld 140 = .ok (.invokestatic 311, 3) := by decide +kernel
theorem dX8_digestHeld_143 : decode cX8_digestHeld 143 = .ok (.lreturn, 1) := by decide +kernel
theorem dX8_digestLine_0 : decode cX8_digestLine 0 = .ok (.lload_n 0, 1) := by decide +kernel
theorem dX8_digestLine_1 : decode cX8_digestLine 1 = .ok (.lstore_n 3, 1) := by decide +kernel
theorem dX8_digestLine_2 : decode cX8_digestLine 2 = .ok (.iconst 0, 1) := by decide +kernel
theorem dX8_digestLine_3 : decode cX8_digestLine 3 = .ok (.istore 5, 2) := by decide +kernel
theorem dX8_digestLine_5 : decode cX8_digestLine 5 = .ok (.iload 5, 2) := by decide +kernel
theorem dX8_digestLine_7 : decode cX8_digestLine 7 = .ok (.aload_n 2, 1) := by decide +kernel
theorem dX8_digestLine_8 : decode cX8_digestLine 8 = .ok (.getfield 81, 3) := by decide +kernel
theorem dX8_digestLine_11 : decode cX8_digestLine 11 = .ok (.if_icmp .ge 23, 3) := by decide +kernel
theorem dX8_digestLine_14 : decode cX8_digestLine 14 = .ok (.ldc2_w 301, 3) := by decide +kernel
theorem dX8_digestLine_17 : decode cX8_digestLine 17 = .ok (.lload_n 3, 1) := by decide +kernel
theorem dX8_digestLine_18 : decode cX8_digestLine 18 = .ok (.lmul, 1) := by decide +kernel
theorem dX8_digestLine_19 : decode cX8_digestLine 19 = .ok (.aload_n 2, 1) := by decide +kernel
theorem dX8_digestLine_20 : decode cX8_digestLine 20 = .ok (.iload 5, 2) := by decide +kernel
theorem dX8_digestLine_22 : decode cX8_digestLine 22 = .ok (.invokevirtual 89, 3) := by decide +kernel
theorem dX8_digestLine_25 : decode cX8_digestLine 25 = .ok (.i2l, 1) := by decide +kernel
theorem dX8_digestLine_26 : decode cX8_digestLine 26 = .ok (.ladd, 1) := by decide +kernel
theorem dX8_digestLine_27 : decode cX8_digestLine 27 = .ok (.lstore_n 3, 1) := by decide +kernel
theorem dX8_digestLine_28 : decode cX8_digestLine 28 = .ok (.iinc 5 1, 3) := by decide +kernel
theorem dX8_digestLine_31 : decode cX8_digestLine 31 = .ok (.goto (-26), 3) := by decide +kernel
theorem dX8_digestLine_34 : decode cX8_digestLine 34 = .ok (.lload_n 3, 1) := by decide +kernel
theorem dX8_digestLine_35 : decode cX8_digestLine 35 = .ok (.lreturn, 1) := by decide +kernel
