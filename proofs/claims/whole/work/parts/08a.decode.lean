theorem dX0_init_0 : decode cX0_init 0 = .ok (.aload_n 0, 1) := by decide +kernel
theorem dX0_init_1 : decode cX0_init 1 = .ok (.invokespecial 3, 3) := by decide +kernel
theorem dX0_init_4 : decode cX0_init 4 = .ok (.aload_n 0, 1) := by decide +kernel
theorem dX0_init_5 : decode cX0_init 5 = .ok (.new 9, 3) := by decide +kernel
theorem dX0_init_8 : decode cX0_init 8 = .ok (.dup, 1) := by decide +kernel
theorem dX0_init_9 : decode cX0_init 9 = .ok (.invokespecial 11, 3) := by decide +kernel
theorem dX0_init_12 : decode cX0_init 12 = .ok (.putfield 12, 3) := by decide +kernel
theorem dX0_init_15 : decode cX0_init 15 = .ok (.aload_n 0, 1) := by decide +kernel
theorem dX0_init_16 : decode cX0_init 16 = .ok (.new 9, 3) := by decide +kernel
theorem dX0_init_19 : decode cX0_init 19 = .ok (.dup, 1) := by decide +kernel
theorem dX0_init_20 : decode cX0_init 20 = .ok (.invokespecial 11, 3) := by decide +kernel
theorem dX0_init_23 : decode cX0_init 23 = .ok (.putfield 18, 3) := by decide +kernel
theorem dX0_init_26 : decode cX0_init 26 = .ok (.aload_n 0, 1) := by decide +kernel
theorem dX0_init_27 : decode cX0_init 27 = .ok (.new 9, 3) := by decide +kernel
theorem dX0_init_30 : decode cX0_init 30 = .ok (.dup, 1) := by decide +kernel
theorem dX0_init_31 : decode cX0_init 31 = .ok (.invokespecial 11, 3) := by decide +kernel
theorem dX0_init_34 : decode cX0_init 34 = .ok (.putfield 21, 3) := by decide +kernel
theorem dX0_init_37 : decode cX0_init 37 = .ok (.aload_n 0, 1) := by decide +kernel
theorem dX0_init_38 : decode cX0_init 38 = .ok (.bipush 32, 2) := by decide +kernel
theorem dX0_init_40 : decode cX0_init 40 = .ok (.newarray .int, 2) := by decide +kernel
theorem dX0_init_42 : decode cX0_init 42 = .ok (.putfield 24, 3) := by decide +kernel
theorem dX0_init_45 : decode cX0_init 45 = .ok (.aload_n 0, 1) := by decide +kernel
theorem dX0_init_46 : decode cX0_init 46 = .ok (.bipush 32, 2) := by decide +kernel
theorem dX0_init_48 : decode cX0_init 48 = .ok (.newarray .int, 2) := by decide +kernel
theorem dX0_init_50 : decode cX0_init 50 = .ok (.putfield 28, 3) := by decide +kernel
theorem dX0_init_53 : decode cX0_init 53 = .ok (.return_, 1) := by decide +kernel
theorem dX0_run_0 : decode cX0_run 0 = .ok (.aload_n 2, 1) := by decide +kernel
theorem dX0_run_1 : decode cX0_run 1 = .ok (.iconst 0, 1) := by decide +kernel
theorem dX0_run_2 : decode cX0_run 2 = .ok (.putfield 31, 3) := by decide +kernel
theorem dX0_run_5 : decode cX0_run 5 = .ok (.aload_n 0, 1) := by decide +kernel
theorem dX0_run_6 : decode cX0_run 6 = .ok (.getfield 12, 3) := by decide +kernel
theorem dX0_run_9 : decode cX0_run 9 = .ok (.aload_n 1, 1) := by decide +kernel
theorem dX0_run_10 : decode cX0_run 10 = .ok (.invokevirtual 37, 3) := by decide +kernel
theorem dX0_run_13 : decode cX0_run 13 = .ok (.aload_n 0, 1) := by decide +kernel
theorem dX0_run_14 : decode cX0_run 14 = .ok (.getfield 12, 3) := by decide +kernel
theorem dX0_run_17 : decode cX0_run 17 = .ok (.aload_n 1, 1) := by decide +kernel
theorem dX0_run_18 : decode cX0_run 18 = .ok (.invokevirtual 41, 3) := by decide +kernel
theorem dX0_run_21 : decode cX0_run 21 = .ok (.invokevirtual 45, 3) := by decide +kernel
theorem dX0_run_24 : decode cX0_run 24 = .ok (.aload_n 0, 1) := by decide +kernel
theorem dX0_run_25 : decode cX0_run 25 = .ok (.getfield 18, 3) := by decide +kernel
theorem dX0_run_28 : decode cX0_run 28 = .ok (.lconst 0, 1) := by decide +kernel
theorem dX0_run_29 : decode cX0_run 29 = .ok (.lconst 1, 1) := by decide +kernel
theorem dX0_run_30 : decode cX0_run 30 = .ok (.lconst 0, 1) := by decide +kernel
theorem dX0_run_31 : decode cX0_run 31 = .ok (.invokevirtual 49, 3) := by decide +kernel
theorem dX0_run_34 : decode cX0_run 34 = .ok (.aload_n 0, 1) := by decide +kernel
theorem dX0_run_35 : decode cX0_run 35 = .ok (.aload_n 2, 1) := by decide +kernel
theorem dX0_run_36 : decode cX0_run 36 = .ok (.invokevirtual 53, 3) := by decide +kernel
theorem dX0_run_39 : decode cX0_run 39 = .ok (.aload_n 0, 1) := by decide +kernel
theorem dX0_run_40 : decode cX0_run 40 = .ok (.aload_n 2, 1) := by decide +kernel
theorem dX0_run_41 : decode cX0_run 41 = .ok (.invokevirtual 57, 3) := by decide +kernel
theorem dX0_run_44 : decode cX0_run 44 = .ok (.aload_n 0, 1) := by decide +kernel
theorem dX0_run_45 : decode cX0_run 45 = .ok (.getfield 12, 3) := by decide +kernel
theorem dX0_run_48 : decode cX0_run 48 = .ok (.invokevirtual 60, 3) := by decide +kernel
theorem dX0_run_51 : decode cX0_run 51 = .ok (.iconst 4, 1) := by decide +kernel
theorem dX0_run_52 : decode cX0_run 52 = .ok (.if_icmp .lt 15, 3) := by decide +kernel
theorem dX0_run_55 : decode cX0_run 55 = .ok (.aload_n 0, 1) := by decide +kernel
theorem dX0_run_56 : decode cX0_run 56 = .ok (.invokevirtual 64, 3) := by decide +kernel
theorem dX0_run_59 : decode cX0_run 59 = .ok (.ifCond .eq 8, 3) := by decide +kernel
theorem dX0_run_62 : decode cX0_run 62 = .ok (.aload_n 0, 1) := by decide +kernel
theorem dX0_run_63 : decode cX0_run 63 = .ok (.aload_n 2, 1) := by decide +kernel
theorem dX0_run_64 : decode cX0_run 64 = .ok (.invokevirtual 53, 3) := by decide +kernel
theorem dX0_run_67 : decode cX0_run 67 = .ok (.aload_n 0, 1) := by decide +kernel
theorem dX0_run_68 : decode cX0_run 68 = .ok (.getfield 12, 3) := by decide +kernel
theorem dX0_run_71 : decode cX0_run 71 = .ok (.invokevirtual 60, 3) := by decide +kernel
theorem dX0_run_74 : decode cX0_run 74 = .ok (.iconst 1, 1) := by decide +kernel
theorem dX0_run_75 : decode cX0_run 75 = .ok (.if_icmp .lt 12, 3) := by decide +kernel
theorem dX0_run_78 : decode cX0_run 78 = .ok (.aload_n 2, 1) := by decide +kernel
theorem dX0_run_79 : decode cX0_run 79 = .ok (.aload_n 0, 1) := by decide +kernel
theorem dX0_run_80 : decode cX0_run 80 = .ok (.getfield 12, 3) := by decide +kernel
theorem dX0_run_83 : decode cX0_run 83 = .ok (.iconst 1, 1) := by decide +kernel
theorem dX0_run_84 : decode cX0_run 84 = .ok (.invokevirtual 68, 3) := by decide +kernel
theorem dX0_run_87 : decode cX0_run 87 = .ok (.return_, 1) := by decide +kernel
theorem dX0_takeOut_0 : decode cX0_takeOut 0 = .ok (.iconst 0, 1) := by decide +kernel
theorem dX0_takeOut_1 : decode cX0_takeOut 1 = .ok (.istore_n 2, 1) := by decide +kernel
theorem dX0_takeOut_2 : decode cX0_takeOut 2 = .ok (.iload_n 2, 1) := by decide +kernel
theorem dX0_takeOut_3 : decode cX0_takeOut 3 = .ok (.iconst 5, 1) := by decide +kernel
theorem dX0_takeOut_4 : decode cX0_takeOut 4 = .ok (.if_icmp .ge 55, 3) := by decide +kernel
theorem dX0_takeOut_7 : decode cX0_takeOut 7 = .ok (.aload_n 0, 1) := by decide +kernel
theorem dX0_takeOut_8 : decode cX0_takeOut 8 = .ok (.getfield 12, 3) := by decide +kernel
theorem dX0_takeOut_11 : decode cX0_takeOut 11 = .ok (.invokevirtual 60, 3) := by decide +kernel
theorem dX0_takeOut_14 : decode cX0_takeOut 14 = .ok (.aload_n 0, 1) := by decide +kernel
theorem dX0_takeOut_15 : decode cX0_takeOut 15 = .ok (.getfield 18, 3) := by decide +kernel
theorem dX0_takeOut_18 : decode cX0_takeOut 18 = .ok (.invokevirtual 60, 3) := by decide +kernel
theorem dX0_takeOut_21 : decode cX0_takeOut 21 = .ok (.if_icmp .lt 38, 3) := by decide +kernel
theorem dX0_takeOut_24 : decode cX0_takeOut 24 = .ok (.aload_n 0, 1) := by decide +kernel
theorem dX0_takeOut_25 : decode cX0_takeOut 25 = .ok (.getfield 21, 3) := by decide +kernel
theorem dX0_takeOut_28 : decode cX0_takeOut 28 = .ok (.aload_n 0, 1) := by decide +kernel
theorem dX0_takeOut_29 : decode cX0_takeOut 29 = .ok (.getfield 12, 3) := by decide +kernel
theorem dX0_takeOut_32 : decode cX0_takeOut 32 = .ok (.aload_n 0, 1) := by decide +kernel
theorem dX0_takeOut_33 : decode cX0_takeOut 33 = .ok (.getfield 18, 3) := by decide +kernel
theorem dX0_takeOut_36 : decode cX0_takeOut 36 = .ok (.invokevirtual 72, 3) := by decide +kernel
theorem dX0_takeOut_39 : decode cX0_takeOut 39 = .ok (.ifCond .eq 20, 3) := by decide +kernel
theorem dX0_takeOut_42 : decode cX0_takeOut 42 = .ok (.aload_n 0, 1) := by decide +kernel
theorem dX0_takeOut_43 : decode cX0_takeOut 43 = .ok (.getfield 12, 3) := by decide +kernel
theorem dX0_takeOut_46 : decode cX0_takeOut 46 = .ok (.aload_n 0, 1) := by decide +kernel
theorem dX0_takeOut_47 : decode cX0_takeOut 47 = .ok (.getfield 21, 3) := by decide +kernel
theorem dX0_takeOut_50 : decode cX0_takeOut 50 = .ok (.invokevirtual 37, 3) := by decide +kernel
theorem dX0_takeOut_53 : decode cX0_takeOut 53 = .ok (.iinc 2 1, 3) := by decide +kernel
theorem dX0_takeOut_56 : decode cX0_takeOut 56 = .ok (.goto (-54), 3) := by decide +kernel
theorem dX0_takeOut_59 : decode cX0_takeOut 59 = .ok (.iload_n 2, 1) := by decide +kernel
theorem dX0_takeOut_60 : decode cX0_takeOut 60 = .ok (.ifCond .le 12, 3) := by decide +kernel
theorem dX0_takeOut_63 : decode cX0_takeOut 63 = .ok (.aload_n 1, 1) := by decide +kernel
theorem dX0_takeOut_64 : decode cX0_takeOut 64 = .ok (.aload_n 0, 1) := by decide +kernel
theorem dX0_takeOut_65 : decode cX0_takeOut 65 = .ok (.getfield 18, 3) := by decide +kernel
theorem dX0_takeOut_68 : decode cX0_takeOut 68 = .ok (.iload_n 2, 1) := by decide +kernel
theorem dX0_takeOut_69 : decode cX0_takeOut 69 = .ok (.invokevirtual 68, 3) := by decide +kernel
theorem dX0_takeOut_72 : decode cX0_takeOut 72 = .ok (.return_, 1) := by decide +kernel
theorem dX0_takeLinear_0 : decode cX0_takeLinear 0 = .ok (.aload_n 0, 1) := by decide +kernel
theorem dX0_takeLinear_1 : decode cX0_takeLinear 1 = .ok (.invokevirtual 76, 3) := by decide +kernel
theorem dX0_takeLinear_4 : decode cX0_takeLinear 4 = .ok (.iconst 0, 1) := by decide +kernel
theorem dX0_takeLinear_5 : decode cX0_takeLinear 5 = .ok (.istore_n 2, 1) := by decide +kernel
theorem dX0_takeLinear_6 : decode cX0_takeLinear 6 = .ok (.iload_n 2, 1) := by decide +kernel
theorem dX0_takeLinear_7 : decode cX0_takeLinear 7 = .ok (.aload_n 0, 1) := by decide +kernel
theorem dX0_takeLinear_8 : decode cX0_takeLinear 8 = .ok (.getfield 79, 3) := by decide +kernel
theorem dX0_takeLinear_11 : decode cX0_takeLinear 11 = .ok (.if_icmp .ge 106, 3) := by decide +kernel
theorem dX0_takeLinear_14 : decode cX0_takeLinear 14 = .ok (.iload_n 2, 1) := by decide +kernel
theorem dX0_takeLinear_15 : decode cX0_takeLinear 15 = .ok (.bipush 32, 2) := by decide +kernel
theorem dX0_takeLinear_17 : decode cX0_takeLinear 17 = .ok (.if_icmp .ge 100, 3) := by decide +kernel
theorem dX0_takeLinear_20 : decode cX0_takeLinear 20 = .ok (.iconst 0, 1) := by decide +kernel
theorem dX0_takeLinear_21 : decode cX0_takeLinear 21 = .ok (.istore_n 3, 1) := by decide +kernel
theorem dX0_takeLinear_22 : decode cX0_takeLinear 22 = .ok (.iload_n 3, 1) := by decide +kernel
theorem dX0_takeLinear_23 : decode cX0_takeLinear 23 = .ok (.aload_n 0, 1) := by decide +kernel
theorem dX0_takeLinear_24 : decode cX0_takeLinear 24 = .ok (.getfield 82, 3) := by decide +kernel
theorem dX0_takeLinear_27 : decode cX0_takeLinear 27 = .ok (.if_icmp .ge 84, 3) := by decide +kernel
theorem dX0_takeLinear_30 : decode cX0_takeLinear 30 = .ok (.iload_n 3, 1) := by decide +kernel
theorem dX0_takeLinear_31 : decode cX0_takeLinear 31 = .ok (.bipush 32, 2) := by decide +kernel
theorem dX0_takeLinear_33 : decode cX0_takeLinear 33 = .ok (.if_icmp .ge 78, 3) := by decide +kernel
theorem dX0_takeLinear_36 : decode cX0_takeLinear 36 = .ok (.iconst (-1), 1) := by decide +kernel
theorem dX0_takeLinear_37 : decode cX0_takeLinear 37 = .ok (.istore 4, 2) := by decide +kernel
theorem dX0_takeLinear_39 : decode cX0_takeLinear 39 = .ok (.iload 4, 2) := by decide +kernel
theorem dX0_takeLinear_41 : decode cX0_takeLinear 41 = .ok (.iconst 1, 1) := by decide +kernel
theorem dX0_takeLinear_42 : decode cX0_takeLinear 42 = .ok (.if_icmp .gt 63, 3) := by decide +kernel
theorem dX0_takeLinear_45 : decode cX0_takeLinear 45 = .ok (.aload_n 0, 1) := by decide +kernel
theorem dX0_takeLinear_46 : decode cX0_takeLinear 46 = .ok (.aload_n 0, 1) := by decide +kernel
theorem dX0_takeLinear_47 : decode cX0_takeLinear 47 = .ok (.getfield 24, 3) := by decide +kernel
theorem dX0_takeLinear_50 : decode cX0_takeLinear 50 = .ok (.iload_n 2, 1) := by decide +kernel
theorem dX0_takeLinear_51 : decode cX0_takeLinear 51 = .ok (.iaload, 1) := by decide +kernel
theorem dX0_takeLinear_52 : decode cX0_takeLinear 52 = .ok (.i2l, 1) := by decide +kernel
theorem dX0_takeLinear_53 : decode cX0_takeLinear 53 = .ok (.iload 4, 2) := by decide +kernel
theorem dX0_takeLinear_55 : decode cX0_takeLinear 55 = .ok (.aload_n 0, 1) := by decide +kernel
theorem dX0_takeLinear_56 : decode cX0_takeLinear 56 = .ok (.getfield 28, 3) := by decide +kernel
theorem dX0_takeLinear_59 : decode cX0_takeLinear 59 = .ok (.iload_n 3, 1) := by decide +kernel
theorem dX0_takeLinear_60 : decode cX0_takeLinear 60 = .ok (.iaload, 1) := by decide +kernel
theorem dX0_takeLinear_61 : decode cX0_takeLinear 61 = .ok (.imul, 1) := by decide +kernel
theorem dX0_takeLinear_62 : decode cX0_takeLinear 62 = .ok (.i2l, 1) := by decide +kernel
theorem dX0_takeLinear_63 : decode cX0_takeLinear 63 = .ok (.invokevirtual 85, 3) := by decide +kernel
theorem dX0_takeLinear_66 : decode cX0_takeLinear 66 = .ok (.ifCond .eq 33, 3) := by decide +kernel
theorem dX0_takeLinear_69 : decode cX0_takeLinear 69 = .ok (.aload_n 0, 1) := by decide +kernel
theorem dX0_takeLinear_70 : decode cX0_takeLinear 70 = .ok (.getfield 18, 3) := by decide +kernel
theorem dX0_takeLinear_73 : decode cX0_takeLinear 73 = .ok (.lconst 0, 1) := by decide +kernel
theorem dX0_takeLinear_74 : decode cX0_takeLinear 74 = .ok (.aload_n 0, 1) := by decide +kernel
theorem dX0_takeLinear_75 : decode cX0_takeLinear 75 = .ok (.getfield 24, 3) := by decide +kernel
theorem dX0_takeLinear_78 : decode cX0_takeLinear 78 = .ok (.iload_n 2, 1) := by decide +kernel
theorem dX0_takeLinear_79 : decode cX0_takeLinear 79 = .ok (.iaload, 1) := by decide +kernel
theorem dX0_takeLinear_80 : decode cX0_takeLinear 80 = .ok (.i2l, 1) := by decide +kernel
theorem dX0_takeLinear_81 : decode cX0_takeLinear 81 = .ok (.iload 4, 2) := by decide +kernel
theorem dX0_takeLinear_83 : decode cX0_takeLinear 83 = .ok (.aload_n 0, 1) := by decide +kernel
theorem dX0_takeLinear_84 : decode cX0_takeLinear 84 = .ok (.getfield 28, 3) := by decide +kernel
theorem dX0_takeLinear_87 : decode cX0_takeLinear 87 = .ok (.iload_n 3, 1) := by decide +kernel
theorem dX0_takeLinear_88 : decode cX0_takeLinear 88 = .ok (.iaload, 1) := by decide +kernel
theorem dX0_takeLinear_89 : decode cX0_takeLinear 89 = .ok (.imul, 1) := by decide +kernel
theorem dX0_takeLinear_90 : decode cX0_takeLinear 90 = .ok (.i2l, 1) := by decide +kernel
theorem dX0_takeLinear_91 : decode cX0_takeLinear 91 = .ok (.invokevirtual 49, 3) := by decide +kernel
theorem dX0_takeLinear_94 : decode cX0_takeLinear 94 = .ok (.aload_n 0, 1) := by decide +kernel
theorem dX0_takeLinear_95 : decode cX0_takeLinear 95 = .ok (.aload_n 1, 1) := by decide +kernel
theorem dX0_takeLinear_96 : decode cX0_takeLinear 96 = .ok (.invokevirtual 53, 3) := by decide +kernel
theorem dX0_takeLinear_99 : decode cX0_takeLinear 99 = .ok (.iinc 4 2, 3) := by decide +kernel
theorem dX0_takeLinear_102 : decode cX0_takeLinear 102 = .ok (.goto (-63), 3) := by decide +kernel
theorem dX0_takeLinear_105 : decode cX0_takeLinear 105 = .ok (.iinc 3 1, 3) := by decide +kernel
theorem dX0_takeLinear_108 : decode cX0_takeLinear 108 = .ok (.goto (-86), 3) := by decide +kernel
theorem dX0_takeLinear_111 : decode cX0_takeLinear 111 = .ok (.iinc 2 1, 3) := by decide +kernel
theorem dX0_takeLinear_114 : decode cX0_takeLinear 114 = .ok (.goto (-108), 3) := by decide +kernel
theorem dX0_takeLinear_117 : decode cX0_takeLinear 117 = .ok (.return_, 1) := by decide +kernel
theorem dX0_isRoot_0 : decode cX0_isRoot 0 = .ok (.lconst 0, 1) := by decide +kernel
theorem dX0_isRoot_1 : decode cX0_isRoot 1 = .ok (.lstore 5, 2) := by decide +kernel
theorem dX0_isRoot_3 : decode cX0_isRoot 3 = .ok (.lconst 1, 1) := by decide +kernel
theorem dX0_isRoot_4 : decode cX0_isRoot 4 = .ok (.lstore 7, 2) := by decide +kernel
theorem dX0_isRoot_6 : decode cX0_isRoot 6 = .ok (.aload_n 0, 1) := by decide +kernel
theorem dX0_isRoot_7 : decode cX0_isRoot 7 = .ok (.getfield 12, 3) := by decide +kernel
theorem dX0_isRoot_10 : decode cX0_isRoot 10 = .ok (.invokevirtual 60, 3) := by decide +kernel
theorem dX0_isRoot_13 : decode cX0_isRoot 13 = .ok (.istore 9, 2) := by decide +kernel
theorem dX0_isRoot_15 : decode cX0_isRoot 15 = .ok (.iload 9, 2) := by decide +kernel
theorem dX0_isRoot_17 : decode cX0_isRoot 17 = .ok (.ifCond .lt 34, 3) := by decide +kernel
theorem dX0_isRoot_20 : decode cX0_isRoot 20 = .ok (.aload_n 0, 1) := by decide +kernel
theorem dX0_isRoot_21 : decode cX0_isRoot 21 = .ok (.getfield 12, 3) := by decide +kernel
theorem dX0_isRoot_24 : decode cX0_isRoot 24 = .ok (.iload 9, 2) := by decide +kernel
theorem dX0_isRoot_26 : decode cX0_isRoot 26 = .ok (.invokevirtual 89, 3) := by decide +kernel
theorem dX0_isRoot_29 : decode cX0_isRoot 29 = .ok (.lload 7, 2) := by decide +kernel
theorem dX0_isRoot_31 : decode cX0_isRoot 31 = .ok (.lmul, 1) := by decide +kernel
theorem dX0_isRoot_32 : decode cX0_isRoot 32 = .ok (.lload 5, 2) := by decide +kernel
theorem dX0_isRoot_34 : decode cX0_isRoot 34 = .ok (.lload_n 3, 1) := by decide +kernel
theorem dX0_isRoot_35 : decode cX0_isRoot 35 = .ok (.lmul, 1) := by decide +kernel
theorem dX0_isRoot_36 : decode cX0_isRoot 36 = .ok (.lsub, 1) := by decide +kernel
theorem dX0_isRoot_37 : decode cX0_isRoot 37 = .ok (.lstore 5, 2) := by decide +kernel
theorem dX0_isRoot_39 : decode cX0_isRoot 39 = .ok (.lload 7, 2) := by decide +kernel
theorem dX0_isRoot_41 : decode cX0_isRoot 41 = .ok (.lload_n 1, 1) := by decide +kernel
theorem dX0_isRoot_42 : decode cX0_isRoot 42 = .ok (.lmul, 1) := by decide +kernel
theorem dX0_isRoot_43 : decode cX0_isRoot 43 = .ok (.lstore 7, 2) := by decide +kernel
theorem dX0_isRoot_45 : decode cX0_isRoot 45 = .ok (.iinc 9 (-1), 3) := by decide +kernel
theorem dX0_isRoot_48 : decode cX0_isRoot 48 = .ok (.goto (-33), 3) := by decide +kernel
theorem dX0_isRoot_51 : decode cX0_isRoot 51 = .ok (.lload 5, 2) := by decide +kernel
theorem dX0_isRoot_53 : decode cX0_isRoot 53 = .ok (.lconst 0, 1) := by decide +kernel
theorem dX0_isRoot_54 : decode cX0_isRoot 54 = .ok (.lcmp, 1) := by decide +kernel
theorem dX0_isRoot_55 : decode cX0_isRoot 55 = .ok (.ifCond .ne 7, 3) := by decide +kernel
theorem dX0_isRoot_58 : decode cX0_isRoot 58 = .ok (.iconst 1, 1) := by decide +kernel
theorem dX0_isRoot_59 : decode cX0_isRoot 59 = .ok (.goto 4, 3) := by decide +kernel
theorem dX0_isRoot_62 : decode cX0_isRoot 62 = .ok (.iconst 0, 1) := by decide +kernel
theorem dX0_isRoot_63 : decode cX0_isRoot 63 = .ok (.ireturn, 1) := by decide +kernel
theorem dX0_listDivisors_0 : decode cX0_listDivisors 0 = .ok (.aload_n 0, 1) := by decide +kernel
theorem dX0_listDivisors_1 : decode cX0_listDivisors 1 = .ok (.aload_n 0, 1) := by decide +kernel
theorem dX0_listDivisors_2 : decode cX0_listDivisors 2 = .ok (.getfield 12, 3) := by decide +kernel
theorem dX0_listDivisors_5 : decode cX0_listDivisors 5 = .ok (.aload_n 0, 1) := by decide +kernel
theorem dX0_listDivisors_6 : decode cX0_listDivisors 6 = .ok (.getfield 12, 3) := by decide +kernel
theorem dX0_listDivisors_9 : decode cX0_listDivisors 9 = .ok (.invokevirtual 60, 3) := by decide +kernel
theorem dX0_listDivisors_12 : decode cX0_listDivisors 12 = .ok (.invokevirtual 89, 3) := by decide +kernel
theorem dX0_listDivisors_15 : decode cX0_listDivisors 15 = .ok (.aload_n 0, 1) := by decide +kernel
theorem dX0_listDivisors_16 : decode cX0_listDivisors 16 = .ok (.getfield 24, 3) := by decide +kernel
theorem dX0_listDivisors_19 : decode cX0_listDivisors 19 = .ok (.invokestatic 93, 3) := by decide +kernel
theorem dX0_listDivisors_22 : decode cX0_listDivisors 22 = .ok (.putfield 79, 3) := by decide +kernel
theorem dX0_listDivisors_25 : decode cX0_listDivisors 25 = .ok (.aload_n 0, 1) := by decide +kernel
theorem dX0_listDivisors_26 : decode cX0_listDivisors 26 = .ok (.aload_n 0, 1) := by decide +kernel
theorem dX0_listDivisors_27 : decode cX0_listDivisors 27 = .ok (.getfield 12, 3) := by decide +kernel
theorem dX0_listDivisors_30 : decode cX0_listDivisors 30 = .ok (.iconst 0, 1) := by decide +kernel
theorem dX0_listDivisors_31 : decode cX0_listDivisors 31 = .ok (.invokevirtual 89, 3) := by decide +kernel
theorem dX0_listDivisors_34 : decode cX0_listDivisors 34 = .ok (.aload_n 0, 1) := by decide +kernel
theorem dX0_listDivisors_35 : decode cX0_listDivisors 35 = .ok (.getfield 28, 3) := by decide +kernel
theorem dX0_listDivisors_38 : decode cX0_listDivisors 38 = .ok (.invokestatic 93, 3) := by decide +kernel
theorem dX0_listDivisors_41 : decode cX0_listDivisors 41 = .ok (.putfield 82, 3) := by decide +kernel
theorem dX0_listDivisors_44 : decode cX0_listDivisors 44 = .ok (.return_, 1) := by decide +kernel
theorem dX0_divisors_0 : decode cX0_divisors 0 = .ok (.lload_n 0, 1) := by decide +kernel
theorem dX0_divisors_1 : decode cX0_divisors 1 = .ok (.invokestatic 97, 3) := by decide +kernel
theorem dX0_divisors_4 : decode cX0_divisors 4 = .ok (.lstore_n 3, 1) := by decide +kernel
theorem dX0_divisors_5 : decode cX0_divisors 5 = .ok (.iconst 0, 1) := by decide +kernel
theorem dX0_divisors_6 : decode cX0_divisors 6 = .ok (.istore 5, 2) := by decide +kernel
theorem dX0_divisors_8 : decode cX0_divisors 8 = .ok (.iconst 1, 1) := by decide +kernel
theorem dX0_divisors_9 : decode cX0_divisors 9 = .ok (.istore 6, 2) := by decide +kernel
theorem dX0_divisors_11 : decode cX0_divisors 11 = .ok (.iload 6, 2) := by decide +kernel
theorem dX0_divisors_13 : decode cX0_divisors 13 = .ok (.sipush 999, 3) := by decide +kernel
theorem dX0_divisors_16 : decode cX0_divisors 16 = .ok (.if_icmp .gt 72, 3) := by decide +kernel
theorem dX0_divisors_19 : decode cX0_divisors 19 = .ok (.iload 6, 2) := by decide +kernel
theorem dX0_divisors_21 : decode cX0_divisors 21 = .ok (.iload 6, 2) := by decide +kernel
theorem dX0_divisors_23 : decode cX0_divisors 23 = .ok (.imul, 1) := by decide +kernel
theorem dX0_divisors_24 : decode cX0_divisors 24 = .ok (.i2l, 1) := by decide +kernel
theorem dX0_divisors_25 : decode cX0_divisors 25 = .ok (.lload_n 3, 1) := by decide +kernel
theorem dX0_divisors_26 : decode cX0_divisors 26 = .ok (.lcmp, 1) := by decide +kernel
theorem dX0_divisors_27 : decode cX0_divisors 27 = .ok (.ifCond .gt 61, 3) := by decide +kernel
theorem dX0_divisors_30 : decode cX0_divisors 30 = .ok (.lload_n 3, 1) := by decide +kernel
theorem dX0_divisors_31 : decode cX0_divisors 31 = .ok (.iload 6, 2) := by decide +kernel
theorem dX0_divisors_33 : decode cX0_divisors 33 = .ok (.i2l, 1) := by decide +kernel
theorem dX0_divisors_34 : decode cX0_divisors 34 = .ok (.lrem, 1) := by decide +kernel
theorem dX0_divisors_35 : decode cX0_divisors 35 = .ok (.lconst 0, 1) := by decide +kernel
theorem dX0_divisors_36 : decode cX0_divisors 36 = .ok (.lcmp, 1) := by decide +kernel
theorem dX0_divisors_37 : decode cX0_divisors 37 = .ok (.ifCond .ne 45, 3) := by decide +kernel
theorem dX0_divisors_40 : decode cX0_divisors 40 = .ok (.iload 5, 2) := by decide +kernel
theorem dX0_divisors_42 : decode cX0_divisors 42 = .ok (.iconst 1, 1) := by decide +kernel
theorem dX0_divisors_43 : decode cX0_divisors 43 = .ok (.iadd, 1) := by decide +kernel
theorem dX0_divisors_44 : decode cX0_divisors 44 = .ok (.aload_n 2, 1) := by decide +kernel
theorem dX0_divisors_45 : decode cX0_divisors 45 = .ok (.arraylength, 1) := by decide +kernel
theorem dX0_divisors_46 : decode cX0_divisors 46 = .ok (.if_icmp .ge 36, 3) := by decide +kernel
theorem dX0_divisors_49 : decode cX0_divisors 49 = .ok (.aload_n 2, 1) := by decide +kernel
theorem dX0_divisors_50 : decode cX0_divisors 50 = .ok (.iload 5, 2) := by decide +kernel
theorem dX0_divisors_52 : decode cX0_divisors 52 = .ok (.iload 6, 2) := by decide +kernel
theorem dX0_divisors_54 : decode cX0_divisors 54 = .ok (.iastore, 1) := by decide +kernel
theorem dX0_divisors_55 : decode cX0_divisors 55 = .ok (.iinc 5 1, 3) := by decide +kernel
theorem dX0_divisors_58 : decode cX0_divisors 58 = .ok (.iload 6, 2) := by decide +kernel
theorem dX0_divisors_60 : decode cX0_divisors 60 = .ok (.iload 6, 2) := by decide +kernel
theorem dX0_divisors_62 : decode cX0_divisors 62 = .ok (.imul, 1) := by decide +kernel
theorem dX0_divisors_63 : decode cX0_divisors 63 = .ok (.i2l, 1) := by decide +kernel
theorem dX0_divisors_64 : decode cX0_divisors 64 = .ok (.lload_n 3, 1) := by decide +kernel
theorem dX0_divisors_65 : decode cX0_divisors 65 = .ok (.lcmp, 1) := by decide +kernel
theorem dX0_divisors_66 : decode cX0_divisors 66 = .ok (.ifCond .eq 16, 3) := by decide +kernel
theorem dX0_divisors_69 : decode cX0_divisors 69 = .ok (.aload_n 2, 1) := by decide +kernel
theorem dX0_divisors_70 : decode cX0_divisors 70 = .ok (.iload 5, 2) := by decide +kernel
theorem dX0_divisors_72 : decode cX0_divisors 72 = .ok (.lload_n 3, 1) := by decide +kernel
theorem dX0_divisors_73 : decode cX0_divisors 73 = .ok (.iload 6, 2) := by decide +kernel
theorem dX0_divisors_75 : decode cX0_divisors 75 = .ok (.i2l, 1) := by decide +kernel
theorem dX0_divisors_76 : decode cX0_divisors 76 = .ok (.ldiv, 1) := by decide +kernel
theorem dX0_divisors_77 : decode cX0_divisors 77 = .ok (.l2i, 1) := by decide +kernel
theorem dX0_divisors_78 : decode cX0_divisors 78 = .ok (.iastore, 1) := by decide +kernel
theorem dX0_divisors_79 : decode cX0_divisors 79 = .ok (.iinc 5 1, 3) := by decide +kernel
theorem dX0_divisors_82 : decode cX0_divisors 82 = .ok (.iinc 6 1, 3) := by decide +kernel
theorem dX0_divisors_85 : decode cX0_divisors 85 = .ok (.goto (-74), 3) := by decide +kernel
theorem dX0_divisors_88 : decode cX0_divisors 88 = .ok (.iload 5, 2) := by decide +kernel
theorem dX0_divisors_90 : decode cX0_divisors 90 = .ok (.ireturn, 1) := by decide +kernel
theorem dX0_findQuadratic_0 : decode cX0_findQuadratic 0 = .ok (.aload_n 0, 1) := by decide +kernel
theorem dX0_findQuadratic_1 : decode cX0_findQuadratic 1 = .ok (.invokevirtual 76, 3) := by decide +kernel
theorem dX0_findQuadratic_4 : decode cX0_findQuadratic 4 = .ok (.iconst 0, 1) := by decide +kernel
theorem dX0_findQuadratic_5 : decode cX0_findQuadratic 5 = .ok (.istore_n 1, 1) := by decide +kernel
theorem dX0_findQuadratic_6 : decode cX0_findQuadratic 6 = .ok (.iload_n 1, 1) := by decide +kernel
theorem dX0_findQuadratic_7 : decode cX0_findQuadratic 7 = .ok (.aload_n 0, 1) := by decide +kernel
theorem dX0_findQuadratic_8 : decode cX0_findQuadratic 8 = .ok (.getfield 79, 3) := by decide +kernel
theorem dX0_findQuadratic_11 : decode cX0_findQuadratic 11 = .ok (.if_icmp .ge 82, 3) := by decide +kernel
theorem dX0_findQuadratic_14 : decode cX0_findQuadratic 14 = .ok (.iload_n 1, 1) := by decide +kernel
theorem dX0_findQuadratic_15 : decode cX0_findQuadratic 15 = .ok (.bipush 32, 2) := by decide +kernel
theorem dX0_findQuadratic_17 : decode cX0_findQuadratic 17 = .ok (.if_icmp .ge 76, 3) := by decide +kernel
theorem dX0_findQuadratic_20 : decode cX0_findQuadratic 20 = .ok (.iconst 0, 1) := by decide +kernel
theorem dX0_findQuadratic_21 : decode cX0_findQuadratic 21 = .ok (.istore_n 2, 1) := by decide +kernel
theorem dX0_findQuadratic_22 : decode cX0_findQuadratic 22 = .ok (.iload_n 2, 1) := by decide +kernel
theorem dX0_findQuadratic_23 : decode cX0_findQuadratic 23 = .ok (.aload_n 0, 1) := by decide +kernel
theorem dX0_findQuadratic_24 : decode cX0_findQuadratic 24 = .ok (.getfield 82, 3) := by decide +kernel
theorem dX0_findQuadratic_27 : decode cX0_findQuadratic 27 = .ok (.if_icmp .ge 60, 3) := by decide +kernel
theorem dX0_findQuadratic_30 : decode cX0_findQuadratic 30 = .ok (.iload_n 2, 1) := by decide +kernel
theorem dX0_findQuadratic_31 : decode cX0_findQuadratic 31 = .ok (.bipush 32, 2) := by decide +kernel
theorem dX0_findQuadratic_33 : decode cX0_findQuadratic 33 = .ok (.if_icmp .ge 54, 3) := by decide +kernel
theorem dX0_findQuadratic_36 : decode cX0_findQuadratic 36 = .ok (.aload_n 0, 1) := by decide +kernel
theorem dX0_findQuadratic_37 : decode cX0_findQuadratic 37 = .ok (.aload_n 0, 1) := by decide +kernel
theorem dX0_findQuadratic_38 : decode cX0_findQuadratic 38 = .ok (.getfield 24, 3) := by decide +kernel
theorem dX0_findQuadratic_41 : decode cX0_findQuadratic 41 = .ok (.iload_n 1, 1) := by decide +kernel
theorem dX0_findQuadratic_42 : decode cX0_findQuadratic 42 = .ok (.iaload, 1) := by decide +kernel
theorem dX0_findQuadratic_43 : decode cX0_findQuadratic 43 = .ok (.i2l, 1) := by decide +kernel
theorem dX0_findQuadratic_44 : decode cX0_findQuadratic 44 = .ok (.aload_n 0, 1) := by decide +kernel
theorem dX0_findQuadratic_45 : decode cX0_findQuadratic 45 = .ok (.getfield 28, 3) := by decide +kernel
theorem dX0_findQuadratic_48 : decode cX0_findQuadratic 48 = .ok (.iload_n 2, 1) := by decide +kernel
theorem dX0_findQuadratic_49 : decode cX0_findQuadratic 49 = .ok (.iaload, 1) := by decide +kernel
theorem dX0_findQuadratic_50 : decode cX0_findQuadratic 50 = .ok (.i2l, 1) := by decide +kernel
theorem dX0_findQuadratic_51 : decode cX0_findQuadratic 51 = .ok (.invokevirtual 103, 3) := by decide +kernel
theorem dX0_findQuadratic_54 : decode cX0_findQuadratic 54 = .ok (.ifCond .ne 25, 3) := by decide +kernel
theorem dX0_findQuadratic_57 : decode cX0_findQuadratic 57 = .ok (.aload_n 0, 1) := by decide +kernel
theorem dX0_findQuadratic_58 : decode cX0_findQuadratic 58 = .ok (.aload_n 0, 1) := by decide +kernel
theorem dX0_findQuadratic_59 : decode cX0_findQuadratic 59 = .ok (.getfield 24, 3) := by decide +kernel
theorem dX0_findQuadratic_62 : decode cX0_findQuadratic 62 = .ok (.iload_n 1, 1) := by decide +kernel
theorem dX0_findQuadratic_63 : decode cX0_findQuadratic 63 = .ok (.iaload, 1) := by decide +kernel
theorem dX0_findQuadratic_64 : decode cX0_findQuadratic 64 = .ok (.i2l, 1) := by decide +kernel
theorem dX0_findQuadratic_65 : decode cX0_findQuadratic 65 = .ok (.aload_n 0, 1) := by decide +kernel
theorem dX0_findQuadratic_66 : decode cX0_findQuadratic 66 = .ok (.getfield 28, 3) := by decide +kernel
theorem dX0_findQuadratic_69 : decode cX0_findQuadratic 69 = .ok (.iload_n 2, 1) := by decide +kernel
theorem dX0_findQuadratic_70 : decode cX0_findQuadratic 70 = .ok (.iaload, 1) := by decide +kernel
theorem dX0_findQuadratic_71 : decode cX0_findQuadratic 71 = .ok (.ineg, 1) := by decide +kernel
theorem dX0_findQuadratic_72 : decode cX0_findQuadratic 72 = .ok (.i2l, 1) := by decide +kernel
theorem dX0_findQuadratic_73 : decode cX0_findQuadratic 73 = .ok (.invokevirtual 103, 3) := by decide +kernel
theorem dX0_findQuadratic_76 : decode cX0_findQuadratic 76 = .ok (.ifCond .eq 5, 3) := by decide +kernel
theorem dX0_findQuadratic_79 : decode cX0_findQuadratic 79 = .ok (.iconst 1, 1) := by decide +kernel
theorem dX0_findQuadratic_80 : decode cX0_findQuadratic 80 = .ok (.ireturn, 1) := by decide +kernel
theorem dX0_findQuadratic_81 : decode cX0_findQuadratic 81 = .ok (.iinc 2 1, 3) := by decide +kernel
theorem dX0_findQuadratic_84 : decode cX0_findQuadratic 84 = .ok (.goto (-62), 3) := by decide +kernel
theorem dX0_findQuadratic_87 : decode cX0_findQuadratic 87 = .ok (.iinc 1 1, 3) := by decide +kernel
theorem dX0_findQuadratic_90 : decode cX0_findQuadratic 90 = .ok (.goto (-84), 3) := by decide +kernel
theorem dX0_findQuadratic_93 : decode cX0_findQuadratic 93 = .ok (.iconst 0, 1) := by decide +kernel
theorem dX0_findQuadratic_94 : decode cX0_findQuadratic 94 = .ok (.ireturn, 1) := by decide +kernel
theorem dX0_findMiddle_0 : decode cX0_findMiddle 0 = .ok (.aload_n 0, 1) := by decide +kernel
theorem dX0_findMiddle_1 : decode cX0_findMiddle 1 = .ok (.getfield 12, 3) := by decide +kernel
theorem dX0_findMiddle_4 : decode cX0_findMiddle 4 = .ok (.invokevirtual 60, 3) := by decide +kernel
theorem dX0_findMiddle_7 : decode cX0_findMiddle 7 = .ok (.istore 5, 2) := by decide +kernel
theorem dX0_findMiddle_9 : decode cX0_findMiddle 9 = .ok (.lload_n 1, 1) := by decide +kernel
theorem dX0_findMiddle_10 : decode cX0_findMiddle 10 = .ok (.lconst 0, 1) := by decide +kernel
theorem dX0_findMiddle_11 : decode cX0_findMiddle 11 = .ok (.lcmp, 1) := by decide +kernel
theorem dX0_findMiddle_12 : decode cX0_findMiddle 12 = .ok (.ifCond .eq 9, 3) := by decide +kernel
theorem dX0_findMiddle_15 : decode cX0_findMiddle 15 = .ok (.lload_n 3, 1) := by decide +kernel
theorem dX0_findMiddle_16 : decode cX0_findMiddle 16 = .ok (.lconst 0, 1) := by decide +kernel
theorem dX0_findMiddle_17 : decode cX0_findMiddle 17 = .ok (.lcmp, 1) := by decide +kernel
theorem dX0_findMiddle_18 : decode cX0_findMiddle 18 = .ok (.ifCond .ne 5, 3) := by decide +kernel
theorem dX0_findMiddle_21 : decode cX0_findMiddle 21 = .ok (.iconst 0, 1) := by decide +kernel
theorem dX0_findMiddle_22 : decode cX0_findMiddle 22 = .ok (.ireturn, 1) := by decide +kernel
theorem dX0_findMiddle_23 : decode cX0_findMiddle 23 = .ok (.aload_n 0, 1) := by decide +kernel
theorem dX0_findMiddle_24 : decode cX0_findMiddle 24 = .ok (.getfield 12, 3) := by decide +kernel
theorem dX0_findMiddle_27 : decode cX0_findMiddle 27 = .ok (.iload 5, 2) := by decide +kernel
theorem dX0_findMiddle_29 : decode cX0_findMiddle 29 = .ok (.invokevirtual 89, 3) := by decide +kernel
theorem dX0_findMiddle_32 : decode cX0_findMiddle 32 = .ok (.lload_n 1, 1) := by decide +kernel
theorem dX0_findMiddle_33 : decode cX0_findMiddle 33 = .ok (.ldiv, 1) := by decide +kernel
theorem dX0_findMiddle_34 : decode cX0_findMiddle 34 = .ok (.lstore 6, 2) := by decide +kernel
theorem dX0_findMiddle_36 : decode cX0_findMiddle 36 = .ok (.aload_n 0, 1) := by decide +kernel
theorem dX0_findMiddle_37 : decode cX0_findMiddle 37 = .ok (.getfield 12, 3) := by decide +kernel
theorem dX0_findMiddle_40 : decode cX0_findMiddle 40 = .ok (.iconst 0, 1) := by decide +kernel
theorem dX0_findMiddle_41 : decode cX0_findMiddle 41 = .ok (.invokevirtual 89, 3) := by decide +kernel
theorem dX0_findMiddle_44 : decode cX0_findMiddle 44 = .ok (.lload_n 3, 1) := by decide +kernel
theorem dX0_findMiddle_45 : decode cX0_findMiddle 45 = .ok (.ldiv, 1) := by decide +kernel
theorem dX0_findMiddle_46 : decode cX0_findMiddle 46 = .ok (.lstore 8, 2) := by decide +kernel
theorem dX0_findMiddle_48 : decode cX0_findMiddle 48 = .ok (.iload 5, 2) := by decide +kernel
theorem dX0_findMiddle_50 : decode cX0_findMiddle 50 = .ok (.iconst 4, 1) := by decide +kernel
theorem dX0_findMiddle_51 : decode cX0_findMiddle 51 = .ok (.if_icmp .ne 43, 3) := by decide +kernel
theorem dX0_findMiddle_54 : decode cX0_findMiddle 54 = .ok (.lload 6, 2) := by decide +kernel
theorem dX0_findMiddle_56 : decode cX0_findMiddle 56 = .ok (.lneg, 1) := by decide +kernel
theorem dX0_findMiddle_57 : decode cX0_findMiddle 57 = .ok (.lstore 10, 2) := by decide +kernel
theorem dX0_findMiddle_59 : decode cX0_findMiddle 59 = .ok (.aload_n 0, 1) := by decide +kernel
theorem dX0_findMiddle_60 : decode cX0_findMiddle 60 = .ok (.getfield 12, 3) := by decide +kernel
theorem dX0_findMiddle_63 : decode cX0_findMiddle 63 = .ok (.iconst 3, 1) := by decide +kernel
theorem dX0_findMiddle_64 : decode cX0_findMiddle 64 = .ok (.invokevirtual 89, 3) := by decide +kernel
theorem dX0_findMiddle_67 : decode cX0_findMiddle 67 = .ok (.lstore 12, 2) := by decide +kernel
theorem dX0_findMiddle_69 : decode cX0_findMiddle 69 = .ok (.lload_n 1, 1) := by decide +kernel
theorem dX0_findMiddle_70 : decode cX0_findMiddle 70 = .ok (.lload_n 1, 1) := by decide +kernel
theorem dX0_findMiddle_71 : decode cX0_findMiddle 71 = .ok (.lload 8, 2) := by decide +kernel
theorem dX0_findMiddle_73 : decode cX0_findMiddle 73 = .ok (.lmul, 1) := by decide +kernel
theorem dX0_findMiddle_74 : decode cX0_findMiddle 74 = .ok (.lload_n 3, 1) := by decide +kernel
theorem dX0_findMiddle_75 : decode cX0_findMiddle 75 = .ok (.lload 6, 2) := by decide +kernel
theorem dX0_findMiddle_77 : decode cX0_findMiddle 77 = .ok (.lmul, 1) := by decide +kernel
theorem dX0_findMiddle_78 : decode cX0_findMiddle 78 = .ok (.ladd, 1) := by decide +kernel
theorem dX0_findMiddle_79 : decode cX0_findMiddle 79 = .ok (.aload_n 0, 1) := by decide +kernel
theorem dX0_findMiddle_80 : decode cX0_findMiddle 80 = .ok (.getfield 12, 3) := by decide +kernel
theorem dX0_findMiddle_83 : decode cX0_findMiddle 83 = .ok (.iconst 2, 1) := by decide +kernel
theorem dX0_findMiddle_84 : decode cX0_findMiddle 84 = .ok (.invokevirtual 89, 3) := by decide +kernel
theorem dX0_findMiddle_87 : decode cX0_findMiddle 87 = .ok (.lsub, 1) := by decide +kernel
theorem dX0_findMiddle_88 : decode cX0_findMiddle 88 = .ok (.lmul, 1) := by decide +kernel
theorem dX0_findMiddle_89 : decode cX0_findMiddle 89 = .ok (.lstore 14, 2) := by decide +kernel
theorem dX0_findMiddle_91 : decode cX0_findMiddle 91 = .ok (.goto 61, 3) := by decide +kernel
theorem dX0_findMiddle_94 : decode cX0_findMiddle 94 = .ok (.lload_n 3, 1) := by decide +kernel
theorem dX0_findMiddle_95 : decode cX0_findMiddle 95 = .ok (.lneg, 1) := by decide +kernel
theorem dX0_findMiddle_96 : decode cX0_findMiddle 96 = .ok (.lload 6, 2) := by decide +kernel
theorem dX0_findMiddle_98 : decode cX0_findMiddle 98 = .ok (.lmul, 1) := by decide +kernel
theorem dX0_findMiddle_99 : decode cX0_findMiddle 99 = .ok (.lstore 10, 2) := by decide +kernel
theorem dX0_findMiddle_101 : decode cX0_findMiddle 101 = .ok (.lload_n 3, 1) := by decide +kernel
theorem dX0_findMiddle_102 : decode cX0_findMiddle 102 = .ok (.aload_n 0, 1) := by decide +kernel
theorem dX0_findMiddle_103 : decode cX0_findMiddle 103 = .ok (.getfield 12, 3) := by decide +kernel
theorem dX0_findMiddle_106 : decode cX0_findMiddle 106 = .ok (.iconst 4, 1) := by decide +kernel
theorem dX0_findMiddle_107 : decode cX0_findMiddle 107 = .ok (.invokevirtual 89, 3) := by decide +kernel
theorem dX0_findMiddle_110 : decode cX0_findMiddle 110 = .ok (.lmul, 1) := by decide +kernel
theorem dX0_findMiddle_111 : decode cX0_findMiddle 111 = .ok (.lload_n 1, 1) := by decide +kernel
theorem dX0_findMiddle_112 : decode cX0_findMiddle 112 = .ok (.lload_n 1, 1) := by decide +kernel
theorem dX0_findMiddle_113 : decode cX0_findMiddle 113 = .ok (.lmul, 1) := by decide +kernel
theorem dX0_findMiddle_114 : decode cX0_findMiddle 114 = .ok (.lload 8, 2) := by decide +kernel
theorem dX0_findMiddle_116 : decode cX0_findMiddle 116 = .ok (.lmul, 1) := by decide +kernel
theorem dX0_findMiddle_117 : decode cX0_findMiddle 117 = .ok (.lsub, 1) := by decide +kernel
theorem dX0_findMiddle_118 : decode cX0_findMiddle 118 = .ok (.lstore 12, 2) := by decide +kernel
theorem dX0_findMiddle_120 : decode cX0_findMiddle 120 = .ok (.lload_n 1, 1) := by decide +kernel
theorem dX0_findMiddle_121 : decode cX0_findMiddle 121 = .ok (.lload_n 1, 1) := by decide +kernel
theorem dX0_findMiddle_122 : decode cX0_findMiddle 122 = .ok (.aload_n 0, 1) := by decide +kernel
theorem dX0_findMiddle_123 : decode cX0_findMiddle 123 = .ok (.getfield 12, 3) := by decide +kernel
theorem dX0_findMiddle_126 : decode cX0_findMiddle 126 = .ok (.iconst 1, 1) := by decide +kernel
theorem dX0_findMiddle_127 : decode cX0_findMiddle 127 = .ok (.invokevirtual 89, 3) := by decide +kernel
theorem dX0_findMiddle_130 : decode cX0_findMiddle 130 = .ok (.lmul, 1) := by decide +kernel
theorem dX0_findMiddle_131 : decode cX0_findMiddle 131 = .ok (.lload_n 3, 1) := by decide +kernel
theorem dX0_findMiddle_132 : decode cX0_findMiddle 132 = .ok (.lload_n 3, 1) := by decide +kernel
theorem dX0_findMiddle_133 : decode cX0_findMiddle 133 = .ok (.lmul, 1) := by decide +kernel
theorem dX0_findMiddle_134 : decode cX0_findMiddle 134 = .ok (.lload 6, 2) := by decide +kernel
theorem dX0_findMiddle_136 : decode cX0_findMiddle 136 = .ok (.lmul, 1) := by decide +kernel
theorem dX0_findMiddle_137 : decode cX0_findMiddle 137 = .ok (.ladd, 1) := by decide +kernel
theorem dX0_findMiddle_138 : decode cX0_findMiddle 138 = .ok (.lload_n 3, 1) := by decide +kernel
theorem dX0_findMiddle_139 : decode cX0_findMiddle 139 = .ok (.aload_n 0, 1) := by decide +kernel
theorem dX0_findMiddle_140 : decode cX0_findMiddle 140 = .ok (.getfield 12, 3) := by decide +kernel
theorem dX0_findMiddle_143 : decode cX0_findMiddle 143 = .ok (.iconst 3, 1) := by decide +kernel
theorem dX0_findMiddle_144 : decode cX0_findMiddle 144 = .ok (.invokevirtual 89, 3) := by decide +kernel
theorem dX0_findMiddle_147 : decode cX0_findMiddle 147 = .ok (.lmul, 1) := by decide +kernel
theorem dX0_findMiddle_148 : decode cX0_findMiddle 148 = .ok (.lsub, 1) := by decide +kernel
theorem dX0_findMiddle_149 : decode cX0_findMiddle 149 = .ok (.lmul, 1) := by decide +kernel
theorem dX0_findMiddle_150 : decode cX0_findMiddle 150 = .ok (.lstore 14, 2) := by decide +kernel
theorem dX0_findMiddle_152 : decode cX0_findMiddle 152 = .ok (.lload 12, 2) := by decide +kernel
theorem dX0_findMiddle_154 : decode cX0_findMiddle 154 = .ok (.lload 12, 2) := by decide +kernel
theorem dX0_findMiddle_156 : decode cX0_findMiddle 156 = .ok (.lmul, 1) := by decide +kernel
theorem dX0_findMiddle_157 : decode cX0_findMiddle 157 = .ok (.ldc2_w 106, 3) := by decide +kernel
theorem dX0_findMiddle_160 : decode cX0_findMiddle 160 = .ok (.lload 10, 2) := by decide +kernel
theorem dX0_findMiddle_162 : decode cX0_findMiddle 162 = .ok (.lmul, 1) := by decide +kernel
theorem dX0_findMiddle_163 : decode cX0_findMiddle 163 = .ok (.lload 14, 2) := by decide +kernel
theorem dX0_findMiddle_165 : decode cX0_findMiddle 165 = .ok (.lmul, 1) := by decide +kernel
theorem dX0_findMiddle_166 : decode cX0_findMiddle 166 = .ok (.lsub, 1) := by decide +kernel
theorem dX0_findMiddle_167 : decode cX0_findMiddle 167 = .ok (.invokestatic 108, 3) := by decide +kernel
theorem dX0_findMiddle_170 : decode cX0_findMiddle 170 = .ok (.lstore 16, 2) := by decide +kernel
theorem dX0_findMiddle_172 : decode cX0_findMiddle 172 = .ok (.iconst (-1), 1) := by decide +kernel
theorem dX0_findMiddle_173 : decode cX0_findMiddle 173 = .ok (.istore 18, 2) := by decide +kernel
theorem dX0_findMiddle_175 : decode cX0_findMiddle 175 = .ok (.iload 18, 2) := by decide +kernel
theorem dX0_findMiddle_177 : decode cX0_findMiddle 177 = .ok (.iconst 1, 1) := by decide +kernel
theorem dX0_findMiddle_178 : decode cX0_findMiddle 178 = .ok (.if_icmp .gt 86, 3) := by decide +kernel
theorem dX0_findMiddle_181 : decode cX0_findMiddle 181 = .ok (.lload 16, 2) := by decide +kernel
theorem dX0_findMiddle_183 : decode cX0_findMiddle 183 = .ok (.ldc2_w 111, 3) := by decide +kernel
theorem dX0_findMiddle_186 : decode cX0_findMiddle 186 = .ok (.lcmp, 1) := by decide +kernel
theorem dX0_findMiddle_187 : decode cX0_findMiddle 187 = .ok (.ifCond .eq 77, 3) := by decide +kernel
theorem dX0_findMiddle_190 : decode cX0_findMiddle 190 = .ok (.lload 10, 2) := by decide +kernel
theorem dX0_findMiddle_192 : decode cX0_findMiddle 192 = .ok (.lconst 0, 1) := by decide +kernel
theorem dX0_findMiddle_193 : decode cX0_findMiddle 193 = .ok (.lcmp, 1) := by decide +kernel
theorem dX0_findMiddle_194 : decode cX0_findMiddle 194 = .ok (.ifCond .eq 70, 3) := by decide +kernel
theorem dX0_findMiddle_197 : decode cX0_findMiddle 197 = .ok (.iload 18, 2) := by decide +kernel
theorem dX0_findMiddle_199 : decode cX0_findMiddle 199 = .ok (.i2l, 1) := by decide +kernel
theorem dX0_findMiddle_200 : decode cX0_findMiddle 200 = .ok (.lload 16, 2) := by decide +kernel
theorem dX0_findMiddle_202 : decode cX0_findMiddle 202 = .ok (.lmul, 1) := by decide +kernel
theorem dX0_findMiddle_203 : decode cX0_findMiddle 203 = .ok (.lload 12, 2) := by decide +kernel
theorem dX0_findMiddle_205 : decode cX0_findMiddle 205 = .ok (.lsub, 1) := by decide +kernel
theorem dX0_findMiddle_206 : decode cX0_findMiddle 206 = .ok (.ldc2_w 113, 3) := by decide +kernel
theorem dX0_findMiddle_209 : decode cX0_findMiddle 209 = .ok (.lload 10, 2) := by decide +kernel
theorem dX0_findMiddle_211 : decode cX0_findMiddle 211 = .ok (.lmul, 1) := by decide +kernel
theorem dX0_findMiddle_212 : decode cX0_findMiddle 212 = .ok (.ldiv, 1) := by decide +kernel
theorem dX0_findMiddle_213 : decode cX0_findMiddle 213 = .ok (.lstore 19, 2) := by decide +kernel
theorem dX0_findMiddle_215 : decode cX0_findMiddle 215 = .ok (.aload_n 0, 1) := by decide +kernel
theorem dX0_findMiddle_216 : decode cX0_findMiddle 216 = .ok (.getfield 18, 3) := by decide +kernel
theorem dX0_findMiddle_219 : decode cX0_findMiddle 219 = .ok (.lload_n 1, 1) := by decide +kernel
theorem dX0_findMiddle_220 : decode cX0_findMiddle 220 = .ok (.lload 19, 2) := by decide +kernel
theorem dX0_findMiddle_222 : decode cX0_findMiddle 222 = .ok (.lload_n 3, 1) := by decide +kernel
theorem dX0_findMiddle_223 : decode cX0_findMiddle 223 = .ok (.invokevirtual 49, 3) := by decide +kernel
theorem dX0_findMiddle_226 : decode cX0_findMiddle 226 = .ok (.lload 19, 2) := by decide +kernel
theorem dX0_findMiddle_228 : decode cX0_findMiddle 228 = .ok (.invokestatic 97, 3) := by decide +kernel
theorem dX0_findMiddle_231 : decode cX0_findMiddle 231 = .ok (.ldc2_w 115, 3) := by decide +kernel
theorem dX0_findMiddle_234 : decode cX0_findMiddle 234 = .ok (.lcmp, 1) := by decide +kernel
theorem dX0_findMiddle_235 : decode cX0_findMiddle 235 = .ok (.ifCond .gt 23, 3) := by decide +kernel
theorem dX0_findMiddle_238 : decode cX0_findMiddle 238 = .ok (.aload_n 0, 1) := by decide +kernel
theorem dX0_findMiddle_239 : decode cX0_findMiddle 239 = .ok (.getfield 21, 3) := by decide +kernel
theorem dX0_findMiddle_242 : decode cX0_findMiddle 242 = .ok (.aload_n 0, 1) := by decide +kernel
theorem dX0_findMiddle_243 : decode cX0_findMiddle 243 = .ok (.getfield 12, 3) := by decide +kernel
theorem dX0_findMiddle_246 : decode cX0_findMiddle 246 = .ok (.aload_n 0, 1) := by decide +kernel
theorem dX0_findMiddle_247 : decode cX0_findMiddle 247 = .ok (.getfield 18, 3) := by decide +kernel
theorem dX0_findMiddle_250 : decode cX0_findMiddle 250 = .ok (.invokevirtual 72, 3) := by decide +kernel
theorem dX0_findMiddle_253 : decode cX0_findMiddle 253 = .ok (.ifCond .eq 5, 3) := by decide +kernel
theorem dX0_findMiddle_256 : decode cX0_findMiddle 256 = .ok (.iconst 1, 1) := by decide +kernel
theorem dX0_findMiddle_257 : decode cX0_findMiddle 257 = .ok (.ireturn, 1) := by decide +kernel
theorem dX0_findMiddle_258 : decode cX0_findMiddle 258 = .ok (.iinc 18 2, 3) := by decide +kernel
theorem dX0_findMiddle_261 : decode cX0_findMiddle 261 = .ok (.goto (-86), 3) := by decide +kernel
theorem dX0_findMiddle_264 : decode cX0_findMiddle 264 = .ok (.iconst 0, 1) := by decide +kernel
theorem dX0_findMiddle_265 : decode cX0_findMiddle 265 = .ok (.ireturn, 1) := by decide +kernel
theorem dX0_squareRoot_0 : decode cX0_squareRoot 0 = .ok (.lload_n 0, 1) := by decide +kernel
theorem dX0_squareRoot_1 : decode cX0_squareRoot 1 = .ok (.lconst 0, 1) := by decide +kernel
theorem dX0_squareRoot_2 : decode cX0_squareRoot 2 = .ok (.lcmp, 1) := by decide +kernel
theorem dX0_squareRoot_3 : decode cX0_squareRoot 3 = .ok (.ifCond .lt 20, 3) := by decide +kernel
theorem dX0_squareRoot_6 : decode cX0_squareRoot 6 = .ok (.ldc2_w 117, 3) := by decide +kernel
theorem dX0_squareRoot_9 : decode cX0_squareRoot 9 = .ok (.lload_n 0, 1) := by decide +kernel
theorem dX0_squareRoot_10 : decode cX0_squareRoot 10 = .ok (.ldc2_w 119, 3) := by decide +kernel
theorem dX0_squareRoot_13 : decode cX0_squareRoot 13 = .ok (.land, 1) := by decide +kernel
theorem dX0_squareRoot_14 : decode cX0_squareRoot 14 = .ok (.l2i, 1) := by decide +kernel
theorem dX0_squareRoot_15 : decode cX0_squareRoot 15 = .ok (.lushr, 1) := by decide +kernel
theorem dX0_squareRoot_16 : decode cX0_squareRoot 16 = .ok (.lconst 1, 1) := by decide +kernel
theorem dX0_squareRoot_17 : decode cX0_squareRoot 17 = .ok (.land, 1) := by decide +kernel
theorem dX0_squareRoot_18 : decode cX0_squareRoot 18 = .ok (.lconst 0, 1) := by decide +kernel
theorem dX0_squareRoot_19 : decode cX0_squareRoot 19 = .ok (.lcmp, 1) := by decide +kernel
theorem dX0_squareRoot_20 : decode cX0_squareRoot 20 = .ok (.ifCond .ne 7, 3) := by decide +kernel
theorem dX0_squareRoot_23 : decode cX0_squareRoot 23 = .ok (.ldc2_w 111, 3) := by decide +kernel
theorem dX0_squareRoot_26 : decode cX0_squareRoot 26 = .ok (.lreturn, 1) := by decide +kernel
theorem dX0_squareRoot_27 : decode cX0_squareRoot 27 = .ok (.lconst 0, 1) := by decide +kernel
theorem dX0_squareRoot_28 : decode cX0_squareRoot 28 = .ok (.lstore_n 2, 1) := by decide +kernel
theorem dX0_squareRoot_29 : decode cX0_squareRoot 29 = .ok (.ldc2_w 121, 3) := by decide +kernel
theorem dX0_squareRoot_32 : decode cX0_squareRoot 32 = .ok (.lstore 4, 2) := by decide +kernel
theorem dX0_squareRoot_34 : decode cX0_squareRoot 34 = .ok (.lload 4, 2) := by decide +kernel
theorem dX0_squareRoot_36 : decode cX0_squareRoot 36 = .ok (.lconst 0, 1) := by decide +kernel
theorem dX0_squareRoot_37 : decode cX0_squareRoot 37 = .ok (.lcmp, 1) := by decide +kernel
theorem dX0_squareRoot_38 : decode cX0_squareRoot 38 = .ok (.ifCond .le 31, 3) := by decide +kernel
theorem dX0_squareRoot_41 : decode cX0_squareRoot 41 = .ok (.lload_n 2, 1) := by decide +kernel
theorem dX0_squareRoot_42 : decode cX0_squareRoot 42 = .ok (.lload 4, 2) := by decide +kernel
theorem dX0_squareRoot_44 : decode cX0_squareRoot 44 = .ok (.ladd, 1) := by decide +kernel
theorem dX0_squareRoot_45 : decode cX0_squareRoot 45 = .ok (.lstore 6, 2) := by decide +kernel
theorem dX0_squareRoot_47 : decode cX0_squareRoot 47 = .ok (.lload 6, 2) := by decide +kernel
theorem dX0_squareRoot_49 : decode cX0_squareRoot 49 = .ok (.lload 6, 2) := by decide +kernel
theorem dX0_squareRoot_51 : decode cX0_squareRoot 51 = .ok (.lmul, 1) := by decide +kernel
theorem dX0_squareRoot_52 : decode cX0_squareRoot 52 = .ok (.lload_n 0, 1) := by decide +kernel
theorem dX0_squareRoot_53 : decode cX0_squareRoot 53 = .ok (.lcmp, 1) := by decide +kernel
theorem dX0_squareRoot_54 : decode cX0_squareRoot 54 = .ok (.ifCond .gt 6, 3) := by decide +kernel
theorem dX0_squareRoot_57 : decode cX0_squareRoot 57 = .ok (.lload 6, 2) := by decide +kernel
theorem dX0_squareRoot_59 : decode cX0_squareRoot 59 = .ok (.lstore_n 2, 1) := by decide +kernel
theorem dX0_squareRoot_60 : decode cX0_squareRoot 60 = .ok (.lload 4, 2) := by decide +kernel
theorem dX0_squareRoot_62 : decode cX0_squareRoot 62 = .ok (.iconst 1, 1) := by decide +kernel
theorem dX0_squareRoot_63 : decode cX0_squareRoot 63 = .ok (.lshr, 1) := by decide +kernel
theorem dX0_squareRoot_64 : decode cX0_squareRoot 64 = .ok (.lstore 4, 2) := by decide +kernel
theorem dX0_squareRoot_66 : decode cX0_squareRoot 66 = .ok (.goto (-32), 3) := by decide +kernel
theorem dX0_squareRoot_69 : decode cX0_squareRoot 69 = .ok (.lload_n 2, 1) := by decide +kernel
theorem dX0_squareRoot_70 : decode cX0_squareRoot 70 = .ok (.lload_n 2, 1) := by decide +kernel
theorem dX0_squareRoot_71 : decode cX0_squareRoot 71 = .ok (.lmul, 1) := by decide +kernel
theorem dX0_squareRoot_72 : decode cX0_squareRoot 72 = .ok (.lload_n 0, 1) := by decide +kernel
theorem dX0_squareRoot_73 : decode cX0_squareRoot 73 = .ok (.lcmp, 1) := by decide +kernel
theorem dX0_squareRoot_74 : decode cX0_squareRoot 74 = .ok (.ifCond .ne 7, 3) := by decide +kernel
theorem dX0_squareRoot_77 : decode cX0_squareRoot 77 = .ok (.lload_n 2, 1) := by decide +kernel
theorem dX0_squareRoot_78 : decode cX0_squareRoot 78 = .ok (.goto 6, 3) := by decide +kernel
theorem dX0_squareRoot_81 : decode cX0_squareRoot 81 = .ok (.ldc2_w 111, 3) := by decide +kernel
theorem dX0_squareRoot_84 : decode cX0_squareRoot 84 = .ok (.lreturn, 1) := by decide +kernel
theorem dX1_init_0 : decode cX1_init 0 = .ok (.aload_n 0, 1) := by decide +kernel
theorem dX1_init_1 : decode cX1_init 1 = .ok (.invokespecial 3, 3) := by decide +kernel
theorem dX1_init_4 : decode cX1_init 4 = .ok (.aload_n 0, 1) := by decide +kernel
theorem dX1_init_5 : decode cX1_init 5 = .ok (.iconst 5, 1) := by decide +kernel
theorem dX1_init_6 : decode cX1_init 6 = .ok (.anewarray 9, 3) := by decide +kernel
theorem dX1_init_9 : decode cX1_init 9 = .ok (.putfield 11, 3) := by decide +kernel
theorem dX1_init_12 : decode cX1_init 12 = .ok (.aload_n 0, 1) := by decide +kernel
theorem dX1_init_13 : decode cX1_init 13 = .ok (.iconst 5, 1) := by decide +kernel
theorem dX1_init_14 : decode cX1_init 14 = .ok (.newarray .int, 2) := by decide +kernel
theorem dX1_init_16 : decode cX1_init 16 = .ok (.putfield 17, 3) := by decide +kernel
theorem dX1_init_19 : decode cX1_init 19 = .ok (.iconst 0, 1) := by decide +kernel
theorem dX1_init_20 : decode cX1_init 20 = .ok (.istore_n 1, 1) := by decide +kernel
theorem dX1_init_21 : decode cX1_init 21 = .ok (.iload_n 1, 1) := by decide +kernel
theorem dX1_init_22 : decode cX1_init 22 = .ok (.aload_n 0, 1) := by decide +kernel
theorem dX1_init_23 : decode cX1_init 23 = .ok (.getfield 11, 3) := by decide +kernel
theorem dX1_init_26 : decode cX1_init 26 = .ok (.arraylength, 1) := by decide +kernel
theorem dX1_init_27 : decode cX1_init 27 = .ok (.if_icmp .ge 22, 3) := by decide +kernel
theorem dX1_init_30 : decode cX1_init 30 = .ok (.aload_n 0, 1) := by decide +kernel
theorem dX1_init_31 : decode cX1_init 31 = .ok (.getfield 11, 3) := by decide +kernel
theorem dX1_init_34 : decode cX1_init 34 = .ok (.iload_n 1, 1) := by decide +kernel
theorem dX1_init_35 : decode cX1_init 35 = .ok (.new 9, 3) := by decide +kernel
theorem dX1_init_38 : decode cX1_init 38 = .ok (.dup, 1) := by decide +kernel
theorem dX1_init_39 : decode cX1_init 39 = .ok (.invokespecial 21, 3) := by decide +kernel
theorem dX1_init_42 : decode cX1_init 42 = .ok (.aastore, 1) := by decide +kernel
theorem dX1_init_43 : decode cX1_init 43 = .ok (.iinc 1 1, 3) := by decide +kernel
theorem dX1_init_46 : decode cX1_init 46 = .ok (.goto (-25), 3) := by decide +kernel
theorem dX1_init_49 : decode cX1_init 49 = .ok (.return_, 1) := by decide +kernel
theorem dX1_copyFrom_0 : decode cX1_copyFrom 0 = .ok (.aload_n 0, 1) := by decide +kernel
theorem dX1_copyFrom_1 : decode cX1_copyFrom 1 = .ok (.aload_n 1, 1) := by decide +kernel
theorem dX1_copyFrom_2 : decode cX1_copyFrom 2 = .ok (.getfield 22, 3) := by decide +kernel
theorem dX1_copyFrom_5 : decode cX1_copyFrom 5 = .ok (.putfield 22, 3) := by decide +kernel
theorem dX1_copyFrom_8 : decode cX1_copyFrom 8 = .ok (.iconst 0, 1) := by decide +kernel
theorem dX1_copyFrom_9 : decode cX1_copyFrom 9 = .ok (.istore_n 2, 1) := by decide +kernel
theorem dX1_copyFrom_10 : decode cX1_copyFrom 10 = .ok (.iload_n 2, 1) := by decide +kernel
theorem dX1_copyFrom_11 : decode cX1_copyFrom 11 = .ok (.iconst 5, 1) := by decide +kernel
theorem dX1_copyFrom_12 : decode cX1_copyFrom 12 = .ok (.if_icmp .ge 36, 3) := by decide +kernel
theorem dX1_copyFrom_15 : decode cX1_copyFrom 15 = .ok (.aload_n 0, 1) := by decide +kernel
theorem dX1_copyFrom_16 : decode cX1_copyFrom 16 = .ok (.getfield 11, 3) := by decide +kernel
theorem dX1_copyFrom_19 : decode cX1_copyFrom 19 = .ok (.iload_n 2, 1) := by decide +kernel
theorem dX1_copyFrom_20 : decode cX1_copyFrom 20 = .ok (.aaload, 1) := by decide +kernel
theorem dX1_copyFrom_21 : decode cX1_copyFrom 21 = .ok (.aload_n 1, 1) := by decide +kernel
theorem dX1_copyFrom_22 : decode cX1_copyFrom 22 = .ok (.getfield 11, 3) := by decide +kernel
theorem dX1_copyFrom_25 : decode cX1_copyFrom 25 = .ok (.iload_n 2, 1) := by decide +kernel
theorem dX1_copyFrom_26 : decode cX1_copyFrom 26 = .ok (.aaload, 1) := by decide +kernel
theorem dX1_copyFrom_27 : decode cX1_copyFrom 27 = .ok (.invokevirtual 26, 3) := by decide +kernel
theorem dX1_copyFrom_30 : decode cX1_copyFrom 30 = .ok (.aload_n 0, 1) := by decide +kernel
theorem dX1_copyFrom_31 : decode cX1_copyFrom 31 = .ok (.getfield 17, 3) := by decide +kernel
theorem dX1_copyFrom_34 : decode cX1_copyFrom 34 = .ok (.iload_n 2, 1) := by decide +kernel
theorem dX1_copyFrom_35 : decode cX1_copyFrom 35 = .ok (.aload_n 1, 1) := by decide +kernel
theorem dX1_copyFrom_36 : decode cX1_copyFrom 36 = .ok (.getfield 17, 3) := by decide +kernel
theorem dX1_copyFrom_39 : decode cX1_copyFrom 39 = .ok (.iload_n 2, 1) := by decide +kernel
theorem dX1_copyFrom_40 : decode cX1_copyFrom 40 = .ok (.iaload, 1) := by decide +kernel
theorem dX1_copyFrom_41 : decode cX1_copyFrom 41 = .ok (.iastore, 1) := by decide +kernel
theorem dX1_copyFrom_42 : decode cX1_copyFrom 42 = .ok (.iinc 2 1, 3) := by decide +kernel
theorem dX1_copyFrom_45 : decode cX1_copyFrom 45 = .ok (.goto (-35), 3) := by decide +kernel
theorem dX1_copyFrom_48 : decode cX1_copyFrom 48 = .ok (.return_, 1) := by decide +kernel
theorem dX1_insert_0 : decode cX1_insert 0 = .ok (.aload_n 0, 1) := by decide +kernel
theorem dX1_insert_1 : decode cX1_insert 1 = .ok (.getfield 22, 3) := by decide +kernel
theorem dX1_insert_4 : decode cX1_insert 4 = .ok (.ifCond .lt 11, 3) := by decide +kernel
theorem dX1_insert_7 : decode cX1_insert 7 = .ok (.aload_n 0, 1) := by decide +kernel
theorem dX1_insert_8 : decode cX1_insert 8 = .ok (.getfield 22, 3) := by decide +kernel
theorem dX1_insert_11 : decode cX1_insert 11 = .ok (.iconst 5, 1) := by decide +kernel
theorem dX1_insert_12 : decode cX1_insert 12 = .ok (.if_icmp .lt 4, 3) := by decide +kernel
theorem dX1_insert_15 : decode cX1_insert 15 = .ok (.return_, 1) := by decide +kernel
theorem dX1_insert_16 : decode cX1_insert 16 = .ok (.aload_n 0, 1) := by decide +kernel
theorem dX1_insert_17 : decode cX1_insert 17 = .ok (.getfield 22, 3) := by decide +kernel
theorem dX1_insert_20 : decode cX1_insert 20 = .ok (.istore_n 3, 1) := by decide +kernel
theorem dX1_insert_21 : decode cX1_insert 21 = .ok (.iload_n 3, 1) := by decide +kernel
theorem dX1_insert_22 : decode cX1_insert 22 = .ok (.ifCond .le 55, 3) := by decide +kernel
theorem dX1_insert_25 : decode cX1_insert 25 = .ok (.aload_n 1, 1) := by decide +kernel
theorem dX1_insert_26 : decode cX1_insert 26 = .ok (.aload_n 0, 1) := by decide +kernel
theorem dX1_insert_27 : decode cX1_insert 27 = .ok (.getfield 11, 3) := by decide +kernel
theorem dX1_insert_30 : decode cX1_insert 30 = .ok (.iload_n 3, 1) := by decide +kernel
theorem dX1_insert_31 : decode cX1_insert 31 = .ok (.iconst 1, 1) := by decide +kernel
theorem dX1_insert_32 : decode cX1_insert 32 = .ok (.isub, 1) := by decide +kernel
theorem dX1_insert_33 : decode cX1_insert 33 = .ok (.aaload, 1) := by decide +kernel
theorem dX1_insert_34 : decode cX1_insert 34 = .ok (.invokevirtual 30, 3) := by decide +kernel
theorem dX1_insert_37 : decode cX1_insert 37 = .ok (.ifCond .ge 40, 3) := by decide +kernel
theorem dX1_insert_40 : decode cX1_insert 40 = .ok (.aload_n 0, 1) := by decide +kernel
theorem dX1_insert_41 : decode cX1_insert 41 = .ok (.getfield 11, 3) := by decide +kernel
theorem dX1_insert_44 : decode cX1_insert 44 = .ok (.iload_n 3, 1) := by decide +kernel
theorem dX1_insert_45 : decode cX1_insert 45 = .ok (.aaload, 1) := by decide +kernel
theorem dX1_insert_46 : decode cX1_insert 46 = .ok (.aload_n 0, 1) := by decide +kernel
theorem dX1_insert_47 : decode cX1_insert 47 = .ok (.getfield 11, 3) := by decide +kernel
theorem dX1_insert_50 : decode cX1_insert 50 = .ok (.iload_n 3, 1) := by decide +kernel
theorem dX1_insert_51 : decode cX1_insert 51 = .ok (.iconst 1, 1) := by decide +kernel
theorem dX1_insert_52 : decode cX1_insert 52 = .ok (.isub, 1) := by decide +kernel
theorem dX1_insert_53 : decode cX1_insert 53 = .ok (.aaload, 1) := by decide +kernel
theorem dX1_insert_54 : decode cX1_insert 54 = .ok (.invokevirtual 26, 3) := by decide +kernel
theorem dX1_insert_57 : decode cX1_insert 57 = .ok (.aload_n 0, 1) := by decide +kernel
theorem dX1_insert_58 : decode cX1_insert 58 = .ok (.getfield 17, 3) := by decide +kernel
theorem dX1_insert_61 : decode cX1_insert 61 = .ok (.iload_n 3, 1) := by decide +kernel
theorem dX1_insert_62 : decode cX1_insert 62 = .ok (.aload_n 0, 1) := by decide +kernel
theorem dX1_insert_63 : decode cX1_insert 63 = .ok (.getfield 17, 3) := by decide +kernel
theorem dX1_insert_66 : decode cX1_insert 66 = .ok (.iload_n 3, 1) := by decide +kernel
theorem dX1_insert_67 : decode cX1_insert 67 = .ok (.iconst 1, 1) := by decide +kernel
theorem dX1_insert_68 : decode cX1_insert 68 = .ok (.isub, 1) := by decide +kernel
theorem dX1_insert_69 : decode cX1_insert 69 = .ok (.iaload, 1) := by decide +kernel
theorem dX1_insert_70 : decode cX1_insert 70 = .ok (.iastore, 1) := by decide +kernel
theorem dX1_insert_71 : decode cX1_insert 71 = .ok (.iinc 3 (-1), 3) := by decide +kernel
theorem dX1_insert_74 : decode cX1_insert 74 = .ok (.goto (-53), 3) := by decide +kernel
theorem dX1_insert_77 : decode cX1_insert 77 = .ok (.aload_n 0, 1) := by decide +kernel
theorem dX1_insert_78 : decode cX1_insert 78 = .ok (.getfield 11, 3) := by decide +kernel
theorem dX1_insert_81 : decode cX1_insert 81 = .ok (.iload_n 3, 1) := by decide +kernel
theorem dX1_insert_82 : decode cX1_insert 82 = .ok (.aaload, 1) := by decide +kernel
theorem dX1_insert_83 : decode cX1_insert 83 = .ok (.aload_n 1, 1) := by decide +kernel
theorem dX1_insert_84 : decode cX1_insert 84 = .ok (.invokevirtual 26, 3) := by decide +kernel
theorem dX1_insert_87 : decode cX1_insert 87 = .ok (.aload_n 0, 1) := by decide +kernel
theorem dX1_insert_88 : decode cX1_insert 88 = .ok (.getfield 17, 3) := by decide +kernel
theorem dX1_insert_91 : decode cX1_insert 91 = .ok (.iload_n 3, 1) := by decide +kernel
theorem dX1_insert_92 : decode cX1_insert 92 = .ok (.iload_n 2, 1) := by decide +kernel
theorem dX1_insert_93 : decode cX1_insert 93 = .ok (.iastore, 1) := by decide +kernel
theorem dX1_insert_94 : decode cX1_insert 94 = .ok (.aload_n 0, 1) := by decide +kernel
theorem dX1_insert_95 : decode cX1_insert 95 = .ok (.dup, 1) := by decide +kernel
theorem dX1_insert_96 : decode cX1_insert 96 = .ok (.getfield 22, 3) := by decide +kernel
theorem dX1_insert_99 : decode cX1_insert 99 = .ok (.iconst 1, 1) := by decide +kernel
theorem dX1_insert_100 : decode cX1_insert 100 = .ok (.iadd, 1) := by decide +kernel
theorem dX1_insert_101 : decode cX1_insert 101 = .ok (.putfield 22, 3) := by decide +kernel
theorem dX1_insert_104 : decode cX1_insert 104 = .ok (.return_, 1) := by decide +kernel
theorem dX1_baseAt_0 : decode cX1_baseAt 0 = .ok (.iload_n 1, 1) := by decide +kernel
theorem dX1_baseAt_1 : decode cX1_baseAt 1 = .ok (.ifCond .lt 29, 3) := by decide +kernel
theorem dX1_baseAt_4 : decode cX1_baseAt 4 = .ok (.iload_n 1, 1) := by decide +kernel
theorem dX1_baseAt_5 : decode cX1_baseAt 5 = .ok (.aload_n 0, 1) := by decide +kernel
theorem dX1_baseAt_6 : decode cX1_baseAt 6 = .ok (.getfield 22, 3) := by decide +kernel
theorem dX1_baseAt_9 : decode cX1_baseAt 9 = .ok (.if_icmp .ge 21, 3) := by decide +kernel
theorem dX1_baseAt_12 : decode cX1_baseAt 12 = .ok (.iload_n 1, 1) := by decide +kernel
theorem dX1_baseAt_13 : decode cX1_baseAt 13 = .ok (.aload_n 0, 1) := by decide +kernel
theorem dX1_baseAt_14 : decode cX1_baseAt 14 = .ok (.getfield 11, 3) := by decide +kernel
theorem dX1_baseAt_17 : decode cX1_baseAt 17 = .ok (.arraylength, 1) := by decide +kernel
theorem dX1_baseAt_18 : decode cX1_baseAt 18 = .ok (.if_icmp .ge 12, 3) := by decide +kernel
theorem dX1_baseAt_21 : decode cX1_baseAt 21 = .ok (.aload_n 0, 1) := by decide +kernel
theorem dX1_baseAt_22 : decode cX1_baseAt 22 = .ok (.getfield 11, 3) := by decide +kernel
theorem dX1_baseAt_25 : decode cX1_baseAt 25 = .ok (.iload_n 1, 1) := by decide +kernel
theorem dX1_baseAt_26 : decode cX1_baseAt 26 = .ok (.aaload, 1) := by decide +kernel
theorem dX1_baseAt_27 : decode cX1_baseAt 27 = .ok (.goto 4, 3) := by decide +kernel
theorem dX1_baseAt_30 : decode cX1_baseAt 30 = .ok (.aconst_null, 1) := by decide +kernel
theorem dX1_baseAt_31 : decode cX1_baseAt 31 = .ok (.areturn, 1) := by decide +kernel
theorem dX1_multiplicityAt_0 : decode cX1_multiplicityAt 0 = .ok (.iload_n 1, 1) := by decide +kernel
theorem dX1_multiplicityAt_1 : decode cX1_multiplicityAt 1 = .ok (.ifCond .lt 29, 3) := by decide +kernel
theorem dX1_multiplicityAt_4 : decode cX1_multiplicityAt 4 = .ok (.iload_n 1, 1) := by decide +kernel
theorem dX1_multiplicityAt_5 : decode cX1_multiplicityAt 5 = .ok (.aload_n 0, 1) := by decide +kernel
theorem dX1_multiplicityAt_6 : decode cX1_multiplicityAt 6 = .ok (.getfield 22, 3) := by decide +kernel
theorem dX1_multiplicityAt_9 : decode cX1_multiplicityAt 9 = .ok (.if_icmp .ge 21, 3) := by decide +kernel
theorem dX1_multiplicityAt_12 : decode cX1_multiplicityAt 12 = .ok (.iload_n 1, 1) := by decide +kernel
theorem dX1_multiplicityAt_13 : decode cX1_multiplicityAt 13 = .ok (.aload_n 0, 1) := by decide +kernel
theorem dX1_multiplicityAt_14 : decode cX1_multiplicityAt 14 = .ok (.getfield 17, 3) := by decide +kernel
theorem dX1_multiplicityAt_17 : decode cX1_multiplicityAt 17 = .ok (.arraylength, 1) := by decide +kernel
theorem dX1_multiplicityAt_18 : decode cX1_multiplicityAt 18 = .ok (.if_icmp .ge 12, 3) := by decide +kernel
theorem dX1_multiplicityAt_21 : decode cX1_multiplicityAt 21 = .ok (.aload_n 0, 1) := by decide +kernel
theorem dX1_multiplicityAt_22 : decode cX1_multiplicityAt 22 = .ok (.getfield 17, 3) := by decide +kernel
theorem dX1_multiplicityAt_25 : decode cX1_multiplicityAt 25 = .ok (.iload_n 1, 1) := by decide +kernel
theorem dX1_multiplicityAt_26 : decode cX1_multiplicityAt 26 = .ok (.iaload, 1) := by decide +kernel
theorem dX1_multiplicityAt_27 : decode cX1_multiplicityAt 27 = .ok (.goto 4, 3) := by decide +kernel
theorem dX1_multiplicityAt_30 : decode cX1_multiplicityAt 30 = .ok (.iconst 0, 1) := by decide +kernel
theorem dX1_multiplicityAt_31 : decode cX1_multiplicityAt 31 = .ok (.ireturn, 1) := by decide +kernel
theorem dX1_multiplicitySum_0 : decode cX1_multiplicitySum 0 = .ok (.iconst 0, 1) := by decide +kernel
theorem dX1_multiplicitySum_1 : decode cX1_multiplicitySum 1 = .ok (.istore_n 1, 1) := by decide +kernel
theorem dX1_multiplicitySum_2 : decode cX1_multiplicitySum 2 = .ok (.iconst 0, 1) := by decide +kernel
theorem dX1_multiplicitySum_3 : decode cX1_multiplicitySum 3 = .ok (.istore_n 2, 1) := by decide +kernel
theorem dX1_multiplicitySum_4 : decode cX1_multiplicitySum 4 = .ok (.iload_n 2, 1) := by decide +kernel
theorem dX1_multiplicitySum_5 : decode cX1_multiplicitySum 5 = .ok (.aload_n 0, 1) := by decide +kernel
theorem dX1_multiplicitySum_6 : decode cX1_multiplicitySum 6 = .ok (.getfield 22, 3) := by decide +kernel
theorem dX1_multiplicitySum_9 : decode cX1_multiplicitySum 9 = .ok (.if_icmp .ge 17, 3) := by decide +kernel
theorem dX1_multiplicitySum_12 : decode cX1_multiplicitySum 12 = .ok (.iload_n 1, 1) := by decide +kernel
theorem dX1_multiplicitySum_13 : decode cX1_multiplicitySum 13 = .ok (.aload_n 0, 1) := by decide +kernel
theorem dX1_multiplicitySum_14 : decode cX1_multiplicitySum 14 = .ok (.iload_n 2, 1) := by decide +kernel
theorem dX1_multiplicitySum_15 : decode cX1_multiplicitySum 15 = .ok (.invokevirtual 34, 3) := by decide +kernel
theorem dX1_multiplicitySum_18 : decode cX1_multiplicitySum 18 = .ok (.iadd, 1) := by decide +kernel
theorem dX1_multiplicitySum_19 : decode cX1_multiplicitySum 19 = .ok (.istore_n 1, 1) := by decide +kernel
theorem dX1_multiplicitySum_20 : decode cX1_multiplicitySum 20 = .ok (.iinc 2 1, 3) := by decide +kernel
theorem dX1_multiplicitySum_23 : decode cX1_multiplicitySum 23 = .ok (.goto (-19), 3) := by decide +kernel
theorem dX1_multiplicitySum_26 : decode cX1_multiplicitySum 26 = .ok (.iload_n 1, 1) := by decide +kernel
theorem dX1_multiplicitySum_27 : decode cX1_multiplicitySum 27 = .ok (.ireturn, 1) := by decide +kernel
theorem dX1_multiplicityOf_0 : decode cX1_multiplicityOf 0 = .ok (.iconst 0, 1) := by decide +kernel
theorem dX1_multiplicityOf_1 : decode cX1_multiplicityOf 1 = .ok (.istore_n 2, 1) := by decide +kernel
theorem dX1_multiplicityOf_2 : decode cX1_multiplicityOf 2 = .ok (.iload_n 2, 1) := by decide +kernel
theorem dX1_multiplicityOf_3 : decode cX1_multiplicityOf 3 = .ok (.aload_n 0, 1) := by decide +kernel
theorem dX1_multiplicityOf_4 : decode cX1_multiplicityOf 4 = .ok (.getfield 22, 3) := by decide +kernel
theorem dX1_multiplicityOf_7 : decode cX1_multiplicityOf 7 = .ok (.if_icmp .ge 34, 3) := by decide +kernel
theorem dX1_multiplicityOf_10 : decode cX1_multiplicityOf 10 = .ok (.iload_n 2, 1) := by decide +kernel
theorem dX1_multiplicityOf_11 : decode cX1_multiplicityOf 11 = .ok (.iconst 5, 1) := by decide +kernel
theorem dX1_multiplicityOf_12 : decode cX1_multiplicityOf 12 = .ok (.if_icmp .ge 29, 3) := by decide +kernel
theorem dX1_multiplicityOf_15 : decode cX1_multiplicityOf 15 = .ok (.aload_n 0, 1) := by decide +kernel
theorem dX1_multiplicityOf_16 : decode cX1_multiplicityOf 16 = .ok (.getfield 11, 3) := by decide +kernel
theorem dX1_multiplicityOf_19 : decode cX1_multiplicityOf 19 = .ok (.iload_n 2, 1) := by decide +kernel
theorem dX1_multiplicityOf_20 : decode cX1_multiplicityOf 20 = .ok (.aaload, 1) := by decide +kernel
theorem dX1_multiplicityOf_21 : decode cX1_multiplicityOf 21 = .ok (.aload_n 1, 1) := by decide +kernel
theorem dX1_multiplicityOf_22 : decode cX1_multiplicityOf 22 = .ok (.invokevirtual 38, 3) := by decide +kernel
theorem dX1_multiplicityOf_25 : decode cX1_multiplicityOf 25 = .ok (.ifCond .eq 10, 3) := by decide +kernel
theorem dX1_multiplicityOf_28 : decode cX1_multiplicityOf 28 = .ok (.aload_n 0, 1) := by decide +kernel
theorem dX1_multiplicityOf_29 : decode cX1_multiplicityOf 29 = .ok (.getfield 17, 3) := by decide +kernel
theorem dX1_multiplicityOf_32 : decode cX1_multiplicityOf 32 = .ok (.iload_n 2, 1) := by decide +kernel
theorem dX1_multiplicityOf_33 : decode cX1_multiplicityOf 33 = .ok (.iaload, 1) := by decide +kernel
theorem dX1_multiplicityOf_34 : decode cX1_multiplicityOf 34 = .ok (.ireturn, 1) := by decide +kernel
theorem dX1_multiplicityOf_35 : decode cX1_multiplicityOf 35 = .ok (.iinc 2 1, 3) := by decide +kernel
theorem dX1_multiplicityOf_38 : decode cX1_multiplicityOf 38 = .ok (.goto (-36), 3) := by decide +kernel
theorem dX1_multiplicityOf_41 : decode cX1_multiplicityOf 41 = .ok (.iconst 0, 1) := by decide +kernel
theorem dX1_multiplicityOf_42 : decode cX1_multiplicityOf 42 = .ok (.ireturn, 1) := by decide +kernel
theorem dX1_multiplyEachOnce_0 : decode cX1_multiplyEachOnce 0 = .ok (.aload_n 1, 1) := by decide +kernel
theorem dX1_multiplyEachOnce_1 : decode cX1_multiplyEachOnce 1 = .ok (.lconst 1, 1) := by decide +kernel
theorem dX1_multiplyEachOnce_2 : decode cX1_multiplyEachOnce 2 = .ok (.invokevirtual 42, 3) := by decide +kernel
theorem dX1_multiplyEachOnce_5 : decode cX1_multiplyEachOnce 5 = .ok (.iconst 0, 1) := by decide +kernel
theorem dX1_multiplyEachOnce_6 : decode cX1_multiplyEachOnce 6 = .ok (.istore_n 2, 1) := by decide +kernel
theorem dX1_multiplyEachOnce_7 : decode cX1_multiplyEachOnce 7 = .ok (.iload_n 2, 1) := by decide +kernel
theorem dX1_multiplyEachOnce_8 : decode cX1_multiplyEachOnce 8 = .ok (.aload_n 0, 1) := by decide +kernel
theorem dX1_multiplyEachOnce_9 : decode cX1_multiplyEachOnce 9 = .ok (.getfield 22, 3) := by decide +kernel
theorem dX1_multiplyEachOnce_12 : decode cX1_multiplyEachOnce 12 = .ok (.if_icmp .ge 24, 3) := by decide +kernel
theorem dX1_multiplyEachOnce_15 : decode cX1_multiplyEachOnce 15 = .ok (.iload_n 2, 1) := by decide +kernel
theorem dX1_multiplyEachOnce_16 : decode cX1_multiplyEachOnce 16 = .ok (.iconst 5, 1) := by decide +kernel
theorem dX1_multiplyEachOnce_17 : decode cX1_multiplyEachOnce 17 = .ok (.if_icmp .ge 19, 3) := by decide +kernel
theorem dX1_multiplyEachOnce_20 : decode cX1_multiplyEachOnce 20 = .ok (.aload_n 1, 1) := by decide +kernel
theorem dX1_multiplyEachOnce_21 : decode cX1_multiplyEachOnce 21 = .ok (.aload_n 0, 1) := by decide +kernel
theorem dX1_multiplyEachOnce_22 : decode cX1_multiplyEachOnce 22 = .ok (.getfield 11, 3) := by decide +kernel
theorem dX1_multiplyEachOnce_25 : decode cX1_multiplyEachOnce 25 = .ok (.iload_n 2, 1) := by decide +kernel
theorem dX1_multiplyEachOnce_26 : decode cX1_multiplyEachOnce 26 = .ok (.aaload, 1) := by decide +kernel
theorem dX1_multiplyEachOnce_27 : decode cX1_multiplyEachOnce 27 = .ok (.invokevirtual 46, 3) := by decide +kernel
theorem dX1_multiplyEachOnce_30 : decode cX1_multiplyEachOnce 30 = .ok (.iinc 2 1, 3) := by decide +kernel
theorem dX1_multiplyEachOnce_33 : decode cX1_multiplyEachOnce 33 = .ok (.goto (-26), 3) := by decide +kernel
theorem dX1_multiplyEachOnce_36 : decode cX1_multiplyEachOnce 36 = .ok (.return_, 1) := by decide +kernel
theorem dX1_multiplyShared_0 : decode cX1_multiplyShared 0 = .ok (.iconst 0, 1) := by decide +kernel
theorem dX1_multiplyShared_1 : decode cX1_multiplyShared 1 = .ok (.istore_n 3, 1) := by decide +kernel
theorem dX1_multiplyShared_2 : decode cX1_multiplyShared 2 = .ok (.iload_n 3, 1) := by decide +kernel
theorem dX1_multiplyShared_3 : decode cX1_multiplyShared 3 = .ok (.aload_n 0, 1) := by decide +kernel
theorem dX1_multiplyShared_4 : decode cX1_multiplyShared 4 = .ok (.getfield 22, 3) := by decide +kernel
theorem dX1_multiplyShared_7 : decode cX1_multiplyShared 7 = .ok (.if_icmp .ge 61, 3) := by decide +kernel
theorem dX1_multiplyShared_10 : decode cX1_multiplyShared 10 = .ok (.iload_n 3, 1) := by decide +kernel
theorem dX1_multiplyShared_11 : decode cX1_multiplyShared 11 = .ok (.iconst 5, 1) := by decide +kernel
theorem dX1_multiplyShared_12 : decode cX1_multiplyShared 12 = .ok (.if_icmp .ge 56, 3) := by decide +kernel
theorem dX1_multiplyShared_15 : decode cX1_multiplyShared 15 = .ok (.aload_n 0, 1) := by decide +kernel
theorem dX1_multiplyShared_16 : decode cX1_multiplyShared 16 = .ok (.getfield 17, 3) := by decide +kernel
theorem dX1_multiplyShared_19 : decode cX1_multiplyShared 19 = .ok (.iload_n 3, 1) := by decide +kernel
theorem dX1_multiplyShared_20 : decode cX1_multiplyShared 20 = .ok (.iaload, 1) := by decide +kernel
theorem dX1_multiplyShared_21 : decode cX1_multiplyShared 21 = .ok (.aload_n 1, 1) := by decide +kernel
theorem dX1_multiplyShared_22 : decode cX1_multiplyShared 22 = .ok (.aload_n 0, 1) := by decide +kernel
theorem dX1_multiplyShared_23 : decode cX1_multiplyShared 23 = .ok (.getfield 11, 3) := by decide +kernel
theorem dX1_multiplyShared_26 : decode cX1_multiplyShared 26 = .ok (.iload_n 3, 1) := by decide +kernel
theorem dX1_multiplyShared_27 : decode cX1_multiplyShared 27 = .ok (.aaload, 1) := by decide +kernel
theorem dX1_multiplyShared_28 : decode cX1_multiplyShared 28 = .ok (.invokevirtual 49, 3) := by decide +kernel
theorem dX1_multiplyShared_31 : decode cX1_multiplyShared 31 = .ok (.invokestatic 52, 3) := by decide +kernel
theorem dX1_multiplyShared_34 : decode cX1_multiplyShared 34 = .ok (.istore 4, 2) := by decide +kernel
theorem dX1_multiplyShared_36 : decode cX1_multiplyShared 36 = .ok (.iconst 0, 1) := by decide +kernel
theorem dX1_multiplyShared_37 : decode cX1_multiplyShared 37 = .ok (.istore 5, 2) := by decide +kernel
theorem dX1_multiplyShared_39 : decode cX1_multiplyShared 39 = .ok (.iload 5, 2) := by decide +kernel
theorem dX1_multiplyShared_41 : decode cX1_multiplyShared 41 = .ok (.iload 4, 2) := by decide +kernel
theorem dX1_multiplyShared_43 : decode cX1_multiplyShared 43 = .ok (.if_icmp .ge 19, 3) := by decide +kernel
theorem dX1_multiplyShared_46 : decode cX1_multiplyShared 46 = .ok (.aload_n 2, 1) := by decide +kernel
theorem dX1_multiplyShared_47 : decode cX1_multiplyShared 47 = .ok (.aload_n 0, 1) := by decide +kernel
theorem dX1_multiplyShared_48 : decode cX1_multiplyShared 48 = .ok (.getfield 11, 3) := by decide +kernel
theorem dX1_multiplyShared_51 : decode cX1_multiplyShared 51 = .ok (.iload_n 3, 1) := by decide +kernel
theorem dX1_multiplyShared_52 : decode cX1_multiplyShared 52 = .ok (.aaload, 1) := by decide +kernel
theorem dX1_multiplyShared_53 : decode cX1_multiplyShared 53 = .ok (.invokevirtual 46, 3) := by decide +kernel
theorem dX1_multiplyShared_56 : decode cX1_multiplyShared 56 = .ok (.iinc 5 1, 3) := by decide +kernel
theorem dX1_multiplyShared_59 : decode cX1_multiplyShared 59 = .ok (.goto (-20), 3) := by decide +kernel
theorem dX1_multiplyShared_62 : decode cX1_multiplyShared 62 = .ok (.iinc 3 1, 3) := by decide +kernel
theorem dX1_multiplyShared_65 : decode cX1_multiplyShared 65 = .ok (.goto (-63), 3) := by decide +kernel
theorem dX1_multiplyShared_68 : decode cX1_multiplyShared 68 = .ok (.return_, 1) := by decide +kernel
theorem dX2_init_0 : decode cX2_init 0 = .ok (.aload_n 0, 1) := by decide +kernel
theorem dX2_init_1 : decode cX2_init 1 = .ok (.invokespecial 3, 3) := by decide +kernel
theorem dX2_init_4 : decode cX2_init 4 = .ok (.aload_n 0, 1) := by decide +kernel
theorem dX2_init_5 : decode cX2_init 5 = .ok (.bipush 40, 2) := by decide +kernel
theorem dX2_init_7 : decode cX2_init 7 = .ok (.newarray .int, 2) := by decide +kernel
theorem dX2_init_9 : decode cX2_init 9 = .ok (.putfield 9, 3) := by decide +kernel
theorem dX2_init_12 : decode cX2_init 12 = .ok (.return_, 1) := by decide +kernel
theorem dX2_append_0 : decode cX2_append 0 = .ok (.aload_n 0, 1) := by decide +kernel
theorem dX2_append_1 : decode cX2_append 1 = .ok (.getfield 15, 3) := by decide +kernel
theorem dX2_append_4 : decode cX2_append 4 = .ok (.ifCond .lt 15, 3) := by decide +kernel
theorem dX2_append_7 : decode cX2_append 7 = .ok (.aload_n 0, 1) := by decide +kernel
theorem dX2_append_8 : decode cX2_append 8 = .ok (.getfield 15, 3) := by decide +kernel
theorem dX2_append_11 : decode cX2_append 11 = .ok (.aload_n 0, 1) := by decide +kernel
theorem dX2_append_12 : decode cX2_append 12 = .ok (.getfield 9, 3) := by decide +kernel
theorem dX2_append_15 : decode cX2_append 15 = .ok (.arraylength, 1) := by decide +kernel
theorem dX2_append_16 : decode cX2_append 16 = .ok (.if_icmp .lt 5, 3) := by decide +kernel
theorem dX2_append_19 : decode cX2_append 19 = .ok (.iconst 0, 1) := by decide +kernel
theorem dX2_append_20 : decode cX2_append 20 = .ok (.ireturn, 1) := by decide +kernel
theorem dX2_append_21 : decode cX2_append 21 = .ok (.aload_n 0, 1) := by decide +kernel
theorem dX2_append_22 : decode cX2_append 22 = .ok (.getfield 9, 3) := by decide +kernel
theorem dX2_append_25 : decode cX2_append 25 = .ok (.aload_n 0, 1) := by decide +kernel
theorem dX2_append_26 : decode cX2_append 26 = .ok (.getfield 15, 3) := by decide +kernel
theorem dX2_append_29 : decode cX2_append 29 = .ok (.iload_n 1, 1) := by decide +kernel
theorem dX2_append_30 : decode cX2_append 30 = .ok (.iastore, 1) := by decide +kernel
theorem dX2_append_31 : decode cX2_append 31 = .ok (.aload_n 0, 1) := by decide +kernel
theorem dX2_append_32 : decode cX2_append 32 = .ok (.dup, 1) := by decide +kernel
theorem dX2_append_33 : decode cX2_append 33 = .ok (.getfield 15, 3) := by decide +kernel
theorem dX2_append_36 : decode cX2_append 36 = .ok (.iconst 1, 1) := by decide +kernel
theorem dX2_append_37 : decode cX2_append 37 = .ok (.iadd, 1) := by decide +kernel
theorem dX2_append_38 : decode cX2_append 38 = .ok (.putfield 15, 3) := by decide +kernel
theorem dX2_append_41 : decode cX2_append 41 = .ok (.iconst 1, 1) := by decide +kernel
theorem dX2_append_42 : decode cX2_append 42 = .ok (.ireturn, 1) := by decide +kernel
theorem dX2_codeAt_0 : decode cX2_codeAt 0 = .ok (.iload_n 1, 1) := by decide +kernel
theorem dX2_codeAt_1 : decode cX2_codeAt 1 = .ok (.ifCond .lt 29, 3) := by decide +kernel
theorem dX2_codeAt_4 : decode cX2_codeAt 4 = .ok (.iload_n 1, 1) := by decide +kernel
theorem dX2_codeAt_5 : decode cX2_codeAt 5 = .ok (.aload_n 0, 1) := by decide +kernel
theorem dX2_codeAt_6 : decode cX2_codeAt 6 = .ok (.getfield 15, 3) := by decide +kernel
theorem dX2_codeAt_9 : decode cX2_codeAt 9 = .ok (.if_icmp .ge 21, 3) := by decide +kernel
theorem dX2_codeAt_12 : decode cX2_codeAt 12 = .ok (.iload_n 1, 1) := by decide +kernel
theorem dX2_codeAt_13 : decode cX2_codeAt 13 = .ok (.aload_n 0, 1) := by decide +kernel
theorem dX2_codeAt_14 : decode cX2_codeAt 14 = .ok (.getfield 9, 3) := by decide +kernel
theorem dX2_codeAt_17 : decode cX2_codeAt 17 = .ok (.arraylength, 1) := by decide +kernel
theorem dX2_codeAt_18 : decode cX2_codeAt 18 = .ok (.if_icmp .ge 12, 3) := by decide +kernel
theorem dX2_codeAt_21 : decode cX2_codeAt 21 = .ok (.aload_n 0, 1) := by decide +kernel
theorem dX2_codeAt_22 : decode cX2_codeAt 22 = .ok (.getfield 9, 3) := by decide +kernel
theorem dX2_codeAt_25 : decode cX2_codeAt 25 = .ok (.iload_n 1, 1) := by decide +kernel
theorem dX2_codeAt_26 : decode cX2_codeAt 26 = .ok (.iaload, 1) := by decide +kernel
theorem dX2_codeAt_27 : decode cX2_codeAt 27 = .ok (.goto 4, 3) := by decide +kernel
theorem dX2_codeAt_30 : decode cX2_codeAt 30 = .ok (.iconst (-1), 1) := by decide +kernel
theorem dX2_codeAt_31 : decode cX2_codeAt 31 = .ok (.ireturn, 1) := by decide +kernel
theorem dX3_init_0 : decode cX3_init 0 = .ok (.aload_n 0, 1) := by decide +kernel
theorem dX3_init_1 : decode cX3_init 1 = .ok (.invokespecial 3, 3) := by decide +kernel
theorem dX3_init_4 : decode cX3_init 4 = .ok (.aload_n 0, 1) := by decide +kernel
theorem dX3_init_5 : decode cX3_init 5 = .ok (.bipush 6, 2) := by decide +kernel
theorem dX3_init_7 : decode cX3_init 7 = .ok (.newarray .int, 2) := by decide +kernel
theorem dX3_init_9 : decode cX3_init 9 = .ok (.putfield 9, 3) := by decide +kernel
theorem dX3_init_12 : decode cX3_init 12 = .ok (.aload_n 0, 1) := by decide +kernel
theorem dX3_init_13 : decode cX3_init 13 = .ok (.bipush 6, 2) := by decide +kernel
theorem dX3_init_15 : decode cX3_init 15 = .ok (.newarray .int, 2) := by decide +kernel
theorem dX3_init_17 : decode cX3_init 17 = .ok (.putfield 15, 3) := by decide +kernel
theorem dX3_init_20 : decode cX3_init 20 = .ok (.return_, 1) := by decide +kernel
theorem dX3_append_0 : decode cX3_append 0 = .ok (.aload_n 0, 1) := by decide +kernel
theorem dX3_append_1 : decode cX3_append 1 = .ok (.getfield 18, 3) := by decide +kernel
theorem dX3_append_4 : decode cX3_append 4 = .ok (.ifCond .lt 24, 3) := by decide +kernel
theorem dX3_append_7 : decode cX3_append 7 = .ok (.aload_n 0, 1) := by decide +kernel
theorem dX3_append_8 : decode cX3_append 8 = .ok (.getfield 18, 3) := by decide +kernel
theorem dX3_append_11 : decode cX3_append 11 = .ok (.bipush 6, 2) := by decide +kernel
theorem dX3_append_13 : decode cX3_append 13 = .ok (.if_icmp .ge 15, 3) := by decide +kernel
theorem dX3_append_16 : decode cX3_append 16 = .ok (.iload_n 2, 1) := by decide +kernel
theorem dX3_append_17 : decode cX3_append 17 = .ok (.ifCond .lt 11, 3) := by decide +kernel
theorem dX3_append_20 : decode cX3_append 20 = .ok (.iload_n 2, 1) := by decide +kernel
theorem dX3_append_21 : decode cX3_append 21 = .ok (.getstatic 22, 3) := by decide +kernel
theorem dX3_append_24 : decode cX3_append 24 = .ok (.arraylength, 1) := by decide +kernel
theorem dX3_append_25 : decode cX3_append 25 = .ok (.if_icmp .lt 5, 3) := by decide +kernel
theorem dX3_append_28 : decode cX3_append 28 = .ok (.iconst 0, 1) := by decide +kernel
theorem dX3_append_29 : decode cX3_append 29 = .ok (.ireturn, 1) := by decide +kernel
theorem dX3_append_30 : decode cX3_append 30 = .ok (.aload_n 0, 1) := by decide +kernel
theorem dX3_append_31 : decode cX3_append 31 = .ok (.getfield 9, 3) := by decide +kernel
theorem dX3_append_34 : decode cX3_append 34 = .ok (.aload_n 0, 1) := by decide +kernel
theorem dX3_append_35 : decode cX3_append 35 = .ok (.getfield 18, 3) := by decide +kernel
theorem dX3_append_38 : decode cX3_append 38 = .ok (.iload_n 1, 1) := by decide +kernel
theorem dX3_append_39 : decode cX3_append 39 = .ok (.iastore, 1) := by decide +kernel
theorem dX3_append_40 : decode cX3_append 40 = .ok (.aload_n 0, 1) := by decide +kernel
theorem dX3_append_41 : decode cX3_append 41 = .ok (.getfield 15, 3) := by decide +kernel
theorem dX3_append_44 : decode cX3_append 44 = .ok (.aload_n 0, 1) := by decide +kernel
theorem dX3_append_45 : decode cX3_append 45 = .ok (.getfield 18, 3) := by decide +kernel
theorem dX3_append_48 : decode cX3_append 48 = .ok (.iload_n 3, 1) := by decide +kernel
theorem dX3_append_49 : decode cX3_append 49 = .ok (.ifCond .eq 11, 3) := by decide +kernel
theorem dX3_append_52 : decode cX3_append 52 = .ok (.getstatic 22, 3) := by decide +kernel
theorem dX3_append_55 : decode cX3_append 55 = .ok (.iload_n 2, 1) := by decide +kernel
theorem dX3_append_56 : decode cX3_append 56 = .ok (.iaload, 1) := by decide +kernel
theorem dX3_append_57 : decode cX3_append 57 = .ok (.goto 10, 3) := by decide +kernel
theorem dX3_append_60 : decode cX3_append 60 = .ok (.getstatic 22, 3) := by decide +kernel
theorem dX3_append_63 : decode cX3_append 63 = .ok (.iload_n 2, 1) := by decide +kernel
theorem dX3_append_64 : decode cX3_append 64 = .ok (.iaload, 1) := by decide +kernel
theorem dX3_append_65 : decode cX3_append 65 = .ok (.iconst (-1), 1) := by decide +kernel
theorem dX3_append_66 : decode cX3_append 66 = .ok (.ixor, 1) := by decide +kernel
theorem dX3_append_67 : decode cX3_append 67 = .ok (.iastore, 1) := by decide +kernel
theorem dX3_append_68 : decode cX3_append 68 = .ok (.aload_n 0, 1) := by decide +kernel
theorem dX3_append_69 : decode cX3_append 69 = .ok (.dup, 1) := by decide +kernel
theorem dX3_append_70 : decode cX3_append 70 = .ok (.getfield 18, 3) := by decide +kernel
theorem dX3_append_73 : decode cX3_append 73 = .ok (.iconst 1, 1) := by decide +kernel
theorem dX3_append_74 : decode cX3_append 74 = .ok (.iadd, 1) := by decide +kernel
theorem dX3_append_75 : decode cX3_append 75 = .ok (.putfield 18, 3) := by decide +kernel
theorem dX3_append_78 : decode cX3_append 78 = .ok (.iconst 1, 1) := by decide +kernel
theorem dX3_append_79 : decode cX3_append 79 = .ok (.ireturn, 1) := by decide +kernel
theorem dX3_copyFrom_0 : decode cX3_copyFrom 0 = .ok (.aload_n 0, 1) := by decide +kernel
theorem dX3_copyFrom_1 : decode cX3_copyFrom 1 = .ok (.aload_n 1, 1) := by decide +kernel
theorem dX3_copyFrom_2 : decode cX3_copyFrom 2 = .ok (.getfield 18, 3) := by decide +kernel
theorem dX3_copyFrom_5 : decode cX3_copyFrom 5 = .ok (.putfield 18, 3) := by decide +kernel
theorem dX3_copyFrom_8 : decode cX3_copyFrom 8 = .ok (.iconst 0, 1) := by decide +kernel
theorem dX3_copyFrom_9 : decode cX3_copyFrom 9 = .ok (.istore_n 2, 1) := by decide +kernel
theorem dX3_copyFrom_10 : decode cX3_copyFrom 10 = .ok (.iload_n 2, 1) := by decide +kernel
theorem dX3_copyFrom_11 : decode cX3_copyFrom 11 = .ok (.bipush 6, 2) := by decide +kernel
theorem dX3_copyFrom_13 : decode cX3_copyFrom 13 = .ok (.if_icmp .ge 33, 3) := by decide +kernel
theorem dX3_copyFrom_16 : decode cX3_copyFrom 16 = .ok (.aload_n 0, 1) := by decide +kernel
theorem dX3_copyFrom_17 : decode cX3_copyFrom 17 = .ok (.getfield 9, 3) := by decide +kernel
theorem dX3_copyFrom_20 : decode cX3_copyFrom 20 = .ok (.iload_n 2, 1) := by decide +kernel
theorem dX3_copyFrom_21 : decode cX3_copyFrom 21 = .ok (.aload_n 1, 1) := by decide +kernel
theorem dX3_copyFrom_22 : decode cX3_copyFrom 22 = .ok (.getfield 9, 3) := by decide +kernel
theorem dX3_copyFrom_25 : decode cX3_copyFrom 25 = .ok (.iload_n 2, 1) := by decide +kernel
theorem dX3_copyFrom_26 : decode cX3_copyFrom 26 = .ok (.iaload, 1) := by decide +kernel
theorem dX3_copyFrom_27 : decode cX3_copyFrom 27 = .ok (.iastore, 1) := by decide +kernel
theorem dX3_copyFrom_28 : decode cX3_copyFrom 28 = .ok (.aload_n 0, 1) := by decide +kernel
theorem dX3_copyFrom_29 : decode cX3_copyFrom 29 = .ok (.getfield 15, 3) := by decide +kernel
theorem dX3_copyFrom_32 : decode cX3_copyFrom 32 = .ok (.iload_n 2, 1) := by decide +kernel
theorem dX3_copyFrom_33 : decode cX3_copyFrom 33 = .ok (.aload_n 1, 1) := by decide +kernel
theorem dX3_copyFrom_34 : decode cX3_copyFrom 34 = .ok (.getfield 15, 3) := by decide +kernel
theorem dX3_copyFrom_37 : decode cX3_copyFrom 37 = .ok (.iload_n 2, 1) := by decide +kernel
theorem dX3_copyFrom_38 : decode cX3_copyFrom 38 = .ok (.iaload, 1) := by decide +kernel
theorem dX3_copyFrom_39 : decode cX3_copyFrom 39 = .ok (.iastore, 1) := by decide +kernel
theorem dX3_copyFrom_40 : decode cX3_copyFrom 40 = .ok (.iinc 2 1, 3) := by decide +kernel
theorem dX3_copyFrom_43 : decode cX3_copyFrom 43 = .ok (.goto (-33), 3) := by decide +kernel
theorem dX3_copyFrom_46 : decode cX3_copyFrom 46 = .ok (.return_, 1) := by decide +kernel
theorem dX3_candidates_0 : decode cX3_candidates 0 = .ok (.bipush 31, 2) := by decide +kernel
theorem dX3_candidates_2 : decode cX3_candidates 2 = .ok (.istore_n 2, 1) := by decide +kernel
theorem dX3_candidates_3 : decode cX3_candidates 3 = .ok (.iconst 0, 1) := by decide +kernel
theorem dX3_candidates_4 : decode cX3_candidates 4 = .ok (.istore_n 3, 1) := by decide +kernel
theorem dX3_candidates_5 : decode cX3_candidates 5 = .ok (.iload_n 3, 1) := by decide +kernel
theorem dX3_candidates_6 : decode cX3_candidates 6 = .ok (.aload_n 0, 1) := by decide +kernel
theorem dX3_candidates_7 : decode cX3_candidates 7 = .ok (.getfield 18, 3) := by decide +kernel
theorem dX3_candidates_10 : decode cX3_candidates 10 = .ok (.if_icmp .ge 34, 3) := by decide +kernel
theorem dX3_candidates_13 : decode cX3_candidates 13 = .ok (.iload_n 3, 1) := by decide +kernel
theorem dX3_candidates_14 : decode cX3_candidates 14 = .ok (.bipush 6, 2) := by decide +kernel
theorem dX3_candidates_16 : decode cX3_candidates 16 = .ok (.if_icmp .ge 28, 3) := by decide +kernel
theorem dX3_candidates_19 : decode cX3_candidates 19 = .ok (.aload_n 0, 1) := by decide +kernel
theorem dX3_candidates_20 : decode cX3_candidates 20 = .ok (.getfield 9, 3) := by decide +kernel
theorem dX3_candidates_23 : decode cX3_candidates 23 = .ok (.iload_n 3, 1) := by decide +kernel
theorem dX3_candidates_24 : decode cX3_candidates 24 = .ok (.iaload, 1) := by decide +kernel
theorem dX3_candidates_25 : decode cX3_candidates 25 = .ok (.iload_n 1, 1) := by decide +kernel
theorem dX3_candidates_26 : decode cX3_candidates 26 = .ok (.if_icmp .ne 12, 3) := by decide +kernel
theorem dX3_candidates_29 : decode cX3_candidates 29 = .ok (.iload_n 2, 1) := by decide +kernel
theorem dX3_candidates_30 : decode cX3_candidates 30 = .ok (.aload_n 0, 1) := by decide +kernel
theorem dX3_candidates_31 : decode cX3_candidates 31 = .ok (.getfield 15, 3) := by decide +kernel
theorem dX3_candidates_34 : decode cX3_candidates 34 = .ok (.iload_n 3, 1) := by decide +kernel
theorem dX3_candidates_35 : decode cX3_candidates 35 = .ok (.iaload, 1) := by decide +kernel
theorem dX3_candidates_36 : decode cX3_candidates 36 = .ok (.iand, 1) := by decide +kernel
theorem dX3_candidates_37 : decode cX3_candidates 37 = .ok (.istore_n 2, 1) := by decide +kernel
theorem dX3_candidates_38 : decode cX3_candidates 38 = .ok (.iinc 3 1, 3) := by decide +kernel
theorem dX3_candidates_41 : decode cX3_candidates 41 = .ok (.goto (-36), 3) := by decide +kernel
theorem dX3_candidates_44 : decode cX3_candidates 44 = .ok (.iload_n 2, 1) := by decide +kernel
theorem dX3_candidates_45 : decode cX3_candidates 45 = .ok (.ireturn, 1) := by decide +kernel
theorem dX3_nextQuestion_0 : decode cX3_nextQuestion 0 = .ok (.iconst (-1), 1) := by decide +kernel
theorem dX3_nextQuestion_1 : decode cX3_nextQuestion 1 = .ok (.istore_n 1, 1) := by decide +kernel
theorem dX3_nextQuestion_2 : decode cX3_nextQuestion 2 = .ok (.bipush 6, 2) := by decide +kernel
theorem dX3_nextQuestion_4 : decode cX3_nextQuestion 4 = .ok (.istore_n 2, 1) := by decide +kernel
theorem dX3_nextQuestion_5 : decode cX3_nextQuestion 5 = .ok (.iconst 0, 1) := by decide +kernel
theorem dX3_nextQuestion_6 : decode cX3_nextQuestion 6 = .ok (.istore_n 3, 1) := by decide +kernel
theorem dX3_nextQuestion_7 : decode cX3_nextQuestion 7 = .ok (.iload_n 3, 1) := by decide +kernel
theorem dX3_nextQuestion_8 : decode cX3_nextQuestion 8 = .ok (.getstatic 22, 3) := by decide +kernel
theorem dX3_nextQuestion_11 : decode cX3_nextQuestion 11 = .ok (.arraylength, 1) := by decide +kernel
theorem dX3_nextQuestion_12 : decode cX3_nextQuestion 12 = .ok (.if_icmp .ge 59, 3) := by decide +kernel
theorem dX3_nextQuestion_15 : decode cX3_nextQuestion 15 = .ok (.iload_n 0, 1) := by decide +kernel
theorem dX3_nextQuestion_16 : decode cX3_nextQuestion 16 = .ok (.ifCond .eq 55, 3) := by decide +kernel
theorem dX3_nextQuestion_19 : decode cX3_nextQuestion 19 = .ok (.iload_n 0, 1) := by decide +kernel
theorem dX3_nextQuestion_20 : decode cX3_nextQuestion 20 = .ok (.getstatic 22, 3) := by decide +kernel
theorem dX3_nextQuestion_23 : decode cX3_nextQuestion 23 = .ok (.iload_n 3, 1) := by decide +kernel
theorem dX3_nextQuestion_24 : decode cX3_nextQuestion 24 = .ok (.iaload, 1) := by decide +kernel
theorem dX3_nextQuestion_25 : decode cX3_nextQuestion 25 = .ok (.iand, 1) := by decide +kernel
theorem dX3_nextQuestion_26 : decode cX3_nextQuestion 26 = .ok (.invokestatic 25, 3) := by decide +kernel
theorem dX3_nextQuestion_29 : decode cX3_nextQuestion 29 = .ok (.istore 4, 2) := by decide +kernel
theorem dX3_nextQuestion_31 : decode cX3_nextQuestion 31 = .ok (.iload_n 0, 1) := by decide +kernel
theorem dX3_nextQuestion_32 : decode cX3_nextQuestion 32 = .ok (.getstatic 22, 3) := by decide +kernel
theorem dX3_nextQuestion_35 : decode cX3_nextQuestion 35 = .ok (.iload_n 3, 1) := by decide +kernel
theorem dX3_nextQuestion_36 : decode cX3_nextQuestion 36 = .ok (.iaload, 1) := by decide +kernel
theorem dX3_nextQuestion_37 : decode cX3_nextQuestion 37 = .ok (.iconst (-1), 1) := by decide +kernel
theorem dX3_nextQuestion_38 : decode cX3_nextQuestion 38 = .ok (.ixor, 1) := by decide +kernel
theorem dX3_nextQuestion_39 : decode cX3_nextQuestion 39 = .ok (.iand, 1) := by decide +kernel
theorem dX3_nextQuestion_40 : decode cX3_nextQuestion 40 = .ok (.invokestatic 25, 3) := by decide +kernel
theorem dX3_nextQuestion_43 : decode cX3_nextQuestion 43 = .ok (.istore 5, 2) := by decide +kernel
theorem dX3_nextQuestion_45 : decode cX3_nextQuestion 45 = .ok (.iload 4, 2) := by decide +kernel
theorem dX3_nextQuestion_47 : decode cX3_nextQuestion 47 = .ok (.iload 5, 2) := by decide +kernel
theorem dX3_nextQuestion_49 : decode cX3_nextQuestion 49 = .ok (.invokestatic 31, 3) := by decide +kernel
theorem dX3_nextQuestion_52 : decode cX3_nextQuestion 52 = .ok (.istore 6, 2) := by decide +kernel
theorem dX3_nextQuestion_54 : decode cX3_nextQuestion 54 = .ok (.iload 6, 2) := by decide +kernel
theorem dX3_nextQuestion_56 : decode cX3_nextQuestion 56 = .ok (.iload_n 2, 1) := by decide +kernel
theorem dX3_nextQuestion_57 : decode cX3_nextQuestion 57 = .ok (.if_icmp .ge 8, 3) := by decide +kernel
theorem dX3_nextQuestion_60 : decode cX3_nextQuestion 60 = .ok (.iload 6, 2) := by decide +kernel
theorem dX3_nextQuestion_62 : decode cX3_nextQuestion 62 = .ok (.istore_n 2, 1) := by decide +kernel
theorem dX3_nextQuestion_63 : decode cX3_nextQuestion 63 = .ok (.iload_n 3, 1) := by decide +kernel
theorem dX3_nextQuestion_64 : decode cX3_nextQuestion 64 = .ok (.istore_n 1, 1) := by decide +kernel
theorem dX3_nextQuestion_65 : decode cX3_nextQuestion 65 = .ok (.iinc 3 1, 3) := by decide +kernel
theorem dX3_nextQuestion_68 : decode cX3_nextQuestion 68 = .ok (.goto (-61), 3) := by decide +kernel
theorem dX3_nextQuestion_71 : decode cX3_nextQuestion 71 = .ok (.iload_n 1, 1) := by decide +kernel
theorem dX3_nextQuestion_72 : decode cX3_nextQuestion 72 = .ok (.ireturn, 1) := by decide +kernel
theorem dX4_init_0 : decode cX4_init 0 = .ok (.aload_n 0, 1) := by decide +kernel
theorem dX4_init_1 : decode cX4_init 1 = .ok (.invokespecial 3, 3) := by decide +kernel
theorem dX4_init_4 : decode cX4_init 4 = .ok (.aload_n 0, 1) := by decide +kernel
theorem dX4_init_5 : decode cX4_init 5 = .ok (.bipush 8, 2) := by decide +kernel
theorem dX4_init_7 : decode cX4_init 7 = .ok (.newarray .long, 2) := by decide +kernel
theorem dX4_init_9 : decode cX4_init 9 = .ok (.putfield 11, 3) := by decide +kernel
theorem dX4_init_12 : decode cX4_init 12 = .ok (.aload_n 0, 1) := by decide +kernel
theorem dX4_init_13 : decode cX4_init 13 = .ok (.bipush 8, 2) := by decide +kernel
theorem dX4_init_15 : decode cX4_init 15 = .ok (.newarray .long, 2) := by decide +kernel
theorem dX4_init_17 : decode cX4_init 17 = .ok (.putfield 15, 3) := by decide +kernel
theorem dX4_init_20 : decode cX4_init 20 = .ok (.aload_n 0, 1) := by decide +kernel
theorem dX4_init_21 : decode cX4_init 21 = .ok (.bipush 6, 2) := by decide +kernel
theorem dX4_init_23 : decode cX4_init 23 = .ok (.newarray .int, 2) := by decide +kernel
theorem dX4_init_25 : decode cX4_init 25 = .ok (.putfield 18, 3) := by decide +kernel
theorem dX4_init_28 : decode cX4_init 28 = .ok (.return_, 1) := by decide +kernel
theorem dX4_split_0 : decode cX4_split 0 = .ok (.aload_n 0, 1) := by decide +kernel
theorem dX4_split_1 : decode cX4_split 1 = .ok (.aload_n 1, 1) := by decide +kernel
theorem dX4_split_2 : decode cX4_split 2 = .ok (.invokevirtual 22, 3) := by decide +kernel
theorem dX4_split_5 : decode cX4_split 5 = .ok (.putfield 28, 3) := by decide +kernel
theorem dX4_split_8 : decode cX4_split 8 = .ok (.aload_n 0, 1) := by decide +kernel
theorem dX4_split_9 : decode cX4_split 9 = .ok (.iload_n 2, 1) := by decide +kernel
theorem dX4_split_10 : decode cX4_split 10 = .ok (.putfield 32, 3) := by decide +kernel
theorem dX4_split_13 : decode cX4_split 13 = .ok (.iload_n 2, 1) := by decide +kernel
theorem dX4_split_14 : decode cX4_split 14 = .ok (.iconst 2, 1) := by decide +kernel
theorem dX4_split_15 : decode cX4_split 15 = .ok (.if_icmp .lt 27, 3) := by decide +kernel
theorem dX4_split_18 : decode cX4_split 18 = .ok (.aload_n 0, 1) := by decide +kernel
theorem dX4_split_19 : decode cX4_split 19 = .ok (.getfield 28, 3) := by decide +kernel
theorem dX4_split_22 : decode cX4_split 22 = .ok (.iconst 1, 1) := by decide +kernel
theorem dX4_split_23 : decode cX4_split 23 = .ok (.if_icmp .lt 19, 3) := by decide +kernel
theorem dX4_split_26 : decode cX4_split 26 = .ok (.aload_n 1, 1) := by decide +kernel
theorem dX4_split_27 : decode cX4_split 27 = .ok (.aload_n 0, 1) := by decide +kernel
theorem dX4_split_28 : decode cX4_split 28 = .ok (.getfield 28, 3) := by decide +kernel
theorem dX4_split_31 : decode cX4_split 31 = .ok (.invokevirtual 35, 3) := by decide +kernel
theorem dX4_split_34 : decode cX4_split 34 = .ok (.iload_n 2, 1) := by decide +kernel
theorem dX4_split_35 : decode cX4_split 35 = .ok (.i2l, 1) := by decide +kernel
theorem dX4_split_36 : decode cX4_split 36 = .ok (.lrem, 1) := by decide +kernel
theorem dX4_split_37 : decode cX4_split 37 = .ok (.lconst 0, 1) := by decide +kernel
theorem dX4_split_38 : decode cX4_split 38 = .ok (.lcmp, 1) := by decide +kernel
theorem dX4_split_39 : decode cX4_split 39 = .ok (.ifCond .ne 5, 3) := by decide +kernel
theorem dX4_split_42 : decode cX4_split 42 = .ok (.iconst 0, 1) := by decide +kernel
theorem dX4_split_43 : decode cX4_split 43 = .ok (.ireturn, 1) := by decide +kernel
theorem dX4_split_44 : decode cX4_split 44 = .ok (.iconst 0, 1) := by decide +kernel
theorem dX4_split_45 : decode cX4_split 45 = .ok (.istore_n 3, 1) := by decide +kernel
theorem dX4_split_46 : decode cX4_split 46 = .ok (.iload_n 3, 1) := by decide +kernel
theorem dX4_split_47 : decode cX4_split 47 = .ok (.bipush 8, 2) := by decide +kernel
theorem dX4_split_49 : decode cX4_split 49 = .ok (.if_icmp .ge 25, 3) := by decide +kernel
theorem dX4_split_52 : decode cX4_split 52 = .ok (.aload_n 0, 1) := by decide +kernel
theorem dX4_split_53 : decode cX4_split 53 = .ok (.getfield 11, 3) := by decide +kernel
theorem dX4_split_56 : decode cX4_split 56 = .ok (.iload_n 3, 1) := by decide +kernel
theorem dX4_split_57 : decode cX4_split 57 = .ok (.aload_n 1, 1) := by decide +kernel
theorem dX4_split_58 : decode cX4_split 58 = .ok (.iload_n 3, 1) := by decide +kernel
theorem dX4_split_59 : decode cX4_split 59 = .ok (.invokevirtual 35, 3) := by decide +kernel
theorem dX4_split_62 : decode cX4_split 62 = .ok (.iload_n 2, 1) := by decide +kernel
theorem dX4_split_63 : decode cX4_split 63 = .ok (.i2l, 1) := by decide +kernel
theorem dX4_split_64 : decode cX4_split 64 = .ok (.invokestatic 39, 3) := by decide +kernel
theorem dX4_split_67 : decode cX4_split 67 = .ok (.lastore, 1) := by decide +kernel
theorem dX4_split_68 : decode cX4_split 68 = .ok (.iinc 3 1, 3) := by decide +kernel
theorem dX4_split_71 : decode cX4_split 71 = .ok (.goto (-25), 3) := by decide +kernel
theorem dX4_split_74 : decode cX4_split 74 = .ok (.iconst 0, 1) := by decide +kernel
theorem dX4_split_75 : decode cX4_split 75 = .ok (.istore_n 3, 1) := by decide +kernel
theorem dX4_split_76 : decode cX4_split 76 = .ok (.iload_n 3, 1) := by decide +kernel
theorem dX4_split_77 : decode cX4_split 77 = .ok (.iconst 5, 1) := by decide +kernel
theorem dX4_split_78 : decode cX4_split 78 = .ok (.if_icmp .gt 16, 3) := by decide +kernel
theorem dX4_split_81 : decode cX4_split 81 = .ok (.aload_n 0, 1) := by decide +kernel
theorem dX4_split_82 : decode cX4_split 82 = .ok (.getfield 18, 3) := by decide +kernel
theorem dX4_split_85 : decode cX4_split 85 = .ok (.iload_n 3, 1) := by decide +kernel
theorem dX4_split_86 : decode cX4_split 86 = .ok (.iconst 0, 1) := by decide +kernel
theorem dX4_split_87 : decode cX4_split 87 = .ok (.iastore, 1) := by decide +kernel
theorem dX4_split_88 : decode cX4_split 88 = .ok (.iinc 3 1, 3) := by decide +kernel
theorem dX4_split_91 : decode cX4_split 91 = .ok (.goto (-15), 3) := by decide +kernel
theorem dX4_split_94 : decode cX4_split 94 = .ok (.aload_n 0, 1) := by decide +kernel
theorem dX4_split_95 : decode cX4_split 95 = .ok (.invokevirtual 45, 3) := by decide +kernel
theorem dX4_split_98 : decode cX4_split 98 = .ok (.ifCond .eq 10, 3) := by decide +kernel
theorem dX4_split_101 : decode cX4_split 101 = .ok (.aload_n 0, 1) := by decide +kernel
theorem dX4_split_102 : decode cX4_split 102 = .ok (.invokevirtual 49, 3) := by decide +kernel
theorem dX4_split_105 : decode cX4_split 105 = .ok (.ifCond .ne 5, 3) := by decide +kernel
theorem dX4_split_108 : decode cX4_split 108 = .ok (.iconst 0, 1) := by decide +kernel
theorem dX4_split_109 : decode cX4_split 109 = .ok (.ireturn, 1) := by decide +kernel
theorem dX4_split_110 : decode cX4_split 110 = .ok (.aload_n 0, 1) := by decide +kernel
theorem dX4_split_111 : decode cX4_split 111 = .ok (.getfield 28, 3) := by decide +kernel
theorem dX4_split_114 : decode cX4_split 114 = .ok (.iconst 1, 1) := by decide +kernel
theorem dX4_split_115 : decode cX4_split 115 = .ok (.if_icmp .lt 24, 3) := by decide +kernel
theorem dX4_split_118 : decode cX4_split 118 = .ok (.aload_n 0, 1) := by decide +kernel
theorem dX4_split_119 : decode cX4_split 119 = .ok (.getfield 28, 3) := by decide +kernel
theorem dX4_split_122 : decode cX4_split 122 = .ok (.iconst 5, 1) := by decide +kernel
theorem dX4_split_123 : decode cX4_split 123 = .ok (.if_icmp .gt 16, 3) := by decide +kernel
theorem dX4_split_126 : decode cX4_split 126 = .ok (.aload_n 0, 1) := by decide +kernel
theorem dX4_split_127 : decode cX4_split 127 = .ok (.getfield 18, 3) := by decide +kernel
theorem dX4_split_130 : decode cX4_split 130 = .ok (.aload_n 0, 1) := by decide +kernel
theorem dX4_split_131 : decode cX4_split 131 = .ok (.getfield 28, 3) := by decide +kernel
theorem dX4_split_134 : decode cX4_split 134 = .ok (.dup2, 1) := by decide +kernel
theorem dX4_split_135 : decode cX4_split 135 = .ok (.iaload, 1) := by decide +kernel
theorem dX4_split_136 : decode cX4_split 136 = .ok (.iconst 1, 1) := by decide +kernel
theorem dX4_split_137 : decode cX4_split 137 = .ok (.iadd, 1) := by decide +kernel
theorem dX4_split_138 : decode cX4_split 138 = .ok (.iastore, 1) := by decide +kernel
theorem dX4_split_139 : decode cX4_split 139 = .ok (.iconst 1, 1) := by decide +kernel
theorem dX4_split_140 : decode cX4_split 140 = .ok (.ireturn, 1) := by decide +kernel
theorem dX4_takeLinear_0 : decode cX4_takeLinear 0 = .ok (.iconst 0, 1) := by decide +kernel
theorem dX4_takeLinear_1 : decode cX4_takeLinear 1 = .ok (.istore_n 1, 1) := by decide +kernel
theorem dX4_takeLinear_2 : decode cX4_takeLinear 2 = .ok (.iload_n 1, 1) := by decide +kernel
theorem dX4_takeLinear_3 : decode cX4_takeLinear 3 = .ok (.aload_n 0, 1) := by decide +kernel
theorem dX4_takeLinear_4 : decode cX4_takeLinear 4 = .ok (.getfield 32, 3) := by decide +kernel
theorem dX4_takeLinear_7 : decode cX4_takeLinear 7 = .ok (.if_icmp .ge 41, 3) := by decide +kernel
theorem dX4_takeLinear_10 : decode cX4_takeLinear 10 = .ok (.aload_n 0, 1) := by decide +kernel
theorem dX4_takeLinear_11 : decode cX4_takeLinear 11 = .ok (.iconst 1, 1) := by decide +kernel
theorem dX4_takeLinear_12 : decode cX4_takeLinear 12 = .ok (.iload_n 1, 1) := by decide +kernel
theorem dX4_takeLinear_13 : decode cX4_takeLinear 13 = .ok (.iconst 0, 1) := by decide +kernel
theorem dX4_takeLinear_14 : decode cX4_takeLinear 14 = .ok (.invokevirtual 52, 3) := by decide +kernel
theorem dX4_takeLinear_17 : decode cX4_takeLinear 17 = .ok (.ifCond .eq 25, 3) := by decide +kernel
theorem dX4_takeLinear_20 : decode cX4_takeLinear 20 = .ok (.aload_n 0, 1) := by decide +kernel
theorem dX4_takeLinear_21 : decode cX4_takeLinear 21 = .ok (.getfield 18, 3) := by decide +kernel
theorem dX4_takeLinear_24 : decode cX4_takeLinear 24 = .ok (.iconst 1, 1) := by decide +kernel
theorem dX4_takeLinear_25 : decode cX4_takeLinear 25 = .ok (.dup2, 1) := by decide +kernel
theorem dX4_takeLinear_26 : decode cX4_takeLinear 26 = .ok (.iaload, 1) := by decide +kernel
theorem dX4_takeLinear_27 : decode cX4_takeLinear 27 = .ok (.iconst 1, 1) := by decide +kernel
theorem dX4_takeLinear_28 : decode cX4_takeLinear 28 = .ok (.iadd, 1) := by decide +kernel
theorem dX4_takeLinear_29 : decode cX4_takeLinear 29 = .ok (.iastore, 1) := by decide +kernel
theorem dX4_takeLinear_30 : decode cX4_takeLinear 30 = .ok (.aload_n 0, 1) := by decide +kernel
theorem dX4_takeLinear_31 : decode cX4_takeLinear 31 = .ok (.iconst 1, 1) := by decide +kernel
theorem dX4_takeLinear_32 : decode cX4_takeLinear 32 = .ok (.iload_n 1, 1) := by decide +kernel
theorem dX4_takeLinear_33 : decode cX4_takeLinear 33 = .ok (.iconst 0, 1) := by decide +kernel
theorem dX4_takeLinear_34 : decode cX4_takeLinear 34 = .ok (.invokevirtual 52, 3) := by decide +kernel
theorem dX4_takeLinear_37 : decode cX4_takeLinear 37 = .ok (.ifCond .eq 5, 3) := by decide +kernel
theorem dX4_takeLinear_40 : decode cX4_takeLinear 40 = .ok (.iconst 0, 1) := by decide +kernel
theorem dX4_takeLinear_41 : decode cX4_takeLinear 41 = .ok (.ireturn, 1) := by decide +kernel
theorem dX4_takeLinear_42 : decode cX4_takeLinear 42 = .ok (.iinc 1 1, 3) := by decide +kernel
theorem dX4_takeLinear_45 : decode cX4_takeLinear 45 = .ok (.goto (-43), 3) := by decide +kernel
theorem dX4_takeLinear_48 : decode cX4_takeLinear 48 = .ok (.iconst 1, 1) := by decide +kernel
theorem dX4_takeLinear_49 : decode cX4_takeLinear 49 = .ok (.ireturn, 1) := by decide +kernel
theorem dX4_takeQuadratic_0 : decode cX4_takeQuadratic 0 = .ok (.iconst 0, 1) := by decide +kernel
theorem dX4_takeQuadratic_1 : decode cX4_takeQuadratic 1 = .ok (.istore_n 1, 1) := by decide +kernel
theorem dX4_takeQuadratic_2 : decode cX4_takeQuadratic 2 = .ok (.iload_n 1, 1) := by decide +kernel
theorem dX4_takeQuadratic_3 : decode cX4_takeQuadratic 3 = .ok (.aload_n 0, 1) := by decide +kernel
theorem dX4_takeQuadratic_4 : decode cX4_takeQuadratic 4 = .ok (.getfield 32, 3) := by decide +kernel
theorem dX4_takeQuadratic_7 : decode cX4_takeQuadratic 7 = .ok (.if_icmp .ge 73, 3) := by decide +kernel
theorem dX4_takeQuadratic_10 : decode cX4_takeQuadratic 10 = .ok (.aload_n 0, 1) := by decide +kernel
theorem dX4_takeQuadratic_11 : decode cX4_takeQuadratic 11 = .ok (.getfield 28, 3) := by decide +kernel
theorem dX4_takeQuadratic_14 : decode cX4_takeQuadratic 14 = .ok (.iconst 4, 1) := by decide +kernel
theorem dX4_takeQuadratic_15 : decode cX4_takeQuadratic 15 = .ok (.if_icmp .lt 65, 3) := by decide +kernel
theorem dX4_takeQuadratic_18 : decode cX4_takeQuadratic 18 = .ok (.iconst 0, 1) := by decide +kernel
theorem dX4_takeQuadratic_19 : decode cX4_takeQuadratic 19 = .ok (.istore_n 2, 1) := by decide +kernel
theorem dX4_takeQuadratic_20 : decode cX4_takeQuadratic 20 = .ok (.iload_n 2, 1) := by decide +kernel
theorem dX4_takeQuadratic_21 : decode cX4_takeQuadratic 21 = .ok (.aload_n 0, 1) := by decide +kernel
theorem dX4_takeQuadratic_22 : decode cX4_takeQuadratic 22 = .ok (.getfield 32, 3) := by decide +kernel
theorem dX4_takeQuadratic_25 : decode cX4_takeQuadratic 25 = .ok (.if_icmp .ge 49, 3) := by decide +kernel
theorem dX4_takeQuadratic_28 : decode cX4_takeQuadratic 28 = .ok (.aload_n 0, 1) := by decide +kernel
theorem dX4_takeQuadratic_29 : decode cX4_takeQuadratic 29 = .ok (.getfield 28, 3) := by decide +kernel
theorem dX4_takeQuadratic_32 : decode cX4_takeQuadratic 32 = .ok (.iconst 4, 1) := by decide +kernel
theorem dX4_takeQuadratic_33 : decode cX4_takeQuadratic 33 = .ok (.if_icmp .lt 41, 3) := by decide +kernel
theorem dX4_takeQuadratic_36 : decode cX4_takeQuadratic 36 = .ok (.aload_n 0, 1) := by decide +kernel
theorem dX4_takeQuadratic_37 : decode cX4_takeQuadratic 37 = .ok (.iconst 2, 1) := by decide +kernel
theorem dX4_takeQuadratic_38 : decode cX4_takeQuadratic 38 = .ok (.iload_n 1, 1) := by decide +kernel
theorem dX4_takeQuadratic_39 : decode cX4_takeQuadratic 39 = .ok (.iload_n 2, 1) := by decide +kernel
theorem dX4_takeQuadratic_40 : decode cX4_takeQuadratic 40 = .ok (.invokevirtual 52, 3) := by decide +kernel
theorem dX4_takeQuadratic_43 : decode cX4_takeQuadratic 43 = .ok (.ifCond .eq 25, 3) := by decide +kernel
theorem dX4_takeQuadratic_46 : decode cX4_takeQuadratic 46 = .ok (.aload_n 0, 1) := by decide +kernel
theorem dX4_takeQuadratic_47 : decode cX4_takeQuadratic 47 = .ok (.getfield 18, 3) := by decide +kernel
theorem dX4_takeQuadratic_50 : decode cX4_takeQuadratic 50 = .ok (.iconst 2, 1) := by decide +kernel
theorem dX4_takeQuadratic_51 : decode cX4_takeQuadratic 51 = .ok (.dup2, 1) := by decide +kernel
theorem dX4_takeQuadratic_52 : decode cX4_takeQuadratic 52 = .ok (.iaload, 1) := by decide +kernel
theorem dX4_takeQuadratic_53 : decode cX4_takeQuadratic 53 = .ok (.iconst 1, 1) := by decide +kernel
theorem dX4_takeQuadratic_54 : decode cX4_takeQuadratic 54 = .ok (.iadd, 1) := by decide +kernel
theorem dX4_takeQuadratic_55 : decode cX4_takeQuadratic 55 = .ok (.iastore, 1) := by decide +kernel
theorem dX4_takeQuadratic_56 : decode cX4_takeQuadratic 56 = .ok (.aload_n 0, 1) := by decide +kernel
theorem dX4_takeQuadratic_57 : decode cX4_takeQuadratic 57 = .ok (.iconst 2, 1) := by decide +kernel
theorem dX4_takeQuadratic_58 : decode cX4_takeQuadratic 58 = .ok (.iload_n 1, 1) := by decide +kernel
theorem dX4_takeQuadratic_59 : decode cX4_takeQuadratic 59 = .ok (.iload_n 2, 1) := by decide +kernel
theorem dX4_takeQuadratic_60 : decode cX4_takeQuadratic 60 = .ok (.invokevirtual 52, 3) := by decide +kernel
theorem dX4_takeQuadratic_63 : decode cX4_takeQuadratic 63 = .ok (.ifCond .eq 5, 3) := by decide +kernel
theorem dX4_takeQuadratic_66 : decode cX4_takeQuadratic 66 = .ok (.iconst 0, 1) := by decide +kernel
theorem dX4_takeQuadratic_67 : decode cX4_takeQuadratic 67 = .ok (.ireturn, 1) := by decide +kernel
theorem dX4_takeQuadratic_68 : decode cX4_takeQuadratic 68 = .ok (.iinc 2 1, 3) := by decide +kernel
theorem dX4_takeQuadratic_71 : decode cX4_takeQuadratic 71 = .ok (.goto (-51), 3) := by decide +kernel
theorem dX4_takeQuadratic_74 : decode cX4_takeQuadratic 74 = .ok (.iinc 1 1, 3) := by decide +kernel
theorem dX4_takeQuadratic_77 : decode cX4_takeQuadratic 77 = .ok (.goto (-75), 3) := by decide +kernel
theorem dX4_takeQuadratic_80 : decode cX4_takeQuadratic 80 = .ok (.iconst 1, 1) := by decide +kernel
theorem dX4_takeQuadratic_81 : decode cX4_takeQuadratic 81 = .ok (.ireturn, 1) := by decide +kernel
theorem dX4_divide_0 : decode cX4_divide 0 = .ok (.aload_n 0, 1) := by decide +kernel
theorem dX4_divide_1 : decode cX4_divide 1 = .ok (.getfield 28, 3) := by decide +kernel
theorem dX4_divide_4 : decode cX4_divide 4 = .ok (.iload_n 1, 1) := by decide +kernel
theorem dX4_divide_5 : decode cX4_divide 5 = .ok (.if_icmp .lt 22, 3) := by decide +kernel
theorem dX4_divide_8 : decode cX4_divide 8 = .ok (.aload_n 0, 1) := by decide +kernel
theorem dX4_divide_9 : decode cX4_divide 9 = .ok (.getfield 28, 3) := by decide +kernel
theorem dX4_divide_12 : decode cX4_divide 12 = .ok (.iconst 2, 1) := by decide +kernel
theorem dX4_divide_13 : decode cX4_divide 13 = .ok (.iadd, 1) := by decide +kernel
theorem dX4_divide_14 : decode cX4_divide 14 = .ok (.bipush 8, 2) := by decide +kernel
theorem dX4_divide_16 : decode cX4_divide 16 = .ok (.if_icmp .ge 11, 3) := by decide +kernel
theorem dX4_divide_19 : decode cX4_divide 19 = .ok (.aload_n 0, 1) := by decide +kernel
theorem dX4_divide_20 : decode cX4_divide 20 = .ok (.getfield 32, 3) := by decide +kernel
theorem dX4_divide_23 : decode cX4_divide 23 = .ok (.iconst 2, 1) := by decide +kernel
theorem dX4_divide_24 : decode cX4_divide 24 = .ok (.if_icmp .ge 5, 3) := by decide +kernel
theorem dX4_divide_27 : decode cX4_divide 27 = .ok (.iconst 0, 1) := by decide +kernel
theorem dX4_divide_28 : decode cX4_divide 28 = .ok (.ireturn, 1) := by decide +kernel
theorem dX4_divide_29 : decode cX4_divide 29 = .ok (.aload_n 0, 1) := by decide +kernel
theorem dX4_divide_30 : decode cX4_divide 30 = .ok (.getfield 15, 3) := by decide +kernel
theorem dX4_divide_33 : decode cX4_divide 33 = .ok (.aload_n 0, 1) := by decide +kernel
theorem dX4_divide_34 : decode cX4_divide 34 = .ok (.getfield 28, 3) := by decide +kernel
theorem dX4_divide_37 : decode cX4_divide 37 = .ok (.iconst 1, 1) := by decide +kernel
theorem dX4_divide_38 : decode cX4_divide 38 = .ok (.iadd, 1) := by decide +kernel
theorem dX4_divide_39 : decode cX4_divide 39 = .ok (.lconst 0, 1) := by decide +kernel
theorem dX4_divide_40 : decode cX4_divide 40 = .ok (.lastore, 1) := by decide +kernel
theorem dX4_divide_41 : decode cX4_divide 41 = .ok (.aload_n 0, 1) := by decide +kernel
theorem dX4_divide_42 : decode cX4_divide 42 = .ok (.getfield 15, 3) := by decide +kernel
theorem dX4_divide_45 : decode cX4_divide 45 = .ok (.aload_n 0, 1) := by decide +kernel
theorem dX4_divide_46 : decode cX4_divide 46 = .ok (.getfield 28, 3) := by decide +kernel
theorem dX4_divide_49 : decode cX4_divide 49 = .ok (.iconst 2, 1) := by decide +kernel
theorem dX4_divide_50 : decode cX4_divide 50 = .ok (.iadd, 1) := by decide +kernel
theorem dX4_divide_51 : decode cX4_divide 51 = .ok (.lconst 0, 1) := by decide +kernel
theorem dX4_divide_52 : decode cX4_divide 52 = .ok (.lastore, 1) := by decide +kernel
theorem dX4_divide_53 : decode cX4_divide 53 = .ok (.aload_n 0, 1) := by decide +kernel
theorem dX4_divide_54 : decode cX4_divide 54 = .ok (.getfield 28, 3) := by decide +kernel
theorem dX4_divide_57 : decode cX4_divide 57 = .ok (.istore 4, 2) := by decide +kernel
theorem dX4_divide_59 : decode cX4_divide 59 = .ok (.iload 4, 2) := by decide +kernel
theorem dX4_divide_61 : decode cX4_divide 61 = .ok (.ifCond .lt 57, 3) := by decide +kernel
theorem dX4_divide_64 : decode cX4_divide 64 = .ok (.aload_n 0, 1) := by decide +kernel
theorem dX4_divide_65 : decode cX4_divide 65 = .ok (.getfield 15, 3) := by decide +kernel
theorem dX4_divide_68 : decode cX4_divide 68 = .ok (.iload 4, 2) := by decide +kernel
theorem dX4_divide_70 : decode cX4_divide 70 = .ok (.aload_n 0, 1) := by decide +kernel
theorem dX4_divide_71 : decode cX4_divide 71 = .ok (.getfield 11, 3) := by decide +kernel
theorem dX4_divide_74 : decode cX4_divide 74 = .ok (.iload 4, 2) := by decide +kernel
theorem dX4_divide_76 : decode cX4_divide 76 = .ok (.laload, 1) := by decide +kernel
theorem dX4_divide_77 : decode cX4_divide 77 = .ok (.iload_n 2, 1) := by decide +kernel
theorem dX4_divide_78 : decode cX4_divide 78 = .ok (.i2l, 1) := by decide +kernel
theorem dX4_divide_79 : decode cX4_divide 79 = .ok (.aload_n 0, 1) := by decide +kernel
theorem dX4_divide_80 : decode cX4_divide 80 = .ok (.getfield 15, 3) := by decide +kernel
theorem dX4_divide_83 : decode cX4_divide 83 = .ok (.iload 4, 2) := by decide +kernel
theorem dX4_divide_85 : decode cX4_divide 85 = .ok (.iconst 1, 1) := by decide +kernel
theorem dX4_divide_86 : decode cX4_divide 86 = .ok (.iadd, 1) := by decide +kernel
theorem dX4_divide_87 : decode cX4_divide 87 = .ok (.laload, 1) := by decide +kernel
theorem dX4_divide_88 : decode cX4_divide 88 = .ok (.lmul, 1) := by decide +kernel
theorem dX4_divide_89 : decode cX4_divide 89 = .ok (.lsub, 1) := by decide +kernel
theorem dX4_divide_90 : decode cX4_divide 90 = .ok (.iload_n 3, 1) := by decide +kernel
theorem dX4_divide_91 : decode cX4_divide 91 = .ok (.i2l, 1) := by decide +kernel
theorem dX4_divide_92 : decode cX4_divide 92 = .ok (.aload_n 0, 1) := by decide +kernel
theorem dX4_divide_93 : decode cX4_divide 93 = .ok (.getfield 15, 3) := by decide +kernel
theorem dX4_divide_96 : decode cX4_divide 96 = .ok (.iload 4, 2) := by decide +kernel
theorem dX4_divide_98 : decode cX4_divide 98 = .ok (.iconst 2, 1) := by decide +kernel
theorem dX4_divide_99 : decode cX4_divide 99 = .ok (.iadd, 1) := by decide +kernel
theorem dX4_divide_100 : decode cX4_divide 100 = .ok (.laload, 1) := by decide +kernel
theorem dX4_divide_101 : decode cX4_divide 101 = .ok (.lmul, 1) := by decide +kernel
theorem dX4_divide_102 : decode cX4_divide 102 = .ok (.lsub, 1) := by decide +kernel
theorem dX4_divide_103 : decode cX4_divide 103 = .ok (.aload_n 0, 1) := by decide +kernel
theorem dX4_divide_104 : decode cX4_divide 104 = .ok (.getfield 32, 3) := by decide +kernel
theorem dX4_divide_107 : decode cX4_divide 107 = .ok (.i2l, 1) := by decide +kernel
theorem dX4_divide_108 : decode cX4_divide 108 = .ok (.invokestatic 39, 3) := by decide +kernel
theorem dX4_divide_111 : decode cX4_divide 111 = .ok (.lastore, 1) := by decide +kernel
theorem dX4_divide_112 : decode cX4_divide 112 = .ok (.iinc 4 (-1), 3) := by decide +kernel
theorem dX4_divide_115 : decode cX4_divide 115 = .ok (.goto (-56), 3) := by decide +kernel
theorem dX4_divide_118 : decode cX4_divide 118 = .ok (.iconst 0, 1) := by decide +kernel
theorem dX4_divide_119 : decode cX4_divide 119 = .ok (.istore 4, 2) := by decide +kernel
theorem dX4_divide_121 : decode cX4_divide 121 = .ok (.iload 4, 2) := by decide +kernel
theorem dX4_divide_123 : decode cX4_divide 123 = .ok (.iload_n 1, 1) := by decide +kernel
theorem dX4_divide_124 : decode cX4_divide 124 = .ok (.if_icmp .ge 23, 3) := by decide +kernel
theorem dX4_divide_127 : decode cX4_divide 127 = .ok (.aload_n 0, 1) := by decide +kernel
theorem dX4_divide_128 : decode cX4_divide 128 = .ok (.getfield 15, 3) := by decide +kernel
theorem dX4_divide_131 : decode cX4_divide 131 = .ok (.iload 4, 2) := by decide +kernel
theorem dX4_divide_133 : decode cX4_divide 133 = .ok (.laload, 1) := by decide +kernel
theorem dX4_divide_134 : decode cX4_divide 134 = .ok (.lconst 0, 1) := by decide +kernel
theorem dX4_divide_135 : decode cX4_divide 135 = .ok (.lcmp, 1) := by decide +kernel
theorem dX4_divide_136 : decode cX4_divide 136 = .ok (.ifCond .eq 5, 3) := by decide +kernel
theorem dX4_divide_139 : decode cX4_divide 139 = .ok (.iconst 0, 1) := by decide +kernel
theorem dX4_divide_140 : decode cX4_divide 140 = .ok (.ireturn, 1) := by decide +kernel
theorem dX4_divide_141 : decode cX4_divide 141 = .ok (.iinc 4 1, 3) := by decide +kernel
theorem dX4_divide_144 : decode cX4_divide 144 = .ok (.goto (-23), 3) := by decide +kernel
theorem dX4_divide_147 : decode cX4_divide 147 = .ok (.iconst 0, 1) := by decide +kernel
theorem dX4_divide_148 : decode cX4_divide 148 = .ok (.istore 4, 2) := by decide +kernel
theorem dX4_divide_150 : decode cX4_divide 150 = .ok (.iload 4, 2) := by decide +kernel
theorem dX4_divide_152 : decode cX4_divide 152 = .ok (.iload_n 1, 1) := by decide +kernel
theorem dX4_divide_153 : decode cX4_divide 153 = .ok (.iadd, 1) := by decide +kernel
theorem dX4_divide_154 : decode cX4_divide 154 = .ok (.aload_n 0, 1) := by decide +kernel
theorem dX4_divide_155 : decode cX4_divide 155 = .ok (.getfield 28, 3) := by decide +kernel
theorem dX4_divide_158 : decode cX4_divide 158 = .ok (.if_icmp .gt 25, 3) := by decide +kernel
theorem dX4_divide_161 : decode cX4_divide 161 = .ok (.aload_n 0, 1) := by decide +kernel
theorem dX4_divide_162 : decode cX4_divide 162 = .ok (.getfield 11, 3) := by decide +kernel
theorem dX4_divide_165 : decode cX4_divide 165 = .ok (.iload 4, 2) := by decide +kernel
theorem dX4_divide_167 : decode cX4_divide 167 = .ok (.aload_n 0, 1) := by decide +kernel
theorem dX4_divide_168 : decode cX4_divide 168 = .ok (.getfield 15, 3) := by decide +kernel
theorem dX4_divide_171 : decode cX4_divide 171 = .ok (.iload 4, 2) := by decide +kernel
theorem dX4_divide_173 : decode cX4_divide 173 = .ok (.iload_n 1, 1) := by decide +kernel
theorem dX4_divide_174 : decode cX4_divide 174 = .ok (.iadd, 1) := by decide +kernel
theorem dX4_divide_175 : decode cX4_divide 175 = .ok (.laload, 1) := by decide +kernel
theorem dX4_divide_176 : decode cX4_divide 176 = .ok (.lastore, 1) := by decide +kernel
theorem dX4_divide_177 : decode cX4_divide 177 = .ok (.iinc 4 1, 3) := by decide +kernel
theorem dX4_divide_180 : decode cX4_divide 180 = .ok (.goto (-30), 3) := by decide +kernel
theorem dX4_divide_183 : decode cX4_divide 183 = .ok (.aload_n 0, 1) := by decide +kernel
theorem dX4_divide_184 : decode cX4_divide 184 = .ok (.dup, 1) := by decide +kernel
theorem dX4_divide_185 : decode cX4_divide 185 = .ok (.getfield 28, 3) := by decide +kernel
theorem dX4_divide_188 : decode cX4_divide 188 = .ok (.iload_n 1, 1) := by decide +kernel
theorem dX4_divide_189 : decode cX4_divide 189 = .ok (.isub, 1) := by decide +kernel
theorem dX4_divide_190 : decode cX4_divide 190 = .ok (.putfield 28, 3) := by decide +kernel
theorem dX4_divide_193 : decode cX4_divide 193 = .ok (.iconst 1, 1) := by decide +kernel
theorem dX4_divide_194 : decode cX4_divide 194 = .ok (.ireturn, 1) := by decide +kernel
theorem dX4_countAll_0 : decode cX4_countAll 0 = .ok (.iconst 0, 1) := by decide +kernel
theorem dX4_countAll_1 : decode cX4_countAll 1 = .ok (.istore_n 1, 1) := by decide +kernel
theorem dX4_countAll_2 : decode cX4_countAll 2 = .ok (.iconst 1, 1) := by decide +kernel
theorem dX4_countAll_3 : decode cX4_countAll 3 = .ok (.istore_n 2, 1) := by decide +kernel
theorem dX4_countAll_4 : decode cX4_countAll 4 = .ok (.iload_n 2, 1) := by decide +kernel
theorem dX4_countAll_5 : decode cX4_countAll 5 = .ok (.iconst 5, 1) := by decide +kernel
theorem dX4_countAll_6 : decode cX4_countAll 6 = .ok (.if_icmp .gt 18, 3) := by decide +kernel
theorem dX4_countAll_9 : decode cX4_countAll 9 = .ok (.iload_n 1, 1) := by decide +kernel
theorem dX4_countAll_10 : decode cX4_countAll 10 = .ok (.aload_n 0, 1) := by decide +kernel
theorem dX4_countAll_11 : decode cX4_countAll 11 = .ok (.getfield 18, 3) := by decide +kernel
theorem dX4_countAll_14 : decode cX4_countAll 14 = .ok (.iload_n 2, 1) := by decide +kernel
theorem dX4_countAll_15 : decode cX4_countAll 15 = .ok (.iaload, 1) := by decide +kernel
theorem dX4_countAll_16 : decode cX4_countAll 16 = .ok (.iadd, 1) := by decide +kernel
theorem dX4_countAll_17 : decode cX4_countAll 17 = .ok (.istore_n 1, 1) := by decide +kernel
theorem dX4_countAll_18 : decode cX4_countAll 18 = .ok (.iinc 2 1, 3) := by decide +kernel
theorem dX4_countAll_21 : decode cX4_countAll 21 = .ok (.goto (-17), 3) := by decide +kernel
theorem dX4_countAll_24 : decode cX4_countAll 24 = .ok (.iload_n 1, 1) := by decide +kernel
theorem dX4_countAll_25 : decode cX4_countAll 25 = .ok (.ireturn, 1) := by decide +kernel
theorem dX4_degreeDigits_0 : decode cX4_degreeDigits 0 = .ok (.iconst 0, 1) := by decide +kernel
theorem dX4_degreeDigits_1 : decode cX4_degreeDigits 1 = .ok (.istore_n 1, 1) := by decide +kernel
theorem dX4_degreeDigits_2 : decode cX4_degreeDigits 2 = .ok (.iconst 1, 1) := by decide +kernel
theorem dX4_degreeDigits_3 : decode cX4_degreeDigits 3 = .ok (.istore_n 2, 1) := by decide +kernel
theorem dX4_degreeDigits_4 : decode cX4_degreeDigits 4 = .ok (.iload_n 2, 1) := by decide +kernel
theorem dX4_degreeDigits_5 : decode cX4_degreeDigits 5 = .ok (.iconst 5, 1) := by decide +kernel
theorem dX4_degreeDigits_6 : decode cX4_degreeDigits 6 = .ok (.if_icmp .gt 34, 3) := by decide +kernel
theorem dX4_degreeDigits_9 : decode cX4_degreeDigits 9 = .ok (.iconst 0, 1) := by decide +kernel
theorem dX4_degreeDigits_10 : decode cX4_degreeDigits 10 = .ok (.istore_n 3, 1) := by decide +kernel
theorem dX4_degreeDigits_11 : decode cX4_degreeDigits 11 = .ok (.iload_n 3, 1) := by decide +kernel
theorem dX4_degreeDigits_12 : decode cX4_degreeDigits 12 = .ok (.aload_n 0, 1) := by decide +kernel
theorem dX4_degreeDigits_13 : decode cX4_degreeDigits 13 = .ok (.getfield 18, 3) := by decide +kernel
theorem dX4_degreeDigits_16 : decode cX4_degreeDigits 16 = .ok (.iload_n 2, 1) := by decide +kernel
theorem dX4_degreeDigits_17 : decode cX4_degreeDigits 17 = .ok (.iaload, 1) := by decide +kernel
theorem dX4_degreeDigits_18 : decode cX4_degreeDigits 18 = .ok (.if_icmp .ge 16, 3) := by decide +kernel
theorem dX4_degreeDigits_21 : decode cX4_degreeDigits 21 = .ok (.bipush 10, 2) := by decide +kernel
theorem dX4_degreeDigits_23 : decode cX4_degreeDigits 23 = .ok (.iload_n 1, 1) := by decide +kernel
theorem dX4_degreeDigits_24 : decode cX4_degreeDigits 24 = .ok (.imul, 1) := by decide +kernel
theorem dX4_degreeDigits_25 : decode cX4_degreeDigits 25 = .ok (.iload_n 2, 1) := by decide +kernel
theorem dX4_degreeDigits_26 : decode cX4_degreeDigits 26 = .ok (.iadd, 1) := by decide +kernel
theorem dX4_degreeDigits_27 : decode cX4_degreeDigits 27 = .ok (.istore_n 1, 1) := by decide +kernel
theorem dX4_degreeDigits_28 : decode cX4_degreeDigits 28 = .ok (.iinc 3 1, 3) := by decide +kernel
theorem dX4_degreeDigits_31 : decode cX4_degreeDigits 31 = .ok (.goto (-20), 3) := by decide +kernel
theorem dX4_degreeDigits_34 : decode cX4_degreeDigits 34 = .ok (.iinc 2 1, 3) := by decide +kernel
theorem dX4_degreeDigits_37 : decode cX4_degreeDigits 37 = .ok (.goto (-33), 3) := by decide +kernel
theorem dX4_degreeDigits_40 : decode cX4_degreeDigits 40 = .ok (.iload_n 1, 1) := by decide +kernel
theorem dX4_degreeDigits_41 : decode cX4_degreeDigits 41 = .ok (.ireturn, 1) := by decide +kernel
theorem dX4_degreeSums_0 : decode cX4_degreeSums 0 = .ok (.iconst 1, 1) := by decide +kernel
theorem dX4_degreeSums_1 : decode cX4_degreeSums 1 = .ok (.istore_n 1, 1) := by decide +kernel
theorem dX4_degreeSums_2 : decode cX4_degreeSums 2 = .ok (.iconst 1, 1) := by decide +kernel
theorem dX4_degreeSums_3 : decode cX4_degreeSums 3 = .ok (.istore_n 2, 1) := by decide +kernel
theorem dX4_degreeSums_4 : decode cX4_degreeSums 4 = .ok (.iload_n 2, 1) := by decide +kernel
theorem dX4_degreeSums_5 : decode cX4_degreeSums 5 = .ok (.iconst 5, 1) := by decide +kernel
theorem dX4_degreeSums_6 : decode cX4_degreeSums 6 = .ok (.if_icmp .gt 33, 3) := by decide +kernel
theorem dX4_degreeSums_9 : decode cX4_degreeSums 9 = .ok (.iconst 0, 1) := by decide +kernel
theorem dX4_degreeSums_10 : decode cX4_degreeSums 10 = .ok (.istore_n 3, 1) := by decide +kernel
theorem dX4_degreeSums_11 : decode cX4_degreeSums 11 = .ok (.iload_n 3, 1) := by decide +kernel
theorem dX4_degreeSums_12 : decode cX4_degreeSums 12 = .ok (.aload_n 0, 1) := by decide +kernel
theorem dX4_degreeSums_13 : decode cX4_degreeSums 13 = .ok (.getfield 18, 3) := by decide +kernel
theorem dX4_degreeSums_16 : decode cX4_degreeSums 16 = .ok (.iload_n 2, 1) := by decide +kernel
theorem dX4_degreeSums_17 : decode cX4_degreeSums 17 = .ok (.iaload, 1) := by decide +kernel
theorem dX4_degreeSums_18 : decode cX4_degreeSums 18 = .ok (.if_icmp .ge 15, 3) := by decide +kernel
theorem dX4_degreeSums_21 : decode cX4_degreeSums 21 = .ok (.iload_n 1, 1) := by decide +kernel
theorem dX4_degreeSums_22 : decode cX4_degreeSums 22 = .ok (.iload_n 1, 1) := by decide +kernel
theorem dX4_degreeSums_23 : decode cX4_degreeSums 23 = .ok (.iload_n 2, 1) := by decide +kernel
theorem dX4_degreeSums_24 : decode cX4_degreeSums 24 = .ok (.ishl, 1) := by decide +kernel
theorem dX4_degreeSums_25 : decode cX4_degreeSums 25 = .ok (.ior, 1) := by decide +kernel
theorem dX4_degreeSums_26 : decode cX4_degreeSums 26 = .ok (.istore_n 1, 1) := by decide +kernel
theorem dX4_degreeSums_27 : decode cX4_degreeSums 27 = .ok (.iinc 3 1, 3) := by decide +kernel
theorem dX4_degreeSums_30 : decode cX4_degreeSums 30 = .ok (.goto (-19), 3) := by decide +kernel
theorem dX4_degreeSums_33 : decode cX4_degreeSums 33 = .ok (.iinc 2 1, 3) := by decide +kernel
theorem dX4_degreeSums_36 : decode cX4_degreeSums 36 = .ok (.goto (-32), 3) := by decide +kernel
theorem dX4_degreeSums_39 : decode cX4_degreeSums 39 = .ok (.iload_n 1, 1) := by decide +kernel
theorem dX4_degreeSums_40 : decode cX4_degreeSums 40 = .ok (.ireturn, 1) := by decide +kernel
theorem dX5_init_0 : decode cX5_init 0 = .ok (.aload_n 0, 1) := by decide +kernel
theorem dX5_init_1 : decode cX5_init 1 = .ok (.invokespecial 3, 3) := by decide +kernel
theorem dX5_init_4 : decode cX5_init 4 = .ok (.aload_n 0, 1) := by decide +kernel
theorem dX5_init_5 : decode cX5_init 5 = .ok (.bipush 6, 2) := by decide +kernel
theorem dX5_init_7 : decode cX5_init 7 = .ok (.newarray .long, 2) := by decide +kernel
theorem dX5_init_9 : decode cX5_init 9 = .ok (.putfield 11, 3) := by decide +kernel
theorem dX5_init_12 : decode cX5_init 12 = .ok (.return_, 1) := by decide +kernel
theorem dX5_at_0 : decode cX5_at 0 = .ok (.iload_n 1, 1) := by decide +kernel
theorem dX5_at_1 : decode cX5_at 1 = .ok (.ifCond .lt 18, 3) := by decide +kernel
theorem dX5_at_4 : decode cX5_at 4 = .ok (.iload_n 1, 1) := by decide +kernel
theorem dX5_at_5 : decode cX5_at 5 = .ok (.bipush 6, 2) := by decide +kernel
theorem dX5_at_7 : decode cX5_at 7 = .ok (.if_icmp .ge 12, 3) := by decide +kernel
theorem dX5_at_10 : decode cX5_at 10 = .ok (.aload_n 0, 1) := by decide +kernel
theorem dX5_at_11 : decode cX5_at 11 = .ok (.getfield 11, 3) := by decide +kernel
theorem dX5_at_14 : decode cX5_at 14 = .ok (.iload_n 1, 1) := by decide +kernel
theorem dX5_at_15 : decode cX5_at 15 = .ok (.laload, 1) := by decide +kernel
theorem dX5_at_16 : decode cX5_at 16 = .ok (.goto 4, 3) := by decide +kernel
theorem dX5_at_19 : decode cX5_at 19 = .ok (.lconst 0, 1) := by decide +kernel
theorem dX5_at_20 : decode cX5_at 20 = .ok (.lreturn, 1) := by decide +kernel
theorem dX5_set_0 : decode cX5_set 0 = .ok (.iload_n 1, 1) := by decide +kernel
theorem dX5_set_1 : decode cX5_set 1 = .ok (.ifCond .lt 16, 3) := by decide +kernel
theorem dX5_set_4 : decode cX5_set 4 = .ok (.iload_n 1, 1) := by decide +kernel
theorem dX5_set_5 : decode cX5_set 5 = .ok (.bipush 6, 2) := by decide +kernel
theorem dX5_set_7 : decode cX5_set 7 = .ok (.if_icmp .ge 10, 3) := by decide +kernel
theorem dX5_set_10 : decode cX5_set 10 = .ok (.aload_n 0, 1) := by decide +kernel
theorem dX5_set_11 : decode cX5_set 11 = .ok (.getfield 11, 3) := by decide +kernel
theorem dX5_set_14 : decode cX5_set 14 = .ok (.iload_n 1, 1) := by decide +kernel
theorem dX5_set_15 : decode cX5_set 15 = .ok (.lload_n 2, 1) := by decide +kernel
theorem dX5_set_16 : decode cX5_set 16 = .ok (.lastore, 1) := by decide +kernel
theorem dX5_set_17 : decode cX5_set 17 = .ok (.return_, 1) := by decide +kernel
theorem dX5_setConstant_0 : decode cX5_setConstant 0 = .ok (.aload_n 0, 1) := by decide +kernel
theorem dX5_setConstant_1 : decode cX5_setConstant 1 = .ok (.getfield 11, 3) := by decide +kernel
theorem dX5_setConstant_4 : decode cX5_setConstant 4 = .ok (.iconst 0, 1) := by decide +kernel
theorem dX5_setConstant_5 : decode cX5_setConstant 5 = .ok (.lload_n 1, 1) := by decide +kernel
theorem dX5_setConstant_6 : decode cX5_setConstant 6 = .ok (.lastore, 1) := by decide +kernel
theorem dX5_setConstant_7 : decode cX5_setConstant 7 = .ok (.iconst 1, 1) := by decide +kernel
theorem dX5_setConstant_8 : decode cX5_setConstant 8 = .ok (.istore_n 3, 1) := by decide +kernel
theorem dX5_setConstant_9 : decode cX5_setConstant 9 = .ok (.iload_n 3, 1) := by decide +kernel
theorem dX5_setConstant_10 : decode cX5_setConstant 10 = .ok (.bipush 6, 2) := by decide +kernel
theorem dX5_setConstant_12 : decode cX5_setConstant 12 = .ok (.if_icmp .ge 16, 3) := by decide +kernel
theorem dX5_setConstant_15 : decode cX5_setConstant 15 = .ok (.aload_n 0, 1) := by decide +kernel
theorem dX5_setConstant_16 : decode cX5_setConstant 16 = .ok (.getfield 11, 3) := by decide +kernel
theorem dX5_setConstant_19 : decode cX5_setConstant 19 = .ok (.iload_n 3, 1) := by decide +kernel
theorem dX5_setConstant_20 : decode cX5_setConstant 20 = .ok (.lconst 0, 1) := by decide +kernel
theorem dX5_setConstant_21 : decode cX5_setConstant 21 = .ok (.lastore, 1) := by decide +kernel
theorem dX5_setConstant_22 : decode cX5_setConstant 22 = .ok (.iinc 3 1, 3) := by decide +kernel
theorem dX5_setConstant_25 : decode cX5_setConstant 25 = .ok (.goto (-16), 3) := by decide +kernel
theorem dX5_setConstant_28 : decode cX5_setConstant 28 = .ok (.return_, 1) := by decide +kernel
theorem dX5_setQuadratic_0 : decode cX5_setQuadratic 0 = .ok (.aload_n 0, 1) := by decide +kernel
theorem dX5_setQuadratic_1 : decode cX5_setQuadratic 1 = .ok (.lload 5, 2) := by decide +kernel
theorem dX5_setQuadratic_3 : decode cX5_setQuadratic 3 = .ok (.invokevirtual 15, 3) := by decide +kernel
theorem dX5_setQuadratic_6 : decode cX5_setQuadratic 6 = .ok (.aload_n 0, 1) := by decide +kernel
theorem dX5_setQuadratic_7 : decode cX5_setQuadratic 7 = .ok (.getfield 11, 3) := by decide +kernel
theorem dX5_setQuadratic_10 : decode cX5_setQuadratic 10 = .ok (.iconst 1, 1) := by decide +kernel
theorem dX5_setQuadratic_11 : decode cX5_setQuadratic 11 = .ok (.lload_n 3, 1) := by decide +kernel
theorem dX5_setQuadratic_12 : decode cX5_setQuadratic 12 = .ok (.lastore, 1) := by decide +kernel
theorem dX5_setQuadratic_13 : decode cX5_setQuadratic 13 = .ok (.aload_n 0, 1) := by decide +kernel
theorem dX5_setQuadratic_14 : decode cX5_setQuadratic 14 = .ok (.getfield 11, 3) := by decide +kernel
theorem dX5_setQuadratic_17 : decode cX5_setQuadratic 17 = .ok (.iconst 2, 1) := by decide +kernel
theorem dX5_setQuadratic_18 : decode cX5_setQuadratic 18 = .ok (.lload_n 1, 1) := by decide +kernel
theorem dX5_setQuadratic_19 : decode cX5_setQuadratic 19 = .ok (.lastore, 1) := by decide +kernel
theorem dX5_setQuadratic_20 : decode cX5_setQuadratic 20 = .ok (.return_, 1) := by decide +kernel
theorem dX5_copyFrom_0 : decode cX5_copyFrom 0 = .ok (.iconst 0, 1) := by decide +kernel
theorem dX5_copyFrom_1 : decode cX5_copyFrom 1 = .ok (.istore_n 2, 1) := by decide +kernel
theorem dX5_copyFrom_2 : decode cX5_copyFrom 2 = .ok (.iload_n 2, 1) := by decide +kernel
theorem dX5_copyFrom_3 : decode cX5_copyFrom 3 = .ok (.bipush 6, 2) := by decide +kernel
theorem dX5_copyFrom_5 : decode cX5_copyFrom 5 = .ok (.if_icmp .ge 21, 3) := by decide +kernel
theorem dX5_copyFrom_8 : decode cX5_copyFrom 8 = .ok (.aload_n 0, 1) := by decide +kernel
theorem dX5_copyFrom_9 : decode cX5_copyFrom 9 = .ok (.getfield 11, 3) := by decide +kernel
theorem dX5_copyFrom_12 : decode cX5_copyFrom 12 = .ok (.iload_n 2, 1) := by decide +kernel
theorem dX5_copyFrom_13 : decode cX5_copyFrom 13 = .ok (.aload_n 1, 1) := by decide +kernel
theorem dX5_copyFrom_14 : decode cX5_copyFrom 14 = .ok (.getfield 11, 3) := by decide +kernel
theorem dX5_copyFrom_17 : decode cX5_copyFrom 17 = .ok (.iload_n 2, 1) := by decide +kernel
theorem dX5_copyFrom_18 : decode cX5_copyFrom 18 = .ok (.laload, 1) := by decide +kernel
theorem dX5_copyFrom_19 : decode cX5_copyFrom 19 = .ok (.lastore, 1) := by decide +kernel
theorem dX5_copyFrom_20 : decode cX5_copyFrom 20 = .ok (.iinc 2 1, 3) := by decide +kernel
theorem dX5_copyFrom_23 : decode cX5_copyFrom 23 = .ok (.goto (-21), 3) := by decide +kernel
theorem dX5_copyFrom_26 : decode cX5_copyFrom 26 = .ok (.return_, 1) := by decide +kernel
theorem dX5_degree_0 : decode cX5_degree 0 = .ok (.iconst 5, 1) := by decide +kernel
theorem dX5_degree_1 : decode cX5_degree 1 = .ok (.istore_n 1, 1) := by decide +kernel
theorem dX5_degree_2 : decode cX5_degree 2 = .ok (.iload_n 1, 1) := by decide +kernel
theorem dX5_degree_3 : decode cX5_degree 3 = .ok (.ifCond .lt 22, 3) := by decide +kernel
theorem dX5_degree_6 : decode cX5_degree 6 = .ok (.aload_n 0, 1) := by decide +kernel
theorem dX5_degree_7 : decode cX5_degree 7 = .ok (.getfield 11, 3) := by decide +kernel
theorem dX5_degree_10 : decode cX5_degree 10 = .ok (.iload_n 1, 1) := by decide +kernel
theorem dX5_degree_11 : decode cX5_degree 11 = .ok (.laload, 1) := by decide +kernel
theorem dX5_degree_12 : decode cX5_degree 12 = .ok (.lconst 0, 1) := by decide +kernel
theorem dX5_degree_13 : decode cX5_degree 13 = .ok (.lcmp, 1) := by decide +kernel
theorem dX5_degree_14 : decode cX5_degree 14 = .ok (.ifCond .eq 5, 3) := by decide +kernel
theorem dX5_degree_17 : decode cX5_degree 17 = .ok (.iload_n 1, 1) := by decide +kernel
theorem dX5_degree_18 : decode cX5_degree 18 = .ok (.ireturn, 1) := by decide +kernel
theorem dX5_degree_19 : decode cX5_degree 19 = .ok (.iinc 1 (-1), 3) := by decide +kernel
theorem dX5_degree_22 : decode cX5_degree 22 = .ok (.goto (-20), 3) := by decide +kernel
theorem dX5_degree_25 : decode cX5_degree 25 = .ok (.iconst (-1), 1) := by decide +kernel
theorem dX5_degree_26 : decode cX5_degree 26 = .ok (.ireturn, 1) := by decide +kernel
theorem dX5_isInRange_0 : decode cX5_isInRange 0 = .ok (.iconst 0, 1) := by decide +kernel
theorem dX5_isInRange_1 : decode cX5_isInRange 1 = .ok (.istore_n 1, 1) := by decide +kernel
theorem dX5_isInRange_2 : decode cX5_isInRange 2 = .ok (.iload_n 1, 1) := by decide +kernel
theorem dX5_isInRange_3 : decode cX5_isInRange 3 = .ok (.bipush 6, 2) := by decide +kernel
theorem dX5_isInRange_5 : decode cX5_isInRange 5 = .ok (.if_icmp .ge 37, 3) := by decide +kernel
theorem dX5_isInRange_8 : decode cX5_isInRange 8 = .ok (.aload_n 0, 1) := by decide +kernel
theorem dX5_isInRange_9 : decode cX5_isInRange 9 = .ok (.getfield 11, 3) := by decide +kernel
theorem dX5_isInRange_12 : decode cX5_isInRange 12 = .ok (.iload_n 1, 1) := by decide +kernel
theorem dX5_isInRange_13 : decode cX5_isInRange 13 = .ok (.laload, 1) := by decide +kernel
theorem dX5_isInRange_14 : decode cX5_isInRange 14 = .ok (.ldc2_w 19, 3) := by decide +kernel
theorem dX5_isInRange_17 : decode cX5_isInRange 17 = .ok (.lcmp, 1) := by decide +kernel
theorem dX5_isInRange_18 : decode cX5_isInRange 18 = .ok (.ifCond .lt 16, 3) := by decide +kernel
theorem dX5_isInRange_21 : decode cX5_isInRange 21 = .ok (.aload_n 0, 1) := by decide +kernel
theorem dX5_isInRange_22 : decode cX5_isInRange 22 = .ok (.getfield 11, 3) := by decide +kernel
theorem dX5_isInRange_25 : decode cX5_isInRange 25 = .ok (.iload_n 1, 1) := by decide +kernel
theorem dX5_isInRange_26 : decode cX5_isInRange 26 = .ok (.laload, 1) := by decide +kernel
theorem dX5_isInRange_27 : decode cX5_isInRange 27 = .ok (.ldc2_w 21, 3) := by decide +kernel
theorem dX5_isInRange_30 : decode cX5_isInRange 30 = .ok (.lcmp, 1) := by decide +kernel
theorem dX5_isInRange_31 : decode cX5_isInRange 31 = .ok (.ifCond .le 5, 3) := by decide +kernel
theorem dX5_isInRange_34 : decode cX5_isInRange 34 = .ok (.iconst 0, 1) := by decide +kernel
theorem dX5_isInRange_35 : decode cX5_isInRange 35 = .ok (.ireturn, 1) := by decide +kernel
theorem dX5_isInRange_36 : decode cX5_isInRange 36 = .ok (.iinc 1 1, 3) := by decide +kernel
theorem dX5_isInRange_39 : decode cX5_isInRange 39 = .ok (.goto (-37), 3) := by decide +kernel
theorem dX5_isInRange_42 : decode cX5_isInRange 42 = .ok (.iconst 1, 1) := by decide +kernel
theorem dX5_isInRange_43 : decode cX5_isInRange 43 = .ok (.ireturn, 1) := by decide +kernel
theorem dX5_commonDivisor_0 : decode cX5_commonDivisor 0 = .ok (.lload_n 0, 1) := by decide +kernel
theorem dX5_commonDivisor_1 : decode cX5_commonDivisor 1 = .ok (.invokestatic 23, 3) := by decide +kernel
theorem dX5_commonDivisor_4 : decode cX5_commonDivisor 4 = .ok (.lstore 4, 2) := by decide +kernel
theorem dX5_commonDivisor_6 : decode cX5_commonDivisor 6 = .ok (.lload_n 2, 1) := by decide +kernel
theorem dX5_commonDivisor_7 : decode cX5_commonDivisor 7 = .ok (.invokestatic 23, 3) := by decide +kernel
theorem dX5_commonDivisor_10 : decode cX5_commonDivisor 10 = .ok (.lstore 6, 2) := by decide +kernel
theorem dX5_commonDivisor_12 : decode cX5_commonDivisor 12 = .ok (.iconst 0, 1) := by decide +kernel
theorem dX5_commonDivisor_13 : decode cX5_commonDivisor 13 = .ok (.istore 8, 2) := by decide +kernel
theorem dX5_commonDivisor_15 : decode cX5_commonDivisor 15 = .ok (.iload 8, 2) := by decide +kernel
theorem dX5_commonDivisor_17 : decode cX5_commonDivisor 17 = .ok (.bipush 100, 2) := by decide +kernel
theorem dX5_commonDivisor_19 : decode cX5_commonDivisor 19 = .ok (.if_icmp .ge 31, 3) := by decide +kernel
theorem dX5_commonDivisor_22 : decode cX5_commonDivisor 22 = .ok (.lload 6, 2) := by decide +kernel
theorem dX5_commonDivisor_24 : decode cX5_commonDivisor 24 = .ok (.lconst 0, 1) := by decide +kernel
theorem dX5_commonDivisor_25 : decode cX5_commonDivisor 25 = .ok (.lcmp, 1) := by decide +kernel
theorem dX5_commonDivisor_26 : decode cX5_commonDivisor 26 = .ok (.ifCond .eq 24, 3) := by decide +kernel
theorem dX5_commonDivisor_29 : decode cX5_commonDivisor 29 = .ok (.lload 4, 2) := by decide +kernel
theorem dX5_commonDivisor_31 : decode cX5_commonDivisor 31 = .ok (.lload 6, 2) := by decide +kernel
theorem dX5_commonDivisor_33 : decode cX5_commonDivisor 33 = .ok (.lrem, 1) := by decide +kernel
theorem dX5_commonDivisor_34 : decode cX5_commonDivisor 34 = .ok (.lstore 9, 2) := by decide +kernel
theorem dX5_commonDivisor_36 : decode cX5_commonDivisor 36 = .ok (.lload 6, 2) := by decide +kernel
theorem dX5_commonDivisor_38 : decode cX5_commonDivisor 38 = .ok (.lstore 4, 2) := by decide +kernel
theorem dX5_commonDivisor_40 : decode cX5_commonDivisor 40 = .ok (.lload 9, 2) := by decide +kernel
theorem dX5_commonDivisor_42 : decode cX5_commonDivisor 42 = .ok (.lstore 6, 2) := by decide +kernel
theorem dX5_commonDivisor_44 : decode cX5_commonDivisor 44 = .ok (.iinc 8 1, 3) := by decide +kernel
theorem dX5_commonDivisor_47 : decode cX5_commonDivisor 47 = .ok (.goto (-32), 3) := by decide +kernel
theorem dX5_commonDivisor_50 : decode cX5_commonDivisor 50 = .ok (.lload 4, 2) := by decide +kernel
theorem dX5_commonDivisor_52 : decode cX5_commonDivisor 52 = .ok (.lreturn, 1) := by decide +kernel
theorem dX5_content_0 : decode cX5_content 0 = .ok (.lconst 0, 1) := by decide +kernel
theorem dX5_content_1 : decode cX5_content 1 = .ok (.lstore_n 1, 1) := by decide +kernel
theorem dX5_content_2 : decode cX5_content 2 = .ok (.iconst 0, 1) := by decide +kernel
theorem dX5_content_3 : decode cX5_content 3 = .ok (.istore_n 3, 1) := by decide +kernel
theorem dX5_content_4 : decode cX5_content 4 = .ok (.iload_n 3, 1) := by decide +kernel
theorem dX5_content_5 : decode cX5_content 5 = .ok (.bipush 6, 2) := by decide +kernel
theorem dX5_content_7 : decode cX5_content 7 = .ok (.if_icmp .ge 20, 3) := by decide +kernel
theorem dX5_content_10 : decode cX5_content 10 = .ok (.lload_n 1, 1) := by decide +kernel
theorem dX5_content_11 : decode cX5_content 11 = .ok (.aload_n 0, 1) := by decide +kernel
theorem dX5_content_12 : decode cX5_content 12 = .ok (.getfield 11, 3) := by decide +kernel
theorem dX5_content_15 : decode cX5_content 15 = .ok (.iload_n 3, 1) := by decide +kernel
theorem dX5_content_16 : decode cX5_content 16 = .ok (.laload, 1) := by decide +kernel
theorem dX5_content_17 : decode cX5_content 17 = .ok (.invokestatic 29, 3) := by decide +kernel
theorem dX5_content_20 : decode cX5_content 20 = .ok (.lstore_n 1, 1) := by decide +kernel
theorem dX5_content_21 : decode cX5_content 21 = .ok (.iinc 3 1, 3) := by decide +kernel
theorem dX5_content_24 : decode cX5_content 24 = .ok (.goto (-20), 3) := by decide +kernel
theorem dX5_content_27 : decode cX5_content 27 = .ok (.aload_n 0, 1) := by decide +kernel
theorem dX5_content_28 : decode cX5_content 28 = .ok (.aload_n 0, 1) := by decide +kernel
theorem dX5_content_29 : decode cX5_content 29 = .ok (.invokevirtual 33, 3) := by decide +kernel
theorem dX5_content_32 : decode cX5_content 32 = .ok (.invokevirtual 37, 3) := by decide +kernel
theorem dX5_content_35 : decode cX5_content 35 = .ok (.lconst 0, 1) := by decide +kernel
theorem dX5_content_36 : decode cX5_content 36 = .ok (.lcmp, 1) := by decide +kernel
theorem dX5_content_37 : decode cX5_content 37 = .ok (.ifCond .ge 8, 3) := by decide +kernel
theorem dX5_content_40 : decode cX5_content 40 = .ok (.lload_n 1, 1) := by decide +kernel
theorem dX5_content_41 : decode cX5_content 41 = .ok (.lneg, 1) := by decide +kernel
theorem dX5_content_42 : decode cX5_content 42 = .ok (.goto 4, 3) := by decide +kernel
theorem dX5_content_45 : decode cX5_content 45 = .ok (.lload_n 1, 1) := by decide +kernel
theorem dX5_content_46 : decode cX5_content 46 = .ok (.lreturn, 1) := by decide +kernel
theorem dX5_divideBy_0 : decode cX5_divideBy 0 = .ok (.iconst 0, 1) := by decide +kernel
theorem dX5_divideBy_1 : decode cX5_divideBy 1 = .ok (.istore_n 3, 1) := by decide +kernel
theorem dX5_divideBy_2 : decode cX5_divideBy 2 = .ok (.iload_n 3, 1) := by decide +kernel
theorem dX5_divideBy_3 : decode cX5_divideBy 3 = .ok (.bipush 6, 2) := by decide +kernel
theorem dX5_divideBy_5 : decode cX5_divideBy 5 = .ok (.if_icmp .ge 25, 3) := by decide +kernel
theorem dX5_divideBy_8 : decode cX5_divideBy 8 = .ok (.lload_n 1, 1) := by decide +kernel
theorem dX5_divideBy_9 : decode cX5_divideBy 9 = .ok (.lconst 0, 1) := by decide +kernel
theorem dX5_divideBy_10 : decode cX5_divideBy 10 = .ok (.lcmp, 1) := by decide +kernel
theorem dX5_divideBy_11 : decode cX5_divideBy 11 = .ok (.ifCond .eq 19, 3) := by decide +kernel
theorem dX5_divideBy_14 : decode cX5_divideBy 14 = .ok (.aload_n 0, 1) := by decide +kernel
theorem dX5_divideBy_15 : decode cX5_divideBy 15 = .ok (.getfield 11, 3) := by decide +kernel
theorem dX5_divideBy_18 : decode cX5_divideBy 18 = .ok (.iload_n 3, 1) := by decide +kernel
theorem dX5_divideBy_19 : decode cX5_divideBy 19 = .ok (.dup2, 1) := by decide +kernel
theorem dX5_divideBy_20 : decode cX5_divideBy 20 = .ok (.laload, 1) := by decide +kernel
theorem dX5_divideBy_21 : decode cX5_divideBy 21 = .ok (.lload_n 1, 1) := by decide +kernel
theorem dX5_divideBy_22 : decode cX5_divideBy 22 = .ok (.ldiv, 1) := by decide +kernel
theorem dX5_divideBy_23 : decode cX5_divideBy 23 = .ok (.lastore, 1) := by decide +kernel
theorem dX5_divideBy_24 : decode cX5_divideBy 24 = .ok (.iinc 3 1, 3) := by decide +kernel
theorem dX5_divideBy_27 : decode cX5_divideBy 27 = .ok (.goto (-25), 3) := by decide +kernel
theorem dX5_divideBy_30 : decode cX5_divideBy 30 = .ok (.return_, 1) := by decide +kernel
theorem dX5_valueAt_0 : decode cX5_valueAt 0 = .ok (.lconst 0, 1) := by decide +kernel
theorem dX5_valueAt_1 : decode cX5_valueAt 1 = .ok (.lstore_n 2, 1) := by decide +kernel
theorem dX5_valueAt_2 : decode cX5_valueAt 2 = .ok (.iconst 5, 1) := by decide +kernel
theorem dX5_valueAt_3 : decode cX5_valueAt 3 = .ok (.istore 4, 2) := by decide +kernel
theorem dX5_valueAt_5 : decode cX5_valueAt 5 = .ok (.iload 4, 2) := by decide +kernel
theorem dX5_valueAt_7 : decode cX5_valueAt 7 = .ok (.ifCond .lt 22, 3) := by decide +kernel
theorem dX5_valueAt_10 : decode cX5_valueAt 10 = .ok (.lload_n 2, 1) := by decide +kernel
theorem dX5_valueAt_11 : decode cX5_valueAt 11 = .ok (.iload_n 1, 1) := by decide +kernel
theorem dX5_valueAt_12 : decode cX5_valueAt 12 = .ok (.i2l, 1) := by decide +kernel
theorem dX5_valueAt_13 : decode cX5_valueAt 13 = .ok (.lmul, 1) := by decide +kernel
theorem dX5_valueAt_14 : decode cX5_valueAt 14 = .ok (.aload_n 0, 1) := by decide +kernel
theorem dX5_valueAt_15 : decode cX5_valueAt 15 = .ok (.getfield 11, 3) := by decide +kernel
theorem dX5_valueAt_18 : decode cX5_valueAt 18 = .ok (.iload 4, 2) := by decide +kernel
theorem dX5_valueAt_20 : decode cX5_valueAt 20 = .ok (.laload, 1) := by decide +kernel
theorem dX5_valueAt_21 : decode cX5_valueAt 21 = .ok (.ladd, 1) := by decide +kernel
theorem dX5_valueAt_22 : decode cX5_valueAt 22 = .ok (.lstore_n 2, 1) := by decide +kernel
theorem dX5_valueAt_23 : decode cX5_valueAt 23 = .ok (.iinc 4 (-1), 3) := by decide +kernel
theorem dX5_valueAt_26 : decode cX5_valueAt 26 = .ok (.goto (-21), 3) := by decide +kernel
theorem dX5_valueAt_29 : decode cX5_valueAt 29 = .ok (.lload_n 2, 1) := by decide +kernel
theorem dX5_valueAt_30 : decode cX5_valueAt 30 = .ok (.lreturn, 1) := by decide +kernel
theorem dX5_sumFrom_0 : decode cX5_sumFrom 0 = .ok (.iconst 0, 1) := by decide +kernel
theorem dX5_sumFrom_1 : decode cX5_sumFrom 1 = .ok (.istore_n 3, 1) := by decide +kernel
theorem dX5_sumFrom_2 : decode cX5_sumFrom 2 = .ok (.iload_n 3, 1) := by decide +kernel
theorem dX5_sumFrom_3 : decode cX5_sumFrom 3 = .ok (.bipush 6, 2) := by decide +kernel
theorem dX5_sumFrom_5 : decode cX5_sumFrom 5 = .ok (.if_icmp .ge 28, 3) := by decide +kernel
theorem dX5_sumFrom_8 : decode cX5_sumFrom 8 = .ok (.aload_n 0, 1) := by decide +kernel
theorem dX5_sumFrom_9 : decode cX5_sumFrom 9 = .ok (.getfield 11, 3) := by decide +kernel
theorem dX5_sumFrom_12 : decode cX5_sumFrom 12 = .ok (.iload_n 3, 1) := by decide +kernel
theorem dX5_sumFrom_13 : decode cX5_sumFrom 13 = .ok (.aload_n 1, 1) := by decide +kernel
theorem dX5_sumFrom_14 : decode cX5_sumFrom 14 = .ok (.getfield 11, 3) := by decide +kernel
theorem dX5_sumFrom_17 : decode cX5_sumFrom 17 = .ok (.iload_n 3, 1) := by decide +kernel
theorem dX5_sumFrom_18 : decode cX5_sumFrom 18 = .ok (.laload, 1) := by decide +kernel
theorem dX5_sumFrom_19 : decode cX5_sumFrom 19 = .ok (.aload_n 2, 1) := by decide +kernel
theorem dX5_sumFrom_20 : decode cX5_sumFrom 20 = .ok (.getfield 11, 3) := by decide +kernel
theorem dX5_sumFrom_23 : decode cX5_sumFrom 23 = .ok (.iload_n 3, 1) := by decide +kernel
theorem dX5_sumFrom_24 : decode cX5_sumFrom 24 = .ok (.laload, 1) := by decide +kernel
theorem dX5_sumFrom_25 : decode cX5_sumFrom 25 = .ok (.ladd, 1) := by decide +kernel
theorem dX5_sumFrom_26 : decode cX5_sumFrom 26 = .ok (.lastore, 1) := by decide +kernel
theorem dX5_sumFrom_27 : decode cX5_sumFrom 27 = .ok (.iinc 3 1, 3) := by decide +kernel
theorem dX5_sumFrom_30 : decode cX5_sumFrom 30 = .ok (.goto (-28), 3) := by decide +kernel
theorem dX5_sumFrom_33 : decode cX5_sumFrom 33 = .ok (.return_, 1) := by decide +kernel
theorem dX5_derivativeFrom_0 : decode cX5_derivativeFrom 0 = .ok (.iconst 0, 1) := by decide +kernel
theorem dX5_derivativeFrom_1 : decode cX5_derivativeFrom 1 = .ok (.istore_n 2, 1) := by decide +kernel
theorem dX5_derivativeFrom_2 : decode cX5_derivativeFrom 2 = .ok (.iload_n 2, 1) := by decide +kernel
theorem dX5_derivativeFrom_3 : decode cX5_derivativeFrom 3 = .ok (.bipush 6, 2) := by decide +kernel
theorem dX5_derivativeFrom_5 : decode cX5_derivativeFrom 5 = .ok (.if_icmp .ge 27, 3) := by decide +kernel
theorem dX5_derivativeFrom_8 : decode cX5_derivativeFrom 8 = .ok (.aload_n 0, 1) := by decide +kernel
theorem dX5_derivativeFrom_9 : decode cX5_derivativeFrom 9 = .ok (.getfield 11, 3) := by decide +kernel
theorem dX5_derivativeFrom_12 : decode cX5_derivativeFrom 12 = .ok (.iload_n 2, 1) := by decide +kernel
theorem dX5_derivativeFrom_13 : decode cX5_derivativeFrom 13 = .ok (.iload_n 2, 1) := by decide +kernel
theorem dX5_derivativeFrom_14 : decode cX5_derivativeFrom 14 = .ok (.iconst 1, 1) := by decide +kernel
theorem dX5_derivativeFrom_15 : decode cX5_derivativeFrom 15 = .ok (.iadd, 1) := by decide +kernel
theorem dX5_derivativeFrom_16 : decode cX5_derivativeFrom 16 = .ok (.i2l, 1) := by decide +kernel
theorem dX5_derivativeFrom_17 : decode cX5_derivativeFrom 17 = .ok (.aload_n 1, 1) := by decide +kernel
theorem dX5_derivativeFrom_18 : decode cX5_derivativeFrom 18 = .ok (.iload_n 2, 1) := by decide +kernel
theorem dX5_derivativeFrom_19 : decode cX5_derivativeFrom 19 = .ok (.iconst 1, 1) := by decide +kernel
theorem dX5_derivativeFrom_20 : decode cX5_derivativeFrom 20 = .ok (.iadd, 1) := by decide +kernel
theorem dX5_derivativeFrom_21 : decode cX5_derivativeFrom 21 = .ok (.invokevirtual 37, 3) := by decide +kernel
theorem dX5_derivativeFrom_24 : decode cX5_derivativeFrom 24 = .ok (.lmul, 1) := by decide +kernel
theorem dX5_derivativeFrom_25 : decode cX5_derivativeFrom 25 = .ok (.lastore, 1) := by decide +kernel
theorem dX5_derivativeFrom_26 : decode cX5_derivativeFrom 26 = .ok (.iinc 2 1, 3) := by decide +kernel
theorem dX5_derivativeFrom_29 : decode cX5_derivativeFrom 29 = .ok (.goto (-27), 3) := by decide +kernel
theorem dX5_derivativeFrom_32 : decode cX5_derivativeFrom 32 = .ok (.return_, 1) := by decide +kernel
theorem dX5_reverseFrom_0 : decode cX5_reverseFrom 0 = .ok (.aload_n 1, 1) := by decide +kernel
theorem dX5_reverseFrom_1 : decode cX5_reverseFrom 1 = .ok (.invokevirtual 33, 3) := by decide +kernel
theorem dX5_reverseFrom_4 : decode cX5_reverseFrom 4 = .ok (.istore_n 2, 1) := by decide +kernel
theorem dX5_reverseFrom_5 : decode cX5_reverseFrom 5 = .ok (.iconst 0, 1) := by decide +kernel
theorem dX5_reverseFrom_6 : decode cX5_reverseFrom 6 = .ok (.istore_n 3, 1) := by decide +kernel
theorem dX5_reverseFrom_7 : decode cX5_reverseFrom 7 = .ok (.iload_n 3, 1) := by decide +kernel
theorem dX5_reverseFrom_8 : decode cX5_reverseFrom 8 = .ok (.bipush 6, 2) := by decide +kernel
theorem dX5_reverseFrom_10 : decode cX5_reverseFrom 10 = .ok (.if_icmp .ge 22, 3) := by decide +kernel
theorem dX5_reverseFrom_13 : decode cX5_reverseFrom 13 = .ok (.aload_n 0, 1) := by decide +kernel
theorem dX5_reverseFrom_14 : decode cX5_reverseFrom 14 = .ok (.getfield 11, 3) := by decide +kernel
theorem dX5_reverseFrom_17 : decode cX5_reverseFrom 17 = .ok (.iload_n 3, 1) := by decide +kernel
theorem dX5_reverseFrom_18 : decode cX5_reverseFrom 18 = .ok (.aload_n 1, 1) := by decide +kernel
theorem dX5_reverseFrom_19 : decode cX5_reverseFrom 19 = .ok (.iload_n 2, 1) := by decide +kernel
theorem dX5_reverseFrom_20 : decode cX5_reverseFrom 20 = .ok (.iload_n 3, 1) := by decide +kernel
theorem dX5_reverseFrom_21 : decode cX5_reverseFrom 21 = .ok (.isub, 1) := by decide +kernel
theorem dX5_reverseFrom_22 : decode cX5_reverseFrom 22 = .ok (.invokevirtual 37, 3) := by decide +kernel
theorem dX5_reverseFrom_25 : decode cX5_reverseFrom 25 = .ok (.lastore, 1) := by decide +kernel
theorem dX5_reverseFrom_26 : decode cX5_reverseFrom 26 = .ok (.iinc 3 1, 3) := by decide +kernel
theorem dX5_reverseFrom_29 : decode cX5_reverseFrom 29 = .ok (.goto (-22), 3) := by decide +kernel
theorem dX5_reverseFrom_32 : decode cX5_reverseFrom 32 = .ok (.return_, 1) := by decide +kernel
theorem dX5_mirrorFrom_0 : decode cX5_mirrorFrom 0 = .ok (.iconst 0, 1) := by decide +kernel
theorem dX5_mirrorFrom_1 : decode cX5_mirrorFrom 1 = .ok (.istore_n 2, 1) := by decide +kernel
theorem dX5_mirrorFrom_2 : decode cX5_mirrorFrom 2 = .ok (.iload_n 2, 1) := by decide +kernel
theorem dX5_mirrorFrom_3 : decode cX5_mirrorFrom 3 = .ok (.bipush 6, 2) := by decide +kernel
theorem dX5_mirrorFrom_5 : decode cX5_mirrorFrom 5 = .ok (.if_icmp .ge 37, 3) := by decide +kernel
theorem dX5_mirrorFrom_8 : decode cX5_mirrorFrom 8 = .ok (.aload_n 0, 1) := by decide +kernel
theorem dX5_mirrorFrom_9 : decode cX5_mirrorFrom 9 = .ok (.getfield 11, 3) := by decide +kernel
theorem dX5_mirrorFrom_12 : decode cX5_mirrorFrom 12 = .ok (.iload_n 2, 1) := by decide +kernel
theorem dX5_mirrorFrom_13 : decode cX5_mirrorFrom 13 = .ok (.iload_n 2, 1) := by decide +kernel
theorem dX5_mirrorFrom_14 : decode cX5_mirrorFrom 14 = .ok (.iconst 2, 1) := by decide +kernel
theorem dX5_mirrorFrom_15 : decode cX5_mirrorFrom 15 = .ok (.irem, 1) := by decide +kernel
theorem dX5_mirrorFrom_16 : decode cX5_mirrorFrom 16 = .ok (.ifCond .ne 12, 3) := by decide +kernel
theorem dX5_mirrorFrom_19 : decode cX5_mirrorFrom 19 = .ok (.aload_n 1, 1) := by decide +kernel
theorem dX5_mirrorFrom_20 : decode cX5_mirrorFrom 20 = .ok (.getfield 11, 3) := by decide +kernel
theorem dX5_mirrorFrom_23 : decode cX5_mirrorFrom 23 = .ok (.iload_n 2, 1) := by decide +kernel
theorem dX5_mirrorFrom_24 : decode cX5_mirrorFrom 24 = .ok (.laload, 1) := by decide +kernel
theorem dX5_mirrorFrom_25 : decode cX5_mirrorFrom 25 = .ok (.goto 10, 3) := by decide +kernel
theorem dX5_mirrorFrom_28 : decode cX5_mirrorFrom 28 = .ok (.aload_n 1, 1) := by decide +kernel
theorem dX5_mirrorFrom_29 : decode cX5_mirrorFrom 29 = .ok (.getfield 11, 3) := by decide +kernel
theorem dX5_mirrorFrom_32 : decode cX5_mirrorFrom 32 = .ok (.iload_n 2, 1) := by decide +kernel
theorem dX5_mirrorFrom_33 : decode cX5_mirrorFrom 33 = .ok (.laload, 1) := by decide +kernel
theorem dX5_mirrorFrom_34 : decode cX5_mirrorFrom 34 = .ok (.lneg, 1) := by decide +kernel
theorem dX5_mirrorFrom_35 : decode cX5_mirrorFrom 35 = .ok (.lastore, 1) := by decide +kernel
theorem dX5_mirrorFrom_36 : decode cX5_mirrorFrom 36 = .ok (.iinc 2 1, 3) := by decide +kernel
theorem dX5_mirrorFrom_39 : decode cX5_mirrorFrom 39 = .ok (.goto (-37), 3) := by decide +kernel
theorem dX5_mirrorFrom_42 : decode cX5_mirrorFrom 42 = .ok (.return_, 1) := by decide +kernel
theorem dX5_shiftFrom_0 : decode cX5_shiftFrom 0 = .ok (.aload_n 0, 1) := by decide +kernel
theorem dX5_shiftFrom_1 : decode cX5_shiftFrom 1 = .ok (.lconst 0, 1) := by decide +kernel
theorem dX5_shiftFrom_2 : decode cX5_shiftFrom 2 = .ok (.invokevirtual 15, 3) := by decide +kernel
theorem dX5_shiftFrom_5 : decode cX5_shiftFrom 5 = .ok (.iconst 5, 1) := by decide +kernel
theorem dX5_shiftFrom_6 : decode cX5_shiftFrom 6 = .ok (.istore_n 3, 1) := by decide +kernel
theorem dX5_shiftFrom_7 : decode cX5_shiftFrom 7 = .ok (.iload_n 3, 1) := by decide +kernel
theorem dX5_shiftFrom_8 : decode cX5_shiftFrom 8 = .ok (.ifCond .lt 64, 3) := by decide +kernel
theorem dX5_shiftFrom_11 : decode cX5_shiftFrom 11 = .ok (.iconst 5, 1) := by decide +kernel
theorem dX5_shiftFrom_12 : decode cX5_shiftFrom 12 = .ok (.istore 4, 2) := by decide +kernel
theorem dX5_shiftFrom_14 : decode cX5_shiftFrom 14 = .ok (.iload 4, 2) := by decide +kernel
theorem dX5_shiftFrom_16 : decode cX5_shiftFrom 16 = .ok (.ifCond .lt 35, 3) := by decide +kernel
theorem dX5_shiftFrom_19 : decode cX5_shiftFrom 19 = .ok (.aload_n 0, 1) := by decide +kernel
theorem dX5_shiftFrom_20 : decode cX5_shiftFrom 20 = .ok (.getfield 11, 3) := by decide +kernel
theorem dX5_shiftFrom_23 : decode cX5_shiftFrom 23 = .ok (.iload 4, 2) := by decide +kernel
theorem dX5_shiftFrom_25 : decode cX5_shiftFrom 25 = .ok (.iload_n 2, 1) := by decide +kernel
theorem dX5_shiftFrom_26 : decode cX5_shiftFrom 26 = .ok (.i2l, 1) := by decide +kernel
theorem dX5_shiftFrom_27 : decode cX5_shiftFrom 27 = .ok (.aload_n 0, 1) := by decide +kernel
theorem dX5_shiftFrom_28 : decode cX5_shiftFrom 28 = .ok (.getfield 11, 3) := by decide +kernel
theorem dX5_shiftFrom_31 : decode cX5_shiftFrom 31 = .ok (.iload 4, 2) := by decide +kernel
theorem dX5_shiftFrom_33 : decode cX5_shiftFrom 33 = .ok (.laload, 1) := by decide +kernel
theorem dX5_shiftFrom_34 : decode cX5_shiftFrom 34 = .ok (.lmul, 1) := by decide +kernel
theorem dX5_shiftFrom_35 : decode cX5_shiftFrom 35 = .ok (.aload_n 0, 1) := by decide +kernel
theorem dX5_shiftFrom_36 : decode cX5_shiftFrom 36 = .ok (.iload 4, 2) := by decide +kernel
theorem dX5_shiftFrom_38 : decode cX5_shiftFrom 38 = .ok (.iconst 1, 1) := by decide +kernel
theorem dX5_shiftFrom_39 : decode cX5_shiftFrom 39 = .ok (.isub, 1) := by decide +kernel
theorem dX5_shiftFrom_40 : decode cX5_shiftFrom 40 = .ok (.invokevirtual 37, 3) := by decide +kernel
theorem dX5_shiftFrom_43 : decode cX5_shiftFrom 43 = .ok (.ladd, 1) := by decide +kernel
theorem dX5_shiftFrom_44 : decode cX5_shiftFrom 44 = .ok (.lastore, 1) := by decide +kernel
theorem dX5_shiftFrom_45 : decode cX5_shiftFrom 45 = .ok (.iinc 4 (-1), 3) := by decide +kernel
theorem dX5_shiftFrom_48 : decode cX5_shiftFrom 48 = .ok (.goto (-34), 3) := by decide +kernel
theorem dX5_shiftFrom_51 : decode cX5_shiftFrom 51 = .ok (.aload_n 0, 1) := by decide +kernel
theorem dX5_shiftFrom_52 : decode cX5_shiftFrom 52 = .ok (.getfield 11, 3) := by decide +kernel
theorem dX5_shiftFrom_55 : decode cX5_shiftFrom 55 = .ok (.iconst 0, 1) := by decide +kernel
theorem dX5_shiftFrom_56 : decode cX5_shiftFrom 56 = .ok (.dup2, 1) := by decide +kernel
theorem dX5_shiftFrom_57 : decode cX5_shiftFrom 57 = .ok (.laload, 1) := by decide +kernel
theorem dX5_shiftFrom_58 : decode cX5_shiftFrom 58 = .ok (.aload_n 1, 1) := by decide +kernel
theorem dX5_shiftFrom_59 : decode cX5_shiftFrom 59 = .ok (.getfield 11, 3) := by decide +kernel
theorem dX5_shiftFrom_62 : decode cX5_shiftFrom 62 = .ok (.iload_n 3, 1) := by decide +kernel
theorem dX5_shiftFrom_63 : decode cX5_shiftFrom 63 = .ok (.laload, 1) := by decide +kernel
theorem dX5_shiftFrom_64 : decode cX5_shiftFrom 64 = .ok (.ladd, 1) := by decide +kernel
theorem dX5_shiftFrom_65 : decode cX5_shiftFrom 65 = .ok (.lastore, 1) := by decide +kernel
theorem dX5_shiftFrom_66 : decode cX5_shiftFrom 66 = .ok (.iinc 3 (-1), 3) := by decide +kernel
theorem dX5_shiftFrom_69 : decode cX5_shiftFrom 69 = .ok (.goto (-62), 3) := by decide +kernel
theorem dX5_shiftFrom_72 : decode cX5_shiftFrom 72 = .ok (.return_, 1) := by decide +kernel
theorem dX5_multiplyBy_0 : decode cX5_multiplyBy 0 = .ok (.iconst 5, 1) := by decide +kernel
theorem dX5_multiplyBy_1 : decode cX5_multiplyBy 1 = .ok (.istore_n 2, 1) := by decide +kernel
theorem dX5_multiplyBy_2 : decode cX5_multiplyBy 2 = .ok (.iload_n 2, 1) := by decide +kernel
theorem dX5_multiplyBy_3 : decode cX5_multiplyBy 3 = .ok (.ifCond .lt 21, 3) := by decide +kernel
theorem dX5_multiplyBy_6 : decode cX5_multiplyBy 6 = .ok (.aload_n 0, 1) := by decide +kernel
theorem dX5_multiplyBy_7 : decode cX5_multiplyBy 7 = .ok (.getfield 11, 3) := by decide +kernel
theorem dX5_multiplyBy_10 : decode cX5_multiplyBy 10 = .ok (.iload_n 2, 1) := by decide +kernel
theorem dX5_multiplyBy_11 : decode cX5_multiplyBy 11 = .ok (.aload_n 0, 1) := by decide +kernel
theorem dX5_multiplyBy_12 : decode cX5_multiplyBy 12 = .ok (.aload_n 1, 1) := by decide +kernel
theorem dX5_multiplyBy_13 : decode cX5_multiplyBy 13 = .ok (.iload_n 2, 1) := by decide +kernel
theorem dX5_multiplyBy_14 : decode cX5_multiplyBy 14 = .ok (.invokevirtual 41, 3) := by decide +kernel
theorem dX5_multiplyBy_17 : decode cX5_multiplyBy 17 = .ok (.lastore, 1) := by decide +kernel
theorem dX5_multiplyBy_18 : decode cX5_multiplyBy 18 = .ok (.iinc 2 (-1), 3) := by decide +kernel
theorem dX5_multiplyBy_21 : decode cX5_multiplyBy 21 = .ok (.goto (-19), 3) := by decide +kernel
theorem dX5_multiplyBy_24 : decode cX5_multiplyBy 24 = .ok (.return_, 1) := by decide +kernel
theorem dX5_productAt_0 : decode cX5_productAt 0 = .ok (.lconst 0, 1) := by decide +kernel
theorem dX5_productAt_1 : decode cX5_productAt 1 = .ok (.lstore_n 3, 1) := by decide +kernel
theorem dX5_productAt_2 : decode cX5_productAt 2 = .ok (.iconst 0, 1) := by decide +kernel
theorem dX5_productAt_3 : decode cX5_productAt 3 = .ok (.istore 5, 2) := by decide +kernel
theorem dX5_productAt_5 : decode cX5_productAt 5 = .ok (.iload 5, 2) := by decide +kernel
theorem dX5_productAt_7 : decode cX5_productAt 7 = .ok (.bipush 6, 2) := by decide +kernel
theorem dX5_productAt_9 : decode cX5_productAt 9 = .ok (.if_icmp .ge 45, 3) := by decide +kernel
theorem dX5_productAt_12 : decode cX5_productAt 12 = .ok (.iload_n 2, 1) := by decide +kernel
theorem dX5_productAt_13 : decode cX5_productAt 13 = .ok (.iload 5, 2) := by decide +kernel
theorem dX5_productAt_15 : decode cX5_productAt 15 = .ok (.isub, 1) := by decide +kernel
theorem dX5_productAt_16 : decode cX5_productAt 16 = .ok (.istore 6, 2) := by decide +kernel
theorem dX5_productAt_18 : decode cX5_productAt 18 = .ok (.iload 6, 2) := by decide +kernel
theorem dX5_productAt_20 : decode cX5_productAt 20 = .ok (.ifCond .lt 28, 3) := by decide +kernel
theorem dX5_productAt_23 : decode cX5_productAt 23 = .ok (.iload 6, 2) := by decide +kernel
theorem dX5_productAt_25 : decode cX5_productAt 25 = .ok (.bipush 6, 2) := by decide +kernel
theorem dX5_productAt_27 : decode cX5_productAt 27 = .ok (.if_icmp .ge 21, 3) := by decide +kernel
theorem dX5_productAt_30 : decode cX5_productAt 30 = .ok (.lload_n 3, 1) := by decide +kernel
theorem dX5_productAt_31 : decode cX5_productAt 31 = .ok (.aload_n 0, 1) := by decide +kernel
theorem dX5_productAt_32 : decode cX5_productAt 32 = .ok (.getfield 11, 3) := by decide +kernel
theorem dX5_productAt_35 : decode cX5_productAt 35 = .ok (.iload 5, 2) := by decide +kernel
theorem dX5_productAt_37 : decode cX5_productAt 37 = .ok (.laload, 1) := by decide +kernel
theorem dX5_productAt_38 : decode cX5_productAt 38 = .ok (.aload_n 1, 1) := by decide +kernel
theorem dX5_productAt_39 : decode cX5_productAt 39 = .ok (.getfield 11, 3) := by decide +kernel
theorem dX5_productAt_42 : decode cX5_productAt 42 = .ok (.iload 6, 2) := by decide +kernel
theorem dX5_productAt_44 : decode cX5_productAt 44 = .ok (.laload, 1) := by decide +kernel
theorem dX5_productAt_45 : decode cX5_productAt 45 = .ok (.lmul, 1) := by decide +kernel
theorem dX5_productAt_46 : decode cX5_productAt 46 = .ok (.ladd, 1) := by decide +kernel
theorem dX5_productAt_47 : decode cX5_productAt 47 = .ok (.lstore_n 3, 1) := by decide +kernel
theorem dX5_productAt_48 : decode cX5_productAt 48 = .ok (.iinc 5 1, 3) := by decide +kernel
theorem dX5_productAt_51 : decode cX5_productAt 51 = .ok (.goto (-46), 3) := by decide +kernel
theorem dX5_productAt_54 : decode cX5_productAt 54 = .ok (.lload_n 3, 1) := by decide +kernel
theorem dX5_productAt_55 : decode cX5_productAt 55 = .ok (.lreturn, 1) := by decide +kernel
theorem dX5_becomeQuotient_0 : decode cX5_becomeQuotient 0 = .ok (.aload_n 0, 1) := by decide +kernel
theorem dX5_becomeQuotient_1 : decode cX5_becomeQuotient 1 = .ok (.lconst 0, 1) := by decide +kernel
theorem dX5_becomeQuotient_2 : decode cX5_becomeQuotient 2 = .ok (.invokevirtual 15, 3) := by decide +kernel
theorem dX5_becomeQuotient_5 : decode cX5_becomeQuotient 5 = .ok (.aload_n 2, 1) := by decide +kernel
theorem dX5_becomeQuotient_6 : decode cX5_becomeQuotient 6 = .ok (.invokevirtual 33, 3) := by decide +kernel
theorem dX5_becomeQuotient_9 : decode cX5_becomeQuotient 9 = .ok (.istore_n 3, 1) := by decide +kernel
theorem dX5_becomeQuotient_10 : decode cX5_becomeQuotient 10 = .ok (.aload_n 2, 1) := by decide +kernel
theorem dX5_becomeQuotient_11 : decode cX5_becomeQuotient 11 = .ok (.iload_n 3, 1) := by decide +kernel
theorem dX5_becomeQuotient_12 : decode cX5_becomeQuotient 12 = .ok (.invokevirtual 37, 3) := by decide +kernel
theorem dX5_becomeQuotient_15 : decode cX5_becomeQuotient 15 = .ok (.lstore 4, 2) := by decide +kernel
theorem dX5_becomeQuotient_17 : decode cX5_becomeQuotient 17 = .ok (.lload 4, 2) := by decide +kernel
theorem dX5_becomeQuotient_19 : decode cX5_becomeQuotient 19 = .ok (.lconst 0, 1) := by decide +kernel
theorem dX5_becomeQuotient_20 : decode cX5_becomeQuotient 20 = .ok (.lcmp, 1) := by decide +kernel
theorem dX5_becomeQuotient_21 : decode cX5_becomeQuotient 21 = .ok (.ifCond .ne 5, 3) := by decide +kernel
theorem dX5_becomeQuotient_24 : decode cX5_becomeQuotient 24 = .ok (.iconst 0, 1) := by decide +kernel
theorem dX5_becomeQuotient_25 : decode cX5_becomeQuotient 25 = .ok (.ireturn, 1) := by decide +kernel
theorem dX5_becomeQuotient_26 : decode cX5_becomeQuotient 26 = .ok (.aload_n 1, 1) := by decide +kernel
theorem dX5_becomeQuotient_27 : decode cX5_becomeQuotient 27 = .ok (.invokevirtual 33, 3) := by decide +kernel
theorem dX5_becomeQuotient_30 : decode cX5_becomeQuotient 30 = .ok (.iload_n 3, 1) := by decide +kernel
theorem dX5_becomeQuotient_31 : decode cX5_becomeQuotient 31 = .ok (.isub, 1) := by decide +kernel
theorem dX5_becomeQuotient_32 : decode cX5_becomeQuotient 32 = .ok (.istore 6, 2) := by decide +kernel
theorem dX5_becomeQuotient_34 : decode cX5_becomeQuotient 34 = .ok (.iload 6, 2) := by decide +kernel
theorem dX5_becomeQuotient_36 : decode cX5_becomeQuotient 36 = .ok (.ifCond .lt 52, 3) := by decide +kernel
theorem dX5_becomeQuotient_39 : decode cX5_becomeQuotient 39 = .ok (.aload_n 1, 1) := by decide +kernel
theorem dX5_becomeQuotient_40 : decode cX5_becomeQuotient 40 = .ok (.iload 6, 2) := by decide +kernel
theorem dX5_becomeQuotient_42 : decode cX5_becomeQuotient 42 = .ok (.iload_n 3, 1) := by decide +kernel
theorem dX5_becomeQuotient_43 : decode cX5_becomeQuotient 43 = .ok (.iadd, 1) := by decide +kernel
theorem dX5_becomeQuotient_44 : decode cX5_becomeQuotient 44 = .ok (.invokevirtual 37, 3) := by decide +kernel
theorem dX5_becomeQuotient_47 : decode cX5_becomeQuotient 47 = .ok (.aload_n 0, 1) := by decide +kernel
theorem dX5_becomeQuotient_48 : decode cX5_becomeQuotient 48 = .ok (.aload_n 2, 1) := by decide +kernel
theorem dX5_becomeQuotient_49 : decode cX5_becomeQuotient 49 = .ok (.iload 6, 2) := by decide +kernel
theorem dX5_becomeQuotient_51 : decode cX5_becomeQuotient 51 = .ok (.iload_n 3, 1) := by decide +kernel
theorem dX5_becomeQuotient_52 : decode cX5_becomeQuotient 52 = .ok (.iadd, 1) := by decide +kernel
theorem dX5_becomeQuotient_53 : decode cX5_becomeQuotient 53 = .ok (.invokevirtual 41, 3) := by decide +kernel
theorem dX5_becomeQuotient_56 : decode cX5_becomeQuotient 56 = .ok (.lsub, 1) := by decide +kernel
theorem dX5_becomeQuotient_57 : decode cX5_becomeQuotient 57 = .ok (.lstore 7, 2) := by decide +kernel
theorem dX5_becomeQuotient_59 : decode cX5_becomeQuotient 59 = .ok (.lload 7, 2) := by decide +kernel
theorem dX5_becomeQuotient_61 : decode cX5_becomeQuotient 61 = .ok (.lload 4, 2) := by decide +kernel
theorem dX5_becomeQuotient_63 : decode cX5_becomeQuotient 63 = .ok (.lrem, 1) := by decide +kernel
theorem dX5_becomeQuotient_64 : decode cX5_becomeQuotient 64 = .ok (.lconst 0, 1) := by decide +kernel
theorem dX5_becomeQuotient_65 : decode cX5_becomeQuotient 65 = .ok (.lcmp, 1) := by decide +kernel
theorem dX5_becomeQuotient_66 : decode cX5_becomeQuotient 66 = .ok (.ifCond .eq 5, 3) := by decide +kernel
theorem dX5_becomeQuotient_69 : decode cX5_becomeQuotient 69 = .ok (.iconst 0, 1) := by decide +kernel
theorem dX5_becomeQuotient_70 : decode cX5_becomeQuotient 70 = .ok (.ireturn, 1) := by decide +kernel
theorem dX5_becomeQuotient_71 : decode cX5_becomeQuotient 71 = .ok (.aload_n 0, 1) := by decide +kernel
theorem dX5_becomeQuotient_72 : decode cX5_becomeQuotient 72 = .ok (.iload 6, 2) := by decide +kernel
theorem dX5_becomeQuotient_74 : decode cX5_becomeQuotient 74 = .ok (.lload 7, 2) := by decide +kernel
theorem dX5_becomeQuotient_76 : decode cX5_becomeQuotient 76 = .ok (.lload 4, 2) := by decide +kernel
theorem dX5_becomeQuotient_78 : decode cX5_becomeQuotient 78 = .ok (.ldiv, 1) := by decide +kernel
theorem dX5_becomeQuotient_79 : decode cX5_becomeQuotient 79 = .ok (.invokevirtual 45, 3) := by decide +kernel
theorem dX5_becomeQuotient_82 : decode cX5_becomeQuotient 82 = .ok (.iinc 6 (-1), 3) := by decide +kernel
theorem dX5_becomeQuotient_85 : decode cX5_becomeQuotient 85 = .ok (.goto (-51), 3) := by decide +kernel
theorem dX5_becomeQuotient_88 : decode cX5_becomeQuotient 88 = .ok (.iconst 0, 1) := by decide +kernel
theorem dX5_becomeQuotient_89 : decode cX5_becomeQuotient 89 = .ok (.istore 6, 2) := by decide +kernel
theorem dX5_becomeQuotient_91 : decode cX5_becomeQuotient 91 = .ok (.iload 6, 2) := by decide +kernel
theorem dX5_becomeQuotient_93 : decode cX5_becomeQuotient 93 = .ok (.iload_n 3, 1) := by decide +kernel
theorem dX5_becomeQuotient_94 : decode cX5_becomeQuotient 94 = .ok (.if_icmp .ge 28, 3) := by decide +kernel
theorem dX5_becomeQuotient_97 : decode cX5_becomeQuotient 97 = .ok (.aload_n 1, 1) := by decide +kernel
theorem dX5_becomeQuotient_98 : decode cX5_becomeQuotient 98 = .ok (.iload 6, 2) := by decide +kernel
theorem dX5_becomeQuotient_100 : decode cX5_becomeQuotient 100 = .ok (.invokevirtual 37, 3) := by decide +kernel
theorem dX5_becomeQuotient_103 : decode cX5_becomeQuotient 103 = .ok (.aload_n 0, 1) := by decide +kernel
theorem dX5_becomeQuotient_104 : decode cX5_becomeQuotient 104 = .ok (.aload_n 2, 1) := by decide +kernel
theorem dX5_becomeQuotient_105 : decode cX5_becomeQuotient 105 = .ok (.iload 6, 2) := by decide +kernel
theorem dX5_becomeQuotient_107 : decode cX5_becomeQuotient 107 = .ok (.invokevirtual 41, 3) := by decide +kernel
theorem dX5_becomeQuotient_110 : decode cX5_becomeQuotient 110 = .ok (.lcmp, 1) := by decide +kernel
theorem dX5_becomeQuotient_111 : decode cX5_becomeQuotient 111 = .ok (.ifCond .eq 5, 3) := by decide +kernel
theorem dX5_becomeQuotient_114 : decode cX5_becomeQuotient 114 = .ok (.iconst 0, 1) := by decide +kernel
theorem dX5_becomeQuotient_115 : decode cX5_becomeQuotient 115 = .ok (.ireturn, 1) := by decide +kernel
theorem dX5_becomeQuotient_116 : decode cX5_becomeQuotient 116 = .ok (.iinc 6 1, 3) := by decide +kernel
theorem dX5_becomeQuotient_119 : decode cX5_becomeQuotient 119 = .ok (.goto (-28), 3) := by decide +kernel
theorem dX5_becomeQuotient_122 : decode cX5_becomeQuotient 122 = .ok (.iconst 1, 1) := by decide +kernel
theorem dX5_becomeQuotient_123 : decode cX5_becomeQuotient 123 = .ok (.ireturn, 1) := by decide +kernel
theorem dX5_isSame_0 : decode cX5_isSame 0 = .ok (.aload_n 0, 1) := by decide +kernel
theorem dX5_isSame_1 : decode cX5_isSame 1 = .ok (.aload_n 1, 1) := by decide +kernel
theorem dX5_isSame_2 : decode cX5_isSame 2 = .ok (.invokevirtual 49, 3) := by decide +kernel
theorem dX5_isSame_5 : decode cX5_isSame 5 = .ok (.ifCond .ne 7, 3) := by decide +kernel
theorem dX5_isSame_8 : decode cX5_isSame 8 = .ok (.iconst 1, 1) := by decide +kernel
theorem dX5_isSame_9 : decode cX5_isSame 9 = .ok (.goto 4, 3) := by decide +kernel
theorem dX5_isSame_12 : decode cX5_isSame 12 = .ok (.iconst 0, 1) := by decide +kernel
theorem dX5_isSame_13 : decode cX5_isSame 13 = .ok (.ireturn, 1) := by decide +kernel
theorem dX5_order_0 : decode cX5_order 0 = .ok (.iconst 5, 1) := by decide +kernel
theorem dX5_order_1 : decode cX5_order 1 = .ok (.istore_n 2, 1) := by decide +kernel
theorem dX5_order_2 : decode cX5_order 2 = .ok (.iload_n 2, 1) := by decide +kernel
theorem dX5_order_3 : decode cX5_order 3 = .ok (.ifCond .lt 47, 3) := by decide +kernel
theorem dX5_order_6 : decode cX5_order 6 = .ok (.aload_n 0, 1) := by decide +kernel
theorem dX5_order_7 : decode cX5_order 7 = .ok (.getfield 11, 3) := by decide +kernel
theorem dX5_order_10 : decode cX5_order 10 = .ok (.iload_n 2, 1) := by decide +kernel
theorem dX5_order_11 : decode cX5_order 11 = .ok (.laload, 1) := by decide +kernel
theorem dX5_order_12 : decode cX5_order 12 = .ok (.aload_n 1, 1) := by decide +kernel
theorem dX5_order_13 : decode cX5_order 13 = .ok (.getfield 11, 3) := by decide +kernel
theorem dX5_order_16 : decode cX5_order 16 = .ok (.iload_n 2, 1) := by decide +kernel
theorem dX5_order_17 : decode cX5_order 17 = .ok (.laload, 1) := by decide +kernel
theorem dX5_order_18 : decode cX5_order 18 = .ok (.lcmp, 1) := by decide +kernel
theorem dX5_order_19 : decode cX5_order 19 = .ok (.ifCond .eq 25, 3) := by decide +kernel
theorem dX5_order_22 : decode cX5_order 22 = .ok (.aload_n 0, 1) := by decide +kernel
theorem dX5_order_23 : decode cX5_order 23 = .ok (.getfield 11, 3) := by decide +kernel
theorem dX5_order_26 : decode cX5_order 26 = .ok (.iload_n 2, 1) := by decide +kernel
theorem dX5_order_27 : decode cX5_order 27 = .ok (.laload, 1) := by decide +kernel
theorem dX5_order_28 : decode cX5_order 28 = .ok (.aload_n 1, 1) := by decide +kernel
theorem dX5_order_29 : decode cX5_order 29 = .ok (.getfield 11, 3) := by decide +kernel
theorem dX5_order_32 : decode cX5_order 32 = .ok (.iload_n 2, 1) := by decide +kernel
theorem dX5_order_33 : decode cX5_order 33 = .ok (.laload, 1) := by decide +kernel
theorem dX5_order_34 : decode cX5_order 34 = .ok (.lcmp, 1) := by decide +kernel
theorem dX5_order_35 : decode cX5_order 35 = .ok (.ifCond .ge 7, 3) := by decide +kernel
theorem dX5_order_38 : decode cX5_order 38 = .ok (.iconst (-1), 1) := by decide +kernel
theorem dX5_order_39 : decode cX5_order 39 = .ok (.goto 4, 3) := by decide +kernel
theorem dX5_order_42 : decode cX5_order 42 = .ok (.iconst 1, 1) := by decide +kernel
theorem dX5_order_43 : decode cX5_order 43 = .ok (.ireturn, 1) := by decide +kernel
theorem dX5_order_44 : decode cX5_order 44 = .ok (.iinc 2 (-1), 3) := by decide +kernel
theorem dX5_order_47 : decode cX5_order 47 = .ok (.goto (-45), 3) := by decide +kernel
theorem dX5_order_50 : decode cX5_order 50 = .ok (.iconst 0, 1) := by decide +kernel
theorem dX5_order_51 : decode cX5_order 51 = .ok (.ireturn, 1) := by decide +kernel
theorem dX5_spell_0 : decode cX5_spell 0 = .ok (.aload_n 1, 1) := by decide +kernel
theorem dX5_spell_1 : decode cX5_spell 1 = .ok (.iconst 0, 1) := by decide +kernel
theorem dX5_spell_2 : decode cX5_spell 2 = .ok (.putfield 53, 3) := by decide +kernel
theorem dX5_spell_5 : decode cX5_spell 5 = .ok (.iconst 5, 1) := by decide +kernel
theorem dX5_spell_6 : decode cX5_spell 6 = .ok (.istore_n 2, 1) := by decide +kernel
theorem dX5_spell_7 : decode cX5_spell 7 = .ok (.iload_n 2, 1) := by decide +kernel
theorem dX5_spell_8 : decode cX5_spell 8 = .ok (.ifCond .lt 31, 3) := by decide +kernel
theorem dX5_spell_11 : decode cX5_spell 11 = .ok (.aload_n 0, 1) := by decide +kernel
theorem dX5_spell_12 : decode cX5_spell 12 = .ok (.getfield 11, 3) := by decide +kernel
theorem dX5_spell_15 : decode cX5_spell 15 = .ok (.iload_n 2, 1) := by decide +kernel
theorem dX5_spell_16 : decode cX5_spell 16 = .ok (.laload, 1) := by decide +kernel
theorem dX5_spell_17 : decode cX5_spell 17 = .ok (.lconst 0, 1) := by decide +kernel
theorem dX5_spell_18 : decode cX5_spell 18 = .ok (.lcmp, 1) := by decide +kernel
theorem dX5_spell_19 : decode cX5_spell 19 = .ok (.ifCond .eq 14, 3) := by decide +kernel
theorem dX5_spell_22 : decode cX5_spell 22 = .ok (.aload_n 1, 1) := by decide +kernel
theorem dX5_spell_23 : decode cX5_spell 23 = .ok (.aload_n 0, 1) := by decide +kernel
theorem dX5_spell_24 : decode cX5_spell 24 = .ok (.getfield 11, 3) := by decide +kernel
theorem dX5_spell_27 : decode cX5_spell 27 = .ok (.iload_n 2, 1) := by decide +kernel
theorem dX5_spell_28 : decode cX5_spell 28 = .ok (.laload, 1) := by decide +kernel
theorem dX5_spell_29 : decode cX5_spell 29 = .ok (.iload_n 2, 1) := by decide +kernel
theorem dX5_spell_30 : decode cX5_spell 30 = .ok (.invokestatic 59, 3) := by decide +kernel
theorem dX5_spell_33 : decode cX5_spell 33 = .ok (.iinc 2 (-1), 3) := by decide +kernel
theorem dX5_spell_36 : decode cX5_spell 36 = .ok (.goto (-29), 3) := by decide +kernel
theorem dX5_spell_39 : decode cX5_spell 39 = .ok (.return_, 1) := by decide +kernel
theorem dX5_spellTerm_0 : decode cX5_spellTerm 0 = .ok (.lload_n 1, 1) := by decide +kernel
theorem dX5_spellTerm_1 : decode cX5_spellTerm 1 = .ok (.lconst 0, 1) := by decide +kernel
theorem dX5_spellTerm_2 : decode cX5_spellTerm 2 = .ok (.lcmp, 1) := by decide +kernel
theorem dX5_spellTerm_3 : decode cX5_spellTerm 3 = .ok (.ifCond .ge 13, 3) := by decide +kernel
theorem dX5_spellTerm_6 : decode cX5_spellTerm 6 = .ok (.aload_n 0, 1) := by decide +kernel
theorem dX5_spellTerm_7 : decode cX5_spellTerm 7 = .ok (.bipush 45, 2) := by decide +kernel
theorem dX5_spellTerm_9 : decode cX5_spellTerm 9 = .ok (.invokevirtual 63, 3) := by decide +kernel
theorem dX5_spellTerm_12 : decode cX5_spellTerm 12 = .ok (.pop, 1) := by decide +kernel
theorem dX5_spellTerm_13 : decode cX5_spellTerm 13 = .ok (.goto 17, 3) := by decide +kernel
theorem dX5_spellTerm_16 : decode cX5_spellTerm 16 = .ok (.aload_n 0, 1) := by decide +kernel
theorem dX5_spellTerm_17 : decode cX5_spellTerm 17 = .ok (.getfield 53, 3) := by decide +kernel
theorem dX5_spellTerm_20 : decode cX5_spellTerm 20 = .ok (.ifCond .le 10, 3) := by decide +kernel
theorem dX5_spellTerm_23 : decode cX5_spellTerm 23 = .ok (.aload_n 0, 1) := by decide +kernel
theorem dX5_spellTerm_24 : decode cX5_spellTerm 24 = .ok (.bipush 43, 2) := by decide +kernel
theorem dX5_spellTerm_26 : decode cX5_spellTerm 26 = .ok (.invokevirtual 63, 3) := by decide +kernel
theorem dX5_spellTerm_29 : decode cX5_spellTerm 29 = .ok (.pop, 1) := by decide +kernel
theorem dX5_spellTerm_30 : decode cX5_spellTerm 30 = .ok (.lload_n 1, 1) := by decide +kernel
theorem dX5_spellTerm_31 : decode cX5_spellTerm 31 = .ok (.invokestatic 23, 3) := by decide +kernel
theorem dX5_spellTerm_34 : decode cX5_spellTerm 34 = .ok (.lstore 4, 2) := by decide +kernel
theorem dX5_spellTerm_36 : decode cX5_spellTerm 36 = .ok (.lload 4, 2) := by decide +kernel
theorem dX5_spellTerm_38 : decode cX5_spellTerm 38 = .ok (.lconst 1, 1) := by decide +kernel
theorem dX5_spellTerm_39 : decode cX5_spellTerm 39 = .ok (.lcmp, 1) := by decide +kernel
theorem dX5_spellTerm_40 : decode cX5_spellTerm 40 = .ok (.ifCond .ne 12, 3) := by decide +kernel
theorem dX5_spellTerm_43 : decode cX5_spellTerm 43 = .ok (.iload_n 3, 1) := by decide +kernel
theorem dX5_spellTerm_44 : decode cX5_spellTerm 44 = .ok (.iconst 1, 1) := by decide +kernel
theorem dX5_spellTerm_45 : decode cX5_spellTerm 45 = .ok (.if_icmp .lt 7, 3) := by decide +kernel
theorem dX5_spellTerm_48 : decode cX5_spellTerm 48 = .ok (.iconst 1, 1) := by decide +kernel
theorem dX5_spellTerm_49 : decode cX5_spellTerm 49 = .ok (.goto 4, 3) := by decide +kernel
theorem dX5_spellTerm_52 : decode cX5_spellTerm 52 = .ok (.iconst 0, 1) := by decide +kernel
theorem dX5_spellTerm_53 : decode cX5_spellTerm 53 = .ok (.istore 6, 2) := by decide +kernel
theorem dX5_spellTerm_55 : decode cX5_spellTerm 55 = .ok (.bipush 100, 2) := by decide +kernel
theorem dX5_spellTerm_57 : decode cX5_spellTerm 57 = .ok (.istore 7, 2) := by decide +kernel
theorem dX5_spellTerm_59 : decode cX5_spellTerm 59 = .ok (.iload 7, 2) := by decide +kernel
theorem dX5_spellTerm_61 : decode cX5_spellTerm 61 = .ok (.ifCond .le 46, 3) := by decide +kernel
theorem dX5_spellTerm_64 : decode cX5_spellTerm 64 = .ok (.iload 6, 2) := by decide +kernel
theorem dX5_spellTerm_66 : decode cX5_spellTerm 66 = .ok (.ifCond .ne 41, 3) := by decide +kernel
theorem dX5_spellTerm_69 : decode cX5_spellTerm 69 = .ok (.lload 4, 2) := by decide +kernel
theorem dX5_spellTerm_71 : decode cX5_spellTerm 71 = .ok (.iload 7, 2) := by decide +kernel
theorem dX5_spellTerm_73 : decode cX5_spellTerm 73 = .ok (.i2l, 1) := by decide +kernel
theorem dX5_spellTerm_74 : decode cX5_spellTerm 74 = .ok (.lcmp, 1) := by decide +kernel
theorem dX5_spellTerm_75 : decode cX5_spellTerm 75 = .ok (.ifCond .lt 22, 3) := by decide +kernel
theorem dX5_spellTerm_78 : decode cX5_spellTerm 78 = .ok (.aload_n 0, 1) := by decide +kernel
theorem dX5_spellTerm_79 : decode cX5_spellTerm 79 = .ok (.bipush 48, 2) := by decide +kernel
theorem dX5_spellTerm_81 : decode cX5_spellTerm 81 = .ok (.lload 4, 2) := by decide +kernel
theorem dX5_spellTerm_83 : decode cX5_spellTerm 83 = .ok (.iload 7, 2) := by decide +kernel
theorem dX5_spellTerm_85 : decode cX5_spellTerm 85 = .ok (.i2l, 1) := by decide +kernel
theorem dX5_spellTerm_86 : decode cX5_spellTerm 86 = .ok (.ldiv, 1) := by decide +kernel
theorem dX5_spellTerm_87 : decode cX5_spellTerm 87 = .ok (.ldc2_w 67, 3) := by decide +kernel
theorem dX5_spellTerm_90 : decode cX5_spellTerm 90 = .ok (.lrem, 1) := by decide +kernel
theorem dX5_spellTerm_91 : decode cX5_spellTerm 91 = .ok (.l2i, 1) := by decide +kernel
theorem dX5_spellTerm_92 : decode cX5_spellTerm 92 = .ok (.iadd, 1) := by decide +kernel
theorem dX5_spellTerm_93 : decode cX5_spellTerm 93 = .ok (.invokevirtual 63, 3) := by decide +kernel
theorem dX5_spellTerm_96 : decode cX5_spellTerm 96 = .ok (.pop, 1) := by decide +kernel
theorem dX5_spellTerm_97 : decode cX5_spellTerm 97 = .ok (.iload 7, 2) := by decide +kernel
theorem dX5_spellTerm_99 : decode cX5_spellTerm 99 = .ok (.bipush 10, 2) := by decide +kernel
theorem dX5_spellTerm_101 : decode cX5_spellTerm 101 = .ok (.idiv, 1) := by decide +kernel
theorem dX5_spellTerm_102 : decode cX5_spellTerm 102 = .ok (.istore 7, 2) := by decide +kernel
theorem dX5_spellTerm_104 : decode cX5_spellTerm 104 = .ok (.goto (-45), 3) := by decide +kernel
theorem dX5_spellTerm_107 : decode cX5_spellTerm 107 = .ok (.iload_n 3, 1) := by decide +kernel
theorem dX5_spellTerm_108 : decode cX5_spellTerm 108 = .ok (.iconst 1, 1) := by decide +kernel
theorem dX5_spellTerm_109 : decode cX5_spellTerm 109 = .ok (.if_icmp .lt 10, 3) := by decide +kernel
theorem dX5_spellTerm_112 : decode cX5_spellTerm 112 = .ok (.aload_n 0, 1) := by decide +kernel
theorem dX5_spellTerm_113 : decode cX5_spellTerm 113 = .ok (.bipush 120, 2) := by decide +kernel
theorem dX5_spellTerm_115 : decode cX5_spellTerm 115 = .ok (.invokevirtual 63, 3) := by decide +kernel
theorem dX5_spellTerm_118 : decode cX5_spellTerm 118 = .ok (.pop, 1) := by decide +kernel
theorem dX5_spellTerm_119 : decode cX5_spellTerm 119 = .ok (.iload_n 3, 1) := by decide +kernel
theorem dX5_spellTerm_120 : decode cX5_spellTerm 120 = .ok (.iconst 2, 1) := by decide +kernel
theorem dX5_spellTerm_121 : decode cX5_spellTerm 121 = .ok (.if_icmp .lt 19, 3) := by decide +kernel
theorem dX5_spellTerm_124 : decode cX5_spellTerm 124 = .ok (.aload_n 0, 1) := by decide +kernel
theorem dX5_spellTerm_125 : decode cX5_spellTerm 125 = .ok (.bipush 94, 2) := by decide +kernel
theorem dX5_spellTerm_127 : decode cX5_spellTerm 127 = .ok (.invokevirtual 63, 3) := by decide +kernel
theorem dX5_spellTerm_130 : decode cX5_spellTerm 130 = .ok (.pop, 1) := by decide +kernel
theorem dX5_spellTerm_131 : decode cX5_spellTerm 131 = .ok (.aload_n 0, 1) := by decide +kernel
theorem dX5_spellTerm_132 : decode cX5_spellTerm 132 = .ok (.bipush 48, 2) := by decide +kernel
theorem dX5_spellTerm_134 : decode cX5_spellTerm 134 = .ok (.iload_n 3, 1) := by decide +kernel
theorem dX5_spellTerm_135 : decode cX5_spellTerm 135 = .ok (.iadd, 1) := by decide +kernel
theorem dX5_spellTerm_136 : decode cX5_spellTerm 136 = .ok (.invokevirtual 63, 3) := by decide +kernel
theorem dX5_spellTerm_139 : decode cX5_spellTerm 139 = .ok (.pop, 1) := by decide +kernel
theorem dX5_spellTerm_140 : decode cX5_spellTerm 140 = .ok (.return_, 1) := by decide +kernel
theorem dX6_init_0 : decode cX6_init 0 = .ok (.aload_n 0, 1) := by decide +kernel
theorem dX6_init_1 : decode cX6_init 1 = .ok (.invokespecial 3, 3) := by decide +kernel
theorem dX6_init_4 : decode cX6_init 4 = .ok (.aload_n 0, 1) := by decide +kernel
theorem dX6_init_5 : decode cX6_init 5 = .ok (.new 9, 3) := by decide +kernel
theorem dX6_init_8 : decode cX6_init 8 = .ok (.dup, 1) := by decide +kernel
theorem dX6_init_9 : decode cX6_init 9 = .ok (.invokespecial 11, 3) := by decide +kernel
theorem dX6_init_12 : decode cX6_init 12 = .ok (.putfield 12, 3) := by decide +kernel
theorem dX6_init_15 : decode cX6_init 15 = .ok (.return_, 1) := by decide +kernel
theorem dX6_read_0 : decode cX6_read 0 = .ok (.aload_n 0, 1) := by decide +kernel
theorem dX6_read_1 : decode cX6_read 1 = .ok (.getfield 12, 3) := by decide +kernel
theorem dX6_read_4 : decode cX6_read 4 = .ok (.lconst 0, 1) := by decide +kernel
theorem dX6_read_5 : decode cX6_read 5 = .ok (.invokevirtual 18, 3) := by decide +kernel
theorem dX6_read_8 : decode cX6_read 8 = .ok (.aload_n 0, 1) := by decide +kernel
theorem dX6_read_9 : decode cX6_read 9 = .ok (.iconst 0, 1) := by decide +kernel
theorem dX6_read_10 : decode cX6_read 10 = .ok (.putfield 22, 3) := by decide +kernel
theorem dX6_read_13 : decode cX6_read 13 = .ok (.aload_n 0, 1) := by decide +kernel
theorem dX6_read_14 : decode cX6_read 14 = .ok (.iconst 1, 1) := by decide +kernel
theorem dX6_read_15 : decode cX6_read 15 = .ok (.putfield 26, 3) := by decide +kernel
theorem dX6_read_18 : decode cX6_read 18 = .ok (.aload_n 0, 1) := by decide +kernel
theorem dX6_read_19 : decode cX6_read 19 = .ok (.bipush 6, 2) := by decide +kernel
theorem dX6_read_21 : decode cX6_read 21 = .ok (.putfield 29, 3) := by decide +kernel
theorem dX6_read_24 : decode cX6_read 24 = .ok (.iconst 0, 1) := by decide +kernel
theorem dX6_read_25 : decode cX6_read 25 = .ok (.istore_n 2, 1) := by decide +kernel
theorem dX6_read_26 : decode cX6_read 26 = .ok (.iload_n 2, 1) := by decide +kernel
theorem dX6_read_27 : decode cX6_read 27 = .ok (.aload_n 1, 1) := by decide +kernel
theorem dX6_read_28 : decode cX6_read 28 = .ok (.getfield 32, 3) := by decide +kernel
theorem dX6_read_31 : decode cX6_read 31 = .ok (.if_icmp .ge 23, 3) := by decide +kernel
theorem dX6_read_34 : decode cX6_read 34 = .ok (.aload_n 0, 1) := by decide +kernel
theorem dX6_read_35 : decode cX6_read 35 = .ok (.aload_n 1, 1) := by decide +kernel
theorem dX6_read_36 : decode cX6_read 36 = .ok (.iload_n 2, 1) := by decide +kernel
theorem dX6_read_37 : decode cX6_read 37 = .ok (.invokevirtual 37, 3) := by decide +kernel
theorem dX6_read_40 : decode cX6_read 40 = .ok (.invokevirtual 41, 3) := by decide +kernel
theorem dX6_read_43 : decode cX6_read 43 = .ok (.ifCond .ne 5, 3) := by decide +kernel
theorem dX6_read_46 : decode cX6_read 46 = .ok (.iload_n 2, 1) := by decide +kernel
theorem dX6_read_47 : decode cX6_read 47 = .ok (.ireturn, 1) := by decide +kernel
theorem dX6_read_48 : decode cX6_read 48 = .ok (.iinc 2 1, 3) := by decide +kernel
theorem dX6_read_51 : decode cX6_read 51 = .ok (.goto (-25), 3) := by decide +kernel
theorem dX6_read_54 : decode cX6_read 54 = .ok (.aload_n 1, 1) := by decide +kernel
theorem dX6_read_55 : decode cX6_read 55 = .ok (.getfield 32, 3) := by decide +kernel
theorem dX6_read_58 : decode cX6_read 58 = .ok (.ireturn, 1) := by decide +kernel
theorem dX6_isComplete_0 : decode cX6_isComplete 0 = .ok (.aload_n 0, 1) := by decide +kernel
theorem dX6_isComplete_1 : decode cX6_isComplete 1 = .ok (.getfield 22, 3) := by decide +kernel
theorem dX6_isComplete_4 : decode cX6_isComplete 4 = .ok (.iconst 2, 1) := by decide +kernel
theorem dX6_isComplete_5 : decode cX6_isComplete 5 = .ok (.if_icmp .eq 21, 3) := by decide +kernel
theorem dX6_isComplete_8 : decode cX6_isComplete 8 = .ok (.aload_n 0, 1) := by decide +kernel
theorem dX6_isComplete_9 : decode cX6_isComplete 9 = .ok (.getfield 22, 3) := by decide +kernel
theorem dX6_isComplete_12 : decode cX6_isComplete 12 = .ok (.iconst 3, 1) := by decide +kernel
theorem dX6_isComplete_13 : decode cX6_isComplete 13 = .ok (.if_icmp .eq 13, 3) := by decide +kernel
theorem dX6_isComplete_16 : decode cX6_isComplete 16 = .ok (.aload_n 0, 1) := by decide +kernel
theorem dX6_isComplete_17 : decode cX6_isComplete 17 = .ok (.getfield 22, 3) := by decide +kernel
theorem dX6_isComplete_20 : decode cX6_isComplete 20 = .ok (.iconst 5, 1) := by decide +kernel
theorem dX6_isComplete_21 : decode cX6_isComplete 21 = .ok (.if_icmp .eq 5, 3) := by decide +kernel
theorem dX6_isComplete_24 : decode cX6_isComplete 24 = .ok (.iconst 0, 1) := by decide +kernel
theorem dX6_isComplete_25 : decode cX6_isComplete 25 = .ok (.ireturn, 1) := by decide +kernel
theorem dX6_isComplete_26 : decode cX6_isComplete 26 = .ok (.aload_n 0, 1) := by decide +kernel
theorem dX6_isComplete_27 : decode cX6_isComplete 27 = .ok (.invokevirtual 45, 3) := by decide +kernel
theorem dX6_isComplete_30 : decode cX6_isComplete 30 = .ok (.iconst 1, 1) := by decide +kernel
theorem dX6_isComplete_31 : decode cX6_isComplete 31 = .ok (.ireturn, 1) := by decide +kernel
theorem dX6_endTerm_0 : decode cX6_endTerm 0 = .ok (.aload_n 0, 1) := by decide +kernel
theorem dX6_endTerm_1 : decode cX6_endTerm 1 = .ok (.getfield 12, 3) := by decide +kernel
theorem dX6_endTerm_4 : decode cX6_endTerm 4 = .ok (.aload_n 0, 1) := by decide +kernel
theorem dX6_endTerm_5 : decode cX6_endTerm 5 = .ok (.getfield 48, 3) := by decide +kernel
theorem dX6_endTerm_8 : decode cX6_endTerm 8 = .ok (.aload_n 0, 1) := by decide +kernel
theorem dX6_endTerm_9 : decode cX6_endTerm 9 = .ok (.getfield 26, 3) := by decide +kernel
theorem dX6_endTerm_12 : decode cX6_endTerm 12 = .ok (.aload_n 0, 1) := by decide +kernel
theorem dX6_endTerm_13 : decode cX6_endTerm 13 = .ok (.getfield 51, 3) := by decide +kernel
theorem dX6_endTerm_16 : decode cX6_endTerm 16 = .ok (.imul, 1) := by decide +kernel
theorem dX6_endTerm_17 : decode cX6_endTerm 17 = .ok (.i2l, 1) := by decide +kernel
theorem dX6_endTerm_18 : decode cX6_endTerm 18 = .ok (.invokevirtual 54, 3) := by decide +kernel
theorem dX6_endTerm_21 : decode cX6_endTerm 21 = .ok (.aload_n 0, 1) := by decide +kernel
theorem dX6_endTerm_22 : decode cX6_endTerm 22 = .ok (.aload_n 0, 1) := by decide +kernel
theorem dX6_endTerm_23 : decode cX6_endTerm 23 = .ok (.getfield 48, 3) := by decide +kernel
theorem dX6_endTerm_26 : decode cX6_endTerm 26 = .ok (.putfield 29, 3) := by decide +kernel
theorem dX6_endTerm_29 : decode cX6_endTerm 29 = .ok (.return_, 1) := by decide +kernel
theorem dX6_accept_0 : decode cX6_accept 0 = .ok (.iload_n 1, 1) := by decide +kernel
theorem dX6_accept_1 : decode cX6_accept 1 = .ok (.bipush 43, 2) := by decide +kernel
theorem dX6_accept_3 : decode cX6_accept 3 = .ok (.if_icmp .eq 9, 3) := by decide +kernel
theorem dX6_accept_6 : decode cX6_accept 6 = .ok (.iload_n 1, 1) := by decide +kernel
theorem dX6_accept_7 : decode cX6_accept 7 = .ok (.bipush 45, 2) := by decide +kernel
theorem dX6_accept_9 : decode cX6_accept 9 = .ok (.if_icmp .ne 9, 3) := by decide +kernel
theorem dX6_accept_12 : decode cX6_accept 12 = .ok (.aload_n 0, 1) := by decide +kernel
theorem dX6_accept_13 : decode cX6_accept 13 = .ok (.iload_n 1, 1) := by decide +kernel
theorem dX6_accept_14 : decode cX6_accept 14 = .ok (.invokevirtual 58, 3) := by decide +kernel
theorem dX6_accept_17 : decode cX6_accept 17 = .ok (.ireturn, 1) := by decide +kernel
theorem dX6_accept_18 : decode cX6_accept 18 = .ok (.iload_n 1, 1) := by decide +kernel
theorem dX6_accept_19 : decode cX6_accept 19 = .ok (.bipush 120, 2) := by decide +kernel
theorem dX6_accept_21 : decode cX6_accept 21 = .ok (.if_icmp .ne 8, 3) := by decide +kernel
theorem dX6_accept_24 : decode cX6_accept 24 = .ok (.aload_n 0, 1) := by decide +kernel
theorem dX6_accept_25 : decode cX6_accept 25 = .ok (.invokevirtual 61, 3) := by decide +kernel
theorem dX6_accept_28 : decode cX6_accept 28 = .ok (.ireturn, 1) := by decide +kernel
theorem dX6_accept_29 : decode cX6_accept 29 = .ok (.iload_n 1, 1) := by decide +kernel
theorem dX6_accept_30 : decode cX6_accept 30 = .ok (.bipush 94, 2) := by decide +kernel
theorem dX6_accept_32 : decode cX6_accept 32 = .ok (.if_icmp .ne 8, 3) := by decide +kernel
theorem dX6_accept_35 : decode cX6_accept 35 = .ok (.aload_n 0, 1) := by decide +kernel
theorem dX6_accept_36 : decode cX6_accept 36 = .ok (.invokevirtual 65, 3) := by decide +kernel
theorem dX6_accept_39 : decode cX6_accept 39 = .ok (.ireturn, 1) := by decide +kernel
theorem dX6_accept_40 : decode cX6_accept 40 = .ok (.iload_n 1, 1) := by decide +kernel
theorem dX6_accept_41 : decode cX6_accept 41 = .ok (.bipush 48, 2) := by decide +kernel
theorem dX6_accept_43 : decode cX6_accept 43 = .ok (.if_icmp .lt 24, 3) := by decide +kernel
theorem dX6_accept_46 : decode cX6_accept 46 = .ok (.iload_n 1, 1) := by decide +kernel
theorem dX6_accept_47 : decode cX6_accept 47 = .ok (.bipush 57, 2) := by decide +kernel
theorem dX6_accept_49 : decode cX6_accept 49 = .ok (.if_icmp .gt 18, 3) := by decide +kernel
theorem dX6_accept_52 : decode cX6_accept 52 = .ok (.aload_n 0, 1) := by decide +kernel
theorem dX6_accept_53 : decode cX6_accept 53 = .ok (.iload_n 1, 1) := by decide +kernel
theorem dX6_accept_54 : decode cX6_accept 54 = .ok (.bipush 48, 2) := by decide +kernel
theorem dX6_accept_56 : decode cX6_accept 56 = .ok (.isub, 1) := by decide +kernel
theorem dX6_accept_57 : decode cX6_accept 57 = .ok (.invokevirtual 68, 3) := by decide +kernel
theorem dX6_accept_60 : decode cX6_accept 60 = .ok (.ifCond .eq 7, 3) := by decide +kernel
theorem dX6_accept_63 : decode cX6_accept 63 = .ok (.iconst 1, 1) := by decide +kernel
theorem dX6_accept_64 : decode cX6_accept 64 = .ok (.goto 4, 3) := by decide +kernel
theorem dX6_accept_67 : decode cX6_accept 67 = .ok (.iconst 0, 1) := by decide +kernel
theorem dX6_accept_68 : decode cX6_accept 68 = .ok (.ireturn, 1) := by decide +kernel
theorem dX6_acceptSign_0 : decode cX6_acceptSign 0 = .ok (.aload_n 0, 1) := by decide +kernel
theorem dX6_acceptSign_1 : decode cX6_acceptSign 1 = .ok (.getfield 22, 3) := by decide +kernel
theorem dX6_acceptSign_4 : decode cX6_acceptSign 4 = .ok (.iconst 3, 1) := by decide +kernel
theorem dX6_acceptSign_5 : decode cX6_acceptSign 5 = .ok (.if_icmp .eq 11, 3) := by decide +kernel
theorem dX6_acceptSign_8 : decode cX6_acceptSign 8 = .ok (.aload_n 0, 1) := by decide +kernel
theorem dX6_acceptSign_9 : decode cX6_acceptSign 9 = .ok (.getfield 22, 3) := by decide +kernel
theorem dX6_acceptSign_12 : decode cX6_acceptSign 12 = .ok (.iconst 5, 1) := by decide +kernel
theorem dX6_acceptSign_13 : decode cX6_acceptSign 13 = .ok (.if_icmp .ne 7, 3) := by decide +kernel
theorem dX6_acceptSign_16 : decode cX6_acceptSign 16 = .ok (.iconst 1, 1) := by decide +kernel
theorem dX6_acceptSign_17 : decode cX6_acceptSign 17 = .ok (.goto 4, 3) := by decide +kernel
theorem dX6_acceptSign_20 : decode cX6_acceptSign 20 = .ok (.iconst 0, 1) := by decide +kernel
theorem dX6_acceptSign_21 : decode cX6_acceptSign 21 = .ok (.istore_n 2, 1) := by decide +kernel
theorem dX6_acceptSign_22 : decode cX6_acceptSign 22 = .ok (.iload_n 2, 1) := by decide +kernel
theorem dX6_acceptSign_23 : decode cX6_acceptSign 23 = .ok (.ifCond .ne 18, 3) := by decide +kernel
theorem dX6_acceptSign_26 : decode cX6_acceptSign 26 = .ok (.aload_n 0, 1) := by decide +kernel
theorem dX6_acceptSign_27 : decode cX6_acceptSign 27 = .ok (.getfield 22, 3) := by decide +kernel
theorem dX6_acceptSign_30 : decode cX6_acceptSign 30 = .ok (.ifCond .ne 9, 3) := by decide +kernel
theorem dX6_acceptSign_33 : decode cX6_acceptSign 33 = .ok (.iload_n 1, 1) := by decide +kernel
theorem dX6_acceptSign_34 : decode cX6_acceptSign 34 = .ok (.bipush 43, 2) := by decide +kernel
theorem dX6_acceptSign_36 : decode cX6_acceptSign 36 = .ok (.if_icmp .ne 5, 3) := by decide +kernel
theorem dX6_acceptSign_39 : decode cX6_acceptSign 39 = .ok (.iconst 0, 1) := by decide +kernel
theorem dX6_acceptSign_40 : decode cX6_acceptSign 40 = .ok (.ireturn, 1) := by decide +kernel
theorem dX6_acceptSign_41 : decode cX6_acceptSign 41 = .ok (.iload_n 2, 1) := by decide +kernel
theorem dX6_acceptSign_42 : decode cX6_acceptSign 42 = .ok (.ifCond .eq 7, 3) := by decide +kernel
theorem dX6_acceptSign_45 : decode cX6_acceptSign 45 = .ok (.aload_n 0, 1) := by decide +kernel
theorem dX6_acceptSign_46 : decode cX6_acceptSign 46 = .ok (.invokevirtual 45, 3) := by decide +kernel
theorem dX6_acceptSign_49 : decode cX6_acceptSign 49 = .ok (.aload_n 0, 1) := by decide +kernel
theorem dX6_acceptSign_50 : decode cX6_acceptSign 50 = .ok (.iload_n 1, 1) := by decide +kernel
theorem dX6_acceptSign_51 : decode cX6_acceptSign 51 = .ok (.bipush 45, 2) := by decide +kernel
theorem dX6_acceptSign_53 : decode cX6_acceptSign 53 = .ok (.if_icmp .ne 7, 3) := by decide +kernel
theorem dX6_acceptSign_56 : decode cX6_acceptSign 56 = .ok (.iconst (-1), 1) := by decide +kernel
theorem dX6_acceptSign_57 : decode cX6_acceptSign 57 = .ok (.goto 4, 3) := by decide +kernel
theorem dX6_acceptSign_60 : decode cX6_acceptSign 60 = .ok (.iconst 1, 1) := by decide +kernel
theorem dX6_acceptSign_61 : decode cX6_acceptSign 61 = .ok (.putfield 26, 3) := by decide +kernel
theorem dX6_acceptSign_64 : decode cX6_acceptSign 64 = .ok (.aload_n 0, 1) := by decide +kernel
theorem dX6_acceptSign_65 : decode cX6_acceptSign 65 = .ok (.iconst 1, 1) := by decide +kernel
theorem dX6_acceptSign_66 : decode cX6_acceptSign 66 = .ok (.putfield 22, 3) := by decide +kernel
theorem dX6_acceptSign_69 : decode cX6_acceptSign 69 = .ok (.iconst 1, 1) := by decide +kernel
theorem dX6_acceptSign_70 : decode cX6_acceptSign 70 = .ok (.ireturn, 1) := by decide +kernel
theorem dX6_acceptLetter_0 : decode cX6_acceptLetter 0 = .ok (.aload_n 0, 1) := by decide +kernel
theorem dX6_acceptLetter_1 : decode cX6_acceptLetter 1 = .ok (.getfield 29, 3) := by decide +kernel
theorem dX6_acceptLetter_4 : decode cX6_acceptLetter 4 = .ok (.iconst 1, 1) := by decide +kernel
theorem dX6_acceptLetter_5 : decode cX6_acceptLetter 5 = .ok (.if_icmp .gt 5, 3) := by decide +kernel
theorem dX6_acceptLetter_8 : decode cX6_acceptLetter 8 = .ok (.iconst 0, 1) := by decide +kernel
theorem dX6_acceptLetter_9 : decode cX6_acceptLetter 9 = .ok (.ireturn, 1) := by decide +kernel
theorem dX6_acceptLetter_10 : decode cX6_acceptLetter 10 = .ok (.aload_n 0, 1) := by decide +kernel
theorem dX6_acceptLetter_11 : decode cX6_acceptLetter 11 = .ok (.getfield 22, 3) := by decide +kernel
theorem dX6_acceptLetter_14 : decode cX6_acceptLetter 14 = .ok (.ifCond .eq 11, 3) := by decide +kernel
theorem dX6_acceptLetter_17 : decode cX6_acceptLetter 17 = .ok (.aload_n 0, 1) := by decide +kernel
theorem dX6_acceptLetter_18 : decode cX6_acceptLetter 18 = .ok (.getfield 22, 3) := by decide +kernel
theorem dX6_acceptLetter_21 : decode cX6_acceptLetter 21 = .ok (.iconst 1, 1) := by decide +kernel
theorem dX6_acceptLetter_22 : decode cX6_acceptLetter 22 = .ok (.if_icmp .ne 11, 3) := by decide +kernel
theorem dX6_acceptLetter_25 : decode cX6_acceptLetter 25 = .ok (.aload_n 0, 1) := by decide +kernel
theorem dX6_acceptLetter_26 : decode cX6_acceptLetter 26 = .ok (.iconst 1, 1) := by decide +kernel
theorem dX6_acceptLetter_27 : decode cX6_acceptLetter 27 = .ok (.putfield 51, 3) := by decide +kernel
theorem dX6_acceptLetter_30 : decode cX6_acceptLetter 30 = .ok (.goto 21, 3) := by decide +kernel
theorem dX6_acceptLetter_33 : decode cX6_acceptLetter 33 = .ok (.aload_n 0, 1) := by decide +kernel
theorem dX6_acceptLetter_34 : decode cX6_acceptLetter 34 = .ok (.getfield 22, 3) := by decide +kernel
theorem dX6_acceptLetter_37 : decode cX6_acceptLetter 37 = .ok (.iconst 2, 1) := by decide +kernel
theorem dX6_acceptLetter_38 : decode cX6_acceptLetter 38 = .ok (.if_icmp .ne 11, 3) := by decide +kernel
theorem dX6_acceptLetter_41 : decode cX6_acceptLetter 41 = .ok (.aload_n 0, 1) := by decide +kernel
theorem dX6_acceptLetter_42 : decode cX6_acceptLetter 42 = .ok (.getfield 51, 3) := by decide +kernel
theorem dX6_acceptLetter_45 : decode cX6_acceptLetter 45 = .ok (.iconst 1, 1) := by decide +kernel
theorem dX6_acceptLetter_46 : decode cX6_acceptLetter 46 = .ok (.if_icmp .ne 5, 3) := by decide +kernel
theorem dX6_acceptLetter_49 : decode cX6_acceptLetter 49 = .ok (.iconst 0, 1) := by decide +kernel
theorem dX6_acceptLetter_50 : decode cX6_acceptLetter 50 = .ok (.ireturn, 1) := by decide +kernel
theorem dX6_acceptLetter_51 : decode cX6_acceptLetter 51 = .ok (.aload_n 0, 1) := by decide +kernel
theorem dX6_acceptLetter_52 : decode cX6_acceptLetter 52 = .ok (.iconst 1, 1) := by decide +kernel
theorem dX6_acceptLetter_53 : decode cX6_acceptLetter 53 = .ok (.putfield 48, 3) := by decide +kernel
theorem dX6_acceptLetter_56 : decode cX6_acceptLetter 56 = .ok (.aload_n 0, 1) := by decide +kernel
theorem dX6_acceptLetter_57 : decode cX6_acceptLetter 57 = .ok (.iconst 3, 1) := by decide +kernel
theorem dX6_acceptLetter_58 : decode cX6_acceptLetter 58 = .ok (.putfield 22, 3) := by decide +kernel
theorem dX6_acceptLetter_61 : decode cX6_acceptLetter 61 = .ok (.iconst 1, 1) := by decide +kernel
theorem dX6_acceptLetter_62 : decode cX6_acceptLetter 62 = .ok (.ireturn, 1) := by decide +kernel
theorem dX6_acceptCaret_0 : decode cX6_acceptCaret 0 = .ok (.aload_n 0, 1) := by decide +kernel
theorem dX6_acceptCaret_1 : decode cX6_acceptCaret 1 = .ok (.getfield 22, 3) := by decide +kernel
theorem dX6_acceptCaret_4 : decode cX6_acceptCaret 4 = .ok (.iconst 3, 1) := by decide +kernel
theorem dX6_acceptCaret_5 : decode cX6_acceptCaret 5 = .ok (.if_icmp .ne 11, 3) := by decide +kernel
theorem dX6_acceptCaret_8 : decode cX6_acceptCaret 8 = .ok (.aload_n 0, 1) := by decide +kernel
theorem dX6_acceptCaret_9 : decode cX6_acceptCaret 9 = .ok (.getfield 29, 3) := by decide +kernel
theorem dX6_acceptCaret_12 : decode cX6_acceptCaret 12 = .ok (.iconst 2, 1) := by decide +kernel
theorem dX6_acceptCaret_13 : decode cX6_acceptCaret 13 = .ok (.if_icmp .gt 5, 3) := by decide +kernel
theorem dX6_acceptCaret_16 : decode cX6_acceptCaret 16 = .ok (.iconst 0, 1) := by decide +kernel
theorem dX6_acceptCaret_17 : decode cX6_acceptCaret 17 = .ok (.ireturn, 1) := by decide +kernel
theorem dX6_acceptCaret_18 : decode cX6_acceptCaret 18 = .ok (.aload_n 0, 1) := by decide +kernel
theorem dX6_acceptCaret_19 : decode cX6_acceptCaret 19 = .ok (.iconst 4, 1) := by decide +kernel
theorem dX6_acceptCaret_20 : decode cX6_acceptCaret 20 = .ok (.putfield 22, 3) := by decide +kernel
theorem dX6_acceptCaret_23 : decode cX6_acceptCaret 23 = .ok (.iconst 1, 1) := by decide +kernel
theorem dX6_acceptCaret_24 : decode cX6_acceptCaret 24 = .ok (.ireturn, 1) := by decide +kernel
theorem dX6_acceptDigit_0 : decode cX6_acceptDigit 0 = .ok (.aload_n 0, 1) := by decide +kernel
theorem dX6_acceptDigit_1 : decode cX6_acceptDigit 1 = .ok (.getfield 22, 3) := by decide +kernel
theorem dX6_acceptDigit_4 : decode cX6_acceptDigit 4 = .ok (.iconst 4, 1) := by decide +kernel
theorem dX6_acceptDigit_5 : decode cX6_acceptDigit 5 = .ok (.if_icmp .ne 28, 3) := by decide +kernel
theorem dX6_acceptDigit_8 : decode cX6_acceptDigit 8 = .ok (.iload_n 1, 1) := by decide +kernel
theorem dX6_acceptDigit_9 : decode cX6_acceptDigit 9 = .ok (.iconst 2, 1) := by decide +kernel
theorem dX6_acceptDigit_10 : decode cX6_acceptDigit 10 = .ok (.if_icmp .lt 23, 3) := by decide +kernel
theorem dX6_acceptDigit_13 : decode cX6_acceptDigit 13 = .ok (.iload_n 1, 1) := by decide +kernel
theorem dX6_acceptDigit_14 : decode cX6_acceptDigit 14 = .ok (.aload_n 0, 1) := by decide +kernel
theorem dX6_acceptDigit_15 : decode cX6_acceptDigit 15 = .ok (.getfield 29, 3) := by decide +kernel
theorem dX6_acceptDigit_18 : decode cX6_acceptDigit 18 = .ok (.if_icmp .ge 15, 3) := by decide +kernel
theorem dX6_acceptDigit_21 : decode cX6_acceptDigit 21 = .ok (.aload_n 0, 1) := by decide +kernel
theorem dX6_acceptDigit_22 : decode cX6_acceptDigit 22 = .ok (.iload_n 1, 1) := by decide +kernel
theorem dX6_acceptDigit_23 : decode cX6_acceptDigit 23 = .ok (.putfield 48, 3) := by decide +kernel
theorem dX6_acceptDigit_26 : decode cX6_acceptDigit 26 = .ok (.aload_n 0, 1) := by decide +kernel
theorem dX6_acceptDigit_27 : decode cX6_acceptDigit 27 = .ok (.iconst 5, 1) := by decide +kernel
theorem dX6_acceptDigit_28 : decode cX6_acceptDigit 28 = .ok (.putfield 22, 3) := by decide +kernel
theorem dX6_acceptDigit_31 : decode cX6_acceptDigit 31 = .ok (.iconst 1, 1) := by decide +kernel
theorem dX6_acceptDigit_32 : decode cX6_acceptDigit 32 = .ok (.ireturn, 1) := by decide +kernel
theorem dX6_acceptDigit_33 : decode cX6_acceptDigit 33 = .ok (.aload_n 0, 1) := by decide +kernel
theorem dX6_acceptDigit_34 : decode cX6_acceptDigit 34 = .ok (.getfield 22, 3) := by decide +kernel
theorem dX6_acceptDigit_37 : decode cX6_acceptDigit 37 = .ok (.ifCond .eq 11, 3) := by decide +kernel
theorem dX6_acceptDigit_40 : decode cX6_acceptDigit 40 = .ok (.aload_n 0, 1) := by decide +kernel
theorem dX6_acceptDigit_41 : decode cX6_acceptDigit 41 = .ok (.getfield 22, 3) := by decide +kernel
theorem dX6_acceptDigit_44 : decode cX6_acceptDigit 44 = .ok (.iconst 1, 1) := by decide +kernel
theorem dX6_acceptDigit_45 : decode cX6_acceptDigit 45 = .ok (.if_icmp .ne 24, 3) := by decide +kernel
theorem dX6_acceptDigit_48 : decode cX6_acceptDigit 48 = .ok (.iload_n 1, 1) := by decide +kernel
theorem dX6_acceptDigit_49 : decode cX6_acceptDigit 49 = .ok (.ifCond .le 20, 3) := by decide +kernel
theorem dX6_acceptDigit_52 : decode cX6_acceptDigit 52 = .ok (.aload_n 0, 1) := by decide +kernel
theorem dX6_acceptDigit_53 : decode cX6_acceptDigit 53 = .ok (.iload_n 1, 1) := by decide +kernel
theorem dX6_acceptDigit_54 : decode cX6_acceptDigit 54 = .ok (.putfield 51, 3) := by decide +kernel
theorem dX6_acceptDigit_57 : decode cX6_acceptDigit 57 = .ok (.aload_n 0, 1) := by decide +kernel
theorem dX6_acceptDigit_58 : decode cX6_acceptDigit 58 = .ok (.iconst 0, 1) := by decide +kernel
theorem dX6_acceptDigit_59 : decode cX6_acceptDigit 59 = .ok (.putfield 48, 3) := by decide +kernel
theorem dX6_acceptDigit_62 : decode cX6_acceptDigit 62 = .ok (.aload_n 0, 1) := by decide +kernel
theorem dX6_acceptDigit_63 : decode cX6_acceptDigit 63 = .ok (.iconst 2, 1) := by decide +kernel
theorem dX6_acceptDigit_64 : decode cX6_acceptDigit 64 = .ok (.putfield 22, 3) := by decide +kernel
theorem dX6_acceptDigit_67 : decode cX6_acceptDigit 67 = .ok (.iconst 1, 1) := by decide +kernel
theorem dX6_acceptDigit_68 : decode cX6_acceptDigit 68 = .ok (.ireturn, 1) := by decide +kernel
theorem dX6_acceptDigit_69 : decode cX6_acceptDigit 69 = .ok (.aload_n 0, 1) := by decide +kernel
theorem dX6_acceptDigit_70 : decode cX6_acceptDigit 70 = .ok (.getfield 22, 3) := by decide +kernel
theorem dX6_acceptDigit_73 : decode cX6_acceptDigit 73 = .ok (.iconst 2, 1) := by decide +kernel
theorem dX6_acceptDigit_74 : decode cX6_acceptDigit 74 = .ok (.if_icmp .ne 33, 3) := by decide +kernel
theorem dX6_acceptDigit_77 : decode cX6_acceptDigit 77 = .ok (.bipush 10, 2) := by decide +kernel
theorem dX6_acceptDigit_79 : decode cX6_acceptDigit 79 = .ok (.aload_n 0, 1) := by decide +kernel
theorem dX6_acceptDigit_80 : decode cX6_acceptDigit 80 = .ok (.getfield 51, 3) := by decide +kernel
theorem dX6_acceptDigit_83 : decode cX6_acceptDigit 83 = .ok (.imul, 1) := by decide +kernel
theorem dX6_acceptDigit_84 : decode cX6_acceptDigit 84 = .ok (.iload_n 1, 1) := by decide +kernel
theorem dX6_acceptDigit_85 : decode cX6_acceptDigit 85 = .ok (.iadd, 1) := by decide +kernel
theorem dX6_acceptDigit_86 : decode cX6_acceptDigit 86 = .ok (.sipush 999, 3) := by decide +kernel
theorem dX6_acceptDigit_89 : decode cX6_acceptDigit 89 = .ok (.if_icmp .gt 18, 3) := by decide +kernel
theorem dX6_acceptDigit_92 : decode cX6_acceptDigit 92 = .ok (.aload_n 0, 1) := by decide +kernel
theorem dX6_acceptDigit_93 : decode cX6_acceptDigit 93 = .ok (.bipush 10, 2) := by decide +kernel
theorem dX6_acceptDigit_95 : decode cX6_acceptDigit 95 = .ok (.aload_n 0, 1) := by decide +kernel
theorem dX6_acceptDigit_96 : decode cX6_acceptDigit 96 = .ok (.getfield 51, 3) := by decide +kernel
theorem dX6_acceptDigit_99 : decode cX6_acceptDigit 99 = .ok (.imul, 1) := by decide +kernel
theorem dX6_acceptDigit_100 : decode cX6_acceptDigit 100 = .ok (.iload_n 1, 1) := by decide +kernel
theorem dX6_acceptDigit_101 : decode cX6_acceptDigit 101 = .ok (.iadd, 1) := by decide +kernel
theorem dX6_acceptDigit_102 : decode cX6_acceptDigit 102 = .ok (.putfield 51, 3) := by decide +kernel
theorem dX6_acceptDigit_105 : decode cX6_acceptDigit 105 = .ok (.iconst 1, 1) := by decide +kernel
theorem dX6_acceptDigit_106 : decode cX6_acceptDigit 106 = .ok (.ireturn, 1) := by decide +kernel
theorem dX6_acceptDigit_107 : decode cX6_acceptDigit 107 = .ok (.iconst 0, 1) := by decide +kernel
theorem dX6_acceptDigit_108 : decode cX6_acceptDigit 108 = .ok (.ireturn, 1) := by decide +kernel
theorem dX7_init_0 : decode cX7_init 0 = .ok (.aload_n 0, 1) := by decide +kernel
theorem dX7_init_1 : decode cX7_init 1 = .ok (.invokespecial 1, 3) := by decide +kernel
theorem dX7_init_4 : decode cX7_init 4 = .ok (.aload_n 0, 1) := by decide +kernel
theorem dX7_init_5 : decode cX7_init 5 = .ok (.new 7, 3) := by decide +kernel
theorem dX7_init_8 : decode cX7_init 8 = .ok (.dup, 1) := by decide +kernel
theorem dX7_init_9 : decode cX7_init 9 = .ok (.invokespecial 9, 3) := by decide +kernel
theorem dX7_init_12 : decode cX7_init 12 = .ok (.putfield 10, 3) := by decide +kernel
theorem dX7_init_15 : decode cX7_init 15 = .ok (.aload_n 0, 1) := by decide +kernel
theorem dX7_init_16 : decode cX7_init 16 = .ok (.new 16, 3) := by decide +kernel
theorem dX7_init_19 : decode cX7_init 19 = .ok (.dup, 1) := by decide +kernel
theorem dX7_init_20 : decode cX7_init 20 = .ok (.invokespecial 18, 3) := by decide +kernel
theorem dX7_init_23 : decode cX7_init 23 = .ok (.putfield 19, 3) := by decide +kernel
theorem dX7_init_26 : decode cX7_init 26 = .ok (.return_, 1) := by decide +kernel
theorem dX7_copyFrom_0 : decode cX7_copyFrom 0 = .ok (.aload_n 0, 1) := by decide +kernel
theorem dX7_copyFrom_1 : decode cX7_copyFrom 1 = .ok (.getfield 10, 3) := by decide +kernel
theorem dX7_copyFrom_4 : decode cX7_copyFrom 4 = .ok (.aload_n 1, 1) := by decide +kernel
theorem dX7_copyFrom_5 : decode cX7_copyFrom 5 = .ok (.getfield 10, 3) := by decide +kernel
theorem dX7_copyFrom_8 : decode cX7_copyFrom 8 = .ok (.invokevirtual 23, 3) := by decide +kernel
theorem dX7_copyFrom_11 : decode cX7_copyFrom 11 = .ok (.aload_n 0, 1) := by decide +kernel
theorem dX7_copyFrom_12 : decode cX7_copyFrom 12 = .ok (.getfield 19, 3) := by decide +kernel
theorem dX7_copyFrom_15 : decode cX7_copyFrom 15 = .ok (.aload_n 1, 1) := by decide +kernel
theorem dX7_copyFrom_16 : decode cX7_copyFrom 16 = .ok (.getfield 19, 3) := by decide +kernel
theorem dX7_copyFrom_19 : decode cX7_copyFrom 19 = .ok (.invokevirtual 27, 3) := by decide +kernel
theorem dX7_copyFrom_22 : decode cX7_copyFrom 22 = .ok (.aload_n 0, 1) := by decide +kernel
theorem dX7_copyFrom_23 : decode cX7_copyFrom 23 = .ok (.aload_n 1, 1) := by decide +kernel
theorem dX7_copyFrom_24 : decode cX7_copyFrom 24 = .ok (.getfield 30, 3) := by decide +kernel
theorem dX7_copyFrom_27 : decode cX7_copyFrom 27 = .ok (.putfield 30, 3) := by decide +kernel
theorem dX7_copyFrom_30 : decode cX7_copyFrom 30 = .ok (.aload_n 0, 1) := by decide +kernel
theorem dX7_copyFrom_31 : decode cX7_copyFrom 31 = .ok (.aload_n 1, 1) := by decide +kernel
theorem dX7_copyFrom_32 : decode cX7_copyFrom 32 = .ok (.getfield 34, 3) := by decide +kernel
theorem dX7_copyFrom_35 : decode cX7_copyFrom 35 = .ok (.putfield 34, 3) := by decide +kernel
theorem dX7_copyFrom_38 : decode cX7_copyFrom 38 = .ok (.return_, 1) := by decide +kernel
theorem dJ6_bitCount_0f7a4_0 : decode cJ6_bitCount_0f7a4 0 = .ok (.iload_n 0, 1) := by decide +kernel
theorem dJ6_bitCount_0f7a4_1 : decode cJ6_bitCount_0f7a4 1 = .ok (.iload_n 0, 1) := by decide +kernel
theorem dJ6_bitCount_0f7a4_2 : decode cJ6_bitCount_0f7a4 2 = .ok (.iconst 1, 1) := by decide +kernel
theorem dJ6_bitCount_0f7a4_3 : decode cJ6_bitCount_0f7a4 3 = .ok (.iushr, 1) := by decide +kernel
theorem dJ6_bitCount_0f7a4_4 : decode cJ6_bitCount_0f7a4 4 = .ok (.ldc_w 265, 3) := by decide +kernel
theorem dJ6_bitCount_0f7a4_7 : decode cJ6_bitCount_0f7a4 7 = .ok (.iand, 1) := by decide +kernel
theorem dJ6_bitCount_0f7a4_8 : decode cJ6_bitCount_0f7a4 8 = .ok (.isub, 1) := by decide +kernel
theorem dJ6_bitCount_0f7a4_9 : decode cJ6_bitCount_0f7a4 9 = .ok (.istore_n 0, 1) := by decide +kernel
theorem dJ6_bitCount_0f7a4_10 : decode cJ6_bitCount_0f7a4 10 = .ok (.iload_n 0, 1) := by decide +kernel
theorem dJ6_bitCount_0f7a4_11 : decode cJ6_bitCount_0f7a4 11 = .ok (.ldc_w 266, 3) := by decide +kernel
theorem dJ6_bitCount_0f7a4_14 : decode cJ6_bitCount_0f7a4 14 = .ok (.iand, 1) := by decide +kernel
theorem dJ6_bitCount_0f7a4_15 : decode cJ6_bitCount_0f7a4 15 = .ok (.iload_n 0, 1) := by decide +kernel
theorem dJ6_bitCount_0f7a4_16 : decode cJ6_bitCount_0f7a4 16 = .ok (.iconst 2, 1) := by decide +kernel
theorem dJ6_bitCount_0f7a4_17 : decode cJ6_bitCount_0f7a4 17 = .ok (.iushr, 1) := by decide +kernel
theorem dJ6_bitCount_0f7a4_18 : decode cJ6_bitCount_0f7a4 18 = .ok (.ldc_w 266, 3) := by decide +kernel
theorem dJ6_bitCount_0f7a4_21 : decode cJ6_bitCount_0f7a4 21 = .ok (.iand, 1) := by decide +kernel
theorem dJ6_bitCount_0f7a4_22 : decode cJ6_bitCount_0f7a4 22 = .ok (.iadd, 1) := by decide +kernel
theorem dJ6_bitCount_0f7a4_23 : decode cJ6_bitCount_0f7a4 23 = .ok (.istore_n 0, 1) := by decide +kernel
theorem dJ6_bitCount_0f7a4_24 : decode cJ6_bitCount_0f7a4 24 = .ok (.iload_n 0, 1) := by decide +kernel
theorem dJ6_bitCount_0f7a4_25 : decode cJ6_bitCount_0f7a4 25 = .ok (.iload_n 0, 1) := by decide +kernel
theorem dJ6_bitCount_0f7a4_26 : decode cJ6_bitCount_0f7a4 26 = .ok (.iconst 4, 1) := by decide +kernel
theorem dJ6_bitCount_0f7a4_27 : decode cJ6_bitCount_0f7a4 27 = .ok (.iushr, 1) := by decide +kernel
theorem dJ6_bitCount_0f7a4_28 : decode cJ6_bitCount_0f7a4 28 = .ok (.iadd, 1) := by decide +kernel
theorem dJ6_bitCount_0f7a4_29 : decode cJ6_bitCount_0f7a4 29 = .ok (.ldc_w 267, 3) := by decide +kernel
theorem dJ6_bitCount_0f7a4_32 : decode cJ6_bitCount_0f7a4 32 = .ok (.iand, 1) := by decide +kernel
theorem dJ6_bitCount_0f7a4_33 : decode cJ6_bitCount_0f7a4 33 = .ok (.istore_n 0, 1) := by decide +kernel
theorem dJ6_bitCount_0f7a4_34 : decode cJ6_bitCount_0f7a4 34 = .ok (.iload_n 0, 1) := by decide +kernel
theorem dJ6_bitCount_0f7a4_35 : decode cJ6_bitCount_0f7a4 35 = .ok (.iload_n 0, 1) := by decide +kernel
theorem dJ6_bitCount_0f7a4_36 : decode cJ6_bitCount_0f7a4 36 = .ok (.bipush 8, 2) := by decide +kernel
theorem dJ6_bitCount_0f7a4_38 : decode cJ6_bitCount_0f7a4 38 = .ok (.iushr, 1) := by decide +kernel
theorem dJ6_bitCount_0f7a4_39 : decode cJ6_bitCount_0f7a4 39 = .ok (.iadd, 1) := by decide +kernel
theorem dJ6_bitCount_0f7a4_40 : decode cJ6_bitCount_0f7a4 40 = .ok (.istore_n 0, 1) := by decide +kernel
theorem dJ6_bitCount_0f7a4_41 : decode cJ6_bitCount_0f7a4 41 = .ok (.iload_n 0, 1) := by decide +kernel
theorem dJ6_bitCount_0f7a4_42 : decode cJ6_bitCount_0f7a4 42 = .ok (.iload_n 0, 1) := by decide +kernel
theorem dJ6_bitCount_0f7a4_43 : decode cJ6_bitCount_0f7a4 43 = .ok (.bipush 16, 2) := by decide +kernel
theorem dJ6_bitCount_0f7a4_45 : decode cJ6_bitCount_0f7a4 45 = .ok (.iushr, 1) := by decide +kernel
theorem dJ6_bitCount_0f7a4_46 : decode cJ6_bitCount_0f7a4 46 = .ok (.iadd, 1) := by decide +kernel
theorem dJ6_bitCount_0f7a4_47 : decode cJ6_bitCount_0f7a4 47 = .ok (.istore_n 0, 1) := by decide +kernel
theorem dJ6_bitCount_0f7a4_48 : decode cJ6_bitCount_0f7a4 48 = .ok (.iload_n 0, 1) := by decide +kernel
theorem dJ6_bitCount_0f7a4_49 : decode cJ6_bitCount_0f7a4 49 = .ok (.bipush 63, 2) := by decide +kernel
theorem dJ6_bitCount_0f7a4_51 : decode cJ6_bitCount_0f7a4 51 = .ok (.iand, 1) := by decide +kernel
theorem dJ6_bitCount_0f7a4_52 : decode cJ6_bitCount_0f7a4 52 = .ok (.ireturn, 1) := by decide +kernel
theorem dJ9_abs_067f4_0 : decode cJ9_abs_067f4 0 = .ok (.lload_n 0, 1) := by decide +kernel
theorem dJ9_abs_067f4_1 : decode cJ9_abs_067f4 1 = .ok (.lconst 0, 1) := by decide +kernel
theorem dJ9_abs_067f4_2 : decode cJ9_abs_067f4 2 = .ok (.lcmp, 1) := by decide +kernel
theorem dJ9_abs_067f4_3 : decode cJ9_abs_067f4 3 = .ok (.ifCond .ge 8, 3) := by decide +kernel
theorem dJ9_abs_067f4_6 : decode cJ9_abs_067f4 6 = .ok (.lload_n 0, 1) := by decide +kernel
theorem dJ9_abs_067f4_7 : decode cJ9_abs_067f4 7 = .ok (.lneg, 1) := by decide +kernel
theorem dJ9_abs_067f4_8 : decode cJ9_abs_067f4 8 = .ok (.goto 4, 3) := by decide +kernel
theorem dJ9_abs_067f4_11 : decode cJ9_abs_067f4 11 = .ok (.lload_n 0, 1) := by decide +kernel
theorem dJ9_abs_067f4_12 : decode cJ9_abs_067f4 12 = .ok (.lreturn, 1) := by decide +kernel
theorem dJ9_floorMod_f86c9_0 : decode cJ9_floorMod_f86c9 0 = .ok (.lload_n 0, 1) := by decide +kernel
theorem dJ9_floorMod_f86c9_1 : decode cJ9_floorMod_f86c9 1 = .ok (.lload_n 2, 1) := by decide +kernel
theorem dJ9_floorMod_f86c9_2 : decode cJ9_floorMod_f86c9 2 = .ok (.lrem, 1) := by decide +kernel
theorem dJ9_floorMod_f86c9_3 : decode cJ9_floorMod_f86c9 3 = .ok (.lstore 4, 2) := by decide +kernel
theorem dJ9_floorMod_f86c9_5 : decode cJ9_floorMod_f86c9 5 = .ok (.lload_n 0, 1) := by decide +kernel
theorem dJ9_floorMod_f86c9_6 : decode cJ9_floorMod_f86c9 6 = .ok (.lload_n 2, 1) := by decide +kernel
theorem dJ9_floorMod_f86c9_7 : decode cJ9_floorMod_f86c9 7 = .ok (.lxor, 1) := by decide +kernel
theorem dJ9_floorMod_f86c9_8 : decode cJ9_floorMod_f86c9 8 = .ok (.lconst 0, 1) := by decide +kernel
theorem dJ9_floorMod_f86c9_9 : decode cJ9_floorMod_f86c9 9 = .ok (.lcmp, 1) := by decide +kernel
theorem dJ9_floorMod_f86c9_10 : decode cJ9_floorMod_f86c9 10 = .ok (.ifCond .ge 15, 3) := by decide +kernel
theorem dJ9_floorMod_f86c9_13 : decode cJ9_floorMod_f86c9 13 = .ok (.lload 4, 2) := by decide +kernel
theorem dJ9_floorMod_f86c9_15 : decode cJ9_floorMod_f86c9 15 = .ok (.lconst 0, 1) := by decide +kernel
theorem dJ9_floorMod_f86c9_16 : decode cJ9_floorMod_f86c9 16 = .ok (.lcmp, 1) := by decide +kernel
theorem dJ9_floorMod_f86c9_17 : decode cJ9_floorMod_f86c9 17 = .ok (.ifCond .eq 8, 3) := by decide +kernel
theorem dJ9_floorMod_f86c9_20 : decode cJ9_floorMod_f86c9 20 = .ok (.lload 4, 2) := by decide +kernel
theorem dJ9_floorMod_f86c9_22 : decode cJ9_floorMod_f86c9 22 = .ok (.lload_n 2, 1) := by decide +kernel
theorem dJ9_floorMod_f86c9_23 : decode cJ9_floorMod_f86c9 23 = .ok (.ladd, 1) := by decide +kernel
theorem dJ9_floorMod_f86c9_24 : decode cJ9_floorMod_f86c9 24 = .ok (.lreturn, 1) := by decide +kernel
theorem dJ9_floorMod_f86c9_25 : decode cJ9_floorMod_f86c9 25 = .ok (.lload 4, 2) := by decide +kernel
theorem dJ9_floorMod_f86c9_27 : decode cJ9_floorMod_f86c9 27 = .ok (.lreturn, 1) := by decide +kernel
theorem dJ9_max_7cf53_0 : decode cJ9_max_7cf53 0 = .ok (.iload_n 0, 1) := by decide +kernel
theorem dJ9_max_7cf53_1 : decode cJ9_max_7cf53 1 = .ok (.iload_n 1, 1) := by decide +kernel
theorem dJ9_max_7cf53_2 : decode cJ9_max_7cf53 2 = .ok (.if_icmp .lt 7, 3) := by decide +kernel
theorem dJ9_max_7cf53_5 : decode cJ9_max_7cf53 5 = .ok (.iload_n 0, 1) := by decide +kernel
theorem dJ9_max_7cf53_6 : decode cJ9_max_7cf53 6 = .ok (.goto 4, 3) := by decide +kernel
theorem dJ9_max_7cf53_9 : decode cJ9_max_7cf53 9 = .ok (.iload_n 1, 1) := by decide +kernel
theorem dJ9_max_7cf53_10 : decode cJ9_max_7cf53 10 = .ok (.ireturn, 1) := by decide +kernel
theorem dJ9_min_7cf53_0 : decode cJ9_min_7cf53 0 = .ok (.iload_n 0, 1) := by decide +kernel
theorem dJ9_min_7cf53_1 : decode cJ9_min_7cf53 1 = .ok (.iload_n 1, 1) := by decide +kernel
theorem dJ9_min_7cf53_2 : decode cJ9_min_7cf53 2 = .ok (.if_icmp .gt 7, 3) := by decide +kernel
theorem dJ9_min_7cf53_5 : decode cJ9_min_7cf53 5 = .ok (.iload_n 0, 1) := by decide +kernel
theorem dJ9_min_7cf53_6 : decode cJ9_min_7cf53 6 = .ok (.goto 4, 3) := by decide +kernel
theorem dJ9_min_7cf53_9 : decode cJ9_min_7cf53 9 = .ok (.iload_n 1, 1) := by decide +kernel
theorem dJ9_min_7cf53_10 : decode cJ9_min_7cf53 10 = .ok (.ireturn, 1) := by decide +kernel
