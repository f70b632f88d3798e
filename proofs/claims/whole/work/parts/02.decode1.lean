theorem dX0_init_0 : decode cX0_init 0 = .ok (.aload_n 0, 1) := by decide +kernel
theorem dX0_init_1 : decode cX0_init 1 = .ok (.invokespecial 3, 3) := by decide +kernel
theorem dX0_init_4 : decode cX0_init 4 = .ok (.aload_n 0, 1) := by decide +kernel
theorem dX0_init_5 : decode cX0_init 5 = .ok (.sipush 400, 3) := by decide +kernel
theorem dX0_init_8 : decode cX0_init 8 = .ok (.newarray .int, 2) := by decide +kernel
theorem dX0_init_10 : decode cX0_init 10 = .ok (.putfield 9, 3) := by decide +kernel
theorem dX0_init_13 : decode cX0_init 13 = .ok (.aload_n 0, 1) := by decide +kernel
theorem dX0_init_14 : decode cX0_init 14 = .ok (.sipush 1024, 3) := by decide +kernel
theorem dX0_init_17 : decode cX0_init 17 = .ok (.newarray .int, 2) := by decide +kernel
theorem dX0_init_19 : decode cX0_init 19 = .ok (.putfield 15, 3) := by decide +kernel
theorem dX0_init_22 : decode cX0_init 22 = .ok (.return_, 1) := by decide +kernel
theorem dX0_rebuild_0 : decode cX0_rebuild 0 = .ok (.aload_n 0, 1) := by decide +kernel
theorem dX0_rebuild_1 : decode cX0_rebuild 1 = .ok (.iconst 0, 1) := by decide +kernel
theorem dX0_rebuild_2 : decode cX0_rebuild 2 = .ok (.putfield 18, 3) := by decide +kernel
theorem dX0_rebuild_5 : decode cX0_rebuild 5 = .ok (.aload_n 0, 1) := by decide +kernel
theorem dX0_rebuild_6 : decode cX0_rebuild 6 = .ok (.iconst 0, 1) := by decide +kernel
theorem dX0_rebuild_7 : decode cX0_rebuild 7 = .ok (.putfield 22, 3) := by decide +kernel
theorem dX0_rebuild_10 : decode cX0_rebuild 10 = .ok (.iconst 0, 1) := by decide +kernel
theorem dX0_rebuild_11 : decode cX0_rebuild 11 = .ok (.istore_n 2, 1) := by decide +kernel
theorem dX0_rebuild_12 : decode cX0_rebuild 12 = .ok (.iload_n 2, 1) := by decide +kernel
theorem dX0_rebuild_13 : decode cX0_rebuild 13 = .ok (.aload_n 0, 1) := by decide +kernel
theorem dX0_rebuild_14 : decode cX0_rebuild 14 = .ok (.getfield 15, 3) := by decide +kernel
theorem dX0_rebuild_17 : decode cX0_rebuild 17 = .ok (.arraylength, 1) := by decide +kernel
theorem dX0_rebuild_18 : decode cX0_rebuild 18 = .ok (.if_icmp .ge 16, 3) := by decide +kernel
theorem dX0_rebuild_21 : decode cX0_rebuild 21 = .ok (.aload_n 0, 1) := by decide +kernel
theorem dX0_rebuild_22 : decode cX0_rebuild 22 = .ok (.getfield 15, 3) := by decide +kernel
theorem dX0_rebuild_25 : decode cX0_rebuild 25 = .ok (.iload_n 2, 1) := by decide +kernel
theorem dX0_rebuild_26 : decode cX0_rebuild 26 = .ok (.iconst 0, 1) := by decide +kernel
theorem dX0_rebuild_27 : decode cX0_rebuild 27 = .ok (.iastore, 1) := by decide +kernel
theorem dX0_rebuild_28 : decode cX0_rebuild 28 = .ok (.iinc 2 1, 3) := by decide +kernel
theorem dX0_rebuild_31 : decode cX0_rebuild 31 = .ok (.goto (-19), 3) := by decide +kernel
theorem dX0_rebuild_34 : decode cX0_rebuild 34 = .ok (.iconst 0, 1) := by decide +kernel
theorem dX0_rebuild_35 : decode cX0_rebuild 35 = .ok (.istore_n 2, 1) := by decide +kernel
theorem dX0_rebuild_36 : decode cX0_rebuild 36 = .ok (.iload_n 2, 1) := by decide +kernel
theorem dX0_rebuild_37 : decode cX0_rebuild 37 = .ok (.aload_n 1, 1) := by decide +kernel
theorem dX0_rebuild_38 : decode cX0_rebuild 38 = .ok (.getfield 26, 3) := by decide +kernel
theorem dX0_rebuild_41 : decode cX0_rebuild 41 = .ok (.if_icmp .ge 18, 3) := by decide +kernel
theorem dX0_rebuild_44 : decode cX0_rebuild 44 = .ok (.aload_n 0, 1) := by decide +kernel
theorem dX0_rebuild_45 : decode cX0_rebuild 45 = .ok (.aload_n 1, 1) := by decide +kernel
theorem dX0_rebuild_46 : decode cX0_rebuild 46 = .ok (.iload_n 2, 1) := by decide +kernel
theorem dX0_rebuild_47 : decode cX0_rebuild 47 = .ok (.invokevirtual 29, 3) := by decide +kernel
theorem dX0_rebuild_50 : decode cX0_rebuild 50 = .ok (.invokevirtual 33, 3) := by decide +kernel
theorem dX0_rebuild_53 : decode cX0_rebuild 53 = .ok (.iinc 2 1, 3) := by decide +kernel
theorem dX0_rebuild_56 : decode cX0_rebuild 56 = .ok (.goto (-20), 3) := by decide +kernel
theorem dX0_rebuild_59 : decode cX0_rebuild 59 = .ok (.aload_n 0, 1) := by decide +kernel
theorem dX0_rebuild_60 : decode cX0_rebuild 60 = .ok (.getfield 18, 3) := by decide +kernel
theorem dX0_rebuild_63 : decode cX0_rebuild 63 = .ok (.istore_n 2, 1) := by decide +kernel
theorem dX0_rebuild_64 : decode cX0_rebuild 64 = .ok (.iconst 0, 1) := by decide +kernel
theorem dX0_rebuild_65 : decode cX0_rebuild 65 = .ok (.istore_n 3, 1) := by decide +kernel
theorem dX0_rebuild_66 : decode cX0_rebuild 66 = .ok (.iload_n 3, 1) := by decide +kernel
theorem dX0_rebuild_67 : decode cX0_rebuild 67 = .ok (.aload_n 0, 1) := by decide +kernel
theorem dX0_rebuild_68 : decode cX0_rebuild 68 = .ok (.getfield 18, 3) := by decide +kernel
theorem dX0_rebuild_71 : decode cX0_rebuild 71 = .ok (.if_icmp .ge 80, 3) := by decide +kernel
theorem dX0_rebuild_74 : decode cX0_rebuild 74 = .ok (.iload_n 3, 1) := by decide +kernel
theorem dX0_rebuild_75 : decode cX0_rebuild 75 = .ok (.sipush 400, 3) := by decide +kernel
theorem dX0_rebuild_78 : decode cX0_rebuild 78 = .ok (.if_icmp .ge 73, 3) := by decide +kernel
theorem dX0_rebuild_81 : decode cX0_rebuild 81 = .ok (.aload_n 0, 1) := by decide +kernel
theorem dX0_rebuild_82 : decode cX0_rebuild 82 = .ok (.getfield 22, 3) := by decide +kernel
theorem dX0_rebuild_85 : decode cX0_rebuild 85 = .ok (.ifCond .ne 66, 3) := by decide +kernel
theorem dX0_rebuild_88 : decode cX0_rebuild 88 = .ok (.iconst 0, 1) := by decide +kernel
theorem dX0_rebuild_89 : decode cX0_rebuild 89 = .ok (.istore 4, 2) := by decide +kernel
theorem dX0_rebuild_91 : decode cX0_rebuild 91 = .ok (.iload 4, 2) := by decide +kernel
theorem dX0_rebuild_93 : decode cX0_rebuild 93 = .ok (.iload_n 2, 1) := by decide +kernel
theorem dX0_rebuild_94 : decode cX0_rebuild 94 = .ok (.if_icmp .ge 51, 3) := by decide +kernel
theorem dX0_rebuild_97 : decode cX0_rebuild 97 = .ok (.aload_n 0, 1) := by decide +kernel
theorem dX0_rebuild_98 : decode cX0_rebuild 98 = .ok (.getfield 9, 3) := by decide +kernel
theorem dX0_rebuild_101 : decode cX0_rebuild 101 = .ok (.iload_n 3, 1) := by decide +kernel
theorem dX0_rebuild_102 : decode cX0_rebuild 102 = .ok (.iaload, 1) := by decide +kernel
theorem dX0_rebuild_103 : decode cX0_rebuild 103 = .ok (.invokestatic 37, 3) := by decide +kernel
theorem dX0_rebuild_106 : decode cX0_rebuild 106 = .ok (.aload_n 0, 1) := by decide +kernel
theorem dX0_rebuild_107 : decode cX0_rebuild 107 = .ok (.getfield 9, 3) := by decide +kernel
theorem dX0_rebuild_110 : decode cX0_rebuild 110 = .ok (.iload 4, 2) := by decide +kernel
theorem dX0_rebuild_112 : decode cX0_rebuild 112 = .ok (.iaload, 1) := by decide +kernel
theorem dX0_rebuild_113 : decode cX0_rebuild 113 = .ok (.invokestatic 40, 3) := by decide +kernel
theorem dX0_rebuild_116 : decode cX0_rebuild 116 = .ok (.if_icmp .ne 23, 3) := by decide +kernel
theorem dX0_rebuild_119 : decode cX0_rebuild 119 = .ok (.aload_n 0, 1) := by decide +kernel
theorem dX0_rebuild_120 : decode cX0_rebuild 120 = .ok (.aload_n 0, 1) := by decide +kernel
theorem dX0_rebuild_121 : decode cX0_rebuild 121 = .ok (.getfield 9, 3) := by decide +kernel
theorem dX0_rebuild_124 : decode cX0_rebuild 124 = .ok (.iload_n 3, 1) := by decide +kernel
theorem dX0_rebuild_125 : decode cX0_rebuild 125 = .ok (.iaload, 1) := by decide +kernel
theorem dX0_rebuild_126 : decode cX0_rebuild 126 = .ok (.aload_n 0, 1) := by decide +kernel
theorem dX0_rebuild_127 : decode cX0_rebuild 127 = .ok (.getfield 9, 3) := by decide +kernel
theorem dX0_rebuild_130 : decode cX0_rebuild 130 = .ok (.iload 4, 2) := by decide +kernel
theorem dX0_rebuild_132 : decode cX0_rebuild 132 = .ok (.iaload, 1) := by decide +kernel
theorem dX0_rebuild_133 : decode cX0_rebuild 133 = .ok (.invokestatic 43, 3) := by decide +kernel
theorem dX0_rebuild_136 : decode cX0_rebuild 136 = .ok (.invokevirtual 33, 3) := by decide +kernel
theorem dX0_rebuild_139 : decode cX0_rebuild 139 = .ok (.iinc 4 1, 3) := by decide +kernel
theorem dX0_rebuild_142 : decode cX0_rebuild 142 = .ok (.goto (-51), 3) := by decide +kernel
theorem dX0_rebuild_145 : decode cX0_rebuild 145 = .ok (.iinc 3 1, 3) := by decide +kernel
theorem dX0_rebuild_148 : decode cX0_rebuild 148 = .ok (.goto (-82), 3) := by decide +kernel
theorem dX0_rebuild_151 : decode cX0_rebuild 151 = .ok (.aload_n 0, 1) := by decide +kernel
theorem dX0_rebuild_152 : decode cX0_rebuild 152 = .ok (.invokevirtual 47, 3) := by decide +kernel
theorem dX0_rebuild_155 : decode cX0_rebuild 155 = .ok (.return_, 1) := by decide +kernel
theorem dX0_include_0 : decode cX0_include 0 = .ok (.aload_n 0, 1) := by decide +kernel
theorem dX0_include_1 : decode cX0_include 1 = .ok (.iload_n 1, 1) := by decide +kernel
theorem dX0_include_2 : decode cX0_include 2 = .ok (.invokevirtual 50, 3) := by decide +kernel
theorem dX0_include_5 : decode cX0_include 5 = .ok (.istore_n 2, 1) := by decide +kernel
theorem dX0_include_6 : decode cX0_include 6 = .ok (.aload_n 0, 1) := by decide +kernel
theorem dX0_include_7 : decode cX0_include 7 = .ok (.getfield 15, 3) := by decide +kernel
theorem dX0_include_10 : decode cX0_include 10 = .ok (.iload_n 2, 1) := by decide +kernel
theorem dX0_include_11 : decode cX0_include 11 = .ok (.iaload, 1) := by decide +kernel
theorem dX0_include_12 : decode cX0_include 12 = .ok (.iload_n 1, 1) := by decide +kernel
theorem dX0_include_13 : decode cX0_include 13 = .ok (.iconst 1, 1) := by decide +kernel
theorem dX0_include_14 : decode cX0_include 14 = .ok (.iadd, 1) := by decide +kernel
theorem dX0_include_15 : decode cX0_include 15 = .ok (.if_icmp .ne 4, 3) := by decide +kernel
theorem dX0_include_18 : decode cX0_include 18 = .ok (.return_, 1) := by decide +kernel
theorem dX0_include_19 : decode cX0_include 19 = .ok (.aload_n 0, 1) := by decide +kernel
theorem dX0_include_20 : decode cX0_include 20 = .ok (.getfield 18, 3) := by decide +kernel
theorem dX0_include_23 : decode cX0_include 23 = .ok (.ifCond .lt 13, 3) := by decide +kernel
theorem dX0_include_26 : decode cX0_include 26 = .ok (.aload_n 0, 1) := by decide +kernel
theorem dX0_include_27 : decode cX0_include 27 = .ok (.getfield 18, 3) := by decide +kernel
theorem dX0_include_30 : decode cX0_include 30 = .ok (.sipush 400, 3) := by decide +kernel
theorem dX0_include_33 : decode cX0_include 33 = .ok (.if_icmp .lt 9, 3) := by decide +kernel
theorem dX0_include_36 : decode cX0_include 36 = .ok (.aload_n 0, 1) := by decide +kernel
theorem dX0_include_37 : decode cX0_include 37 = .ok (.iconst 1, 1) := by decide +kernel
theorem dX0_include_38 : decode cX0_include 38 = .ok (.putfield 22, 3) := by decide +kernel
theorem dX0_include_41 : decode cX0_include 41 = .ok (.return_, 1) := by decide +kernel
theorem dX0_include_42 : decode cX0_include 42 = .ok (.aload_n 0, 1) := by decide +kernel
theorem dX0_include_43 : decode cX0_include 43 = .ok (.getfield 15, 3) := by decide +kernel
theorem dX0_include_46 : decode cX0_include 46 = .ok (.iload_n 2, 1) := by decide +kernel
theorem dX0_include_47 : decode cX0_include 47 = .ok (.iload_n 1, 1) := by decide +kernel
theorem dX0_include_48 : decode cX0_include 48 = .ok (.iconst 1, 1) := by decide +kernel
theorem dX0_include_49 : decode cX0_include 49 = .ok (.iadd, 1) := by decide +kernel
theorem dX0_include_50 : decode cX0_include 50 = .ok (.iastore, 1) := by decide +kernel
theorem dX0_include_51 : decode cX0_include 51 = .ok (.aload_n 0, 1) := by decide +kernel
theorem dX0_include_52 : decode cX0_include 52 = .ok (.getfield 9, 3) := by decide +kernel
theorem dX0_include_55 : decode cX0_include 55 = .ok (.aload_n 0, 1) := by decide +kernel
theorem dX0_include_56 : decode cX0_include 56 = .ok (.getfield 18, 3) := by decide +kernel
theorem dX0_include_59 : decode cX0_include 59 = .ok (.iload_n 1, 1) := by decide +kernel
theorem dX0_include_60 : decode cX0_include 60 = .ok (.iastore, 1) := by decide +kernel
theorem dX0_include_61 : decode cX0_include 61 = .ok (.aload_n 0, 1) := by decide +kernel
theorem dX0_include_62 : decode cX0_include 62 = .ok (.dup, 1) := by decide +kernel
theorem dX0_include_63 : decode cX0_include 63 = .ok (.getfield 18, 3) := by decide +kernel
theorem dX0_include_66 : decode cX0_include 66 = .ok (.iconst 1, 1) := by decide +kernel
theorem dX0_include_67 : decode cX0_include 67 = .ok (.iadd, 1) := by decide +kernel
theorem dX0_include_68 : decode cX0_include 68 = .ok (.putfield 18, 3) := by decide +kernel
theorem dX0_include_71 : decode cX0_include 71 = .ok (.return_, 1) := by decide +kernel
theorem dX0_slotOf_0 : decode cX0_slotOf 0 = .ok (.iload_n 1, 1) := by decide +kernel
theorem dX0_slotOf_1 : decode cX0_slotOf 1 = .ok (.ldc 53, 2) := by decide +kernel
theorem dX0_slotOf_3 : decode cX0_slotOf 3 = .ok (.imul, 1) := by decide +kernel
theorem dX0_slotOf_4 : decode cX0_slotOf 4 = .ok (.bipush 22, 2) := by decide +kernel
theorem dX0_slotOf_6 : decode cX0_slotOf 6 = .ok (.iushr, 1) := by decide +kernel
theorem dX0_slotOf_7 : decode cX0_slotOf 7 = .ok (.istore_n 2, 1) := by decide +kernel
theorem dX0_slotOf_8 : decode cX0_slotOf 8 = .ok (.iconst 0, 1) := by decide +kernel
theorem dX0_slotOf_9 : decode cX0_slotOf 9 = .ok (.istore_n 3, 1) := by decide +kernel
theorem dX0_slotOf_10 : decode cX0_slotOf 10 = .ok (.iload_n 3, 1) := by decide +kernel
theorem dX0_slotOf_11 : decode cX0_slotOf 11 = .ok (.sipush 1024, 3) := by decide +kernel
theorem dX0_slotOf_14 : decode cX0_slotOf 14 = .ok (.if_icmp .ge 40, 3) := by decide +kernel
theorem dX0_slotOf_17 : decode cX0_slotOf 17 = .ok (.aload_n 0, 1) := by decide +kernel
theorem dX0_slotOf_18 : decode cX0_slotOf 18 = .ok (.getfield 15, 3) := by decide +kernel
theorem dX0_slotOf_21 : decode cX0_slotOf 21 = .ok (.iload_n 2, 1) := by decide +kernel
theorem dX0_slotOf_22 : decode cX0_slotOf 22 = .ok (.iaload, 1) := by decide +kernel
theorem dX0_slotOf_23 : decode cX0_slotOf 23 = .ok (.ifCond .eq 15, 3) := by decide +kernel
theorem dX0_slotOf_26 : decode cX0_slotOf 26 = .ok (.aload_n 0, 1) := by decide +kernel
theorem dX0_slotOf_27 : decode cX0_slotOf 27 = .ok (.getfield 15, 3) := by decide +kernel
theorem dX0_slotOf_30 : decode cX0_slotOf 30 = .ok (.iload_n 2, 1) := by decide +kernel
theorem dX0_slotOf_31 : decode cX0_slotOf 31 = .ok (.iaload, 1) := by decide +kernel
theorem dX0_slotOf_32 : decode cX0_slotOf 32 = .ok (.iload_n 1, 1) := by decide +kernel
theorem dX0_slotOf_33 : decode cX0_slotOf 33 = .ok (.iconst 1, 1) := by decide +kernel
theorem dX0_slotOf_34 : decode cX0_slotOf 34 = .ok (.iadd, 1) := by decide +kernel
theorem dX0_slotOf_35 : decode cX0_slotOf 35 = .ok (.if_icmp .ne 5, 3) := by decide +kernel
theorem dX0_slotOf_38 : decode cX0_slotOf 38 = .ok (.iload_n 2, 1) := by decide +kernel
theorem dX0_slotOf_39 : decode cX0_slotOf 39 = .ok (.ireturn, 1) := by decide +kernel
theorem dX0_slotOf_40 : decode cX0_slotOf 40 = .ok (.iload_n 2, 1) := by decide +kernel
theorem dX0_slotOf_41 : decode cX0_slotOf 41 = .ok (.iconst 1, 1) := by decide +kernel
theorem dX0_slotOf_42 : decode cX0_slotOf 42 = .ok (.iadd, 1) := by decide +kernel
theorem dX0_slotOf_43 : decode cX0_slotOf 43 = .ok (.sipush 1023, 3) := by decide +kernel
theorem dX0_slotOf_46 : decode cX0_slotOf 46 = .ok (.iand, 1) := by decide +kernel
theorem dX0_slotOf_47 : decode cX0_slotOf 47 = .ok (.istore_n 2, 1) := by decide +kernel
theorem dX0_slotOf_48 : decode cX0_slotOf 48 = .ok (.iinc 3 1, 3) := by decide +kernel
theorem dX0_slotOf_51 : decode cX0_slotOf 51 = .ok (.goto (-41), 3) := by decide +kernel
theorem dX0_slotOf_54 : decode cX0_slotOf 54 = .ok (.iload_n 2, 1) := by decide +kernel
theorem dX0_slotOf_55 : decode cX0_slotOf 55 = .ok (.ireturn, 1) := by decide +kernel
theorem dX0_judge_0 : decode cX0_judge 0 = .ok (.aload_n 0, 1) := by decide +kernel
theorem dX0_judge_1 : decode cX0_judge 1 = .ok (.iconst 0, 1) := by decide +kernel
theorem dX0_judge_2 : decode cX0_judge 2 = .ok (.putfield 54, 3) := by decide +kernel
theorem dX0_judge_5 : decode cX0_judge 5 = .ok (.aload_n 0, 1) := by decide +kernel
theorem dX0_judge_6 : decode cX0_judge 6 = .ok (.iconst 0, 1) := by decide +kernel
theorem dX0_judge_7 : decode cX0_judge 7 = .ok (.putfield 57, 3) := by decide +kernel
theorem dX0_judge_10 : decode cX0_judge 10 = .ok (.iconst 0, 1) := by decide +kernel
theorem dX0_judge_11 : decode cX0_judge 11 = .ok (.istore_n 1, 1) := by decide +kernel
theorem dX0_judge_12 : decode cX0_judge 12 = .ok (.iload_n 1, 1) := by decide +kernel
theorem dX0_judge_13 : decode cX0_judge 13 = .ok (.aload_n 0, 1) := by decide +kernel
theorem dX0_judge_14 : decode cX0_judge 14 = .ok (.getfield 18, 3) := by decide +kernel
theorem dX0_judge_17 : decode cX0_judge 17 = .ok (.if_icmp .ge 70, 3) := by decide +kernel
theorem dX0_judge_20 : decode cX0_judge 20 = .ok (.iload_n 1, 1) := by decide +kernel
theorem dX0_judge_21 : decode cX0_judge 21 = .ok (.sipush 400, 3) := by decide +kernel
theorem dX0_judge_24 : decode cX0_judge 24 = .ok (.if_icmp .ge 63, 3) := by decide +kernel
theorem dX0_judge_27 : decode cX0_judge 27 = .ok (.aload_n 0, 1) := by decide +kernel
theorem dX0_judge_28 : decode cX0_judge 28 = .ok (.getfield 9, 3) := by decide +kernel
theorem dX0_judge_31 : decode cX0_judge 31 = .ok (.iload_n 1, 1) := by decide +kernel
theorem dX0_judge_32 : decode cX0_judge 32 = .ok (.iaload, 1) := by decide +kernel
theorem dX0_judge_33 : decode cX0_judge 33 = .ok (.istore_n 2, 1) := by decide +kernel
theorem dX0_judge_34 : decode cX0_judge 34 = .ok (.iload_n 2, 1) := by decide +kernel
theorem dX0_judge_35 : decode cX0_judge 35 = .ok (.invokestatic 40, 3) := by decide +kernel
theorem dX0_judge_38 : decode cX0_judge 38 = .ok (.iload_n 2, 1) := by decide +kernel
theorem dX0_judge_39 : decode cX0_judge 39 = .ok (.invokestatic 37, 3) := by decide +kernel
theorem dX0_judge_42 : decode cX0_judge 42 = .ok (.if_icmp .ne 39, 3) := by decide +kernel
theorem dX0_judge_45 : decode cX0_judge 45 = .ok (.iload_n 2, 1) := by decide +kernel
theorem dX0_judge_46 : decode cX0_judge 46 = .ok (.iload_n 2, 1) := by decide +kernel
theorem dX0_judge_47 : decode cX0_judge 47 = .ok (.invokestatic 43, 3) := by decide +kernel
theorem dX0_judge_50 : decode cX0_judge 50 = .ok (.iload_n 2, 1) := by decide +kernel
theorem dX0_judge_51 : decode cX0_judge 51 = .ok (.if_icmp .ne 30, 3) := by decide +kernel
theorem dX0_judge_54 : decode cX0_judge 54 = .ok (.aload_n 0, 1) := by decide +kernel
theorem dX0_judge_55 : decode cX0_judge 55 = .ok (.dup, 1) := by decide +kernel
theorem dX0_judge_56 : decode cX0_judge 56 = .ok (.getfield 54, 3) := by decide +kernel
theorem dX0_judge_59 : decode cX0_judge 59 = .ok (.iconst 1, 1) := by decide +kernel
theorem dX0_judge_60 : decode cX0_judge 60 = .ok (.iadd, 1) := by decide +kernel
theorem dX0_judge_61 : decode cX0_judge 61 = .ok (.putfield 54, 3) := by decide +kernel
theorem dX0_judge_64 : decode cX0_judge 64 = .ok (.iload_n 2, 1) := by decide +kernel
theorem dX0_judge_65 : decode cX0_judge 65 = .ok (.invokestatic 60, 3) := by decide +kernel
theorem dX0_judge_68 : decode cX0_judge 68 = .ok (.ifCond .eq 13, 3) := by decide +kernel
theorem dX0_judge_71 : decode cX0_judge 71 = .ok (.aload_n 0, 1) := by decide +kernel
theorem dX0_judge_72 : decode cX0_judge 72 = .ok (.dup, 1) := by decide +kernel
theorem dX0_judge_73 : decode cX0_judge 73 = .ok (.getfield 57, 3) := by decide +kernel
theorem dX0_judge_76 : decode cX0_judge 76 = .ok (.iconst 1, 1) := by decide +kernel
theorem dX0_judge_77 : decode cX0_judge 77 = .ok (.iadd, 1) := by decide +kernel
theorem dX0_judge_78 : decode cX0_judge 78 = .ok (.putfield 57, 3) := by decide +kernel
theorem dX0_judge_81 : decode cX0_judge 81 = .ok (.iinc 1 1, 3) := by decide +kernel
theorem dX0_judge_84 : decode cX0_judge 84 = .ok (.goto (-72), 3) := by decide +kernel
theorem dX0_judge_87 : decode cX0_judge 87 = .ok (.return_, 1) := by decide +kernel
theorem dX0_decreases_0 : decode cX0_decreases 0 = .ok (.iconst 0, 1) := by decide +kernel
theorem dX0_decreases_1 : decode cX0_decreases 1 = .ok (.istore_n 1, 1) := by decide +kernel
theorem dX0_decreases_2 : decode cX0_decreases 2 = .ok (.iload_n 1, 1) := by decide +kernel
theorem dX0_decreases_3 : decode cX0_decreases 3 = .ok (.iconst 3, 1) := by decide +kernel
theorem dX0_decreases_4 : decode cX0_decreases 4 = .ok (.if_icmp .ge 21, 3) := by decide +kernel
theorem dX0_decreases_7 : decode cX0_decreases 7 = .ok (.iload_n 0, 1) := by decide +kernel
theorem dX0_decreases_8 : decode cX0_decreases 8 = .ok (.iload_n 1, 1) := by decide +kernel
theorem dX0_decreases_9 : decode cX0_decreases 9 = .ok (.iload_n 1, 1) := by decide +kernel
theorem dX0_decreases_10 : decode cX0_decreases 10 = .ok (.invokestatic 64, 3) := by decide +kernel
theorem dX0_decreases_13 : decode cX0_decreases 13 = .ok (.iconst 2, 1) := by decide +kernel
theorem dX0_decreases_14 : decode cX0_decreases 14 = .ok (.if_icmp .ne 5, 3) := by decide +kernel
theorem dX0_decreases_17 : decode cX0_decreases 17 = .ok (.iconst 1, 1) := by decide +kernel
theorem dX0_decreases_18 : decode cX0_decreases 18 = .ok (.ireturn, 1) := by decide +kernel
theorem dX0_decreases_19 : decode cX0_decreases 19 = .ok (.iinc 1 1, 3) := by decide +kernel
theorem dX0_decreases_22 : decode cX0_decreases 22 = .ok (.goto (-20), 3) := by decide +kernel
theorem dX0_decreases_25 : decode cX0_decreases 25 = .ok (.iconst 0, 1) := by decide +kernel
theorem dX0_decreases_26 : decode cX0_decreases 26 = .ok (.ireturn, 1) := by decide +kernel
theorem dX1_init_0 : decode cX1_init 0 = .ok (.aload_n 0, 1) := by decide +kernel
theorem dX1_init_1 : decode cX1_init 1 = .ok (.invokespecial 3, 3) := by decide +kernel
theorem dX1_init_4 : decode cX1_init 4 = .ok (.aload_n 0, 1) := by decide +kernel
theorem dX1_init_5 : decode cX1_init 5 = .ok (.new 9, 3) := by decide +kernel
theorem dX1_init_8 : decode cX1_init 8 = .ok (.dup, 1) := by decide +kernel
theorem dX1_init_9 : decode cX1_init 9 = .ok (.invokespecial 11, 3) := by decide +kernel
theorem dX1_init_12 : decode cX1_init 12 = .ok (.putfield 12, 3) := by decide +kernel
theorem dX1_init_15 : decode cX1_init 15 = .ok (.aload_n 0, 1) := by decide +kernel
theorem dX1_init_16 : decode cX1_init 16 = .ok (.new 9, 3) := by decide +kernel
theorem dX1_init_19 : decode cX1_init 19 = .ok (.dup, 1) := by decide +kernel
theorem dX1_init_20 : decode cX1_init 20 = .ok (.invokespecial 11, 3) := by decide +kernel
theorem dX1_init_23 : decode cX1_init 23 = .ok (.putfield 18, 3) := by decide +kernel
theorem dX1_init_26 : decode cX1_init 26 = .ok (.aload_n 0, 1) := by decide +kernel
theorem dX1_init_27 : decode cX1_init 27 = .ok (.sipush 240, 3) := by decide +kernel
theorem dX1_init_30 : decode cX1_init 30 = .ok (.newarray .int, 2) := by decide +kernel
theorem dX1_init_32 : decode cX1_init 32 = .ok (.putfield 21, 3) := by decide +kernel
theorem dX1_init_35 : decode cX1_init 35 = .ok (.return_, 1) := by decide +kernel
theorem dX1_reset_0 : decode cX1_reset 0 = .ok (.aload_n 0, 1) := by decide +kernel
theorem dX1_reset_1 : decode cX1_reset 1 = .ok (.getfield 12, 3) := by decide +kernel
theorem dX1_reset_4 : decode cX1_reset 4 = .ok (.aload_n 1, 1) := by decide +kernel
theorem dX1_reset_5 : decode cX1_reset 5 = .ok (.getfield 25, 3) := by decide +kernel
theorem dX1_reset_8 : decode cX1_reset 8 = .ok (.invokevirtual 30, 3) := by decide +kernel
theorem dX1_reset_11 : decode cX1_reset 11 = .ok (.return_, 1) := by decide +kernel
theorem dX1_remove_0 : decode cX1_remove 0 = .ok (.aload_n 0, 1) := by decide +kernel
theorem dX1_remove_1 : decode cX1_remove 1 = .ok (.getfield 12, 3) := by decide +kernel
theorem dX1_remove_4 : decode cX1_remove 4 = .ok (.iload_n 1, 1) := by decide +kernel
theorem dX1_remove_5 : decode cX1_remove 5 = .ok (.invokevirtual 34, 3) := by decide +kernel
theorem dX1_remove_8 : decode cX1_remove 8 = .ok (.return_, 1) := by decide +kernel
theorem dX1_number_0 : decode cX1_number 0 = .ok (.iload_n 1, 1) := by decide +kernel
theorem dX1_number_1 : decode cX1_number 1 = .ok (.ifCond .lt 21, 3) := by decide +kernel
theorem dX1_number_4 : decode cX1_number 4 = .ok (.iload_n 1, 1) := by decide +kernel
theorem dX1_number_5 : decode cX1_number 5 = .ok (.aload_n 0, 1) := by decide +kernel
theorem dX1_number_6 : decode cX1_number 6 = .ok (.getfield 21, 3) := by decide +kernel
theorem dX1_number_9 : decode cX1_number 9 = .ok (.arraylength, 1) := by decide +kernel
theorem dX1_number_10 : decode cX1_number 10 = .ok (.if_icmp .ge 12, 3) := by decide +kernel
theorem dX1_number_13 : decode cX1_number 13 = .ok (.aload_n 0, 1) := by decide +kernel
theorem dX1_number_14 : decode cX1_number 14 = .ok (.getfield 21, 3) := by decide +kernel
theorem dX1_number_17 : decode cX1_number 17 = .ok (.iload_n 1, 1) := by decide +kernel
theorem dX1_number_18 : decode cX1_number 18 = .ok (.iaload, 1) := by decide +kernel
theorem dX1_number_19 : decode cX1_number 19 = .ok (.goto 4, 3) := by decide +kernel
theorem dX1_number_22 : decode cX1_number 22 = .ok (.iconst (-1), 1) := by decide +kernel
theorem dX1_number_23 : decode cX1_number 23 = .ok (.ireturn, 1) := by decide +kernel
theorem dX1_rebuild_0 : decode cX1_rebuild 0 = .ok (.aload_n 0, 1) := by decide +kernel
theorem dX1_rebuild_1 : decode cX1_rebuild 1 = .ok (.getfield 18, 3) := by decide +kernel
theorem dX1_rebuild_4 : decode cX1_rebuild 4 = .ok (.aload_n 0, 1) := by decide +kernel
theorem dX1_rebuild_5 : decode cX1_rebuild 5 = .ok (.getfield 12, 3) := by decide +kernel
theorem dX1_rebuild_8 : decode cX1_rebuild 8 = .ok (.invokevirtual 30, 3) := by decide +kernel
theorem dX1_rebuild_11 : decode cX1_rebuild 11 = .ok (.aload_n 0, 1) := by decide +kernel
theorem dX1_rebuild_12 : decode cX1_rebuild 12 = .ok (.getfield 18, 3) := by decide +kernel
theorem dX1_rebuild_15 : decode cX1_rebuild 15 = .ok (.aload_n 1, 1) := by decide +kernel
theorem dX1_rebuild_16 : decode cX1_rebuild 16 = .ok (.getfield 38, 3) := by decide +kernel
theorem dX1_rebuild_19 : decode cX1_rebuild 19 = .ok (.invokevirtual 42, 3) := by decide +kernel
theorem dX1_rebuild_22 : decode cX1_rebuild 22 = .ok (.aload_n 0, 1) := by decide +kernel
theorem dX1_rebuild_23 : decode cX1_rebuild 23 = .ok (.iconst 0, 1) := by decide +kernel
theorem dX1_rebuild_24 : decode cX1_rebuild 24 = .ok (.putfield 45, 3) := by decide +kernel
theorem dX1_rebuild_27 : decode cX1_rebuild 27 = .ok (.aload_n 0, 1) := by decide +kernel
theorem dX1_rebuild_28 : decode cX1_rebuild 28 = .ok (.iconst 0, 1) := by decide +kernel
theorem dX1_rebuild_29 : decode cX1_rebuild 29 = .ok (.putfield 46, 3) := by decide +kernel
theorem dX1_rebuild_32 : decode cX1_rebuild 32 = .ok (.iconst 0, 1) := by decide +kernel
theorem dX1_rebuild_33 : decode cX1_rebuild 33 = .ok (.istore_n 2, 1) := by decide +kernel
theorem dX1_rebuild_34 : decode cX1_rebuild 34 = .ok (.iload_n 2, 1) := by decide +kernel
theorem dX1_rebuild_35 : decode cX1_rebuild 35 = .ok (.aload_n 1, 1) := by decide +kernel
theorem dX1_rebuild_36 : decode cX1_rebuild 36 = .ok (.getfield 38, 3) := by decide +kernel
theorem dX1_rebuild_39 : decode cX1_rebuild 39 = .ok (.if_icmp .ge 48, 3) := by decide +kernel
theorem dX1_rebuild_42 : decode cX1_rebuild 42 = .ok (.iload_n 2, 1) := by decide +kernel
theorem dX1_rebuild_43 : decode cX1_rebuild 43 = .ok (.aload_n 0, 1) := by decide +kernel
theorem dX1_rebuild_44 : decode cX1_rebuild 44 = .ok (.getfield 21, 3) := by decide +kernel
theorem dX1_rebuild_47 : decode cX1_rebuild 47 = .ok (.arraylength, 1) := by decide +kernel
theorem dX1_rebuild_48 : decode cX1_rebuild 48 = .ok (.if_icmp .ge 39, 3) := by decide +kernel
theorem dX1_rebuild_51 : decode cX1_rebuild 51 = .ok (.aload_n 0, 1) := by decide +kernel
theorem dX1_rebuild_52 : decode cX1_rebuild 52 = .ok (.getfield 21, 3) := by decide +kernel
theorem dX1_rebuild_55 : decode cX1_rebuild 55 = .ok (.iload_n 2, 1) := by decide +kernel
theorem dX1_rebuild_56 : decode cX1_rebuild 56 = .ok (.aload_n 0, 1) := by decide +kernel
theorem dX1_rebuild_57 : decode cX1_rebuild 57 = .ok (.iload_n 2, 1) := by decide +kernel
theorem dX1_rebuild_58 : decode cX1_rebuild 58 = .ok (.invokevirtual 49, 3) := by decide +kernel
theorem dX1_rebuild_61 : decode cX1_rebuild 61 = .ok (.iastore, 1) := by decide +kernel
theorem dX1_rebuild_62 : decode cX1_rebuild 62 = .ok (.aload_n 0, 1) := by decide +kernel
theorem dX1_rebuild_63 : decode cX1_rebuild 63 = .ok (.getfield 21, 3) := by decide +kernel
theorem dX1_rebuild_66 : decode cX1_rebuild 66 = .ok (.iload_n 2, 1) := by decide +kernel
theorem dX1_rebuild_67 : decode cX1_rebuild 67 = .ok (.iaload, 1) := by decide +kernel
theorem dX1_rebuild_68 : decode cX1_rebuild 68 = .ok (.ifCond .lt 13, 3) := by decide +kernel
theorem dX1_rebuild_71 : decode cX1_rebuild 71 = .ok (.aload_n 0, 1) := by decide +kernel
theorem dX1_rebuild_72 : decode cX1_rebuild 72 = .ok (.dup, 1) := by decide +kernel
theorem dX1_rebuild_73 : decode cX1_rebuild 73 = .ok (.getfield 46, 3) := by decide +kernel
theorem dX1_rebuild_76 : decode cX1_rebuild 76 = .ok (.iconst 1, 1) := by decide +kernel
theorem dX1_rebuild_77 : decode cX1_rebuild 77 = .ok (.iadd, 1) := by decide +kernel
theorem dX1_rebuild_78 : decode cX1_rebuild 78 = .ok (.putfield 46, 3) := by decide +kernel
theorem dX1_rebuild_81 : decode cX1_rebuild 81 = .ok (.iinc 2 1, 3) := by decide +kernel
theorem dX1_rebuild_84 : decode cX1_rebuild 84 = .ok (.goto (-50), 3) := by decide +kernel
theorem dX1_rebuild_87 : decode cX1_rebuild 87 = .ok (.return_, 1) := by decide +kernel
theorem dX1_numberFor_0 : decode cX1_numberFor 0 = .ok (.aload_n 0, 1) := by decide +kernel
theorem dX1_numberFor_1 : decode cX1_numberFor 1 = .ok (.getfield 18, 3) := by decide +kernel
theorem dX1_numberFor_4 : decode cX1_numberFor 4 = .ok (.iload_n 1, 1) := by decide +kernel
theorem dX1_numberFor_5 : decode cX1_numberFor 5 = .ok (.iload_n 1, 1) := by decide +kernel
theorem dX1_numberFor_6 : decode cX1_numberFor 6 = .ok (.invokevirtual 53, 3) := by decide +kernel
theorem dX1_numberFor_9 : decode cX1_numberFor 9 = .ok (.ifCond .ne 5, 3) := by decide +kernel
theorem dX1_numberFor_12 : decode cX1_numberFor 12 = .ok (.iconst (-1), 1) := by decide +kernel
theorem dX1_numberFor_13 : decode cX1_numberFor 13 = .ok (.ireturn, 1) := by decide +kernel
theorem dX1_numberFor_14 : decode cX1_numberFor 14 = .ok (.iconst 0, 1) := by decide +kernel
theorem dX1_numberFor_15 : decode cX1_numberFor 15 = .ok (.istore_n 2, 1) := by decide +kernel
theorem dX1_numberFor_16 : decode cX1_numberFor 16 = .ok (.iload_n 2, 1) := by decide +kernel
theorem dX1_numberFor_17 : decode cX1_numberFor 17 = .ok (.iload_n 1, 1) := by decide +kernel
theorem dX1_numberFor_18 : decode cX1_numberFor 18 = .ok (.if_icmp .ge 39, 3) := by decide +kernel
theorem dX1_numberFor_21 : decode cX1_numberFor 21 = .ok (.aload_n 0, 1) := by decide +kernel
theorem dX1_numberFor_22 : decode cX1_numberFor 22 = .ok (.getfield 18, 3) := by decide +kernel
theorem dX1_numberFor_25 : decode cX1_numberFor 25 = .ok (.iload_n 1, 1) := by decide +kernel
theorem dX1_numberFor_26 : decode cX1_numberFor 26 = .ok (.iload_n 2, 1) := by decide +kernel
theorem dX1_numberFor_27 : decode cX1_numberFor 27 = .ok (.invokevirtual 53, 3) := by decide +kernel
theorem dX1_numberFor_30 : decode cX1_numberFor 30 = .ok (.ifCond .eq 21, 3) := by decide +kernel
theorem dX1_numberFor_33 : decode cX1_numberFor 33 = .ok (.aload_n 0, 1) := by decide +kernel
theorem dX1_numberFor_34 : decode cX1_numberFor 34 = .ok (.getfield 18, 3) := by decide +kernel
theorem dX1_numberFor_37 : decode cX1_numberFor 37 = .ok (.iload_n 2, 1) := by decide +kernel
theorem dX1_numberFor_38 : decode cX1_numberFor 38 = .ok (.iload_n 1, 1) := by decide +kernel
theorem dX1_numberFor_39 : decode cX1_numberFor 39 = .ok (.invokevirtual 53, 3) := by decide +kernel
theorem dX1_numberFor_42 : decode cX1_numberFor 42 = .ok (.ifCond .eq 9, 3) := by decide +kernel
theorem dX1_numberFor_45 : decode cX1_numberFor 45 = .ok (.aload_n 0, 1) := by decide +kernel
theorem dX1_numberFor_46 : decode cX1_numberFor 46 = .ok (.iload_n 2, 1) := by decide +kernel
theorem dX1_numberFor_47 : decode cX1_numberFor 47 = .ok (.invokevirtual 57, 3) := by decide +kernel
theorem dX1_numberFor_50 : decode cX1_numberFor 50 = .ok (.ireturn, 1) := by decide +kernel
theorem dX1_numberFor_51 : decode cX1_numberFor 51 = .ok (.iinc 2 1, 3) := by decide +kernel
theorem dX1_numberFor_54 : decode cX1_numberFor 54 = .ok (.goto (-38), 3) := by decide +kernel
theorem dX1_numberFor_57 : decode cX1_numberFor 57 = .ok (.aload_n 0, 1) := by decide +kernel
theorem dX1_numberFor_58 : decode cX1_numberFor 58 = .ok (.dup, 1) := by decide +kernel
theorem dX1_numberFor_59 : decode cX1_numberFor 59 = .ok (.getfield 45, 3) := by decide +kernel
theorem dX1_numberFor_62 : decode cX1_numberFor 62 = .ok (.iconst 1, 1) := by decide +kernel
theorem dX1_numberFor_63 : decode cX1_numberFor 63 = .ok (.iadd, 1) := by decide +kernel
theorem dX1_numberFor_64 : decode cX1_numberFor 64 = .ok (.putfield 45, 3) := by decide +kernel
theorem dX1_numberFor_67 : decode cX1_numberFor 67 = .ok (.aload_n 0, 1) := by decide +kernel
theorem dX1_numberFor_68 : decode cX1_numberFor 68 = .ok (.getfield 45, 3) := by decide +kernel
theorem dX1_numberFor_71 : decode cX1_numberFor 71 = .ok (.iconst 1, 1) := by decide +kernel
theorem dX1_numberFor_72 : decode cX1_numberFor 72 = .ok (.isub, 1) := by decide +kernel
theorem dX1_numberFor_73 : decode cX1_numberFor 73 = .ok (.ireturn, 1) := by decide +kernel
theorem dX2_init_0 : decode cX2_init 0 = .ok (.aload_n 0, 1) := by decide +kernel
theorem dX2_init_1 : decode cX2_init 1 = .ok (.invokespecial 3, 3) := by decide +kernel
theorem dX2_init_4 : decode cX2_init 4 = .ok (.aload_n 0, 1) := by decide +kernel
theorem dX2_init_5 : decode cX2_init 5 = .ok (.new 9, 3) := by decide +kernel
theorem dX2_init_8 : decode cX2_init 8 = .ok (.dup, 1) := by decide +kernel
theorem dX2_init_9 : decode cX2_init 9 = .ok (.invokespecial 11, 3) := by decide +kernel
theorem dX2_init_12 : decode cX2_init 12 = .ok (.putfield 12, 3) := by decide +kernel
theorem dX2_init_15 : decode cX2_init 15 = .ok (.aload_n 0, 1) := by decide +kernel
theorem dX2_init_16 : decode cX2_init 16 = .ok (.iconst 3, 1) := by decide +kernel
theorem dX2_init_17 : decode cX2_init 17 = .ok (.newarray .int, 2) := by decide +kernel
theorem dX2_init_19 : decode cX2_init 19 = .ok (.putfield 18, 3) := by decide +kernel
theorem dX2_init_22 : decode cX2_init 22 = .ok (.aload_n 0, 1) := by decide +kernel
theorem dX2_init_23 : decode cX2_init 23 = .ok (.iconst 3, 1) := by decide +kernel
theorem dX2_init_24 : decode cX2_init 24 = .ok (.newarray .int, 2) := by decide +kernel
theorem dX2_init_26 : decode cX2_init 26 = .ok (.putfield 22, 3) := by decide +kernel
theorem dX2_init_29 : decode cX2_init 29 = .ok (.return_, 1) := by decide +kernel
theorem dX2_run_0 : decode cX2_run 0 = .ok (.aload_n 0, 1) := by decide +kernel
theorem dX2_run_1 : decode cX2_run 1 = .ok (.iconst 0, 1) := by decide +kernel
theorem dX2_run_2 : decode cX2_run 2 = .ok (.putfield 25, 3) := by decide +kernel
theorem dX2_run_5 : decode cX2_run 5 = .ok (.aload_n 0, 1) := by decide +kernel
theorem dX2_run_6 : decode cX2_run 6 = .ok (.getfield 12, 3) := by decide +kernel
theorem dX2_run_9 : decode cX2_run 9 = .ok (.aload_n 1, 1) := by decide +kernel
theorem dX2_run_10 : decode cX2_run 10 = .ok (.invokevirtual 29, 3) := by decide +kernel
theorem dX2_run_13 : decode cX2_run 13 = .ok (.aload_n 0, 1) := by decide +kernel
theorem dX2_run_14 : decode cX2_run 14 = .ok (.getfield 12, 3) := by decide +kernel
theorem dX2_run_17 : decode cX2_run 17 = .ok (.aload_n 1, 1) := by decide +kernel
theorem dX2_run_18 : decode cX2_run 18 = .ok (.invokevirtual 33, 3) := by decide +kernel
theorem dX2_run_21 : decode cX2_run 21 = .ok (.iconst 0, 1) := by decide +kernel
theorem dX2_run_22 : decode cX2_run 22 = .ok (.istore_n 3, 1) := by decide +kernel
theorem dX2_run_23 : decode cX2_run 23 = .ok (.iload_n 3, 1) := by decide +kernel
theorem dX2_run_24 : decode cX2_run 24 = .ok (.sipush 240, 3) := by decide +kernel
theorem dX2_run_27 : decode cX2_run 27 = .ok (.if_icmp .ge 37, 3) := by decide +kernel
theorem dX2_run_30 : decode cX2_run 30 = .ok (.aload_n 0, 1) := by decide +kernel
theorem dX2_run_31 : decode cX2_run 31 = .ok (.aload_n 1, 1) := by decide +kernel
theorem dX2_run_32 : decode cX2_run 32 = .ok (.aload_n 2, 1) := by decide +kernel
theorem dX2_run_33 : decode cX2_run 33 = .ok (.invokevirtual 36, 3) := by decide +kernel
theorem dX2_run_36 : decode cX2_run 36 = .ok (.ifCond .ne 4, 3) := by decide +kernel
theorem dX2_run_39 : decode cX2_run 39 = .ok (.return_, 1) := by decide +kernel
theorem dX2_run_40 : decode cX2_run 40 = .ok (.aload_n 0, 1) := by decide +kernel
theorem dX2_run_41 : decode cX2_run 41 = .ok (.dup, 1) := by decide +kernel
theorem dX2_run_42 : decode cX2_run 42 = .ok (.getfield 25, 3) := by decide +kernel
theorem dX2_run_45 : decode cX2_run 45 = .ok (.iconst 1, 1) := by decide +kernel
theorem dX2_run_46 : decode cX2_run 46 = .ok (.iadd, 1) := by decide +kernel
theorem dX2_run_47 : decode cX2_run 47 = .ok (.putfield 25, 3) := by decide +kernel
theorem dX2_run_50 : decode cX2_run 50 = .ok (.aload_n 0, 1) := by decide +kernel
theorem dX2_run_51 : decode cX2_run 51 = .ok (.getfield 12, 3) := by decide +kernel
theorem dX2_run_54 : decode cX2_run 54 = .ok (.aload_n 1, 1) := by decide +kernel
theorem dX2_run_55 : decode cX2_run 55 = .ok (.invokevirtual 33, 3) := by decide +kernel
theorem dX2_run_58 : decode cX2_run 58 = .ok (.iinc 3 1, 3) := by decide +kernel
theorem dX2_run_61 : decode cX2_run 61 = .ok (.goto (-38), 3) := by decide +kernel
theorem dX2_run_64 : decode cX2_run 64 = .ok (.return_, 1) := by decide +kernel
theorem dX2_removeDecreasing_0 : decode cX2_removeDecreasing 0 = .ok (.iconst 0, 1) := by decide +kernel
theorem dX2_removeDecreasing_1 : decode cX2_removeDecreasing 1 = .ok (.istore_n 3, 1) := by decide +kernel
theorem dX2_removeDecreasing_2 : decode cX2_removeDecreasing 2 = .ok (.iconst 0, 1) := by decide +kernel
theorem dX2_removeDecreasing_3 : decode cX2_removeDecreasing 3 = .ok (.istore 4, 2) := by decide +kernel
theorem dX2_removeDecreasing_5 : decode cX2_removeDecreasing 5 = .ok (.iload 4, 2) := by decide +kernel
theorem dX2_removeDecreasing_7 : decode cX2_removeDecreasing 7 = .ok (.aload_n 0, 1) := by decide +kernel
theorem dX2_removeDecreasing_8 : decode cX2_removeDecreasing 8 = .ok (.getfield 12, 3) := by decide +kernel
theorem dX2_removeDecreasing_11 : decode cX2_removeDecreasing 11 = .ok (.getfield 40, 3) := by decide +kernel
theorem dX2_removeDecreasing_14 : decode cX2_removeDecreasing 14 = .ok (.if_icmp .ge 33, 3) := by decide +kernel
theorem dX2_removeDecreasing_17 : decode cX2_removeDecreasing 17 = .ok (.aload_n 0, 1) := by decide +kernel
theorem dX2_removeDecreasing_18 : decode cX2_removeDecreasing 18 = .ok (.aload_n 1, 1) := by decide +kernel
theorem dX2_removeDecreasing_19 : decode cX2_removeDecreasing 19 = .ok (.aload_n 0, 1) := by decide +kernel
theorem dX2_removeDecreasing_20 : decode cX2_removeDecreasing 20 = .ok (.getfield 12, 3) := by decide +kernel
theorem dX2_removeDecreasing_23 : decode cX2_removeDecreasing 23 = .ok (.iload 4, 2) := by decide +kernel
theorem dX2_removeDecreasing_25 : decode cX2_removeDecreasing 25 = .ok (.aload_n 2, 1) := by decide +kernel
theorem dX2_removeDecreasing_26 : decode cX2_removeDecreasing 26 = .ok (.invokevirtual 43, 3) := by decide +kernel
theorem dX2_removeDecreasing_29 : decode cX2_removeDecreasing 29 = .ok (.ifCond .eq 12, 3) := by decide +kernel
theorem dX2_removeDecreasing_32 : decode cX2_removeDecreasing 32 = .ok (.aload_n 0, 1) := by decide +kernel
theorem dX2_removeDecreasing_33 : decode cX2_removeDecreasing 33 = .ok (.aload_n 1, 1) := by decide +kernel
theorem dX2_removeDecreasing_34 : decode cX2_removeDecreasing 34 = .ok (.iload 4, 2) := by decide +kernel
theorem dX2_removeDecreasing_36 : decode cX2_removeDecreasing 36 = .ok (.invokevirtual 47, 3) := by decide +kernel
theorem dX2_removeDecreasing_39 : decode cX2_removeDecreasing 39 = .ok (.iconst 1, 1) := by decide +kernel
theorem dX2_removeDecreasing_40 : decode cX2_removeDecreasing 40 = .ok (.istore_n 3, 1) := by decide +kernel
theorem dX2_removeDecreasing_41 : decode cX2_removeDecreasing 41 = .ok (.iinc 4 1, 3) := by decide +kernel
theorem dX2_removeDecreasing_44 : decode cX2_removeDecreasing 44 = .ok (.goto (-39), 3) := by decide +kernel
theorem dX2_removeDecreasing_47 : decode cX2_removeDecreasing 47 = .ok (.iload_n 3, 1) := by decide +kernel
theorem dX2_removeDecreasing_48 : decode cX2_removeDecreasing 48 = .ok (.ireturn, 1) := by decide +kernel
theorem dX2_removeStrict_0 : decode cX2_removeStrict 0 = .ok (.iconst 0, 1) := by decide +kernel
theorem dX2_removeStrict_1 : decode cX2_removeStrict 1 = .ok (.istore_n 3, 1) := by decide +kernel
theorem dX2_removeStrict_2 : decode cX2_removeStrict 2 = .ok (.iload_n 3, 1) := by decide +kernel
theorem dX2_removeStrict_3 : decode cX2_removeStrict 3 = .ok (.aload_n 1, 1) := by decide +kernel
theorem dX2_removeStrict_4 : decode cX2_removeStrict 4 = .ok (.getfield 51, 3) := by decide +kernel
theorem dX2_removeStrict_7 : decode cX2_removeStrict 7 = .ok (.if_icmp .ge 42, 3) := by decide +kernel
theorem dX2_removeStrict_10 : decode cX2_removeStrict 10 = .ok (.aload_n 0, 1) := by decide +kernel
theorem dX2_removeStrict_11 : decode cX2_removeStrict 11 = .ok (.getfield 12, 3) := by decide +kernel
theorem dX2_removeStrict_14 : decode cX2_removeStrict 14 = .ok (.iload_n 3, 1) := by decide +kernel
theorem dX2_removeStrict_15 : decode cX2_removeStrict 15 = .ok (.invokevirtual 54, 3) := by decide +kernel
theorem dX2_removeStrict_18 : decode cX2_removeStrict 18 = .ok (.iload_n 2, 1) := by decide +kernel
theorem dX2_removeStrict_19 : decode cX2_removeStrict 19 = .ok (.if_icmp .ne 24, 3) := by decide +kernel
theorem dX2_removeStrict_22 : decode cX2_removeStrict 22 = .ok (.aload_n 0, 1) := by decide +kernel
theorem dX2_removeStrict_23 : decode cX2_removeStrict 23 = .ok (.aload_n 1, 1) := by decide +kernel
theorem dX2_removeStrict_24 : decode cX2_removeStrict 24 = .ok (.iload_n 3, 1) := by decide +kernel
theorem dX2_removeStrict_25 : decode cX2_removeStrict 25 = .ok (.invokevirtual 58, 3) := by decide +kernel
theorem dX2_removeStrict_28 : decode cX2_removeStrict 28 = .ok (.invokevirtual 61, 3) := by decide +kernel
theorem dX2_removeStrict_31 : decode cX2_removeStrict 31 = .ok (.iconst 2, 1) := by decide +kernel
theorem dX2_removeStrict_32 : decode cX2_removeStrict 32 = .ok (.if_icmp .ne 11, 3) := by decide +kernel
theorem dX2_removeStrict_35 : decode cX2_removeStrict 35 = .ok (.aload_n 0, 1) := by decide +kernel
theorem dX2_removeStrict_36 : decode cX2_removeStrict 36 = .ok (.getfield 12, 3) := by decide +kernel
theorem dX2_removeStrict_39 : decode cX2_removeStrict 39 = .ok (.iload_n 3, 1) := by decide +kernel
theorem dX2_removeStrict_40 : decode cX2_removeStrict 40 = .ok (.invokevirtual 64, 3) := by decide +kernel
theorem dX2_removeStrict_43 : decode cX2_removeStrict 43 = .ok (.iinc 3 1, 3) := by decide +kernel
theorem dX2_removeStrict_46 : decode cX2_removeStrict 46 = .ok (.goto (-44), 3) := by decide +kernel
theorem dX2_removeStrict_49 : decode cX2_removeStrict 49 = .ok (.return_, 1) := by decide +kernel
theorem dX2_findProjection_0 : decode cX2_findProjection 0 = .ok (.aload_n 0, 1) := by decide +kernel
theorem dX2_findProjection_1 : decode cX2_findProjection 1 = .ok (.aload_n 1, 1) := by decide +kernel
theorem dX2_findProjection_2 : decode cX2_findProjection 2 = .ok (.aload_n 2, 1) := by decide +kernel
theorem dX2_findProjection_3 : decode cX2_findProjection 3 = .ok (.iload_n 3, 1) := by decide +kernel
theorem dX2_findProjection_4 : decode cX2_findProjection 4 = .ok (.aload 4, 2) := by decide +kernel
theorem dX2_findProjection_6 : decode cX2_findProjection 6 = .ok (.invokevirtual 68, 3) := by decide +kernel
theorem dX2_findProjection_9 : decode cX2_findProjection 9 = .ok (.iconst 0, 1) := by decide +kernel
theorem dX2_findProjection_10 : decode cX2_findProjection 10 = .ok (.istore 5, 2) := by decide +kernel
theorem dX2_findProjection_12 : decode cX2_findProjection 12 = .ok (.iload 5, 2) := by decide +kernel
theorem dX2_findProjection_14 : decode cX2_findProjection 14 = .ok (.aload_n 0, 1) := by decide +kernel
theorem dX2_findProjection_15 : decode cX2_findProjection 15 = .ok (.getfield 22, 3) := by decide +kernel
theorem dX2_findProjection_18 : decode cX2_findProjection 18 = .ok (.iconst 0, 1) := by decide +kernel
theorem dX2_findProjection_19 : decode cX2_findProjection 19 = .ok (.iaload, 1) := by decide +kernel
theorem dX2_findProjection_20 : decode cX2_findProjection 20 = .ok (.if_icmp .ge 85, 3) := by decide +kernel
theorem dX2_findProjection_23 : decode cX2_findProjection 23 = .ok (.iconst 0, 1) := by decide +kernel
theorem dX2_findProjection_24 : decode cX2_findProjection 24 = .ok (.istore 6, 2) := by decide +kernel
theorem dX2_findProjection_26 : decode cX2_findProjection 26 = .ok (.iload 6, 2) := by decide +kernel
theorem dX2_findProjection_28 : decode cX2_findProjection 28 = .ok (.aload_n 0, 1) := by decide +kernel
theorem dX2_findProjection_29 : decode cX2_findProjection 29 = .ok (.getfield 22, 3) := by decide +kernel
theorem dX2_findProjection_32 : decode cX2_findProjection 32 = .ok (.iconst 1, 1) := by decide +kernel
theorem dX2_findProjection_33 : decode cX2_findProjection 33 = .ok (.iaload, 1) := by decide +kernel
theorem dX2_findProjection_34 : decode cX2_findProjection 34 = .ok (.if_icmp .ge 65, 3) := by decide +kernel
theorem dX2_findProjection_37 : decode cX2_findProjection 37 = .ok (.iconst 0, 1) := by decide +kernel
theorem dX2_findProjection_38 : decode cX2_findProjection 38 = .ok (.istore 7, 2) := by decide +kernel
theorem dX2_findProjection_40 : decode cX2_findProjection 40 = .ok (.iload 7, 2) := by decide +kernel
theorem dX2_findProjection_42 : decode cX2_findProjection 42 = .ok (.aload_n 0, 1) := by decide +kernel
theorem dX2_findProjection_43 : decode cX2_findProjection 43 = .ok (.getfield 22, 3) := by decide +kernel
theorem dX2_findProjection_46 : decode cX2_findProjection 46 = .ok (.iconst 2, 1) := by decide +kernel
theorem dX2_findProjection_47 : decode cX2_findProjection 47 = .ok (.iaload, 1) := by decide +kernel
theorem dX2_findProjection_48 : decode cX2_findProjection 48 = .ok (.if_icmp .ge 45, 3) := by decide +kernel
theorem dX2_findProjection_51 : decode cX2_findProjection 51 = .ok (.aload_n 0, 1) := by decide +kernel
theorem dX2_findProjection_52 : decode cX2_findProjection 52 = .ok (.getfield 18, 3) := by decide +kernel
theorem dX2_findProjection_55 : decode cX2_findProjection 55 = .ok (.iconst 0, 1) := by decide +kernel
theorem dX2_findProjection_56 : decode cX2_findProjection 56 = .ok (.iload 5, 2) := by decide +kernel
theorem dX2_findProjection_58 : decode cX2_findProjection 58 = .ok (.iastore, 1) := by decide +kernel
theorem dX2_findProjection_59 : decode cX2_findProjection 59 = .ok (.aload_n 0, 1) := by decide +kernel
theorem dX2_findProjection_60 : decode cX2_findProjection 60 = .ok (.getfield 18, 3) := by decide +kernel
theorem dX2_findProjection_63 : decode cX2_findProjection 63 = .ok (.iconst 1, 1) := by decide +kernel
theorem dX2_findProjection_64 : decode cX2_findProjection 64 = .ok (.iload 6, 2) := by decide +kernel
theorem dX2_findProjection_66 : decode cX2_findProjection 66 = .ok (.iastore, 1) := by decide +kernel
theorem dX2_findProjection_67 : decode cX2_findProjection 67 = .ok (.aload_n 0, 1) := by decide +kernel
theorem dX2_findProjection_68 : decode cX2_findProjection 68 = .ok (.getfield 18, 3) := by decide +kernel
theorem dX2_findProjection_71 : decode cX2_findProjection 71 = .ok (.iconst 2, 1) := by decide +kernel
theorem dX2_findProjection_72 : decode cX2_findProjection 72 = .ok (.iload 7, 2) := by decide +kernel
theorem dX2_findProjection_74 : decode cX2_findProjection 74 = .ok (.iastore, 1) := by decide +kernel
theorem dX2_findProjection_75 : decode cX2_findProjection 75 = .ok (.aload_n 0, 1) := by decide +kernel
theorem dX2_findProjection_76 : decode cX2_findProjection 76 = .ok (.aload_n 1, 1) := by decide +kernel
theorem dX2_findProjection_77 : decode cX2_findProjection 77 = .ok (.aload_n 2, 1) := by decide +kernel
theorem dX2_findProjection_78 : decode cX2_findProjection 78 = .ok (.iload_n 3, 1) := by decide +kernel
theorem dX2_findProjection_79 : decode cX2_findProjection 79 = .ok (.invokevirtual 72, 3) := by decide +kernel
theorem dX2_findProjection_82 : decode cX2_findProjection 82 = .ok (.ifCond .eq 5, 3) := by decide +kernel
theorem dX2_findProjection_85 : decode cX2_findProjection 85 = .ok (.iconst 1, 1) := by decide +kernel
theorem dX2_findProjection_86 : decode cX2_findProjection 86 = .ok (.ireturn, 1) := by decide +kernel
theorem dX2_findProjection_87 : decode cX2_findProjection 87 = .ok (.iinc 7 1, 3) := by decide +kernel
theorem dX2_findProjection_90 : decode cX2_findProjection 90 = .ok (.goto (-50), 3) := by decide +kernel
theorem dX2_findProjection_93 : decode cX2_findProjection 93 = .ok (.iinc 6 1, 3) := by decide +kernel
theorem dX2_findProjection_96 : decode cX2_findProjection 96 = .ok (.goto (-70), 3) := by decide +kernel
theorem dX2_findProjection_99 : decode cX2_findProjection 99 = .ok (.iinc 5 1, 3) := by decide +kernel
theorem dX2_findProjection_102 : decode cX2_findProjection 102 = .ok (.goto (-90), 3) := by decide +kernel
theorem dX2_findProjection_105 : decode cX2_findProjection 105 = .ok (.iconst 0, 1) := by decide +kernel
theorem dX2_findProjection_106 : decode cX2_findProjection 106 = .ok (.ireturn, 1) := by decide +kernel
theorem dX2_projectionNumber_0 : decode cX2_projectionNumber 0 = .ok (.bipush 100, 2) := by decide +kernel
theorem dX2_projectionNumber_2 : decode cX2_projectionNumber 2 = .ok (.aload_n 0, 1) := by decide +kernel
theorem dX2_projectionNumber_3 : decode cX2_projectionNumber 3 = .ok (.getfield 18, 3) := by decide +kernel
theorem dX2_projectionNumber_6 : decode cX2_projectionNumber 6 = .ok (.iconst 0, 1) := by decide +kernel
theorem dX2_projectionNumber_7 : decode cX2_projectionNumber 7 = .ok (.iaload, 1) := by decide +kernel
theorem dX2_projectionNumber_8 : decode cX2_projectionNumber 8 = .ok (.iconst 1, 1) := by decide +kernel
theorem dX2_projectionNumber_9 : decode cX2_projectionNumber 9 = .ok (.iadd, 1) := by decide +kernel
theorem dX2_projectionNumber_10 : decode cX2_projectionNumber 10 = .ok (.imul, 1) := by decide +kernel
theorem dX2_projectionNumber_11 : decode cX2_projectionNumber 11 = .ok (.bipush 10, 2) := by decide +kernel
theorem dX2_projectionNumber_13 : decode cX2_projectionNumber 13 = .ok (.aload_n 0, 1) := by decide +kernel
theorem dX2_projectionNumber_14 : decode cX2_projectionNumber 14 = .ok (.getfield 18, 3) := by decide +kernel
theorem dX2_projectionNumber_17 : decode cX2_projectionNumber 17 = .ok (.iconst 1, 1) := by decide +kernel
theorem dX2_projectionNumber_18 : decode cX2_projectionNumber 18 = .ok (.iaload, 1) := by decide +kernel
theorem dX2_projectionNumber_19 : decode cX2_projectionNumber 19 = .ok (.iconst 1, 1) := by decide +kernel
theorem dX2_projectionNumber_20 : decode cX2_projectionNumber 20 = .ok (.iadd, 1) := by decide +kernel
theorem dX2_projectionNumber_21 : decode cX2_projectionNumber 21 = .ok (.imul, 1) := by decide +kernel
theorem dX2_projectionNumber_22 : decode cX2_projectionNumber 22 = .ok (.iadd, 1) := by decide +kernel
theorem dX2_projectionNumber_23 : decode cX2_projectionNumber 23 = .ok (.aload_n 0, 1) := by decide +kernel
theorem dX2_projectionNumber_24 : decode cX2_projectionNumber 24 = .ok (.getfield 18, 3) := by decide +kernel
theorem dX2_projectionNumber_27 : decode cX2_projectionNumber 27 = .ok (.iconst 2, 1) := by decide +kernel
theorem dX2_projectionNumber_28 : decode cX2_projectionNumber 28 = .ok (.iaload, 1) := by decide +kernel
theorem dX2_projectionNumber_29 : decode cX2_projectionNumber 29 = .ok (.iadd, 1) := by decide +kernel
theorem dX2_projectionNumber_30 : decode cX2_projectionNumber 30 = .ok (.iconst 1, 1) := by decide +kernel
theorem dX2_projectionNumber_31 : decode cX2_projectionNumber 31 = .ok (.iadd, 1) := by decide +kernel
theorem dX2_projectionNumber_32 : decode cX2_projectionNumber 32 = .ok (.ireturn, 1) := by decide +kernel
theorem dX2_countChoices_0 : decode cX2_countChoices 0 = .ok (.iconst 0, 1) := by decide +kernel
theorem dX2_countChoices_1 : decode cX2_countChoices 1 = .ok (.istore 5, 2) := by decide +kernel
theorem dX2_countChoices_3 : decode cX2_countChoices 3 = .ok (.iload 5, 2) := by decide +kernel
theorem dX2_countChoices_5 : decode cX2_countChoices 5 = .ok (.iconst 3, 1) := by decide +kernel
theorem dX2_countChoices_6 : decode cX2_countChoices 6 = .ok (.if_icmp .ge 17, 3) := by decide +kernel
theorem dX2_countChoices_9 : decode cX2_countChoices 9 = .ok (.aload_n 0, 1) := by decide +kernel
theorem dX2_countChoices_10 : decode cX2_countChoices 10 = .ok (.getfield 22, 3) := by decide +kernel
theorem dX2_countChoices_13 : decode cX2_countChoices 13 = .ok (.iload 5, 2) := by decide +kernel
theorem dX2_countChoices_15 : decode cX2_countChoices 15 = .ok (.iconst 1, 1) := by decide +kernel
theorem dX2_countChoices_16 : decode cX2_countChoices 16 = .ok (.iastore, 1) := by decide +kernel
theorem dX2_countChoices_17 : decode cX2_countChoices 17 = .ok (.iinc 5 1, 3) := by decide +kernel
theorem dX2_countChoices_20 : decode cX2_countChoices 20 = .ok (.goto (-17), 3) := by decide +kernel
theorem dX2_countChoices_23 : decode cX2_countChoices 23 = .ok (.iconst 0, 1) := by decide +kernel
theorem dX2_countChoices_24 : decode cX2_countChoices 24 = .ok (.istore 5, 2) := by decide +kernel
theorem dX2_countChoices_26 : decode cX2_countChoices 26 = .ok (.iload 5, 2) := by decide +kernel
theorem dX2_countChoices_28 : decode cX2_countChoices 28 = .ok (.aload_n 1, 1) := by decide +kernel
theorem dX2_countChoices_29 : decode cX2_countChoices 29 = .ok (.getfield 51, 3) := by decide +kernel
theorem dX2_countChoices_32 : decode cX2_countChoices 32 = .ok (.if_icmp .ge 49, 3) := by decide +kernel
theorem dX2_countChoices_35 : decode cX2_countChoices 35 = .ok (.aload_n 2, 1) := by decide +kernel
theorem dX2_countChoices_36 : decode cX2_countChoices 36 = .ok (.iload 5, 2) := by decide +kernel
theorem dX2_countChoices_38 : decode cX2_countChoices 38 = .ok (.invokevirtual 54, 3) := by decide +kernel
theorem dX2_countChoices_41 : decode cX2_countChoices 41 = .ok (.iload_n 3, 1) := by decide +kernel
theorem dX2_countChoices_42 : decode cX2_countChoices 42 = .ok (.if_icmp .ne 33, 3) := by decide +kernel
theorem dX2_countChoices_45 : decode cX2_countChoices 45 = .ok (.aload_n 0, 1) := by decide +kernel
theorem dX2_countChoices_46 : decode cX2_countChoices 46 = .ok (.aload_n 1, 1) := by decide +kernel
theorem dX2_countChoices_47 : decode cX2_countChoices 47 = .ok (.iload 5, 2) := by decide +kernel
theorem dX2_countChoices_49 : decode cX2_countChoices 49 = .ok (.invokevirtual 58, 3) := by decide +kernel
theorem dX2_countChoices_52 : decode cX2_countChoices 52 = .ok (.invokestatic 76, 3) := by decide +kernel
theorem dX2_countChoices_55 : decode cX2_countChoices 55 = .ok (.aload 4, 2) := by decide +kernel
theorem dX2_countChoices_57 : decode cX2_countChoices 57 = .ok (.invokevirtual 79, 3) := by decide +kernel
theorem dX2_countChoices_60 : decode cX2_countChoices 60 = .ok (.aload_n 0, 1) := by decide +kernel
theorem dX2_countChoices_61 : decode cX2_countChoices 61 = .ok (.aload_n 1, 1) := by decide +kernel
theorem dX2_countChoices_62 : decode cX2_countChoices 62 = .ok (.iload 5, 2) := by decide +kernel
theorem dX2_countChoices_64 : decode cX2_countChoices 64 = .ok (.invokevirtual 58, 3) := by decide +kernel
theorem dX2_countChoices_67 : decode cX2_countChoices 67 = .ok (.invokestatic 83, 3) := by decide +kernel
theorem dX2_countChoices_70 : decode cX2_countChoices 70 = .ok (.aload 4, 2) := by decide +kernel
theorem dX2_countChoices_72 : decode cX2_countChoices 72 = .ok (.invokevirtual 79, 3) := by decide +kernel
theorem dX2_countChoices_75 : decode cX2_countChoices 75 = .ok (.iinc 5 1, 3) := by decide +kernel
theorem dX2_countChoices_78 : decode cX2_countChoices 78 = .ok (.goto (-52), 3) := by decide +kernel
theorem dX2_countChoices_81 : decode cX2_countChoices 81 = .ok (.return_, 1) := by decide +kernel
theorem dX2_allowChoices_0 : decode cX2_allowChoices 0 = .ok (.iload_n 1, 1) := by decide +kernel
theorem dX2_allowChoices_1 : decode cX2_allowChoices 1 = .ok (.invokestatic 86, 3) := by decide +kernel
theorem dX2_allowChoices_4 : decode cX2_allowChoices 4 = .ok (.ifCond .eq 14, 3) := by decide +kernel
theorem dX2_allowChoices_7 : decode cX2_allowChoices 7 = .ok (.aload_n 0, 1) := by decide +kernel
theorem dX2_allowChoices_8 : decode cX2_allowChoices 8 = .ok (.getfield 22, 3) := by decide +kernel
theorem dX2_allowChoices_11 : decode cX2_allowChoices 11 = .ok (.iload_n 1, 1) := by decide +kernel
theorem dX2_allowChoices_12 : decode cX2_allowChoices 12 = .ok (.aload_n 2, 1) := by decide +kernel
theorem dX2_allowChoices_13 : decode cX2_allowChoices 13 = .ok (.iload_n 1, 1) := by decide +kernel
theorem dX2_allowChoices_14 : decode cX2_allowChoices 14 = .ok (.invokevirtual 90, 3) := by decide +kernel
theorem dX2_allowChoices_17 : decode cX2_allowChoices 17 = .ok (.iastore, 1) := by decide +kernel
theorem dX2_allowChoices_18 : decode cX2_allowChoices 18 = .ok (.return_, 1) := by decide +kernel
theorem dX2_isValid_0 : decode cX2_isValid 0 = .ok (.iconst 0, 1) := by decide +kernel
theorem dX2_isValid_1 : decode cX2_isValid 1 = .ok (.istore 4, 2) := by decide +kernel
theorem dX2_isValid_3 : decode cX2_isValid 3 = .ok (.iconst 0, 1) := by decide +kernel
theorem dX2_isValid_4 : decode cX2_isValid 4 = .ok (.istore 5, 2) := by decide +kernel
theorem dX2_isValid_6 : decode cX2_isValid 6 = .ok (.iload 5, 2) := by decide +kernel
theorem dX2_isValid_8 : decode cX2_isValid 8 = .ok (.aload_n 1, 1) := by decide +kernel
theorem dX2_isValid_9 : decode cX2_isValid 9 = .ok (.getfield 51, 3) := by decide +kernel
theorem dX2_isValid_12 : decode cX2_isValid 12 = .ok (.if_icmp .ge 56, 3) := by decide +kernel
theorem dX2_isValid_15 : decode cX2_isValid 15 = .ok (.aload_n 2, 1) := by decide +kernel
theorem dX2_isValid_16 : decode cX2_isValid 16 = .ok (.iload 5, 2) := by decide +kernel
theorem dX2_isValid_18 : decode cX2_isValid 18 = .ok (.invokevirtual 54, 3) := by decide +kernel
theorem dX2_isValid_21 : decode cX2_isValid 21 = .ok (.iload_n 3, 1) := by decide +kernel
theorem dX2_isValid_22 : decode cX2_isValid 22 = .ok (.if_icmp .ne 40, 3) := by decide +kernel
theorem dX2_isValid_25 : decode cX2_isValid 25 = .ok (.aload_n 0, 1) := by decide +kernel
theorem dX2_isValid_26 : decode cX2_isValid 26 = .ok (.aload_n 1, 1) := by decide +kernel
theorem dX2_isValid_27 : decode cX2_isValid 27 = .ok (.iload 5, 2) := by decide +kernel
theorem dX2_isValid_29 : decode cX2_isValid 29 = .ok (.invokevirtual 58, 3) := by decide +kernel
theorem dX2_isValid_32 : decode cX2_isValid 32 = .ok (.invokevirtual 61, 3) := by decide +kernel
theorem dX2_isValid_35 : decode cX2_isValid 35 = .ok (.istore 6, 2) := by decide +kernel
theorem dX2_isValid_37 : decode cX2_isValid 37 = .ok (.iload 6, 2) := by decide +kernel
theorem dX2_isValid_39 : decode cX2_isValid 39 = .ok (.ifCond .ne 5, 3) := by decide +kernel
theorem dX2_isValid_42 : decode cX2_isValid 42 = .ok (.iconst 0, 1) := by decide +kernel
theorem dX2_isValid_43 : decode cX2_isValid 43 = .ok (.ireturn, 1) := by decide +kernel
theorem dX2_isValid_44 : decode cX2_isValid 44 = .ok (.iload 4, 2) := by decide +kernel
theorem dX2_isValid_46 : decode cX2_isValid 46 = .ok (.ifCond .ne 9, 3) := by decide +kernel
theorem dX2_isValid_49 : decode cX2_isValid 49 = .ok (.iload 6, 2) := by decide +kernel
theorem dX2_isValid_51 : decode cX2_isValid 51 = .ok (.iconst 2, 1) := by decide +kernel
theorem dX2_isValid_52 : decode cX2_isValid 52 = .ok (.if_icmp .ne 7, 3) := by decide +kernel
theorem dX2_isValid_55 : decode cX2_isValid 55 = .ok (.iconst 1, 1) := by decide +kernel
theorem dX2_isValid_56 : decode cX2_isValid 56 = .ok (.goto 4, 3) := by decide +kernel
theorem dX2_isValid_59 : decode cX2_isValid 59 = .ok (.iconst 0, 1) := by decide +kernel
theorem dX2_isValid_60 : decode cX2_isValid 60 = .ok (.istore 4, 2) := by decide +kernel
theorem dX2_isValid_62 : decode cX2_isValid 62 = .ok (.iinc 5 1, 3) := by decide +kernel
theorem dX2_isValid_65 : decode cX2_isValid 65 = .ok (.goto (-59), 3) := by decide +kernel
theorem dX2_isValid_68 : decode cX2_isValid 68 = .ok (.iload 4, 2) := by decide +kernel
theorem dX2_isValid_70 : decode cX2_isValid 70 = .ok (.ireturn, 1) := by decide +kernel
theorem dX2_projected_0 : decode cX2_projected 0 = .ok (.iload_n 1, 1) := by decide +kernel
theorem dX2_projected_1 : decode cX2_projected 1 = .ok (.aload_n 0, 1) := by decide +kernel
theorem dX2_projected_2 : decode cX2_projected 2 = .ok (.iload_n 1, 1) := by decide +kernel
theorem dX2_projected_3 : decode cX2_projected 3 = .ok (.invokestatic 76, 3) := by decide +kernel
theorem dX2_projected_6 : decode cX2_projected 6 = .ok (.invokevirtual 95, 3) := by decide +kernel
theorem dX2_projected_9 : decode cX2_projected 9 = .ok (.aload_n 0, 1) := by decide +kernel
theorem dX2_projected_10 : decode cX2_projected 10 = .ok (.iload_n 1, 1) := by decide +kernel
theorem dX2_projected_11 : decode cX2_projected 11 = .ok (.invokestatic 83, 3) := by decide +kernel
theorem dX2_projected_14 : decode cX2_projected 14 = .ok (.invokevirtual 95, 3) := by decide +kernel
theorem dX2_projected_17 : decode cX2_projected 17 = .ok (.invokestatic 98, 3) := by decide +kernel
theorem dX2_projected_20 : decode cX2_projected 20 = .ok (.ireturn, 1) := by decide +kernel
theorem dX2_choiceOf_0 : decode cX2_choiceOf 0 = .ok (.iload_n 1, 1) := by decide +kernel
theorem dX2_choiceOf_1 : decode cX2_choiceOf 1 = .ok (.ifCond .lt 21, 3) := by decide +kernel
theorem dX2_choiceOf_4 : decode cX2_choiceOf 4 = .ok (.iload_n 1, 1) := by decide +kernel
theorem dX2_choiceOf_5 : decode cX2_choiceOf 5 = .ok (.aload_n 0, 1) := by decide +kernel
theorem dX2_choiceOf_6 : decode cX2_choiceOf 6 = .ok (.getfield 18, 3) := by decide +kernel
theorem dX2_choiceOf_9 : decode cX2_choiceOf 9 = .ok (.arraylength, 1) := by decide +kernel
theorem dX2_choiceOf_10 : decode cX2_choiceOf 10 = .ok (.if_icmp .ge 12, 3) := by decide +kernel
theorem dX2_choiceOf_13 : decode cX2_choiceOf 13 = .ok (.aload_n 0, 1) := by decide +kernel
theorem dX2_choiceOf_14 : decode cX2_choiceOf 14 = .ok (.getfield 18, 3) := by decide +kernel
theorem dX2_choiceOf_17 : decode cX2_choiceOf 17 = .ok (.iload_n 1, 1) := by decide +kernel
theorem dX2_choiceOf_18 : decode cX2_choiceOf 18 = .ok (.iaload, 1) := by decide +kernel
theorem dX2_choiceOf_19 : decode cX2_choiceOf 19 = .ok (.goto 4, 3) := by decide +kernel
theorem dX2_choiceOf_22 : decode cX2_choiceOf 22 = .ok (.iconst 0, 1) := by decide +kernel
theorem dX2_choiceOf_23 : decode cX2_choiceOf 23 = .ok (.ireturn, 1) := by decide +kernel
theorem dX3_init_0 : decode cX3_init 0 = .ok (.aload_n 0, 1) := by decide +kernel
theorem dX3_init_1 : decode cX3_init 1 = .ok (.invokespecial 3, 3) := by decide +kernel
theorem dX3_init_4 : decode cX3_init 4 = .ok (.aload_n 0, 1) := by decide +kernel
theorem dX3_init_5 : decode cX3_init 5 = .ok (.bipush 31, 2) := by decide +kernel
theorem dX3_init_7 : decode cX3_init 7 = .ok (.anewarray 11, 3) := by decide +kernel
theorem dX3_init_10 : decode cX3_init 10 = .ok (.putfield 13, 3) := by decide +kernel
theorem dX3_init_13 : decode cX3_init 13 = .ok (.aload_n 0, 1) := by decide +kernel
theorem dX3_init_14 : decode cX3_init 14 = .ok (.bipush 31, 2) := by decide +kernel
theorem dX3_init_16 : decode cX3_init 16 = .ok (.newarray .boolean, 2) := by decide +kernel
theorem dX3_init_18 : decode cX3_init 18 = .ok (.putfield 17, 3) := by decide +kernel
theorem dX3_init_21 : decode cX3_init 21 = .ok (.aload_n 0, 1) := by decide +kernel
theorem dX3_init_22 : decode cX3_init 22 = .ok (.new 11, 3) := by decide +kernel
theorem dX3_init_25 : decode cX3_init 25 = .ok (.dup, 1) := by decide +kernel
theorem dX3_init_26 : decode cX3_init 26 = .ok (.invokespecial 21, 3) := by decide +kernel
theorem dX3_init_29 : decode cX3_init 29 = .ok (.putfield 22, 3) := by decide +kernel
theorem dX3_init_32 : decode cX3_init 32 = .ok (.aload_n 0, 1) := by decide +kernel
theorem dX3_init_33 : decode cX3_init 33 = .ok (.new 11, 3) := by decide +kernel
theorem dX3_init_36 : decode cX3_init 36 = .ok (.dup, 1) := by decide +kernel
theorem dX3_init_37 : decode cX3_init 37 = .ok (.invokespecial 21, 3) := by decide +kernel
theorem dX3_init_40 : decode cX3_init 40 = .ok (.putfield 26, 3) := by decide +kernel
theorem dX3_init_43 : decode cX3_init 43 = .ok (.aload_n 0, 1) := by decide +kernel
theorem dX3_init_44 : decode cX3_init 44 = .ok (.new 11, 3) := by decide +kernel
theorem dX3_init_47 : decode cX3_init 47 = .ok (.dup, 1) := by decide +kernel
theorem dX3_init_48 : decode cX3_init 48 = .ok (.invokespecial 21, 3) := by decide +kernel
theorem dX3_init_51 : decode cX3_init 51 = .ok (.putfield 29, 3) := by decide +kernel
theorem dX3_init_54 : decode cX3_init 54 = .ok (.iconst 0, 1) := by decide +kernel
theorem dX3_init_55 : decode cX3_init 55 = .ok (.istore_n 1, 1) := by decide +kernel
theorem dX3_init_56 : decode cX3_init 56 = .ok (.iload_n 1, 1) := by decide +kernel
theorem dX3_init_57 : decode cX3_init 57 = .ok (.bipush 30, 2) := by decide +kernel
theorem dX3_init_59 : decode cX3_init 59 = .ok (.if_icmp .gt 22, 3) := by decide +kernel
theorem dX3_init_62 : decode cX3_init 62 = .ok (.aload_n 0, 1) := by decide +kernel
theorem dX3_init_63 : decode cX3_init 63 = .ok (.getfield 13, 3) := by decide +kernel
theorem dX3_init_66 : decode cX3_init 66 = .ok (.iload_n 1, 1) := by decide +kernel
theorem dX3_init_67 : decode cX3_init 67 = .ok (.new 11, 3) := by decide +kernel
theorem dX3_init_70 : decode cX3_init 70 = .ok (.dup, 1) := by decide +kernel
theorem dX3_init_71 : decode cX3_init 71 = .ok (.invokespecial 21, 3) := by decide +kernel
theorem dX3_init_74 : decode cX3_init 74 = .ok (.aastore, 1) := by decide +kernel
theorem dX3_init_75 : decode cX3_init 75 = .ok (.iinc 1 1, 3) := by decide +kernel
theorem dX3_init_78 : decode cX3_init 78 = .ok (.goto (-22), 3) := by decide +kernel
theorem dX3_init_81 : decode cX3_init 81 = .ok (.return_, 1) := by decide +kernel
theorem dX3_run_0 : decode cX3_run 0 = .ok (.iload_n 3, 1) := by decide +kernel
theorem dX3_run_1 : decode cX3_run 1 = .ok (.invokestatic 32, 3) := by decide +kernel
theorem dX3_run_4 : decode cX3_run 4 = .ok (.ifCond .ne 5, 3) := by decide +kernel
theorem dX3_run_7 : decode cX3_run 7 = .ok (.iconst (-1), 1) := by decide +kernel
theorem dX3_run_8 : decode cX3_run 8 = .ok (.ireturn, 1) := by decide +kernel
theorem dX3_run_9 : decode cX3_run 9 = .ok (.iload 4, 2) := by decide +kernel
theorem dX3_run_11 : decode cX3_run 11 = .ok (.iconst 1, 1) := by decide +kernel
theorem dX3_run_12 : decode cX3_run 12 = .ok (.if_icmp .lt 10, 3) := by decide +kernel
theorem dX3_run_15 : decode cX3_run 15 = .ok (.iload 4, 2) := by decide +kernel
theorem dX3_run_17 : decode cX3_run 17 = .ok (.bipush 30, 2) := by decide +kernel
theorem dX3_run_19 : decode cX3_run 19 = .ok (.if_icmp .le 6, 3) := by decide +kernel
theorem dX3_run_22 : decode cX3_run 22 = .ok (.bipush (-2), 2) := by decide +kernel
theorem dX3_run_24 : decode cX3_run 24 = .ok (.ireturn, 1) := by decide +kernel
theorem dX3_run_25 : decode cX3_run 25 = .ok (.aload_n 0, 1) := by decide +kernel
theorem dX3_run_26 : decode cX3_run 26 = .ok (.iconst 0, 1) := by decide +kernel
theorem dX3_run_27 : decode cX3_run 27 = .ok (.putfield 36, 3) := by decide +kernel
theorem dX3_run_30 : decode cX3_run 30 = .ok (.aload_n 0, 1) := by decide +kernel
theorem dX3_run_31 : decode cX3_run 31 = .ok (.iconst 0, 1) := by decide +kernel
theorem dX3_run_32 : decode cX3_run 32 = .ok (.putfield 40, 3) := by decide +kernel
theorem dX3_run_35 : decode cX3_run 35 = .ok (.aload_n 0, 1) := by decide +kernel
theorem dX3_run_36 : decode cX3_run 36 = .ok (.iconst 0, 1) := by decide +kernel
theorem dX3_run_37 : decode cX3_run 37 = .ok (.putfield 43, 3) := by decide +kernel
theorem dX3_run_40 : decode cX3_run 40 = .ok (.aload_n 0, 1) := by decide +kernel
theorem dX3_run_41 : decode cX3_run 41 = .ok (.aload_n 1, 1) := by decide +kernel
theorem dX3_run_42 : decode cX3_run 42 = .ok (.iload_n 3, 1) := by decide +kernel
theorem dX3_run_43 : decode cX3_run 43 = .ok (.invokevirtual 46, 3) := by decide +kernel
theorem dX3_run_46 : decode cX3_run 46 = .ok (.invokevirtual 52, 3) := by decide +kernel
theorem dX3_run_49 : decode cX3_run 49 = .ok (.iconst 0, 1) := by decide +kernel
theorem dX3_run_50 : decode cX3_run 50 = .ok (.istore 5, 2) := by decide +kernel
theorem dX3_run_52 : decode cX3_run 52 = .ok (.iload 5, 2) := by decide +kernel
theorem dX3_run_54 : decode cX3_run 54 = .ok (.iload 4, 2) := by decide +kernel
theorem dX3_run_56 : decode cX3_run 56 = .ok (.if_icmp .ge 32, 3) := by decide +kernel
theorem dX3_run_59 : decode cX3_run 59 = .ok (.aload_n 0, 1) := by decide +kernel
theorem dX3_run_60 : decode cX3_run 60 = .ok (.invokevirtual 56, 3) := by decide +kernel
theorem dX3_run_63 : decode cX3_run 63 = .ok (.ifCond .eq 25, 3) := by decide +kernel
theorem dX3_run_66 : decode cX3_run 66 = .ok (.aload_n 0, 1) := by decide +kernel
theorem dX3_run_67 : decode cX3_run 67 = .ok (.dup, 1) := by decide +kernel
theorem dX3_run_68 : decode cX3_run 68 = .ok (.getfield 40, 3) := by decide +kernel
theorem dX3_run_71 : decode cX3_run 71 = .ok (.iconst 1, 1) := by decide +kernel
theorem dX3_run_72 : decode cX3_run 72 = .ok (.iadd, 1) := by decide +kernel
theorem dX3_run_73 : decode cX3_run 73 = .ok (.putfield 40, 3) := by decide +kernel
theorem dX3_run_76 : decode cX3_run 76 = .ok (.aload_n 0, 1) := by decide +kernel
theorem dX3_run_77 : decode cX3_run 77 = .ok (.aload_n 1, 1) := by decide +kernel
theorem dX3_run_78 : decode cX3_run 78 = .ok (.aload_n 2, 1) := by decide +kernel
theorem dX3_run_79 : decode cX3_run 79 = .ok (.invokevirtual 60, 3) := by decide +kernel
theorem dX3_run_82 : decode cX3_run 82 = .ok (.iinc 5 1, 3) := by decide +kernel
theorem dX3_run_85 : decode cX3_run 85 = .ok (.goto (-33), 3) := by decide +kernel
theorem dX3_run_88 : decode cX3_run 88 = .ok (.iconst 0, 1) := by decide +kernel
theorem dX3_run_89 : decode cX3_run 89 = .ok (.ireturn, 1) := by decide +kernel
theorem dX3_takeLowest_0 : decode cX3_takeLowest 0 = .ok (.iconst 0, 1) := by decide +kernel
theorem dX3_takeLowest_1 : decode cX3_takeLowest 1 = .ok (.istore_n 1, 1) := by decide +kernel
theorem dX3_takeLowest_2 : decode cX3_takeLowest 2 = .ok (.iload_n 1, 1) := by decide +kernel
theorem dX3_takeLowest_3 : decode cX3_takeLowest 3 = .ok (.aload_n 0, 1) := by decide +kernel
theorem dX3_takeLowest_4 : decode cX3_takeLowest 4 = .ok (.getfield 36, 3) := by decide +kernel
theorem dX3_takeLowest_7 : decode cX3_takeLowest 7 = .ok (.if_icmp .ge 46, 3) := by decide +kernel
theorem dX3_takeLowest_10 : decode cX3_takeLowest 10 = .ok (.iload_n 1, 1) := by decide +kernel
theorem dX3_takeLowest_11 : decode cX3_takeLowest 11 = .ok (.bipush 30, 2) := by decide +kernel
theorem dX3_takeLowest_13 : decode cX3_takeLowest 13 = .ok (.if_icmp .ge 40, 3) := by decide +kernel
theorem dX3_takeLowest_16 : decode cX3_takeLowest 16 = .ok (.aload_n 0, 1) := by decide +kernel
theorem dX3_takeLowest_17 : decode cX3_takeLowest 17 = .ok (.getfield 17, 3) := by decide +kernel
theorem dX3_takeLowest_20 : decode cX3_takeLowest 20 = .ok (.iload_n 1, 1) := by decide +kernel
theorem dX3_takeLowest_21 : decode cX3_takeLowest 21 = .ok (.baload, 1) := by decide +kernel
theorem dX3_takeLowest_22 : decode cX3_takeLowest 22 = .ok (.ifCond .ne 25, 3) := by decide +kernel
theorem dX3_takeLowest_25 : decode cX3_takeLowest 25 = .ok (.aload_n 0, 1) := by decide +kernel
theorem dX3_takeLowest_26 : decode cX3_takeLowest 26 = .ok (.getfield 17, 3) := by decide +kernel
theorem dX3_takeLowest_29 : decode cX3_takeLowest 29 = .ok (.iload_n 1, 1) := by decide +kernel
theorem dX3_takeLowest_30 : decode cX3_takeLowest 30 = .ok (.iconst 1, 1) := by decide +kernel
theorem dX3_takeLowest_31 : decode cX3_takeLowest 31 = .ok (.bastore, 1) := by decide +kernel
theorem dX3_takeLowest_32 : decode cX3_takeLowest 32 = .ok (.aload_n 0, 1) := by decide +kernel
theorem dX3_takeLowest_33 : decode cX3_takeLowest 33 = .ok (.getfield 26, 3) := by decide +kernel
theorem dX3_takeLowest_36 : decode cX3_takeLowest 36 = .ok (.aload_n 0, 1) := by decide +kernel
theorem dX3_takeLowest_37 : decode cX3_takeLowest 37 = .ok (.getfield 13, 3) := by decide +kernel
theorem dX3_takeLowest_40 : decode cX3_takeLowest 40 = .ok (.iload_n 1, 1) := by decide +kernel
theorem dX3_takeLowest_41 : decode cX3_takeLowest 41 = .ok (.aaload, 1) := by decide +kernel
theorem dX3_takeLowest_42 : decode cX3_takeLowest 42 = .ok (.invokevirtual 64, 3) := by decide +kernel
theorem dX3_takeLowest_45 : decode cX3_takeLowest 45 = .ok (.iconst 1, 1) := by decide +kernel
theorem dX3_takeLowest_46 : decode cX3_takeLowest 46 = .ok (.ireturn, 1) := by decide +kernel
theorem dX3_takeLowest_47 : decode cX3_takeLowest 47 = .ok (.iinc 1 1, 3) := by decide +kernel
theorem dX3_takeLowest_50 : decode cX3_takeLowest 50 = .ok (.goto (-48), 3) := by decide +kernel
theorem dX3_takeLowest_53 : decode cX3_takeLowest 53 = .ok (.iconst 0, 1) := by decide +kernel
theorem dX3_takeLowest_54 : decode cX3_takeLowest 54 = .ok (.ireturn, 1) := by decide +kernel
theorem dX3_expandCurrent_0 : decode cX3_expandCurrent 0 = .ok (.iconst 1, 1) := by decide +kernel
theorem dX3_expandCurrent_1 : decode cX3_expandCurrent 1 = .ok (.istore_n 3, 1) := by decide +kernel
theorem dX3_expandCurrent_2 : decode cX3_expandCurrent 2 = .ok (.iconst 0, 1) := by decide +kernel
theorem dX3_expandCurrent_3 : decode cX3_expandCurrent 3 = .ok (.istore 4, 2) := by decide +kernel
theorem dX3_expandCurrent_5 : decode cX3_expandCurrent 5 = .ok (.iload 4, 2) := by decide +kernel
theorem dX3_expandCurrent_7 : decode cX3_expandCurrent 7 = .ok (.aload_n 0, 1) := by decide +kernel
theorem dX3_expandCurrent_8 : decode cX3_expandCurrent 8 = .ok (.getfield 26, 3) := by decide +kernel
theorem dX3_expandCurrent_11 : decode cX3_expandCurrent 11 = .ok (.getfield 67, 3) := by decide +kernel
theorem dX3_expandCurrent_14 : decode cX3_expandCurrent 14 = .ok (.if_icmp .ge 48, 3) := by decide +kernel
theorem dX3_expandCurrent_17 : decode cX3_expandCurrent 17 = .ok (.aload_n 2, 1) := by decide +kernel
theorem dX3_expandCurrent_18 : decode cX3_expandCurrent 18 = .ok (.aload_n 1, 1) := by decide +kernel
theorem dX3_expandCurrent_19 : decode cX3_expandCurrent 19 = .ok (.aload_n 0, 1) := by decide +kernel
theorem dX3_expandCurrent_20 : decode cX3_expandCurrent 20 = .ok (.getfield 26, 3) := by decide +kernel
theorem dX3_expandCurrent_23 : decode cX3_expandCurrent 23 = .ok (.iload 4, 2) := by decide +kernel
theorem dX3_expandCurrent_25 : decode cX3_expandCurrent 25 = .ok (.aload_n 0, 1) := by decide +kernel
theorem dX3_expandCurrent_26 : decode cX3_expandCurrent 26 = .ok (.getfield 22, 3) := by decide +kernel
theorem dX3_expandCurrent_29 : decode cX3_expandCurrent 29 = .ok (.invokevirtual 70, 3) := by decide +kernel
theorem dX3_expandCurrent_32 : decode cX3_expandCurrent 32 = .ok (.istore 5, 2) := by decide +kernel
theorem dX3_expandCurrent_34 : decode cX3_expandCurrent 34 = .ok (.iload 5, 2) := by decide +kernel
theorem dX3_expandCurrent_36 : decode cX3_expandCurrent 36 = .ok (.bipush (-5), 2) := by decide +kernel
theorem dX3_expandCurrent_38 : decode cX3_expandCurrent 38 = .ok (.if_icmp .eq 5, 3) := by decide +kernel
theorem dX3_expandCurrent_41 : decode cX3_expandCurrent 41 = .ok (.iconst 0, 1) := by decide +kernel
theorem dX3_expandCurrent_42 : decode cX3_expandCurrent 42 = .ok (.istore_n 3, 1) := by decide +kernel
theorem dX3_expandCurrent_43 : decode cX3_expandCurrent 43 = .ok (.iload 5, 2) := by decide +kernel
theorem dX3_expandCurrent_45 : decode cX3_expandCurrent 45 = .ok (.ifCond .lt 11, 3) := by decide +kernel
theorem dX3_expandCurrent_48 : decode cX3_expandCurrent 48 = .ok (.aload_n 0, 1) := by decide +kernel
theorem dX3_expandCurrent_49 : decode cX3_expandCurrent 49 = .ok (.aload_n 0, 1) := by decide +kernel
theorem dX3_expandCurrent_50 : decode cX3_expandCurrent 50 = .ok (.getfield 22, 3) := by decide +kernel
theorem dX3_expandCurrent_53 : decode cX3_expandCurrent 53 = .ok (.invokevirtual 52, 3) := by decide +kernel
theorem dX3_expandCurrent_56 : decode cX3_expandCurrent 56 = .ok (.iinc 4 1, 3) := by decide +kernel
theorem dX3_expandCurrent_59 : decode cX3_expandCurrent 59 = .ok (.goto (-54), 3) := by decide +kernel
theorem dX3_expandCurrent_62 : decode cX3_expandCurrent 62 = .ok (.iload_n 3, 1) := by decide +kernel
theorem dX3_expandCurrent_63 : decode cX3_expandCurrent 63 = .ok (.ifCond .eq 7, 3) := by decide +kernel
theorem dX3_expandCurrent_66 : decode cX3_expandCurrent 66 = .ok (.aload_n 0, 1) := by decide +kernel
theorem dX3_expandCurrent_67 : decode cX3_expandCurrent 67 = .ok (.invokevirtual 76, 3) := by decide +kernel
theorem dX3_expandCurrent_70 : decode cX3_expandCurrent 70 = .ok (.return_, 1) := by decide +kernel
theorem dX3_noteNormalForm_0 : decode cX3_noteNormalForm 0 = .ok (.aload_n 0, 1) := by decide +kernel
theorem dX3_noteNormalForm_1 : decode cX3_noteNormalForm 1 = .ok (.getfield 43, 3) := by decide +kernel
theorem dX3_noteNormalForm_4 : decode cX3_noteNormalForm 4 = .ok (.ifCond .eq 17, 3) := by decide +kernel
theorem dX3_noteNormalForm_7 : decode cX3_noteNormalForm 7 = .ok (.aload_n 0, 1) := by decide +kernel
theorem dX3_noteNormalForm_8 : decode cX3_noteNormalForm 8 = .ok (.getfield 26, 3) := by decide +kernel
theorem dX3_noteNormalForm_11 : decode cX3_noteNormalForm 11 = .ok (.aload_n 0, 1) := by decide +kernel
theorem dX3_noteNormalForm_12 : decode cX3_noteNormalForm 12 = .ok (.getfield 29, 3) := by decide +kernel
theorem dX3_noteNormalForm_15 : decode cX3_noteNormalForm 15 = .ok (.invokevirtual 79, 3) := by decide +kernel
theorem dX3_noteNormalForm_18 : decode cX3_noteNormalForm 18 = .ok (.ifCond .ge 14, 3) := by decide +kernel
theorem dX3_noteNormalForm_21 : decode cX3_noteNormalForm 21 = .ok (.aload_n 0, 1) := by decide +kernel
theorem dX3_noteNormalForm_22 : decode cX3_noteNormalForm 22 = .ok (.getfield 29, 3) := by decide +kernel
theorem dX3_noteNormalForm_25 : decode cX3_noteNormalForm 25 = .ok (.aload_n 0, 1) := by decide +kernel
theorem dX3_noteNormalForm_26 : decode cX3_noteNormalForm 26 = .ok (.getfield 26, 3) := by decide +kernel
theorem dX3_noteNormalForm_29 : decode cX3_noteNormalForm 29 = .ok (.invokevirtual 64, 3) := by decide +kernel
theorem dX3_noteNormalForm_32 : decode cX3_noteNormalForm 32 = .ok (.aload_n 0, 1) := by decide +kernel
theorem dX3_noteNormalForm_33 : decode cX3_noteNormalForm 33 = .ok (.dup, 1) := by decide +kernel
theorem dX3_noteNormalForm_34 : decode cX3_noteNormalForm 34 = .ok (.getfield 43, 3) := by decide +kernel
theorem dX3_noteNormalForm_37 : decode cX3_noteNormalForm 37 = .ok (.iconst 1, 1) := by decide +kernel
theorem dX3_noteNormalForm_38 : decode cX3_noteNormalForm 38 = .ok (.iadd, 1) := by decide +kernel
theorem dX3_noteNormalForm_39 : decode cX3_noteNormalForm 39 = .ok (.putfield 43, 3) := by decide +kernel
theorem dX3_noteNormalForm_42 : decode cX3_noteNormalForm 42 = .ok (.return_, 1) := by decide +kernel
theorem dX3_discover_0 : decode cX3_discover 0 = .ok (.iconst 0, 1) := by decide +kernel
theorem dX3_discover_1 : decode cX3_discover 1 = .ok (.istore_n 2, 1) := by decide +kernel
theorem dX3_discover_2 : decode cX3_discover 2 = .ok (.iload_n 2, 1) := by decide +kernel
theorem dX3_discover_3 : decode cX3_discover 3 = .ok (.aload_n 0, 1) := by decide +kernel
theorem dX3_discover_4 : decode cX3_discover 4 = .ok (.getfield 36, 3) := by decide +kernel
theorem dX3_discover_7 : decode cX3_discover 7 = .ok (.if_icmp .ge 42, 3) := by decide +kernel
theorem dX3_discover_10 : decode cX3_discover 10 = .ok (.iload_n 2, 1) := by decide +kernel
theorem dX3_discover_11 : decode cX3_discover 11 = .ok (.bipush 30, 2) := by decide +kernel
theorem dX3_discover_13 : decode cX3_discover 13 = .ok (.if_icmp .ge 36, 3) := by decide +kernel
theorem dX3_discover_16 : decode cX3_discover 16 = .ok (.aload_n 1, 1) := by decide +kernel
theorem dX3_discover_17 : decode cX3_discover 17 = .ok (.aload_n 0, 1) := by decide +kernel
theorem dX3_discover_18 : decode cX3_discover 18 = .ok (.getfield 13, 3) := by decide +kernel
theorem dX3_discover_21 : decode cX3_discover 21 = .ok (.iload_n 2, 1) := by decide +kernel
theorem dX3_discover_22 : decode cX3_discover 22 = .ok (.aaload, 1) := by decide +kernel
theorem dX3_discover_23 : decode cX3_discover 23 = .ok (.invokevirtual 79, 3) := by decide +kernel
theorem dX3_discover_26 : decode cX3_discover 26 = .ok (.istore_n 3, 1) := by decide +kernel
theorem dX3_discover_27 : decode cX3_discover 27 = .ok (.iload_n 3, 1) := by decide +kernel
theorem dX3_discover_28 : decode cX3_discover 28 = .ok (.ifCond .ne 4, 3) := by decide +kernel
theorem dX3_discover_31 : decode cX3_discover 31 = .ok (.return_, 1) := by decide +kernel
theorem dX3_discover_32 : decode cX3_discover 32 = .ok (.iload_n 3, 1) := by decide +kernel
theorem dX3_discover_33 : decode cX3_discover 33 = .ok (.ifCond .ge 10, 3) := by decide +kernel
theorem dX3_discover_36 : decode cX3_discover 36 = .ok (.aload_n 0, 1) := by decide +kernel
theorem dX3_discover_37 : decode cX3_discover 37 = .ok (.aload_n 1, 1) := by decide +kernel
theorem dX3_discover_38 : decode cX3_discover 38 = .ok (.iload_n 2, 1) := by decide +kernel
theorem dX3_discover_39 : decode cX3_discover 39 = .ok (.invokevirtual 83, 3) := by decide +kernel
theorem dX3_discover_42 : decode cX3_discover 42 = .ok (.return_, 1) := by decide +kernel
theorem dX3_discover_43 : decode cX3_discover 43 = .ok (.iinc 2 1, 3) := by decide +kernel
theorem dX3_discover_46 : decode cX3_discover 46 = .ok (.goto (-44), 3) := by decide +kernel
theorem dX3_discover_49 : decode cX3_discover 49 = .ok (.aload_n 0, 1) := by decide +kernel
theorem dX3_discover_50 : decode cX3_discover 50 = .ok (.getfield 36, 3) := by decide +kernel
theorem dX3_discover_53 : decode cX3_discover 53 = .ok (.bipush 30, 2) := by decide +kernel
theorem dX3_discover_55 : decode cX3_discover 55 = .ok (.if_icmp .ge 12, 3) := by decide +kernel
theorem dX3_discover_58 : decode cX3_discover 58 = .ok (.aload_n 0, 1) := by decide +kernel
theorem dX3_discover_59 : decode cX3_discover 59 = .ok (.aload_n 1, 1) := by decide +kernel
theorem dX3_discover_60 : decode cX3_discover 60 = .ok (.aload_n 0, 1) := by decide +kernel
theorem dX3_discover_61 : decode cX3_discover 61 = .ok (.getfield 36, 3) := by decide +kernel
theorem dX3_discover_64 : decode cX3_discover 64 = .ok (.invokevirtual 83, 3) := by decide +kernel
theorem dX3_discover_67 : decode cX3_discover 67 = .ok (.return_, 1) := by decide +kernel
theorem dX3_insert_0 : decode cX3_insert 0 = .ok (.aload_n 0, 1) := by decide +kernel
theorem dX3_insert_1 : decode cX3_insert 1 = .ok (.getfield 36, 3) := by decide +kernel
theorem dX3_insert_4 : decode cX3_insert 4 = .ok (.bipush 30, 2) := by decide +kernel
theorem dX3_insert_6 : decode cX3_insert 6 = .ok (.invokestatic 87, 3) := by decide +kernel
theorem dX3_insert_9 : decode cX3_insert 9 = .ok (.istore_n 3, 1) := by decide +kernel
theorem dX3_insert_10 : decode cX3_insert 10 = .ok (.aload_n 0, 1) := by decide +kernel
theorem dX3_insert_11 : decode cX3_insert 11 = .ok (.getfield 13, 3) := by decide +kernel
theorem dX3_insert_14 : decode cX3_insert 14 = .ok (.iload_n 3, 1) := by decide +kernel
theorem dX3_insert_15 : decode cX3_insert 15 = .ok (.aaload, 1) := by decide +kernel
theorem dX3_insert_16 : decode cX3_insert 16 = .ok (.astore 4, 2) := by decide +kernel
theorem dX3_insert_18 : decode cX3_insert 18 = .ok (.iload_n 3, 1) := by decide +kernel
theorem dX3_insert_19 : decode cX3_insert 19 = .ok (.istore 5, 2) := by decide +kernel
theorem dX3_insert_21 : decode cX3_insert 21 = .ok (.iload 5, 2) := by decide +kernel
theorem dX3_insert_23 : decode cX3_insert 23 = .ok (.iload_n 2, 1) := by decide +kernel
theorem dX3_insert_24 : decode cX3_insert 24 = .ok (.if_icmp .le 41, 3) := by decide +kernel
theorem dX3_insert_27 : decode cX3_insert 27 = .ok (.aload_n 0, 1) := by decide +kernel
theorem dX3_insert_28 : decode cX3_insert 28 = .ok (.getfield 13, 3) := by decide +kernel
theorem dX3_insert_31 : decode cX3_insert 31 = .ok (.iload 5, 2) := by decide +kernel
theorem dX3_insert_33 : decode cX3_insert 33 = .ok (.aload_n 0, 1) := by decide +kernel
theorem dX3_insert_34 : decode cX3_insert 34 = .ok (.getfield 13, 3) := by decide +kernel
theorem dX3_insert_37 : decode cX3_insert 37 = .ok (.iload 5, 2) := by decide +kernel
theorem dX3_insert_39 : decode cX3_insert 39 = .ok (.iconst 1, 1) := by decide +kernel
theorem dX3_insert_40 : decode cX3_insert 40 = .ok (.isub, 1) := by decide +kernel
theorem dX3_insert_41 : decode cX3_insert 41 = .ok (.aaload, 1) := by decide +kernel
theorem dX3_insert_42 : decode cX3_insert 42 = .ok (.aastore, 1) := by decide +kernel
theorem dX3_insert_43 : decode cX3_insert 43 = .ok (.aload_n 0, 1) := by decide +kernel
theorem dX3_insert_44 : decode cX3_insert 44 = .ok (.getfield 17, 3) := by decide +kernel
theorem dX3_insert_47 : decode cX3_insert 47 = .ok (.iload 5, 2) := by decide +kernel
theorem dX3_insert_49 : decode cX3_insert 49 = .ok (.aload_n 0, 1) := by decide +kernel
theorem dX3_insert_50 : decode cX3_insert 50 = .ok (.getfield 17, 3) := by decide +kernel
theorem dX3_insert_53 : decode cX3_insert 53 = .ok (.iload 5, 2) := by decide +kernel
theorem dX3_insert_55 : decode cX3_insert 55 = .ok (.iconst 1, 1) := by decide +kernel
theorem dX3_insert_56 : decode cX3_insert 56 = .ok (.isub, 1) := by decide +kernel
theorem dX3_insert_57 : decode cX3_insert 57 = .ok (.baload, 1) := by decide +kernel
theorem dX3_insert_58 : decode cX3_insert 58 = .ok (.bastore, 1) := by decide +kernel
theorem dX3_insert_59 : decode cX3_insert 59 = .ok (.iinc 5 (-1), 3) := by decide +kernel
theorem dX3_insert_62 : decode cX3_insert 62 = .ok (.goto (-41), 3) := by decide +kernel
theorem dX3_insert_65 : decode cX3_insert 65 = .ok (.aload 4, 2) := by decide +kernel
theorem dX3_insert_67 : decode cX3_insert 67 = .ok (.aload_n 1, 1) := by decide +kernel
theorem dX3_insert_68 : decode cX3_insert 68 = .ok (.invokevirtual 64, 3) := by decide +kernel
theorem dX3_insert_71 : decode cX3_insert 71 = .ok (.aload_n 0, 1) := by decide +kernel
theorem dX3_insert_72 : decode cX3_insert 72 = .ok (.getfield 13, 3) := by decide +kernel
theorem dX3_insert_75 : decode cX3_insert 75 = .ok (.iload_n 2, 1) := by decide +kernel
theorem dX3_insert_76 : decode cX3_insert 76 = .ok (.aload 4, 2) := by decide +kernel
theorem dX3_insert_78 : decode cX3_insert 78 = .ok (.aastore, 1) := by decide +kernel
theorem dX3_insert_79 : decode cX3_insert 79 = .ok (.aload_n 0, 1) := by decide +kernel
theorem dX3_insert_80 : decode cX3_insert 80 = .ok (.getfield 17, 3) := by decide +kernel
theorem dX3_insert_83 : decode cX3_insert 83 = .ok (.iload_n 2, 1) := by decide +kernel
theorem dX3_insert_84 : decode cX3_insert 84 = .ok (.iconst 0, 1) := by decide +kernel
theorem dX3_insert_85 : decode cX3_insert 85 = .ok (.bastore, 1) := by decide +kernel
theorem dX3_insert_86 : decode cX3_insert 86 = .ok (.aload_n 0, 1) := by decide +kernel
theorem dX3_insert_87 : decode cX3_insert 87 = .ok (.aload_n 0, 1) := by decide +kernel
theorem dX3_insert_88 : decode cX3_insert 88 = .ok (.getfield 36, 3) := by decide +kernel
theorem dX3_insert_91 : decode cX3_insert 91 = .ok (.iconst 1, 1) := by decide +kernel
theorem dX3_insert_92 : decode cX3_insert 92 = .ok (.iadd, 1) := by decide +kernel
theorem dX3_insert_93 : decode cX3_insert 93 = .ok (.bipush 30, 2) := by decide +kernel
theorem dX3_insert_95 : decode cX3_insert 95 = .ok (.invokestatic 87, 3) := by decide +kernel
theorem dX3_insert_98 : decode cX3_insert 98 = .ok (.putfield 36, 3) := by decide +kernel
theorem dX3_insert_101 : decode cX3_insert 101 = .ok (.return_, 1) := by decide +kernel
theorem dX4_init_0 : decode cX4_init 0 = .ok (.aload_n 0, 1) := by decide +kernel
theorem dX4_init_1 : decode cX4_init 1 = .ok (.invokespecial 5, 3) := by decide +kernel
theorem dX4_init_4 : decode cX4_init 4 = .ok (.aload_n 0, 1) := by decide +kernel
theorem dX4_init_5 : decode cX4_init 5 = .ok (.sipush 960, 3) := by decide +kernel
theorem dX4_init_8 : decode cX4_init 8 = .ok (.newarray .long, 2) := by decide +kernel
theorem dX4_init_10 : decode cX4_init 10 = .ok (.putfield 11, 3) := by decide +kernel
theorem dX4_init_13 : decode cX4_init 13 = .ok (.return_, 1) := by decide +kernel
theorem dX4_covers_0 : decode cX4_covers 0 = .ok (.iload_n 0, 1) := by decide +kernel
theorem dX4_covers_1 : decode cX4_covers 1 = .ok (.ifCond .lt 25, 3) := by decide +kernel
theorem dX4_covers_4 : decode cX4_covers 4 = .ok (.iload_n 0, 1) := by decide +kernel
theorem dX4_covers_5 : decode cX4_covers 5 = .ok (.sipush 240, 3) := by decide +kernel
theorem dX4_covers_8 : decode cX4_covers 8 = .ok (.if_icmp .ge 18, 3) := by decide +kernel
theorem dX4_covers_11 : decode cX4_covers 11 = .ok (.iload_n 1, 1) := by decide +kernel
theorem dX4_covers_12 : decode cX4_covers 12 = .ok (.ifCond .lt 14, 3) := by decide +kernel
theorem dX4_covers_15 : decode cX4_covers 15 = .ok (.iload_n 1, 1) := by decide +kernel
theorem dX4_covers_16 : decode cX4_covers 16 = .ok (.sipush 240, 3) := by decide +kernel
theorem dX4_covers_19 : decode cX4_covers 19 = .ok (.if_icmp .ge 7, 3) := by decide +kernel
theorem dX4_covers_22 : decode cX4_covers 22 = .ok (.iconst 1, 1) := by decide +kernel
theorem dX4_covers_23 : decode cX4_covers 23 = .ok (.goto 4, 3) := by decide +kernel
theorem dX4_covers_26 : decode cX4_covers 26 = .ok (.iconst 0, 1) := by decide +kernel
theorem dX4_covers_27 : decode cX4_covers 27 = .ok (.ireturn, 1) := by decide +kernel
theorem dX4_empty_0 : decode cX4_empty 0 = .ok (.iconst 0, 1) := by decide +kernel
theorem dX4_empty_1 : decode cX4_empty 1 = .ok (.istore_n 1, 1) := by decide +kernel
theorem dX4_empty_2 : decode cX4_empty 2 = .ok (.iload_n 1, 1) := by decide +kernel
theorem dX4_empty_3 : decode cX4_empty 3 = .ok (.aload_n 0, 1) := by decide +kernel
theorem dX4_empty_4 : decode cX4_empty 4 = .ok (.getfield 11, 3) := by decide +kernel
theorem dX4_empty_7 : decode cX4_empty 7 = .ok (.arraylength, 1) := by decide +kernel
theorem dX4_empty_8 : decode cX4_empty 8 = .ok (.if_icmp .ge 16, 3) := by decide +kernel
theorem dX4_empty_11 : decode cX4_empty 11 = .ok (.aload_n 0, 1) := by decide +kernel
theorem dX4_empty_12 : decode cX4_empty 12 = .ok (.getfield 11, 3) := by decide +kernel
theorem dX4_empty_15 : decode cX4_empty 15 = .ok (.iload_n 1, 1) := by decide +kernel
theorem dX4_empty_16 : decode cX4_empty 16 = .ok (.lconst 0, 1) := by decide +kernel
theorem dX4_empty_17 : decode cX4_empty 17 = .ok (.lastore, 1) := by decide +kernel
theorem dX4_empty_18 : decode cX4_empty 18 = .ok (.iinc 1 1, 3) := by decide +kernel
theorem dX4_empty_21 : decode cX4_empty 21 = .ok (.goto (-19), 3) := by decide +kernel
theorem dX4_empty_24 : decode cX4_empty 24 = .ok (.return_, 1) := by decide +kernel
theorem dX4_copyFrom_0 : decode cX4_copyFrom 0 = .ok (.aload_n 1, 1) := by decide +kernel
theorem dX4_copyFrom_1 : decode cX4_copyFrom 1 = .ok (.getfield 11, 3) := by decide +kernel
theorem dX4_copyFrom_4 : decode cX4_copyFrom 4 = .ok (.iconst 0, 1) := by decide +kernel
theorem dX4_copyFrom_5 : decode cX4_copyFrom 5 = .ok (.aload_n 0, 1) := by decide +kernel
theorem dX4_copyFrom_6 : decode cX4_copyFrom 6 = .ok (.getfield 11, 3) := by decide +kernel
theorem dX4_copyFrom_9 : decode cX4_copyFrom 9 = .ok (.iconst 0, 1) := by decide +kernel
theorem dX4_copyFrom_10 : decode cX4_copyFrom 10 = .ok (.aload_n 0, 1) := by decide +kernel
theorem dX4_copyFrom_11 : decode cX4_copyFrom 11 = .ok (.getfield 11, 3) := by decide +kernel
theorem dX4_copyFrom_14 : decode cX4_copyFrom 14 = .ok (.arraylength, 1) := by decide +kernel
theorem dX4_copyFrom_15 : decode cX4_copyFrom 15 = .ok (.invokestatic 15, 3) := by decide +kernel
theorem dX4_copyFrom_18 : decode cX4_copyFrom 18 = .ok (.return_, 1) := by decide +kernel
theorem dX4_connect_0 : decode cX4_connect 0 = .ok (.iload_n 1, 1) := by decide +kernel
theorem dX4_connect_1 : decode cX4_connect 1 = .ok (.iload_n 2, 1) := by decide +kernel
theorem dX4_connect_2 : decode cX4_connect 2 = .ok (.invokestatic 21, 3) := by decide +kernel
theorem dX4_connect_5 : decode cX4_connect 5 = .ok (.ifCond .eq 25, 3) := by decide +kernel
theorem dX4_connect_8 : decode cX4_connect 8 = .ok (.aload_n 0, 1) := by decide +kernel
theorem dX4_connect_9 : decode cX4_connect 9 = .ok (.getfield 11, 3) := by decide +kernel
theorem dX4_connect_12 : decode cX4_connect 12 = .ok (.iload_n 1, 1) := by decide +kernel
theorem dX4_connect_13 : decode cX4_connect 13 = .ok (.iconst 4, 1) := by decide +kernel
theorem dX4_connect_14 : decode cX4_connect 14 = .ok (.imul, 1) := by decide +kernel
theorem dX4_connect_15 : decode cX4_connect 15 = .ok (.iload_n 2, 1) := by decide +kernel
theorem dX4_connect_16 : decode cX4_connect 16 = .ok (.bipush 64, 2) := by decide +kernel
theorem dX4_connect_18 : decode cX4_connect 18 = .ok (.idiv, 1) := by decide +kernel
theorem dX4_connect_19 : decode cX4_connect 19 = .ok (.iadd, 1) := by decide +kernel
theorem dX4_connect_20 : decode cX4_connect 20 = .ok (.dup2, 1) := by decide +kernel
theorem dX4_connect_21 : decode cX4_connect 21 = .ok (.laload, 1) := by decide +kernel
theorem dX4_connect_22 : decode cX4_connect 22 = .ok (.lconst 1, 1) := by decide +kernel
theorem dX4_connect_23 : decode cX4_connect 23 = .ok (.iload_n 2, 1) := by decide +kernel
theorem dX4_connect_24 : decode cX4_connect 24 = .ok (.bipush 64, 2) := by decide +kernel
theorem dX4_connect_26 : decode cX4_connect 26 = .ok (.irem, 1) := by decide +kernel
theorem dX4_connect_27 : decode cX4_connect 27 = .ok (.lshl, 1) := by decide +kernel
theorem dX4_connect_28 : decode cX4_connect 28 = .ok (.lor, 1) := by decide +kernel
theorem dX4_connect_29 : decode cX4_connect 29 = .ok (.lastore, 1) := by decide +kernel
theorem dX4_connect_30 : decode cX4_connect 30 = .ok (.return_, 1) := by decide +kernel
theorem dX4_has_0 : decode cX4_has 0 = .ok (.iload_n 1, 1) := by decide +kernel
theorem dX4_has_1 : decode cX4_has 1 = .ok (.iload_n 2, 1) := by decide +kernel
theorem dX4_has_2 : decode cX4_has 2 = .ok (.invokestatic 21, 3) := by decide +kernel
theorem dX4_has_5 : decode cX4_has 5 = .ok (.ifCond .eq 32, 3) := by decide +kernel
theorem dX4_has_8 : decode cX4_has 8 = .ok (.aload_n 0, 1) := by decide +kernel
theorem dX4_has_9 : decode cX4_has 9 = .ok (.getfield 11, 3) := by decide +kernel
theorem dX4_has_12 : decode cX4_has 12 = .ok (.iload_n 1, 1) := by decide +kernel
theorem dX4_has_13 : decode cX4_has 13 = .ok (.iconst 4, 1) := by decide +kernel
theorem dX4_has_14 : decode cX4_has 14 = .ok (.imul, 1) := by decide +kernel
theorem dX4_has_15 : decode cX4_has 15 = .ok (.iload_n 2, 1) := by decide +kernel
theorem dX4_has_16 : decode cX4_has 16 = .ok (.bipush 64, 2) := by decide +kernel
theorem dX4_has_18 : decode cX4_has 18 = .ok (.idiv, 1) := by decide +kernel
theorem dX4_has_19 : decode cX4_has 19 = .ok (.iadd, 1) := by decide +kernel
theorem dX4_has_20 : decode cX4_has 20 = .ok (.laload, 1) := by decide +kernel
theorem dX4_has_21 : decode cX4_has 21 = .ok (.iload_n 2, 1) := by decide +kernel
theorem dX4_has_22 : decode cX4_has 22 = .ok (.bipush 64, 2) := by decide +kernel
theorem dX4_has_24 : decode cX4_has 24 = .ok (.irem, 1) := by decide +kernel
theorem dX4_has_25 : decode cX4_has 25 = .ok (.lshr, 1) := by decide +kernel
theorem dX4_has_26 : decode cX4_has 26 = .ok (.lconst 1, 1) := by decide +kernel
theorem dX4_has_27 : decode cX4_has 27 = .ok (.land, 1) := by decide +kernel
theorem dX4_has_28 : decode cX4_has 28 = .ok (.lconst 0, 1) := by decide +kernel
theorem dX4_has_29 : decode cX4_has 29 = .ok (.lcmp, 1) := by decide +kernel
theorem dX4_has_30 : decode cX4_has 30 = .ok (.ifCond .eq 7, 3) := by decide +kernel
theorem dX4_has_33 : decode cX4_has 33 = .ok (.iconst 1, 1) := by decide +kernel
theorem dX4_has_34 : decode cX4_has 34 = .ok (.goto 4, 3) := by decide +kernel
theorem dX4_has_37 : decode cX4_has 37 = .ok (.iconst 0, 1) := by decide +kernel
theorem dX4_has_38 : decode cX4_has 38 = .ok (.ireturn, 1) := by decide +kernel
theorem dX4_total_0 : decode cX4_total 0 = .ok (.iconst 0, 1) := by decide +kernel
theorem dX4_total_1 : decode cX4_total 1 = .ok (.istore_n 1, 1) := by decide +kernel
theorem dX4_total_2 : decode cX4_total 2 = .ok (.iconst 0, 1) := by decide +kernel
theorem dX4_total_3 : decode cX4_total 3 = .ok (.istore_n 2, 1) := by decide +kernel
theorem dX4_total_4 : decode cX4_total 4 = .ok (.iload_n 2, 1) := by decide +kernel
theorem dX4_total_5 : decode cX4_total 5 = .ok (.aload_n 0, 1) := by decide +kernel
theorem dX4_total_6 : decode cX4_total 6 = .ok (.getfield 11, 3) := by decide +kernel
theorem dX4_total_9 : decode cX4_total 9 = .ok (.arraylength, 1) := by decide +kernel
theorem dX4_total_10 : decode cX4_total 10 = .ok (.if_icmp .ge 21, 3) := by decide +kernel
theorem dX4_total_13 : decode cX4_total 13 = .ok (.iload_n 1, 1) := by decide +kernel
theorem dX4_total_14 : decode cX4_total 14 = .ok (.aload_n 0, 1) := by decide +kernel
theorem dX4_total_15 : decode cX4_total 15 = .ok (.getfield 11, 3) := by decide +kernel
theorem dX4_total_18 : decode cX4_total 18 = .ok (.iload_n 2, 1) := by decide +kernel
theorem dX4_total_19 : decode cX4_total 19 = .ok (.laload, 1) := by decide +kernel
theorem dX4_total_20 : decode cX4_total 20 = .ok (.invokestatic 25, 3) := by decide +kernel
theorem dX4_total_23 : decode cX4_total 23 = .ok (.iadd, 1) := by decide +kernel
theorem dX4_total_24 : decode cX4_total 24 = .ok (.istore_n 1, 1) := by decide +kernel
theorem dX4_total_25 : decode cX4_total 25 = .ok (.iinc 2 1, 3) := by decide +kernel
theorem dX4_total_28 : decode cX4_total 28 = .ok (.goto (-24), 3) := by decide +kernel
theorem dX4_total_31 : decode cX4_total 31 = .ok (.iload_n 1, 1) := by decide +kernel
theorem dX4_total_32 : decode cX4_total 32 = .ok (.ireturn, 1) := by decide +kernel
theorem dX4_addPaths_0 : decode cX4_addPaths 0 = .ok (.iconst 0, 1) := by decide +kernel
theorem dX4_addPaths_1 : decode cX4_addPaths 1 = .ok (.istore_n 2, 1) := by decide +kernel
theorem dX4_addPaths_2 : decode cX4_addPaths 2 = .ok (.iload_n 2, 1) := by decide +kernel
theorem dX4_addPaths_3 : decode cX4_addPaths 3 = .ok (.iload_n 1, 1) := by decide +kernel
theorem dX4_addPaths_4 : decode cX4_addPaths 4 = .ok (.if_icmp .ge 37, 3) := by decide +kernel
theorem dX4_addPaths_7 : decode cX4_addPaths 7 = .ok (.iconst 0, 1) := by decide +kernel
theorem dX4_addPaths_8 : decode cX4_addPaths 8 = .ok (.istore_n 3, 1) := by decide +kernel
theorem dX4_addPaths_9 : decode cX4_addPaths 9 = .ok (.iload_n 3, 1) := by decide +kernel
theorem dX4_addPaths_10 : decode cX4_addPaths 10 = .ok (.iload_n 1, 1) := by decide +kernel
theorem dX4_addPaths_11 : decode cX4_addPaths 11 = .ok (.if_icmp .ge 24, 3) := by decide +kernel
theorem dX4_addPaths_14 : decode cX4_addPaths 14 = .ok (.aload_n 0, 1) := by decide +kernel
theorem dX4_addPaths_15 : decode cX4_addPaths 15 = .ok (.iload_n 3, 1) := by decide +kernel
theorem dX4_addPaths_16 : decode cX4_addPaths 16 = .ok (.iload_n 2, 1) := by decide +kernel
theorem dX4_addPaths_17 : decode cX4_addPaths 17 = .ok (.invokevirtual 31, 3) := by decide +kernel
theorem dX4_addPaths_20 : decode cX4_addPaths 20 = .ok (.ifCond .eq 9, 3) := by decide +kernel
theorem dX4_addPaths_23 : decode cX4_addPaths 23 = .ok (.aload_n 0, 1) := by decide +kernel
theorem dX4_addPaths_24 : decode cX4_addPaths 24 = .ok (.iload_n 3, 1) := by decide +kernel
theorem dX4_addPaths_25 : decode cX4_addPaths 25 = .ok (.iload_n 2, 1) := by decide +kernel
theorem dX4_addPaths_26 : decode cX4_addPaths 26 = .ok (.invokevirtual 34, 3) := by decide +kernel
theorem dX4_addPaths_29 : decode cX4_addPaths 29 = .ok (.iinc 3 1, 3) := by decide +kernel
theorem dX4_addPaths_32 : decode cX4_addPaths 32 = .ok (.goto (-23), 3) := by decide +kernel
theorem dX4_addPaths_35 : decode cX4_addPaths 35 = .ok (.iinc 2 1, 3) := by decide +kernel
theorem dX4_addPaths_38 : decode cX4_addPaths 38 = .ok (.goto (-36), 3) := by decide +kernel
theorem dX4_addPaths_41 : decode cX4_addPaths 41 = .ok (.return_, 1) := by decide +kernel
theorem dX4_addRow_0 : decode cX4_addRow 0 = .ok (.iload_n 1, 1) := by decide +kernel
theorem dX4_addRow_1 : decode cX4_addRow 1 = .ok (.iload_n 2, 1) := by decide +kernel
theorem dX4_addRow_2 : decode cX4_addRow 2 = .ok (.invokestatic 21, 3) := by decide +kernel
theorem dX4_addRow_5 : decode cX4_addRow 5 = .ok (.ifCond .eq 39, 3) := by decide +kernel
theorem dX4_addRow_8 : decode cX4_addRow 8 = .ok (.iconst 0, 1) := by decide +kernel
theorem dX4_addRow_9 : decode cX4_addRow 9 = .ok (.istore_n 3, 1) := by decide +kernel
theorem dX4_addRow_10 : decode cX4_addRow 10 = .ok (.iload_n 3, 1) := by decide +kernel
theorem dX4_addRow_11 : decode cX4_addRow 11 = .ok (.iconst 4, 1) := by decide +kernel
theorem dX4_addRow_12 : decode cX4_addRow 12 = .ok (.if_icmp .ge 32, 3) := by decide +kernel
theorem dX4_addRow_15 : decode cX4_addRow 15 = .ok (.aload_n 0, 1) := by decide +kernel
theorem dX4_addRow_16 : decode cX4_addRow 16 = .ok (.getfield 11, 3) := by decide +kernel
theorem dX4_addRow_19 : decode cX4_addRow 19 = .ok (.iload_n 1, 1) := by decide +kernel
theorem dX4_addRow_20 : decode cX4_addRow 20 = .ok (.iconst 4, 1) := by decide +kernel
theorem dX4_addRow_21 : decode cX4_addRow 21 = .ok (.imul, 1) := by decide +kernel
theorem dX4_addRow_22 : decode cX4_addRow 22 = .ok (.iload_n 3, 1) := by decide +kernel
theorem dX4_addRow_23 : decode cX4_addRow 23 = .ok (.iadd, 1) := by decide +kernel
theorem dX4_addRow_24 : decode cX4_addRow 24 = .ok (.dup2, 1) := by decide +kernel
theorem dX4_addRow_25 : decode cX4_addRow 25 = .ok (.laload, 1) := by decide +kernel
theorem dX4_addRow_26 : decode cX4_addRow 26 = .ok (.aload_n 0, 1) := by decide +kernel
theorem dX4_addRow_27 : decode cX4_addRow 27 = .ok (.getfield 11, 3) := by decide +kernel
theorem dX4_addRow_30 : decode cX4_addRow 30 = .ok (.iload_n 2, 1) := by decide +kernel
theorem dX4_addRow_31 : decode cX4_addRow 31 = .ok (.iconst 4, 1) := by decide +kernel
theorem dX4_addRow_32 : decode cX4_addRow 32 = .ok (.imul, 1) := by decide +kernel
theorem dX4_addRow_33 : decode cX4_addRow 33 = .ok (.iload_n 3, 1) := by decide +kernel
theorem dX4_addRow_34 : decode cX4_addRow 34 = .ok (.iadd, 1) := by decide +kernel
theorem dX4_addRow_35 : decode cX4_addRow 35 = .ok (.laload, 1) := by decide +kernel
theorem dX4_addRow_36 : decode cX4_addRow 36 = .ok (.lor, 1) := by decide +kernel
theorem dX4_addRow_37 : decode cX4_addRow 37 = .ok (.lastore, 1) := by decide +kernel
theorem dX4_addRow_38 : decode cX4_addRow 38 = .ok (.iinc 3 1, 3) := by decide +kernel
theorem dX4_addRow_41 : decode cX4_addRow 41 = .ok (.goto (-31), 3) := by decide +kernel
theorem dX4_addRow_44 : decode cX4_addRow 44 = .ok (.return_, 1) := by decide +kernel
theorem dX4_removeEdgesFrom_0 : decode cX4_removeEdgesFrom 0 = .ok (.iload_n 1, 1) := by decide +kernel
theorem dX4_removeEdgesFrom_1 : decode cX4_removeEdgesFrom 1 = .ok (.iload_n 1, 1) := by decide +kernel
theorem dX4_removeEdgesFrom_2 : decode cX4_removeEdgesFrom 2 = .ok (.invokestatic 21, 3) := by decide +kernel
theorem dX4_removeEdgesFrom_5 : decode cX4_removeEdgesFrom 5 = .ok (.ifCond .eq 27, 3) := by decide +kernel
theorem dX4_removeEdgesFrom_8 : decode cX4_removeEdgesFrom 8 = .ok (.iconst 0, 1) := by decide +kernel
theorem dX4_removeEdgesFrom_9 : decode cX4_removeEdgesFrom 9 = .ok (.istore_n 2, 1) := by decide +kernel
theorem dX4_removeEdgesFrom_10 : decode cX4_removeEdgesFrom 10 = .ok (.iload_n 2, 1) := by decide +kernel
theorem dX4_removeEdgesFrom_11 : decode cX4_removeEdgesFrom 11 = .ok (.iconst 4, 1) := by decide +kernel
theorem dX4_removeEdgesFrom_12 : decode cX4_removeEdgesFrom 12 = .ok (.if_icmp .ge 20, 3) := by decide +kernel
theorem dX4_removeEdgesFrom_15 : decode cX4_removeEdgesFrom 15 = .ok (.aload_n 0, 1) := by decide +kernel
theorem dX4_removeEdgesFrom_16 : decode cX4_removeEdgesFrom 16 = .ok (.getfield 11, 3) := by decide +kernel
theorem dX4_removeEdgesFrom_19 : decode cX4_removeEdgesFrom 19 = .ok (.iload_n 1, 1) := by decide +kernel
theorem dX4_removeEdgesFrom_20 : decode cX4_removeEdgesFrom 20 = .ok (.iconst 4, 1) := by decide +kernel
theorem dX4_removeEdgesFrom_21 : decode cX4_removeEdgesFrom 21 = .ok (.imul, 1) := by decide +kernel
theorem dX4_removeEdgesFrom_22 : decode cX4_removeEdgesFrom 22 = .ok (.iload_n 2, 1) := by decide +kernel
theorem dX4_removeEdgesFrom_23 : decode cX4_removeEdgesFrom 23 = .ok (.iadd, 1) := by decide +kernel
theorem dX4_removeEdgesFrom_24 : decode cX4_removeEdgesFrom 24 = .ok (.lconst 0, 1) := by decide +kernel
theorem dX4_removeEdgesFrom_25 : decode cX4_removeEdgesFrom 25 = .ok (.lastore, 1) := by decide +kernel
theorem dX4_removeEdgesFrom_26 : decode cX4_removeEdgesFrom 26 = .ok (.iinc 2 1, 3) := by decide +kernel
theorem dX4_removeEdgesFrom_29 : decode cX4_removeEdgesFrom 29 = .ok (.goto (-19), 3) := by decide +kernel
theorem dX4_removeEdgesFrom_32 : decode cX4_removeEdgesFrom 32 = .ok (.return_, 1) := by decide +kernel
theorem dX5_init_0 : decode cX5_init 0 = .ok (.aload_n 0, 1) := by decide +kernel
theorem dX5_init_1 : decode cX5_init 1 = .ok (.invokespecial 3, 3) := by decide +kernel
theorem dX5_init_4 : decode cX5_init 4 = .ok (.aload_n 0, 1) := by decide +kernel
theorem dX5_init_5 : decode cX5_init 5 = .ok (.sipush 240, 3) := by decide +kernel
theorem dX5_init_8 : decode cX5_init 8 = .ok (.newarray .int, 2) := by decide +kernel
theorem dX5_init_10 : decode cX5_init 10 = .ok (.putfield 9, 3) := by decide +kernel
theorem dX5_init_13 : decode cX5_init 13 = .ok (.aload_n 0, 1) := by decide +kernel
theorem dX5_init_14 : decode cX5_init 14 = .ok (.sipush 240, 3) := by decide +kernel
theorem dX5_init_17 : decode cX5_init 17 = .ok (.newarray .int, 2) := by decide +kernel
theorem dX5_init_19 : decode cX5_init 19 = .ok (.putfield 15, 3) := by decide +kernel
theorem dX5_init_22 : decode cX5_init 22 = .ok (.aload_n 0, 1) := by decide +kernel
theorem dX5_init_23 : decode cX5_init 23 = .ok (.sipush 240, 3) := by decide +kernel
theorem dX5_init_26 : decode cX5_init 26 = .ok (.newarray .int, 2) := by decide +kernel
theorem dX5_init_28 : decode cX5_init 28 = .ok (.putfield 18, 3) := by decide +kernel
theorem dX5_init_31 : decode cX5_init 31 = .ok (.aload_n 0, 1) := by decide +kernel
theorem dX5_init_32 : decode cX5_init 32 = .ok (.new 21, 3) := by decide +kernel
theorem dX5_init_35 : decode cX5_init 35 = .ok (.dup, 1) := by decide +kernel
theorem dX5_init_36 : decode cX5_init 36 = .ok (.invokespecial 23, 3) := by decide +kernel
theorem dX5_init_39 : decode cX5_init 39 = .ok (.putfield 24, 3) := by decide +kernel
theorem dX5_init_42 : decode cX5_init 42 = .ok (.return_, 1) := by decide +kernel
theorem dX5_rule_0 : decode cX5_rule 0 = .ok (.iload_n 1, 1) := by decide +kernel
theorem dX5_rule_1 : decode cX5_rule 1 = .ok (.ifCond .lt 21, 3) := by decide +kernel
theorem dX5_rule_4 : decode cX5_rule 4 = .ok (.iload_n 1, 1) := by decide +kernel
theorem dX5_rule_5 : decode cX5_rule 5 = .ok (.aload_n 0, 1) := by decide +kernel
theorem dX5_rule_6 : decode cX5_rule 6 = .ok (.getfield 9, 3) := by decide +kernel
theorem dX5_rule_9 : decode cX5_rule 9 = .ok (.arraylength, 1) := by decide +kernel
theorem dX5_rule_10 : decode cX5_rule 10 = .ok (.if_icmp .ge 12, 3) := by decide +kernel
theorem dX5_rule_13 : decode cX5_rule 13 = .ok (.aload_n 0, 1) := by decide +kernel
theorem dX5_rule_14 : decode cX5_rule 14 = .ok (.getfield 9, 3) := by decide +kernel
theorem dX5_rule_17 : decode cX5_rule 17 = .ok (.iload_n 1, 1) := by decide +kernel
theorem dX5_rule_18 : decode cX5_rule 18 = .ok (.iaload, 1) := by decide +kernel
theorem dX5_rule_19 : decode cX5_rule 19 = .ok (.goto 4, 3) := by decide +kernel
theorem dX5_rule_22 : decode cX5_rule 22 = .ok (.iconst (-1), 1) := by decide +kernel
theorem dX5_rule_23 : decode cX5_rule 23 = .ok (.ireturn, 1) := by decide +kernel
theorem dX5_position_0 : decode cX5_position 0 = .ok (.iload_n 1, 1) := by decide +kernel
theorem dX5_position_1 : decode cX5_position 1 = .ok (.ifCond .lt 21, 3) := by decide +kernel
theorem dX5_position_4 : decode cX5_position 4 = .ok (.iload_n 1, 1) := by decide +kernel
theorem dX5_position_5 : decode cX5_position 5 = .ok (.aload_n 0, 1) := by decide +kernel
theorem dX5_position_6 : decode cX5_position 6 = .ok (.getfield 15, 3) := by decide +kernel
theorem dX5_position_9 : decode cX5_position 9 = .ok (.arraylength, 1) := by decide +kernel
theorem dX5_position_10 : decode cX5_position 10 = .ok (.if_icmp .ge 12, 3) := by decide +kernel
theorem dX5_position_13 : decode cX5_position 13 = .ok (.aload_n 0, 1) := by decide +kernel
theorem dX5_position_14 : decode cX5_position 14 = .ok (.getfield 15, 3) := by decide +kernel
theorem dX5_position_17 : decode cX5_position 17 = .ok (.iload_n 1, 1) := by decide +kernel
theorem dX5_position_18 : decode cX5_position 18 = .ok (.iaload, 1) := by decide +kernel
theorem dX5_position_19 : decode cX5_position 19 = .ok (.goto 4, 3) := by decide +kernel
theorem dX5_position_22 : decode cX5_position 22 = .ok (.iconst (-1), 1) := by decide +kernel
theorem dX5_position_23 : decode cX5_position 23 = .ok (.ireturn, 1) := by decide +kernel
theorem dX5_graph_0 : decode cX5_graph 0 = .ok (.iload_n 1, 1) := by decide +kernel
theorem dX5_graph_1 : decode cX5_graph 1 = .ok (.ifCond .lt 21, 3) := by decide +kernel
theorem dX5_graph_4 : decode cX5_graph 4 = .ok (.iload_n 1, 1) := by decide +kernel
theorem dX5_graph_5 : decode cX5_graph 5 = .ok (.aload_n 0, 1) := by decide +kernel
theorem dX5_graph_6 : decode cX5_graph 6 = .ok (.getfield 18, 3) := by decide +kernel
theorem dX5_graph_9 : decode cX5_graph 9 = .ok (.arraylength, 1) := by decide +kernel
theorem dX5_graph_10 : decode cX5_graph 10 = .ok (.if_icmp .ge 12, 3) := by decide +kernel
theorem dX5_graph_13 : decode cX5_graph 13 = .ok (.aload_n 0, 1) := by decide +kernel
theorem dX5_graph_14 : decode cX5_graph 14 = .ok (.getfield 18, 3) := by decide +kernel
theorem dX5_graph_17 : decode cX5_graph 17 = .ok (.iload_n 1, 1) := by decide +kernel
theorem dX5_graph_18 : decode cX5_graph 18 = .ok (.iaload, 1) := by decide +kernel
theorem dX5_graph_19 : decode cX5_graph 19 = .ok (.goto 4, 3) := by decide +kernel
theorem dX5_graph_22 : decode cX5_graph 22 = .ok (.iconst 0, 1) := by decide +kernel
theorem dX5_graph_23 : decode cX5_graph 23 = .ok (.ireturn, 1) := by decide +kernel
theorem dX5_rebuild_0 : decode cX5_rebuild 0 = .ok (.aload_n 0, 1) := by decide +kernel
theorem dX5_rebuild_1 : decode cX5_rebuild 1 = .ok (.iconst 0, 1) := by decide +kernel
theorem dX5_rebuild_2 : decode cX5_rebuild 2 = .ok (.putfield 28, 3) := by decide +kernel
theorem dX5_rebuild_5 : decode cX5_rebuild 5 = .ok (.iconst 0, 1) := by decide +kernel
theorem dX5_rebuild_6 : decode cX5_rebuild 6 = .ok (.istore_n 2, 1) := by decide +kernel
theorem dX5_rebuild_7 : decode cX5_rebuild 7 = .ok (.iload_n 2, 1) := by decide +kernel
theorem dX5_rebuild_8 : decode cX5_rebuild 8 = .ok (.aload_n 1, 1) := by decide +kernel
theorem dX5_rebuild_9 : decode cX5_rebuild 9 = .ok (.getfield 32, 3) := by decide +kernel
theorem dX5_rebuild_12 : decode cX5_rebuild 12 = .ok (.if_icmp .ge 110, 3) := by decide +kernel
theorem dX5_rebuild_15 : decode cX5_rebuild 15 = .ok (.aload_n 1, 1) := by decide +kernel
theorem dX5_rebuild_16 : decode cX5_rebuild 16 = .ok (.iload_n 2, 1) := by decide +kernel
theorem dX5_rebuild_17 : decode cX5_rebuild 17 = .ok (.invokevirtual 37, 3) := by decide +kernel
theorem dX5_rebuild_20 : decode cX5_rebuild 20 = .ok (.astore_n 3, 1) := by decide +kernel
theorem dX5_rebuild_21 : decode cX5_rebuild 21 = .ok (.iconst 0, 1) := by decide +kernel
theorem dX5_rebuild_22 : decode cX5_rebuild 22 = .ok (.istore 4, 2) := by decide +kernel
theorem dX5_rebuild_24 : decode cX5_rebuild 24 = .ok (.iload 4, 2) := by decide +kernel
theorem dX5_rebuild_26 : decode cX5_rebuild 26 = .ok (.aload_n 3, 1) := by decide +kernel
theorem dX5_rebuild_27 : decode cX5_rebuild 27 = .ok (.getfield 41, 3) := by decide +kernel
theorem dX5_rebuild_30 : decode cX5_rebuild 30 = .ok (.if_icmp .ge 86, 3) := by decide +kernel
theorem dX5_rebuild_33 : decode cX5_rebuild 33 = .ok (.aload_n 3, 1) := by decide +kernel
theorem dX5_rebuild_34 : decode cX5_rebuild 34 = .ok (.iload 4, 2) := by decide +kernel
theorem dX5_rebuild_36 : decode cX5_rebuild 36 = .ok (.invokevirtual 46, 3) := by decide +kernel
theorem dX5_rebuild_39 : decode cX5_rebuild 39 = .ok (.invokestatic 50, 3) := by decide +kernel
theorem dX5_rebuild_42 : decode cX5_rebuild 42 = .ok (.ifCond .eq 68, 3) := by decide +kernel
theorem dX5_rebuild_45 : decode cX5_rebuild 45 = .ok (.aload_n 0, 1) := by decide +kernel
theorem dX5_rebuild_46 : decode cX5_rebuild 46 = .ok (.getfield 28, 3) := by decide +kernel
theorem dX5_rebuild_49 : decode cX5_rebuild 49 = .ok (.sipush 240, 3) := by decide +kernel
theorem dX5_rebuild_52 : decode cX5_rebuild 52 = .ok (.if_icmp .ge 58, 3) := by decide +kernel
theorem dX5_rebuild_55 : decode cX5_rebuild 55 = .ok (.aload_n 0, 1) := by decide +kernel
theorem dX5_rebuild_56 : decode cX5_rebuild 56 = .ok (.getfield 9, 3) := by decide +kernel
theorem dX5_rebuild_59 : decode cX5_rebuild 59 = .ok (.aload_n 0, 1) := by decide +kernel
theorem dX5_rebuild_60 : decode cX5_rebuild 60 = .ok (.getfield 28, 3) := by decide +kernel
theorem dX5_rebuild_63 : decode cX5_rebuild 63 = .ok (.iload_n 2, 1) := by decide +kernel
theorem dX5_rebuild_64 : decode cX5_rebuild 64 = .ok (.iastore, 1) := by decide +kernel
theorem dX5_rebuild_65 : decode cX5_rebuild 65 = .ok (.aload_n 0, 1) := by decide +kernel
theorem dX5_rebuild_66 : decode cX5_rebuild 66 = .ok (.getfield 15, 3) := by decide +kernel
theorem dX5_rebuild_69 : decode cX5_rebuild 69 = .ok (.aload_n 0, 1) := by decide +kernel
theorem dX5_rebuild_70 : decode cX5_rebuild 70 = .ok (.getfield 28, 3) := by decide +kernel
theorem dX5_rebuild_73 : decode cX5_rebuild 73 = .ok (.iload 4, 2) := by decide +kernel
theorem dX5_rebuild_75 : decode cX5_rebuild 75 = .ok (.iastore, 1) := by decide +kernel
theorem dX5_rebuild_76 : decode cX5_rebuild 76 = .ok (.aload_n 0, 1) := by decide +kernel
theorem dX5_rebuild_77 : decode cX5_rebuild 77 = .ok (.getfield 18, 3) := by decide +kernel
theorem dX5_rebuild_80 : decode cX5_rebuild 80 = .ok (.aload_n 0, 1) := by decide +kernel
theorem dX5_rebuild_81 : decode cX5_rebuild 81 = .ok (.getfield 28, 3) := by decide +kernel
theorem dX5_rebuild_84 : decode cX5_rebuild 84 = .ok (.aload_n 1, 1) := by decide +kernel
theorem dX5_rebuild_85 : decode cX5_rebuild 85 = .ok (.getfield 54, 3) := by decide +kernel
theorem dX5_rebuild_88 : decode cX5_rebuild 88 = .ok (.aload_n 1, 1) := by decide +kernel
theorem dX5_rebuild_89 : decode cX5_rebuild 89 = .ok (.iload_n 2, 1) := by decide +kernel
theorem dX5_rebuild_90 : decode cX5_rebuild 90 = .ok (.invokevirtual 58, 3) := by decide +kernel
theorem dX5_rebuild_93 : decode cX5_rebuild 93 = .ok (.aload_n 3, 1) := by decide +kernel
theorem dX5_rebuild_94 : decode cX5_rebuild 94 = .ok (.iload 4, 2) := by decide +kernel
theorem dX5_rebuild_96 : decode cX5_rebuild 96 = .ok (.invokestatic 61, 3) := by decide +kernel
theorem dX5_rebuild_99 : decode cX5_rebuild 99 = .ok (.iastore, 1) := by decide +kernel
theorem dX5_rebuild_100 : decode cX5_rebuild 100 = .ok (.aload_n 0, 1) := by decide +kernel
theorem dX5_rebuild_101 : decode cX5_rebuild 101 = .ok (.dup, 1) := by decide +kernel
theorem dX5_rebuild_102 : decode cX5_rebuild 102 = .ok (.getfield 28, 3) := by decide +kernel
theorem dX5_rebuild_105 : decode cX5_rebuild 105 = .ok (.iconst 1, 1) := by decide +kernel
theorem dX5_rebuild_106 : decode cX5_rebuild 106 = .ok (.iadd, 1) := by decide +kernel
theorem dX5_rebuild_107 : decode cX5_rebuild 107 = .ok (.putfield 28, 3) := by decide +kernel
theorem dX5_rebuild_110 : decode cX5_rebuild 110 = .ok (.iinc 4 1, 3) := by decide +kernel
theorem dX5_rebuild_113 : decode cX5_rebuild 113 = .ok (.goto (-89), 3) := by decide +kernel
theorem dX5_rebuild_116 : decode cX5_rebuild 116 = .ok (.iinc 2 1, 3) := by decide +kernel
theorem dX5_rebuild_119 : decode cX5_rebuild 119 = .ok (.goto (-112), 3) := by decide +kernel
theorem dX5_rebuild_122 : decode cX5_rebuild 122 = .ok (.aload_n 0, 1) := by decide +kernel
theorem dX5_rebuild_123 : decode cX5_rebuild 123 = .ok (.aload_n 1, 1) := by decide +kernel
theorem dX5_rebuild_124 : decode cX5_rebuild 124 = .ok (.invokevirtual 65, 3) := by decide +kernel
theorem dX5_rebuild_127 : decode cX5_rebuild 127 = .ok (.return_, 1) := by decide +kernel
theorem dX5_sizeChange_0 : decode cX5_sizeChange 0 = .ok (.aload_n 1, 1) := by decide +kernel
theorem dX5_sizeChange_1 : decode cX5_sizeChange 1 = .ok (.iconst 0, 1) := by decide +kernel
theorem dX5_sizeChange_2 : decode cX5_sizeChange 2 = .ok (.invokevirtual 46, 3) := by decide +kernel
theorem dX5_sizeChange_5 : decode cX5_sizeChange 5 = .ok (.invokestatic 69, 3) := by decide +kernel
theorem dX5_sizeChange_8 : decode cX5_sizeChange 8 = .ok (.istore 4, 2) := by decide +kernel
theorem dX5_sizeChange_10 : decode cX5_sizeChange 10 = .ok (.aload_n 2, 1) := by decide +kernel
theorem dX5_sizeChange_11 : decode cX5_sizeChange 11 = .ok (.iload_n 3, 1) := by decide +kernel
theorem dX5_sizeChange_12 : decode cX5_sizeChange 12 = .ok (.invokevirtual 46, 3) := by decide +kernel
theorem dX5_sizeChange_15 : decode cX5_sizeChange 15 = .ok (.invokestatic 69, 3) := by decide +kernel
theorem dX5_sizeChange_18 : decode cX5_sizeChange 18 = .ok (.istore 5, 2) := by decide +kernel
theorem dX5_sizeChange_20 : decode cX5_sizeChange 20 = .ok (.iload 4, 2) := by decide +kernel
theorem dX5_sizeChange_22 : decode cX5_sizeChange 22 = .ok (.iload 5, 2) := by decide +kernel
theorem dX5_sizeChange_24 : decode cX5_sizeChange 24 = .ok (.invokestatic 72, 3) := by decide +kernel
theorem dX5_sizeChange_27 : decode cX5_sizeChange 27 = .ok (.istore 6, 2) := by decide +kernel
theorem dX5_sizeChange_29 : decode cX5_sizeChange 29 = .ok (.iconst 0, 1) := by decide +kernel
theorem dX5_sizeChange_30 : decode cX5_sizeChange 30 = .ok (.istore 7, 2) := by decide +kernel
theorem dX5_sizeChange_32 : decode cX5_sizeChange 32 = .ok (.iload 7, 2) := by decide +kernel
theorem dX5_sizeChange_34 : decode cX5_sizeChange 34 = .ok (.aload_n 0, 1) := by decide +kernel
theorem dX5_sizeChange_35 : decode cX5_sizeChange 35 = .ok (.iload 4, 2) := by decide +kernel
theorem dX5_sizeChange_37 : decode cX5_sizeChange 37 = .ok (.invokevirtual 76, 3) := by decide +kernel
theorem dX5_sizeChange_40 : decode cX5_sizeChange 40 = .ok (.if_icmp .ge 74, 3) := by decide +kernel
theorem dX5_sizeChange_43 : decode cX5_sizeChange 43 = .ok (.aload_n 0, 1) := by decide +kernel
theorem dX5_sizeChange_44 : decode cX5_sizeChange 44 = .ok (.aload_n 1, 1) := by decide +kernel
theorem dX5_sizeChange_45 : decode cX5_sizeChange 45 = .ok (.iconst 0, 1) := by decide +kernel
theorem dX5_sizeChange_46 : decode cX5_sizeChange 46 = .ok (.iload 7, 2) := by decide +kernel
theorem dX5_sizeChange_48 : decode cX5_sizeChange 48 = .ok (.invokevirtual 81, 3) := by decide +kernel
theorem dX5_sizeChange_51 : decode cX5_sizeChange 51 = .ok (.istore 8, 2) := by decide +kernel
theorem dX5_sizeChange_53 : decode cX5_sizeChange 53 = .ok (.iconst 0, 1) := by decide +kernel
theorem dX5_sizeChange_54 : decode cX5_sizeChange 54 = .ok (.istore 9, 2) := by decide +kernel
theorem dX5_sizeChange_56 : decode cX5_sizeChange 56 = .ok (.iload 9, 2) := by decide +kernel
theorem dX5_sizeChange_58 : decode cX5_sizeChange 58 = .ok (.aload_n 0, 1) := by decide +kernel
theorem dX5_sizeChange_59 : decode cX5_sizeChange 59 = .ok (.iload 5, 2) := by decide +kernel
theorem dX5_sizeChange_61 : decode cX5_sizeChange 61 = .ok (.invokevirtual 76, 3) := by decide +kernel
theorem dX5_sizeChange_64 : decode cX5_sizeChange 64 = .ok (.if_icmp .ge 44, 3) := by decide +kernel
theorem dX5_sizeChange_67 : decode cX5_sizeChange 67 = .ok (.aload_n 0, 1) := by decide +kernel
theorem dX5_sizeChange_68 : decode cX5_sizeChange 68 = .ok (.aload_n 2, 1) := by decide +kernel
theorem dX5_sizeChange_69 : decode cX5_sizeChange 69 = .ok (.iload_n 3, 1) := by decide +kernel
theorem dX5_sizeChange_70 : decode cX5_sizeChange 70 = .ok (.iload 9, 2) := by decide +kernel
theorem dX5_sizeChange_72 : decode cX5_sizeChange 72 = .ok (.invokevirtual 81, 3) := by decide +kernel
theorem dX5_sizeChange_75 : decode cX5_sizeChange 75 = .ok (.istore 10, 2) := by decide +kernel
theorem dX5_sizeChange_77 : decode cX5_sizeChange 77 = .ok (.aload_n 0, 1) := by decide +kernel
theorem dX5_sizeChange_78 : decode cX5_sizeChange 78 = .ok (.aload_n 1, 1) := by decide +kernel
theorem dX5_sizeChange_79 : decode cX5_sizeChange 79 = .ok (.iload 8, 2) := by decide +kernel
theorem dX5_sizeChange_81 : decode cX5_sizeChange 81 = .ok (.aload_n 2, 1) := by decide +kernel
theorem dX5_sizeChange_82 : decode cX5_sizeChange 82 = .ok (.iload 10, 2) := by decide +kernel
theorem dX5_sizeChange_84 : decode cX5_sizeChange 84 = .ok (.invokestatic 85, 3) := by decide +kernel
theorem dX5_sizeChange_87 : decode cX5_sizeChange 87 = .ok (.istore 11, 2) := by decide +kernel
theorem dX5_sizeChange_89 : decode cX5_sizeChange 89 = .ok (.iload 6, 2) := by decide +kernel
theorem dX5_sizeChange_91 : decode cX5_sizeChange 91 = .ok (.iload 7, 2) := by decide +kernel
theorem dX5_sizeChange_93 : decode cX5_sizeChange 93 = .ok (.iload 9, 2) := by decide +kernel
theorem dX5_sizeChange_95 : decode cX5_sizeChange 95 = .ok (.iload 11, 2) := by decide +kernel
theorem dX5_sizeChange_97 : decode cX5_sizeChange 97 = .ok (.invokestatic 89, 3) := by decide +kernel
theorem dX5_sizeChange_100 : decode cX5_sizeChange 100 = .ok (.istore 6, 2) := by decide +kernel
theorem dX5_sizeChange_102 : decode cX5_sizeChange 102 = .ok (.iinc 9 1, 3) := by decide +kernel
theorem dX5_sizeChange_105 : decode cX5_sizeChange 105 = .ok (.goto (-49), 3) := by decide +kernel
theorem dX5_sizeChange_108 : decode cX5_sizeChange 108 = .ok (.iinc 7 1, 3) := by decide +kernel
theorem dX5_sizeChange_111 : decode cX5_sizeChange 111 = .ok (.goto (-79), 3) := by decide +kernel
theorem dX5_sizeChange_114 : decode cX5_sizeChange 114 = .ok (.iload 6, 2) := by decide +kernel
theorem dX5_sizeChange_116 : decode cX5_sizeChange 116 = .ok (.ireturn, 1) := by decide +kernel
theorem dX5_relationBetween_0 : decode cX5_relationBetween 0 = .ok (.aload_n 0, 1) := by decide +kernel
theorem dX5_relationBetween_1 : decode cX5_relationBetween 1 = .ok (.aload_n 1, 1) := by decide +kernel
theorem dX5_relationBetween_2 : decode cX5_relationBetween 2 = .ok (.iload_n 2, 1) := by decide +kernel
theorem dX5_relationBetween_3 : decode cX5_relationBetween 3 = .ok (.invokevirtual 93, 3) := by decide +kernel
theorem dX5_relationBetween_6 : decode cX5_relationBetween 6 = .ok (.istore 5, 2) := by decide +kernel
theorem dX5_relationBetween_8 : decode cX5_relationBetween 8 = .ok (.iload_n 2, 1) := by decide +kernel
theorem dX5_relationBetween_9 : decode cX5_relationBetween 9 = .ok (.istore 6, 2) := by decide +kernel
theorem dX5_relationBetween_11 : decode cX5_relationBetween 11 = .ok (.iload 6, 2) := by decide +kernel
theorem dX5_relationBetween_13 : decode cX5_relationBetween 13 = .ok (.iload 5, 2) := by decide +kernel
theorem dX5_relationBetween_15 : decode cX5_relationBetween 15 = .ok (.if_icmp .ge 34, 3) := by decide +kernel
theorem dX5_relationBetween_18 : decode cX5_relationBetween 18 = .ok (.aload_n 0, 1) := by decide +kernel
theorem dX5_relationBetween_19 : decode cX5_relationBetween 19 = .ok (.aload_n 1, 1) := by decide +kernel
theorem dX5_relationBetween_20 : decode cX5_relationBetween 20 = .ok (.iload 6, 2) := by decide +kernel
theorem dX5_relationBetween_22 : decode cX5_relationBetween 22 = .ok (.aload_n 3, 1) := by decide +kernel
theorem dX5_relationBetween_23 : decode cX5_relationBetween 23 = .ok (.iload 4, 2) := by decide +kernel
theorem dX5_relationBetween_25 : decode cX5_relationBetween 25 = .ok (.invokevirtual 97, 3) := by decide +kernel
theorem dX5_relationBetween_28 : decode cX5_relationBetween 28 = .ok (.ifCond .eq 15, 3) := by decide +kernel
theorem dX5_relationBetween_31 : decode cX5_relationBetween 31 = .ok (.iload 6, 2) := by decide +kernel
theorem dX5_relationBetween_33 : decode cX5_relationBetween 33 = .ok (.iload_n 2, 1) := by decide +kernel
theorem dX5_relationBetween_34 : decode cX5_relationBetween 34 = .ok (.if_icmp .ne 7, 3) := by decide +kernel
theorem dX5_relationBetween_37 : decode cX5_relationBetween 37 = .ok (.iconst 1, 1) := by decide +kernel
theorem dX5_relationBetween_38 : decode cX5_relationBetween 38 = .ok (.goto 4, 3) := by decide +kernel
theorem dX5_relationBetween_41 : decode cX5_relationBetween 41 = .ok (.iconst 2, 1) := by decide +kernel
theorem dX5_relationBetween_42 : decode cX5_relationBetween 42 = .ok (.ireturn, 1) := by decide +kernel
theorem dX5_relationBetween_43 : decode cX5_relationBetween 43 = .ok (.iinc 6 1, 3) := by decide +kernel
theorem dX5_relationBetween_46 : decode cX5_relationBetween 46 = .ok (.goto (-35), 3) := by decide +kernel
theorem dX5_relationBetween_49 : decode cX5_relationBetween 49 = .ok (.iconst 0, 1) := by decide +kernel
theorem dX5_relationBetween_50 : decode cX5_relationBetween 50 = .ok (.ireturn, 1) := by decide +kernel
theorem dX5_connectPairs_0 : decode cX5_connectPairs 0 = .ok (.aload_n 0, 1) := by decide +kernel
theorem dX5_connectPairs_1 : decode cX5_connectPairs 1 = .ok (.getfield 24, 3) := by decide +kernel
theorem dX5_connectPairs_4 : decode cX5_connectPairs 4 = .ok (.invokevirtual 101, 3) := by decide +kernel
theorem dX5_connectPairs_7 : decode cX5_connectPairs 7 = .ok (.iconst 0, 1) := by decide +kernel
theorem dX5_connectPairs_8 : decode cX5_connectPairs 8 = .ok (.istore_n 2, 1) := by decide +kernel
theorem dX5_connectPairs_9 : decode cX5_connectPairs 9 = .ok (.iload_n 2, 1) := by decide +kernel
theorem dX5_connectPairs_10 : decode cX5_connectPairs 10 = .ok (.aload_n 0, 1) := by decide +kernel
theorem dX5_connectPairs_11 : decode cX5_connectPairs 11 = .ok (.getfield 28, 3) := by decide +kernel
theorem dX5_connectPairs_14 : decode cX5_connectPairs 14 = .ok (.if_icmp .ge 73, 3) := by decide +kernel
theorem dX5_connectPairs_17 : decode cX5_connectPairs 17 = .ok (.aload_n 1, 1) := by decide +kernel
theorem dX5_connectPairs_18 : decode cX5_connectPairs 18 = .ok (.aload_n 0, 1) := by decide +kernel
theorem dX5_connectPairs_19 : decode cX5_connectPairs 19 = .ok (.iload_n 2, 1) := by decide +kernel
theorem dX5_connectPairs_20 : decode cX5_connectPairs 20 = .ok (.invokevirtual 104, 3) := by decide +kernel
theorem dX5_connectPairs_23 : decode cX5_connectPairs 23 = .ok (.invokevirtual 37, 3) := by decide +kernel
theorem dX5_connectPairs_26 : decode cX5_connectPairs 26 = .ok (.astore_n 3, 1) := by decide +kernel
theorem dX5_connectPairs_27 : decode cX5_connectPairs 27 = .ok (.iconst 0, 1) := by decide +kernel
theorem dX5_connectPairs_28 : decode cX5_connectPairs 28 = .ok (.istore 4, 2) := by decide +kernel
theorem dX5_connectPairs_30 : decode cX5_connectPairs 30 = .ok (.iload 4, 2) := by decide +kernel
theorem dX5_connectPairs_32 : decode cX5_connectPairs 32 = .ok (.aload_n 0, 1) := by decide +kernel
theorem dX5_connectPairs_33 : decode cX5_connectPairs 33 = .ok (.getfield 28, 3) := by decide +kernel
theorem dX5_connectPairs_36 : decode cX5_connectPairs 36 = .ok (.if_icmp .ge 45, 3) := by decide +kernel
theorem dX5_connectPairs_39 : decode cX5_connectPairs 39 = .ok (.aload_n 1, 1) := by decide +kernel
theorem dX5_connectPairs_40 : decode cX5_connectPairs 40 = .ok (.getfield 54, 3) := by decide +kernel
theorem dX5_connectPairs_43 : decode cX5_connectPairs 43 = .ok (.aload_n 3, 1) := by decide +kernel
theorem dX5_connectPairs_44 : decode cX5_connectPairs 44 = .ok (.aload_n 0, 1) := by decide +kernel
theorem dX5_connectPairs_45 : decode cX5_connectPairs 45 = .ok (.iload_n 2, 1) := by decide +kernel
theorem dX5_connectPairs_46 : decode cX5_connectPairs 46 = .ok (.invokevirtual 107, 3) := by decide +kernel
theorem dX5_connectPairs_49 : decode cX5_connectPairs 49 = .ok (.aload_n 1, 1) := by decide +kernel
theorem dX5_connectPairs_50 : decode cX5_connectPairs 50 = .ok (.aload_n 0, 1) := by decide +kernel
theorem dX5_connectPairs_51 : decode cX5_connectPairs 51 = .ok (.iload 4, 2) := by decide +kernel
theorem dX5_connectPairs_53 : decode cX5_connectPairs 53 = .ok (.invokevirtual 104, 3) := by decide +kernel
theorem dX5_connectPairs_56 : decode cX5_connectPairs 56 = .ok (.invokevirtual 58, 3) := by decide +kernel
theorem dX5_connectPairs_59 : decode cX5_connectPairs 59 = .ok (.invokestatic 110, 3) := by decide +kernel
theorem dX5_connectPairs_62 : decode cX5_connectPairs 62 = .ok (.ifCond .eq 13, 3) := by decide +kernel
theorem dX5_connectPairs_65 : decode cX5_connectPairs 65 = .ok (.aload_n 0, 1) := by decide +kernel
theorem dX5_connectPairs_66 : decode cX5_connectPairs 66 = .ok (.getfield 24, 3) := by decide +kernel
theorem dX5_connectPairs_69 : decode cX5_connectPairs 69 = .ok (.iload_n 2, 1) := by decide +kernel
theorem dX5_connectPairs_70 : decode cX5_connectPairs 70 = .ok (.iload 4, 2) := by decide +kernel
theorem dX5_connectPairs_72 : decode cX5_connectPairs 72 = .ok (.invokevirtual 114, 3) := by decide +kernel
theorem dX5_connectPairs_75 : decode cX5_connectPairs 75 = .ok (.iinc 4 1, 3) := by decide +kernel
theorem dX5_connectPairs_78 : decode cX5_connectPairs 78 = .ok (.goto (-48), 3) := by decide +kernel
theorem dX5_connectPairs_81 : decode cX5_connectPairs 81 = .ok (.iinc 2 1, 3) := by decide +kernel
theorem dX5_connectPairs_84 : decode cX5_connectPairs 84 = .ok (.goto (-75), 3) := by decide +kernel
theorem dX5_connectPairs_87 : decode cX5_connectPairs 87 = .ok (.return_, 1) := by decide +kernel
theorem dX5_leadsTo_0 : decode cX5_leadsTo 0 = .ok (.aload_n 1, 1) := by decide +kernel
theorem dX5_leadsTo_1 : decode cX5_leadsTo 1 = .ok (.iload_n 2, 1) := by decide +kernel
theorem dX5_leadsTo_2 : decode cX5_leadsTo 2 = .ok (.invokevirtual 46, 3) := by decide +kernel
theorem dX5_leadsTo_5 : decode cX5_leadsTo 5 = .ok (.aload_n 3, 1) := by decide +kernel
theorem dX5_leadsTo_6 : decode cX5_leadsTo 6 = .ok (.iconst 0, 1) := by decide +kernel
theorem dX5_leadsTo_7 : decode cX5_leadsTo 7 = .ok (.invokevirtual 46, 3) := by decide +kernel
theorem dX5_leadsTo_10 : decode cX5_leadsTo 10 = .ok (.if_icmp .eq 5, 3) := by decide +kernel
theorem dX5_leadsTo_13 : decode cX5_leadsTo 13 = .ok (.iconst 0, 1) := by decide +kernel
theorem dX5_leadsTo_14 : decode cX5_leadsTo 14 = .ok (.ireturn, 1) := by decide +kernel
theorem dX5_leadsTo_15 : decode cX5_leadsTo 15 = .ok (.iload_n 2, 1) := by decide +kernel
theorem dX5_leadsTo_16 : decode cX5_leadsTo 16 = .ok (.iconst 1, 1) := by decide +kernel
theorem dX5_leadsTo_17 : decode cX5_leadsTo 17 = .ok (.iadd, 1) := by decide +kernel
theorem dX5_leadsTo_18 : decode cX5_leadsTo 18 = .ok (.istore 4, 2) := by decide +kernel
theorem dX5_leadsTo_20 : decode cX5_leadsTo 20 = .ok (.iconst 1, 1) := by decide +kernel
theorem dX5_leadsTo_21 : decode cX5_leadsTo 21 = .ok (.istore 5, 2) := by decide +kernel
theorem dX5_leadsTo_23 : decode cX5_leadsTo 23 = .ok (.iload 5, 2) := by decide +kernel
theorem dX5_leadsTo_25 : decode cX5_leadsTo 25 = .ok (.aload_n 3, 1) := by decide +kernel
theorem dX5_leadsTo_26 : decode cX5_leadsTo 26 = .ok (.getfield 41, 3) := by decide +kernel
theorem dX5_leadsTo_29 : decode cX5_leadsTo 29 = .ok (.if_icmp .ge 92, 3) := by decide +kernel
theorem dX5_leadsTo_32 : decode cX5_leadsTo 32 = .ok (.aload_n 1, 1) := by decide +kernel
theorem dX5_leadsTo_33 : decode cX5_leadsTo 33 = .ok (.iload 4, 2) := by decide +kernel
theorem dX5_leadsTo_35 : decode cX5_leadsTo 35 = .ok (.invokevirtual 46, 3) := by decide +kernel
theorem dX5_leadsTo_38 : decode cX5_leadsTo 38 = .ok (.istore 6, 2) := by decide +kernel
theorem dX5_leadsTo_40 : decode cX5_leadsTo 40 = .ok (.aload_n 3, 1) := by decide +kernel
theorem dX5_leadsTo_41 : decode cX5_leadsTo 41 = .ok (.iload 5, 2) := by decide +kernel
theorem dX5_leadsTo_43 : decode cX5_leadsTo 43 = .ok (.invokevirtual 46, 3) := by decide +kernel
theorem dX5_leadsTo_46 : decode cX5_leadsTo 46 = .ok (.istore 7, 2) := by decide +kernel
theorem dX5_leadsTo_48 : decode cX5_leadsTo 48 = .ok (.iload 6, 2) := by decide +kernel
theorem dX5_leadsTo_50 : decode cX5_leadsTo 50 = .ok (.invokestatic 118, 3) := by decide +kernel
theorem dX5_leadsTo_53 : decode cX5_leadsTo 53 = .ok (.ifCond .ne 19, 3) := by decide +kernel
theorem dX5_leadsTo_56 : decode cX5_leadsTo 56 = .ok (.iload 7, 2) := by decide +kernel
theorem dX5_leadsTo_58 : decode cX5_leadsTo 58 = .ok (.invokestatic 118, 3) := by decide +kernel
theorem dX5_leadsTo_61 : decode cX5_leadsTo 61 = .ok (.ifCond .ne 11, 3) := by decide +kernel
theorem dX5_leadsTo_64 : decode cX5_leadsTo 64 = .ok (.iload 6, 2) := by decide +kernel
theorem dX5_leadsTo_66 : decode cX5_leadsTo 66 = .ok (.invokestatic 50, 3) := by decide +kernel
theorem dX5_leadsTo_69 : decode cX5_leadsTo 69 = .ok (.ifCond .eq 31, 3) := by decide +kernel
theorem dX5_leadsTo_72 : decode cX5_leadsTo 72 = .ok (.aload_n 0, 1) := by decide +kernel
theorem dX5_leadsTo_73 : decode cX5_leadsTo 73 = .ok (.aload_n 1, 1) := by decide +kernel
theorem dX5_leadsTo_74 : decode cX5_leadsTo 74 = .ok (.iload 4, 2) := by decide +kernel
theorem dX5_leadsTo_76 : decode cX5_leadsTo 76 = .ok (.invokevirtual 93, 3) := by decide +kernel
theorem dX5_leadsTo_79 : decode cX5_leadsTo 79 = .ok (.istore 4, 2) := by decide +kernel
theorem dX5_leadsTo_81 : decode cX5_leadsTo 81 = .ok (.iload 5, 2) := by decide +kernel
theorem dX5_leadsTo_83 : decode cX5_leadsTo 83 = .ok (.iconst 1, 1) := by decide +kernel
theorem dX5_leadsTo_84 : decode cX5_leadsTo 84 = .ok (.iadd, 1) := by decide +kernel
theorem dX5_leadsTo_85 : decode cX5_leadsTo 85 = .ok (.aload_n 0, 1) := by decide +kernel
theorem dX5_leadsTo_86 : decode cX5_leadsTo 86 = .ok (.aload_n 3, 1) := by decide +kernel
theorem dX5_leadsTo_87 : decode cX5_leadsTo 87 = .ok (.iload 5, 2) := by decide +kernel
theorem dX5_leadsTo_89 : decode cX5_leadsTo 89 = .ok (.invokevirtual 93, 3) := by decide +kernel
theorem dX5_leadsTo_92 : decode cX5_leadsTo 92 = .ok (.invokestatic 121, 3) := by decide +kernel
theorem dX5_leadsTo_95 : decode cX5_leadsTo 95 = .ok (.istore 5, 2) := by decide +kernel
theorem dX5_leadsTo_97 : decode cX5_leadsTo 97 = .ok (.goto 21, 3) := by decide +kernel
theorem dX5_leadsTo_100 : decode cX5_leadsTo 100 = .ok (.iload 6, 2) := by decide +kernel
theorem dX5_leadsTo_102 : decode cX5_leadsTo 102 = .ok (.iload 7, 2) := by decide +kernel
theorem dX5_leadsTo_104 : decode cX5_leadsTo 104 = .ok (.if_icmp .ne 12, 3) := by decide +kernel
theorem dX5_leadsTo_107 : decode cX5_leadsTo 107 = .ok (.iinc 4 1, 3) := by decide +kernel
theorem dX5_leadsTo_110 : decode cX5_leadsTo 110 = .ok (.iinc 5 1, 3) := by decide +kernel
theorem dX5_leadsTo_113 : decode cX5_leadsTo 113 = .ok (.goto 5, 3) := by decide +kernel
theorem dX5_leadsTo_116 : decode cX5_leadsTo 116 = .ok (.iconst 0, 1) := by decide +kernel
theorem dX5_leadsTo_117 : decode cX5_leadsTo 117 = .ok (.ireturn, 1) := by decide +kernel
theorem dX5_leadsTo_118 : decode cX5_leadsTo 118 = .ok (.goto (-95), 3) := by decide +kernel
theorem dX5_leadsTo_121 : decode cX5_leadsTo 121 = .ok (.iconst 1, 1) := by decide +kernel
theorem dX5_leadsTo_122 : decode cX5_leadsTo 122 = .ok (.ireturn, 1) := by decide +kernel
theorem dX6_init_0 : decode cX6_init 0 = .ok (.aload_n 0, 1) := by decide +kernel
theorem dX6_init_1 : decode cX6_init 1 = .ok (.invokespecial 3, 3) := by decide +kernel
theorem dX6_init_4 : decode cX6_init 4 = .ok (.aload_n 0, 1) := by decide +kernel
theorem dX6_init_5 : decode cX6_init 5 = .ok (.new 9, 3) := by decide +kernel
theorem dX6_init_8 : decode cX6_init 8 = .ok (.dup, 1) := by decide +kernel
theorem dX6_init_9 : decode cX6_init 9 = .ok (.invokespecial 11, 3) := by decide +kernel
theorem dX6_init_12 : decode cX6_init 12 = .ok (.putfield 12, 3) := by decide +kernel
theorem dX6_init_15 : decode cX6_init 15 = .ok (.aload_n 0, 1) := by decide +kernel
theorem dX6_init_16 : decode cX6_init 16 = .ok (.bipush 6, 2) := by decide +kernel
theorem dX6_init_18 : decode cX6_init 18 = .ok (.anewarray 18, 3) := by decide +kernel
theorem dX6_init_21 : decode cX6_init 21 = .ok (.putfield 20, 3) := by decide +kernel
theorem dX6_init_24 : decode cX6_init 24 = .ok (.aload_n 0, 1) := by decide +kernel
theorem dX6_init_25 : decode cX6_init 25 = .ok (.bipush 6, 2) := by decide +kernel
theorem dX6_init_27 : decode cX6_init 27 = .ok (.anewarray 18, 3) := by decide +kernel
theorem dX6_init_30 : decode cX6_init 30 = .ok (.putfield 24, 3) := by decide +kernel
theorem dX6_init_33 : decode cX6_init 33 = .ok (.aload_n 0, 1) := by decide +kernel
theorem dX6_init_34 : decode cX6_init 34 = .ok (.iconst 4, 1) := by decide +kernel
theorem dX6_init_35 : decode cX6_init 35 = .ok (.anewarray 18, 3) := by decide +kernel
theorem dX6_init_38 : decode cX6_init 38 = .ok (.putfield 27, 3) := by decide +kernel
theorem dX6_init_41 : decode cX6_init 41 = .ok (.aload_n 0, 1) := by decide +kernel
theorem dX6_init_42 : decode cX6_init 42 = .ok (.new 18, 3) := by decide +kernel
theorem dX6_init_45 : decode cX6_init 45 = .ok (.dup, 1) := by decide +kernel
theorem dX6_init_46 : decode cX6_init 46 = .ok (.invokespecial 30, 3) := by decide +kernel
theorem dX6_init_49 : decode cX6_init 49 = .ok (.putfield 31, 3) := by decide +kernel
theorem dX6_init_52 : decode cX6_init 52 = .ok (.iconst 0, 1) := by decide +kernel
theorem dX6_init_53 : decode cX6_init 53 = .ok (.istore_n 1, 1) := by decide +kernel
theorem dX6_init_54 : decode cX6_init 54 = .ok (.iload_n 1, 1) := by decide +kernel
theorem dX6_init_55 : decode cX6_init 55 = .ok (.bipush 6, 2) := by decide +kernel
theorem dX6_init_57 : decode cX6_init 57 = .ok (.if_icmp .ge 35, 3) := by decide +kernel
theorem dX6_init_60 : decode cX6_init 60 = .ok (.aload_n 0, 1) := by decide +kernel
theorem dX6_init_61 : decode cX6_init 61 = .ok (.getfield 20, 3) := by decide +kernel
theorem dX6_init_64 : decode cX6_init 64 = .ok (.iload_n 1, 1) := by decide +kernel
theorem dX6_init_65 : decode cX6_init 65 = .ok (.new 18, 3) := by decide +kernel
theorem dX6_init_68 : decode cX6_init 68 = .ok (.dup, 1) := by decide +kernel
theorem dX6_init_69 : decode cX6_init 69 = .ok (.invokespecial 30, 3) := by decide +kernel
theorem dX6_init_72 : decode cX6_init 72 = .ok (.aastore, 1) := by decide +kernel
theorem dX6_init_73 : decode cX6_init 73 = .ok (.aload_n 0, 1) := by decide +kernel
theorem dX6_init_74 : decode cX6_init 74 = .ok (.getfield 24, 3) := by decide +kernel
theorem dX6_init_77 : decode cX6_init 77 = .ok (.iload_n 1, 1) := by decide +kernel
theorem dX6_init_78 : decode cX6_init 78 = .ok (.new 18, 3) := by decide +kernel
theorem dX6_init_81 : decode cX6_init 81 = .ok (.dup, 1) := by decide +kernel
theorem dX6_init_82 : decode cX6_init 82 = .ok (.invokespecial 30, 3) := by decide +kernel
theorem dX6_init_85 : decode cX6_init 85 = .ok (.aastore, 1) := by decide +kernel
theorem dX6_init_86 : decode cX6_init 86 = .ok (.iinc 1 1, 3) := by decide +kernel
theorem dX6_init_89 : decode cX6_init 89 = .ok (.goto (-35), 3) := by decide +kernel
theorem dX6_init_92 : decode cX6_init 92 = .ok (.iconst 0, 1) := by decide +kernel
theorem dX6_init_93 : decode cX6_init 93 = .ok (.istore_n 1, 1) := by decide +kernel
theorem dX6_init_94 : decode cX6_init 94 = .ok (.iload_n 1, 1) := by decide +kernel
theorem dX6_init_95 : decode cX6_init 95 = .ok (.iconst 4, 1) := by decide +kernel
theorem dX6_init_96 : decode cX6_init 96 = .ok (.if_icmp .ge 22, 3) := by decide +kernel
theorem dX6_init_99 : decode cX6_init 99 = .ok (.aload_n 0, 1) := by decide +kernel
theorem dX6_init_100 : decode cX6_init 100 = .ok (.getfield 27, 3) := by decide +kernel
theorem dX6_init_103 : decode cX6_init 103 = .ok (.iload_n 1, 1) := by decide +kernel
theorem dX6_init_104 : decode cX6_init 104 = .ok (.new 18, 3) := by decide +kernel
theorem dX6_init_107 : decode cX6_init 107 = .ok (.dup, 1) := by decide +kernel
theorem dX6_init_108 : decode cX6_init 108 = .ok (.invokespecial 30, 3) := by decide +kernel
theorem dX6_init_111 : decode cX6_init 111 = .ok (.aastore, 1) := by decide +kernel
theorem dX6_init_112 : decode cX6_init 112 = .ok (.iinc 1 1, 3) := by decide +kernel
theorem dX6_init_115 : decode cX6_init 115 = .ok (.goto (-21), 3) := by decide +kernel
theorem dX6_init_118 : decode cX6_init 118 = .ok (.return_, 1) := by decide +kernel
theorem dX6_left_0 : decode cX6_left 0 = .ok (.iload_n 1, 1) := by decide +kernel
theorem dX6_left_1 : decode cX6_left 1 = .ok (.ifCond .lt 21, 3) := by decide +kernel
theorem dX6_left_4 : decode cX6_left 4 = .ok (.iload_n 1, 1) := by decide +kernel
theorem dX6_left_5 : decode cX6_left 5 = .ok (.aload_n 0, 1) := by decide +kernel
theorem dX6_left_6 : decode cX6_left 6 = .ok (.getfield 20, 3) := by decide +kernel
theorem dX6_left_9 : decode cX6_left 9 = .ok (.arraylength, 1) := by decide +kernel
theorem dX6_left_10 : decode cX6_left 10 = .ok (.if_icmp .ge 12, 3) := by decide +kernel
theorem dX6_left_13 : decode cX6_left 13 = .ok (.aload_n 0, 1) := by decide +kernel
theorem dX6_left_14 : decode cX6_left 14 = .ok (.getfield 20, 3) := by decide +kernel
theorem dX6_left_17 : decode cX6_left 17 = .ok (.iload_n 1, 1) := by decide +kernel
theorem dX6_left_18 : decode cX6_left 18 = .ok (.aaload, 1) := by decide +kernel
theorem dX6_left_19 : decode cX6_left 19 = .ok (.goto 7, 3) := by decide +kernel
theorem dX6_left_22 : decode cX6_left 22 = .ok (.aload_n 0, 1) := by decide +kernel
theorem dX6_left_23 : decode cX6_left 23 = .ok (.getfield 31, 3) := by decide +kernel
theorem dX6_left_26 : decode cX6_left 26 = .ok (.areturn, 1) := by decide +kernel
theorem dX6_right_0 : decode cX6_right 0 = .ok (.iload_n 1, 1) := by decide +kernel
theorem dX6_right_1 : decode cX6_right 1 = .ok (.ifCond .lt 21, 3) := by decide +kernel
theorem dX6_right_4 : decode cX6_right 4 = .ok (.iload_n 1, 1) := by decide +kernel
theorem dX6_right_5 : decode cX6_right 5 = .ok (.aload_n 0, 1) := by decide +kernel
theorem dX6_right_6 : decode cX6_right 6 = .ok (.getfield 24, 3) := by decide +kernel
theorem dX6_right_9 : decode cX6_right 9 = .ok (.arraylength, 1) := by decide +kernel
theorem dX6_right_10 : decode cX6_right 10 = .ok (.if_icmp .ge 12, 3) := by decide +kernel
theorem dX6_right_13 : decode cX6_right 13 = .ok (.aload_n 0, 1) := by decide +kernel
theorem dX6_right_14 : decode cX6_right 14 = .ok (.getfield 24, 3) := by decide +kernel
theorem dX6_right_17 : decode cX6_right 17 = .ok (.iload_n 1, 1) := by decide +kernel
theorem dX6_right_18 : decode cX6_right 18 = .ok (.aaload, 1) := by decide +kernel
theorem dX6_right_19 : decode cX6_right 19 = .ok (.goto 7, 3) := by decide +kernel
theorem dX6_right_22 : decode cX6_right 22 = .ok (.aload_n 0, 1) := by decide +kernel
theorem dX6_right_23 : decode cX6_right 23 = .ok (.getfield 31, 3) := by decide +kernel
theorem dX6_right_26 : decode cX6_right 26 = .ok (.areturn, 1) := by decide +kernel
theorem dX6_register_0 : decode cX6_register 0 = .ok (.iload_n 1, 1) := by decide +kernel
theorem dX6_register_1 : decode cX6_register 1 = .ok (.ifCond .lt 21, 3) := by decide +kernel
theorem dX6_register_4 : decode cX6_register 4 = .ok (.iload_n 1, 1) := by decide +kernel
theorem dX6_register_5 : decode cX6_register 5 = .ok (.aload_n 0, 1) := by decide +kernel
theorem dX6_register_6 : decode cX6_register 6 = .ok (.getfield 27, 3) := by decide +kernel
theorem dX6_register_9 : decode cX6_register 9 = .ok (.arraylength, 1) := by decide +kernel
theorem dX6_register_10 : decode cX6_register 10 = .ok (.if_icmp .ge 12, 3) := by decide +kernel
theorem dX6_register_13 : decode cX6_register 13 = .ok (.aload_n 0, 1) := by decide +kernel
theorem dX6_register_14 : decode cX6_register 14 = .ok (.getfield 27, 3) := by decide +kernel
theorem dX6_register_17 : decode cX6_register 17 = .ok (.iload_n 1, 1) := by decide +kernel
theorem dX6_register_18 : decode cX6_register 18 = .ok (.aaload, 1) := by decide +kernel
theorem dX6_register_19 : decode cX6_register 19 = .ok (.goto 7, 3) := by decide +kernel
theorem dX6_register_22 : decode cX6_register 22 = .ok (.aload_n 0, 1) := by decide +kernel
theorem dX6_register_23 : decode cX6_register 23 = .ok (.getfield 31, 3) := by decide +kernel
theorem dX6_register_26 : decode cX6_register 26 = .ok (.areturn, 1) := by decide +kernel
theorem dX6_dropRule_0 : decode cX6_dropRule 0 = .ok (.iload_n 1, 1) := by decide +kernel
theorem dX6_dropRule_1 : decode cX6_dropRule 1 = .ok (.iconst 1, 1) := by decide +kernel
theorem dX6_dropRule_2 : decode cX6_dropRule 2 = .ok (.iadd, 1) := by decide +kernel
theorem dX6_dropRule_3 : decode cX6_dropRule 3 = .ok (.istore_n 2, 1) := by decide +kernel
theorem dX6_dropRule_4 : decode cX6_dropRule 4 = .ok (.iload_n 2, 1) := by decide +kernel
theorem dX6_dropRule_5 : decode cX6_dropRule 5 = .ok (.aload_n 0, 1) := by decide +kernel
theorem dX6_dropRule_6 : decode cX6_dropRule 6 = .ok (.getfield 35, 3) := by decide +kernel
theorem dX6_dropRule_9 : decode cX6_dropRule 9 = .ok (.if_icmp .ge 39, 3) := by decide +kernel
theorem dX6_dropRule_12 : decode cX6_dropRule 12 = .ok (.aload_n 0, 1) := by decide +kernel
theorem dX6_dropRule_13 : decode cX6_dropRule 13 = .ok (.iload_n 2, 1) := by decide +kernel
theorem dX6_dropRule_14 : decode cX6_dropRule 14 = .ok (.iconst 1, 1) := by decide +kernel
theorem dX6_dropRule_15 : decode cX6_dropRule 15 = .ok (.isub, 1) := by decide +kernel
theorem dX6_dropRule_16 : decode cX6_dropRule 16 = .ok (.invokevirtual 39, 3) := by decide +kernel
theorem dX6_dropRule_19 : decode cX6_dropRule 19 = .ok (.aload_n 0, 1) := by decide +kernel
theorem dX6_dropRule_20 : decode cX6_dropRule 20 = .ok (.iload_n 2, 1) := by decide +kernel
theorem dX6_dropRule_21 : decode cX6_dropRule 21 = .ok (.invokevirtual 39, 3) := by decide +kernel
theorem dX6_dropRule_24 : decode cX6_dropRule 24 = .ok (.invokevirtual 43, 3) := by decide +kernel
theorem dX6_dropRule_27 : decode cX6_dropRule 27 = .ok (.aload_n 0, 1) := by decide +kernel
theorem dX6_dropRule_28 : decode cX6_dropRule 28 = .ok (.iload_n 2, 1) := by decide +kernel
theorem dX6_dropRule_29 : decode cX6_dropRule 29 = .ok (.iconst 1, 1) := by decide +kernel
theorem dX6_dropRule_30 : decode cX6_dropRule 30 = .ok (.isub, 1) := by decide +kernel
theorem dX6_dropRule_31 : decode cX6_dropRule 31 = .ok (.invokevirtual 47, 3) := by decide +kernel
theorem dX6_dropRule_34 : decode cX6_dropRule 34 = .ok (.aload_n 0, 1) := by decide +kernel
theorem dX6_dropRule_35 : decode cX6_dropRule 35 = .ok (.iload_n 2, 1) := by decide +kernel
theorem dX6_dropRule_36 : decode cX6_dropRule 36 = .ok (.invokevirtual 47, 3) := by decide +kernel
theorem dX6_dropRule_39 : decode cX6_dropRule 39 = .ok (.invokevirtual 43, 3) := by decide +kernel
theorem dX6_dropRule_42 : decode cX6_dropRule 42 = .ok (.iinc 2 1, 3) := by decide +kernel
theorem dX6_dropRule_45 : decode cX6_dropRule 45 = .ok (.goto (-41), 3) := by decide +kernel
theorem dX6_dropRule_48 : decode cX6_dropRule 48 = .ok (.aload_n 0, 1) := by decide +kernel
theorem dX6_dropRule_49 : decode cX6_dropRule 49 = .ok (.dup, 1) := by decide +kernel
theorem dX6_dropRule_50 : decode cX6_dropRule 50 = .ok (.getfield 35, 3) := by decide +kernel
theorem dX6_dropRule_53 : decode cX6_dropRule 53 = .ok (.iconst 1, 1) := by decide +kernel
theorem dX6_dropRule_54 : decode cX6_dropRule 54 = .ok (.isub, 1) := by decide +kernel
theorem dX6_dropRule_55 : decode cX6_dropRule 55 = .ok (.putfield 35, 3) := by decide +kernel
theorem dX6_dropRule_58 : decode cX6_dropRule 58 = .ok (.return_, 1) := by decide +kernel
theorem dX6_resetRegistersWith_0 : decode cX6_resetRegistersWith 0 = .ok (.iconst 0, 1) := by decide +kernel
theorem dX6_resetRegistersWith_1 : decode cX6_resetRegistersWith 1 = .ok (.istore_n 2, 1) := by decide +kernel
theorem dX6_resetRegistersWith_2 : decode cX6_resetRegistersWith 2 = .ok (.iload_n 2, 1) := by decide +kernel
theorem dX6_resetRegistersWith_3 : decode cX6_resetRegistersWith 3 = .ok (.iconst 4, 1) := by decide +kernel
theorem dX6_resetRegistersWith_4 : decode cX6_resetRegistersWith 4 = .ok (.if_icmp .ge 29, 3) := by decide +kernel
theorem dX6_resetRegistersWith_7 : decode cX6_resetRegistersWith 7 = .ok (.aload_n 0, 1) := by decide +kernel
theorem dX6_resetRegistersWith_8 : decode cX6_resetRegistersWith 8 = .ok (.iload_n 2, 1) := by decide +kernel
theorem dX6_resetRegistersWith_9 : decode cX6_resetRegistersWith 9 = .ok (.invokevirtual 50, 3) := by decide +kernel
theorem dX6_resetRegistersWith_12 : decode cX6_resetRegistersWith 12 = .ok (.iload_n 1, 1) := by decide +kernel
theorem dX6_resetRegistersWith_13 : decode cX6_resetRegistersWith 13 = .ok (.invokevirtual 53, 3) := by decide +kernel
theorem dX6_resetRegistersWith_16 : decode cX6_resetRegistersWith 16 = .ok (.ifCond .eq 11, 3) := by decide +kernel
theorem dX6_resetRegistersWith_19 : decode cX6_resetRegistersWith 19 = .ok (.aload_n 0, 1) := by decide +kernel
theorem dX6_resetRegistersWith_20 : decode cX6_resetRegistersWith 20 = .ok (.iload_n 2, 1) := by decide +kernel
theorem dX6_resetRegistersWith_21 : decode cX6_resetRegistersWith 21 = .ok (.invokevirtual 50, 3) := by decide +kernel
theorem dX6_resetRegistersWith_24 : decode cX6_resetRegistersWith 24 = .ok (.invokevirtual 57, 3) := by decide +kernel
theorem dX6_resetRegistersWith_27 : decode cX6_resetRegistersWith 27 = .ok (.iinc 2 1, 3) := by decide +kernel
theorem dX6_resetRegistersWith_30 : decode cX6_resetRegistersWith 30 = .ok (.goto (-28), 3) := by decide +kernel
theorem dX6_resetRegistersWith_33 : decode cX6_resetRegistersWith 33 = .ok (.return_, 1) := by decide +kernel
theorem dX6_copyFrom_0 : decode cX6_copyFrom 0 = .ok (.aload_n 0, 1) := by decide +kernel
theorem dX6_copyFrom_1 : decode cX6_copyFrom 1 = .ok (.getfield 12, 3) := by decide +kernel
theorem dX6_copyFrom_4 : decode cX6_copyFrom 4 = .ok (.aload_n 1, 1) := by decide +kernel
theorem dX6_copyFrom_5 : decode cX6_copyFrom 5 = .ok (.getfield 12, 3) := by decide +kernel
theorem dX6_copyFrom_8 : decode cX6_copyFrom 8 = .ok (.invokevirtual 60, 3) := by decide +kernel
theorem dX6_copyFrom_11 : decode cX6_copyFrom 11 = .ok (.aload_n 0, 1) := by decide +kernel
theorem dX6_copyFrom_12 : decode cX6_copyFrom 12 = .ok (.aload_n 1, 1) := by decide +kernel
theorem dX6_copyFrom_13 : decode cX6_copyFrom 13 = .ok (.getfield 35, 3) := by decide +kernel
theorem dX6_copyFrom_16 : decode cX6_copyFrom 16 = .ok (.putfield 35, 3) := by decide +kernel
theorem dX6_copyFrom_19 : decode cX6_copyFrom 19 = .ok (.iconst 0, 1) := by decide +kernel
theorem dX6_copyFrom_20 : decode cX6_copyFrom 20 = .ok (.istore_n 2, 1) := by decide +kernel
theorem dX6_copyFrom_21 : decode cX6_copyFrom 21 = .ok (.iload_n 2, 1) := by decide +kernel
theorem dX6_copyFrom_22 : decode cX6_copyFrom 22 = .ok (.bipush 6, 2) := by decide +kernel
theorem dX6_copyFrom_24 : decode cX6_copyFrom 24 = .ok (.if_icmp .ge 35, 3) := by decide +kernel
theorem dX6_copyFrom_27 : decode cX6_copyFrom 27 = .ok (.aload_n 0, 1) := by decide +kernel
theorem dX6_copyFrom_28 : decode cX6_copyFrom 28 = .ok (.iload_n 2, 1) := by decide +kernel
theorem dX6_copyFrom_29 : decode cX6_copyFrom 29 = .ok (.invokevirtual 39, 3) := by decide +kernel
theorem dX6_copyFrom_32 : decode cX6_copyFrom 32 = .ok (.aload_n 1, 1) := by decide +kernel
theorem dX6_copyFrom_33 : decode cX6_copyFrom 33 = .ok (.iload_n 2, 1) := by decide +kernel
theorem dX6_copyFrom_34 : decode cX6_copyFrom 34 = .ok (.invokevirtual 39, 3) := by decide +kernel
theorem dX6_copyFrom_37 : decode cX6_copyFrom 37 = .ok (.invokevirtual 43, 3) := by decide +kernel
theorem dX6_copyFrom_40 : decode cX6_copyFrom 40 = .ok (.aload_n 0, 1) := by decide +kernel
theorem dX6_copyFrom_41 : decode cX6_copyFrom 41 = .ok (.iload_n 2, 1) := by decide +kernel
theorem dX6_copyFrom_42 : decode cX6_copyFrom 42 = .ok (.invokevirtual 47, 3) := by decide +kernel
theorem dX6_copyFrom_45 : decode cX6_copyFrom 45 = .ok (.aload_n 1, 1) := by decide +kernel
theorem dX6_copyFrom_46 : decode cX6_copyFrom 46 = .ok (.iload_n 2, 1) := by decide +kernel
theorem dX6_copyFrom_47 : decode cX6_copyFrom 47 = .ok (.invokevirtual 47, 3) := by decide +kernel
theorem dX6_copyFrom_50 : decode cX6_copyFrom 50 = .ok (.invokevirtual 43, 3) := by decide +kernel
theorem dX6_copyFrom_53 : decode cX6_copyFrom 53 = .ok (.iinc 2 1, 3) := by decide +kernel
theorem dX6_copyFrom_56 : decode cX6_copyFrom 56 = .ok (.goto (-35), 3) := by decide +kernel
theorem dX6_copyFrom_59 : decode cX6_copyFrom 59 = .ok (.iconst 0, 1) := by decide +kernel
theorem dX6_copyFrom_60 : decode cX6_copyFrom 60 = .ok (.istore_n 2, 1) := by decide +kernel
theorem dX6_copyFrom_61 : decode cX6_copyFrom 61 = .ok (.iload_n 2, 1) := by decide +kernel
theorem dX6_copyFrom_62 : decode cX6_copyFrom 62 = .ok (.iconst 4, 1) := by decide +kernel
theorem dX6_copyFrom_63 : decode cX6_copyFrom 63 = .ok (.if_icmp .ge 22, 3) := by decide +kernel
theorem dX6_copyFrom_66 : decode cX6_copyFrom 66 = .ok (.aload_n 0, 1) := by decide +kernel
theorem dX6_copyFrom_67 : decode cX6_copyFrom 67 = .ok (.iload_n 2, 1) := by decide +kernel
theorem dX6_copyFrom_68 : decode cX6_copyFrom 68 = .ok (.invokevirtual 50, 3) := by decide +kernel
theorem dX6_copyFrom_71 : decode cX6_copyFrom 71 = .ok (.aload_n 1, 1) := by decide +kernel
theorem dX6_copyFrom_72 : decode cX6_copyFrom 72 = .ok (.iload_n 2, 1) := by decide +kernel
theorem dX6_copyFrom_73 : decode cX6_copyFrom 73 = .ok (.invokevirtual 50, 3) := by decide +kernel
theorem dX6_copyFrom_76 : decode cX6_copyFrom 76 = .ok (.invokevirtual 43, 3) := by decide +kernel
theorem dX6_copyFrom_79 : decode cX6_copyFrom 79 = .ok (.iinc 2 1, 3) := by decide +kernel
theorem dX6_copyFrom_82 : decode cX6_copyFrom 82 = .ok (.goto (-21), 3) := by decide +kernel
theorem dX6_copyFrom_85 : decode cX6_copyFrom 85 = .ok (.return_, 1) := by decide +kernel
theorem dX7_init_0 : decode cX7_init 0 = .ok (.aload_n 0, 1) := by decide +kernel
theorem dX7_init_1 : decode cX7_init 1 = .ok (.invokespecial 3, 3) := by decide +kernel
theorem dX7_init_4 : decode cX7_init 4 = .ok (.aload_n 0, 1) := by decide +kernel
theorem dX7_init_5 : decode cX7_init 5 = .ok (.iconst 3, 1) := by decide +kernel
theorem dX7_init_6 : decode cX7_init 6 = .ok (.newarray .int, 2) := by decide +kernel
theorem dX7_init_8 : decode cX7_init 8 = .ok (.putfield 9, 3) := by decide +kernel
theorem dX7_init_11 : decode cX7_init 11 = .ok (.aload_n 0, 1) := by decide +kernel
theorem dX7_init_12 : decode cX7_init 12 = .ok (.bipush 101, 2) := by decide +kernel
theorem dX7_init_14 : decode cX7_init 14 = .ok (.anewarray 15, 3) := by decide +kernel
theorem dX7_init_17 : decode cX7_init 17 = .ok (.putfield 17, 3) := by decide +kernel
theorem dX7_init_20 : decode cX7_init 20 = .ok (.iconst 0, 1) := by decide +kernel
theorem dX7_init_21 : decode cX7_init 21 = .ok (.istore_n 1, 1) := by decide +kernel
theorem dX7_init_22 : decode cX7_init 22 = .ok (.iload_n 1, 1) := by decide +kernel
theorem dX7_init_23 : decode cX7_init 23 = .ok (.bipush 100, 2) := by decide +kernel
theorem dX7_init_25 : decode cX7_init 25 = .ok (.if_icmp .gt 22, 3) := by decide +kernel
theorem dX7_init_28 : decode cX7_init 28 = .ok (.aload_n 0, 1) := by decide +kernel
theorem dX7_init_29 : decode cX7_init 29 = .ok (.getfield 17, 3) := by decide +kernel
theorem dX7_init_32 : decode cX7_init 32 = .ok (.iload_n 1, 1) := by decide +kernel
theorem dX7_init_33 : decode cX7_init 33 = .ok (.new 15, 3) := by decide +kernel
theorem dX7_init_36 : decode cX7_init 36 = .ok (.dup, 1) := by decide +kernel
theorem dX7_init_37 : decode cX7_init 37 = .ok (.invokespecial 21, 3) := by decide +kernel
theorem dX7_init_40 : decode cX7_init 40 = .ok (.aastore, 1) := by decide +kernel
theorem dX7_init_41 : decode cX7_init 41 = .ok (.iinc 1 1, 3) := by decide +kernel
theorem dX7_init_44 : decode cX7_init 44 = .ok (.goto (-22), 3) := by decide +kernel
theorem dX7_init_47 : decode cX7_init 47 = .ok (.return_, 1) := by decide +kernel
theorem dX7_ruleFits_0 : decode cX7_ruleFits 0 = .ok (.aload_n 1, 1) := by decide +kernel
theorem dX7_ruleFits_1 : decode cX7_ruleFits 1 = .ok (.iload_n 2, 1) := by decide +kernel
theorem dX7_ruleFits_2 : decode cX7_ruleFits 2 = .ok (.invokevirtual 22, 3) := by decide +kernel
theorem dX7_ruleFits_5 : decode cX7_ruleFits 5 = .ok (.astore 5, 2) := by decide +kernel
theorem dX7_ruleFits_7 : decode cX7_ruleFits 7 = .ok (.iload 4, 2) := by decide +kernel
theorem dX7_ruleFits_9 : decode cX7_ruleFits 9 = .ok (.istore 6, 2) := by decide +kernel
theorem dX7_ruleFits_11 : decode cX7_ruleFits 11 = .ok (.aload_n 0, 1) := by decide +kernel
theorem dX7_ruleFits_12 : decode cX7_ruleFits 12 = .ok (.invokevirtual 28, 3) := by decide +kernel
theorem dX7_ruleFits_15 : decode cX7_ruleFits 15 = .ok (.iconst 0, 1) := by decide +kernel
theorem dX7_ruleFits_16 : decode cX7_ruleFits 16 = .ok (.istore 7, 2) := by decide +kernel
theorem dX7_ruleFits_18 : decode cX7_ruleFits 18 = .ok (.iload 7, 2) := by decide +kernel
theorem dX7_ruleFits_20 : decode cX7_ruleFits 20 = .ok (.aload 5, 2) := by decide +kernel
theorem dX7_ruleFits_22 : decode cX7_ruleFits 22 = .ok (.getfield 31, 3) := by decide +kernel
theorem dX7_ruleFits_25 : decode cX7_ruleFits 25 = .ok (.if_icmp .ge 115, 3) := by decide +kernel
theorem dX7_ruleFits_28 : decode cX7_ruleFits 28 = .ok (.aload 5, 2) := by decide +kernel
theorem dX7_ruleFits_30 : decode cX7_ruleFits 30 = .ok (.iload 7, 2) := by decide +kernel
theorem dX7_ruleFits_32 : decode cX7_ruleFits 32 = .ok (.invokevirtual 35, 3) := by decide +kernel
theorem dX7_ruleFits_35 : decode cX7_ruleFits 35 = .ok (.istore 8, 2) := by decide +kernel
theorem dX7_ruleFits_37 : decode cX7_ruleFits 37 = .ok (.iload 8, 2) := by decide +kernel
theorem dX7_ruleFits_39 : decode cX7_ruleFits 39 = .ok (.invokestatic 39, 3) := by decide +kernel
theorem dX7_ruleFits_42 : decode cX7_ruleFits 42 = .ok (.istore 9, 2) := by decide +kernel
theorem dX7_ruleFits_44 : decode cX7_ruleFits 44 = .ok (.iload 9, 2) := by decide +kernel
theorem dX7_ruleFits_46 : decode cX7_ruleFits 46 = .ok (.ifCond .lt 69, 3) := by decide +kernel
theorem dX7_ruleFits_49 : decode cX7_ruleFits 49 = .ok (.iload 9, 2) := by decide +kernel
theorem dX7_ruleFits_51 : decode cX7_ruleFits 51 = .ok (.aload_n 0, 1) := by decide +kernel
theorem dX7_ruleFits_52 : decode cX7_ruleFits 52 = .ok (.getfield 9, 3) := by decide +kernel
theorem dX7_ruleFits_55 : decode cX7_ruleFits 55 = .ok (.arraylength, 1) := by decide +kernel
theorem dX7_ruleFits_56 : decode cX7_ruleFits 56 = .ok (.if_icmp .ge 59, 3) := by decide +kernel
theorem dX7_ruleFits_59 : decode cX7_ruleFits 59 = .ok (.aload_n 0, 1) := by decide +kernel
theorem dX7_ruleFits_60 : decode cX7_ruleFits 60 = .ok (.getfield 9, 3) := by decide +kernel
theorem dX7_ruleFits_63 : decode cX7_ruleFits 63 = .ok (.iload 9, 2) := by decide +kernel
theorem dX7_ruleFits_65 : decode cX7_ruleFits 65 = .ok (.iaload, 1) := by decide +kernel
theorem dX7_ruleFits_66 : decode cX7_ruleFits 66 = .ok (.istore 10, 2) := by decide +kernel
theorem dX7_ruleFits_68 : decode cX7_ruleFits 68 = .ok (.iload 10, 2) := by decide +kernel
theorem dX7_ruleFits_70 : decode cX7_ruleFits 70 = .ok (.ifCond .lt 21, 3) := by decide +kernel
theorem dX7_ruleFits_73 : decode cX7_ruleFits 73 = .ok (.aload_n 1, 1) := by decide +kernel
theorem dX7_ruleFits_74 : decode cX7_ruleFits 74 = .ok (.getfield 42, 3) := by decide +kernel
theorem dX7_ruleFits_77 : decode cX7_ruleFits 77 = .ok (.aload_n 3, 1) := by decide +kernel
theorem dX7_ruleFits_78 : decode cX7_ruleFits 78 = .ok (.iload 10, 2) := by decide +kernel
theorem dX7_ruleFits_80 : decode cX7_ruleFits 80 = .ok (.aload_n 3, 1) := by decide +kernel
theorem dX7_ruleFits_81 : decode cX7_ruleFits 81 = .ok (.iload 6, 2) := by decide +kernel
theorem dX7_ruleFits_83 : decode cX7_ruleFits 83 = .ok (.invokevirtual 46, 3) := by decide +kernel
theorem dX7_ruleFits_86 : decode cX7_ruleFits 86 = .ok (.ifCond .ne 5, 3) := by decide +kernel
theorem dX7_ruleFits_89 : decode cX7_ruleFits 89 = .ok (.iconst 0, 1) := by decide +kernel
theorem dX7_ruleFits_90 : decode cX7_ruleFits 90 = .ok (.ireturn, 1) := by decide +kernel
theorem dX7_ruleFits_91 : decode cX7_ruleFits 91 = .ok (.aload_n 0, 1) := by decide +kernel
theorem dX7_ruleFits_92 : decode cX7_ruleFits 92 = .ok (.getfield 9, 3) := by decide +kernel
theorem dX7_ruleFits_95 : decode cX7_ruleFits 95 = .ok (.iload 9, 2) := by decide +kernel
theorem dX7_ruleFits_97 : decode cX7_ruleFits 97 = .ok (.iload 6, 2) := by decide +kernel
theorem dX7_ruleFits_99 : decode cX7_ruleFits 99 = .ok (.iastore, 1) := by decide +kernel
theorem dX7_ruleFits_100 : decode cX7_ruleFits 100 = .ok (.aload_n 1, 1) := by decide +kernel
theorem dX7_ruleFits_101 : decode cX7_ruleFits 101 = .ok (.getfield 42, 3) := by decide +kernel
theorem dX7_ruleFits_104 : decode cX7_ruleFits 104 = .ok (.aload_n 3, 1) := by decide +kernel
theorem dX7_ruleFits_105 : decode cX7_ruleFits 105 = .ok (.iload 6, 2) := by decide +kernel
theorem dX7_ruleFits_107 : decode cX7_ruleFits 107 = .ok (.invokevirtual 52, 3) := by decide +kernel
theorem dX7_ruleFits_110 : decode cX7_ruleFits 110 = .ok (.istore 6, 2) := by decide +kernel
theorem dX7_ruleFits_112 : decode cX7_ruleFits 112 = .ok (.goto 22, 3) := by decide +kernel
theorem dX7_ruleFits_115 : decode cX7_ruleFits 115 = .ok (.aload_n 3, 1) := by decide +kernel
theorem dX7_ruleFits_116 : decode cX7_ruleFits 116 = .ok (.iload 6, 2) := by decide +kernel
theorem dX7_ruleFits_118 : decode cX7_ruleFits 118 = .ok (.invokevirtual 35, 3) := by decide +kernel
theorem dX7_ruleFits_121 : decode cX7_ruleFits 121 = .ok (.iload 8, 2) := by decide +kernel
theorem dX7_ruleFits_123 : decode cX7_ruleFits 123 = .ok (.if_icmp .ne 9, 3) := by decide +kernel
theorem dX7_ruleFits_126 : decode cX7_ruleFits 126 = .ok (.iinc 6 1, 3) := by decide +kernel
theorem dX7_ruleFits_129 : decode cX7_ruleFits 129 = .ok (.goto 5, 3) := by decide +kernel
theorem dX7_ruleFits_132 : decode cX7_ruleFits 132 = .ok (.iconst 0, 1) := by decide +kernel
theorem dX7_ruleFits_133 : decode cX7_ruleFits 133 = .ok (.ireturn, 1) := by decide +kernel
theorem dX7_ruleFits_134 : decode cX7_ruleFits 134 = .ok (.iinc 7 1, 3) := by decide +kernel
theorem dX7_ruleFits_137 : decode cX7_ruleFits 137 = .ok (.goto (-119), 3) := by decide +kernel
theorem dX7_ruleFits_140 : decode cX7_ruleFits 140 = .ok (.iconst 1, 1) := by decide +kernel
theorem dX7_ruleFits_141 : decode cX7_ruleFits 141 = .ok (.ireturn, 1) := by decide +kernel
theorem dX7_unbind_0 : decode cX7_unbind 0 = .ok (.iconst 0, 1) := by decide +kernel
theorem dX7_unbind_1 : decode cX7_unbind 1 = .ok (.istore_n 1, 1) := by decide +kernel
theorem dX7_unbind_2 : decode cX7_unbind 2 = .ok (.iload_n 1, 1) := by decide +kernel
theorem dX7_unbind_3 : decode cX7_unbind 3 = .ok (.aload_n 0, 1) := by decide +kernel
theorem dX7_unbind_4 : decode cX7_unbind 4 = .ok (.getfield 9, 3) := by decide +kernel
theorem dX7_unbind_7 : decode cX7_unbind 7 = .ok (.arraylength, 1) := by decide +kernel
theorem dX7_unbind_8 : decode cX7_unbind 8 = .ok (.if_icmp .ge 16, 3) := by decide +kernel
theorem dX7_unbind_11 : decode cX7_unbind 11 = .ok (.aload_n 0, 1) := by decide +kernel
theorem dX7_unbind_12 : decode cX7_unbind 12 = .ok (.getfield 9, 3) := by decide +kernel
theorem dX7_unbind_15 : decode cX7_unbind 15 = .ok (.iload_n 1, 1) := by decide +kernel
theorem dX7_unbind_16 : decode cX7_unbind 16 = .ok (.iconst (-1), 1) := by decide +kernel
theorem dX7_unbind_17 : decode cX7_unbind 17 = .ok (.iastore, 1) := by decide +kernel
theorem dX7_unbind_18 : decode cX7_unbind 18 = .ok (.iinc 1 1, 3) := by decide +kernel
theorem dX7_unbind_21 : decode cX7_unbind 21 = .ok (.goto (-19), 3) := by decide +kernel
theorem dX7_unbind_24 : decode cX7_unbind 24 = .ok (.return_, 1) := by decide +kernel
theorem dX7_bindingOf_0 : decode cX7_bindingOf 0 = .ok (.iload_n 1, 1) := by decide +kernel
theorem dX7_bindingOf_1 : decode cX7_bindingOf 1 = .ok (.ifCond .lt 21, 3) := by decide +kernel
theorem dX7_bindingOf_4 : decode cX7_bindingOf 4 = .ok (.iload_n 1, 1) := by decide +kernel
theorem dX7_bindingOf_5 : decode cX7_bindingOf 5 = .ok (.aload_n 0, 1) := by decide +kernel
theorem dX7_bindingOf_6 : decode cX7_bindingOf 6 = .ok (.getfield 9, 3) := by decide +kernel
theorem dX7_bindingOf_9 : decode cX7_bindingOf 9 = .ok (.arraylength, 1) := by decide +kernel
theorem dX7_bindingOf_10 : decode cX7_bindingOf 10 = .ok (.if_icmp .ge 12, 3) := by decide +kernel
theorem dX7_bindingOf_13 : decode cX7_bindingOf 13 = .ok (.aload_n 0, 1) := by decide +kernel
theorem dX7_bindingOf_14 : decode cX7_bindingOf 14 = .ok (.getfield 9, 3) := by decide +kernel
theorem dX7_bindingOf_17 : decode cX7_bindingOf 17 = .ok (.iload_n 1, 1) := by decide +kernel
theorem dX7_bindingOf_18 : decode cX7_bindingOf 18 = .ok (.iaload, 1) := by decide +kernel
theorem dX7_bindingOf_19 : decode cX7_bindingOf 19 = .ok (.goto 4, 3) := by decide +kernel
theorem dX7_bindingOf_22 : decode cX7_bindingOf 22 = .ok (.iconst (-1), 1) := by decide +kernel
theorem dX7_bindingOf_23 : decode cX7_bindingOf 23 = .ok (.ireturn, 1) := by decide +kernel
theorem dX7_lowestRuleAt_0 : decode cX7_lowestRuleAt 0 = .ok (.iconst 0, 1) := by decide +kernel
theorem dX7_lowestRuleAt_1 : decode cX7_lowestRuleAt 1 = .ok (.istore 4, 2) := by decide +kernel
theorem dX7_lowestRuleAt_3 : decode cX7_lowestRuleAt 3 = .ok (.iload 4, 2) := by decide +kernel
theorem dX7_lowestRuleAt_5 : decode cX7_lowestRuleAt 5 = .ok (.aload_n 1, 1) := by decide +kernel
theorem dX7_lowestRuleAt_6 : decode cX7_lowestRuleAt 6 = .ok (.getfield 56, 3) := by decide +kernel
theorem dX7_lowestRuleAt_9 : decode cX7_lowestRuleAt 9 = .ok (.if_icmp .ge 24, 3) := by decide +kernel
theorem dX7_lowestRuleAt_12 : decode cX7_lowestRuleAt 12 = .ok (.aload_n 0, 1) := by decide +kernel
theorem dX7_lowestRuleAt_13 : decode cX7_lowestRuleAt 13 = .ok (.aload_n 1, 1) := by decide +kernel
theorem dX7_lowestRuleAt_14 : decode cX7_lowestRuleAt 14 = .ok (.iload 4, 2) := by decide +kernel
theorem dX7_lowestRuleAt_16 : decode cX7_lowestRuleAt 16 = .ok (.aload_n 2, 1) := by decide +kernel
theorem dX7_lowestRuleAt_17 : decode cX7_lowestRuleAt 17 = .ok (.iload_n 3, 1) := by decide +kernel
theorem dX7_lowestRuleAt_18 : decode cX7_lowestRuleAt 18 = .ok (.invokevirtual 59, 3) := by decide +kernel
theorem dX7_lowestRuleAt_21 : decode cX7_lowestRuleAt 21 = .ok (.ifCond .eq 6, 3) := by decide +kernel
theorem dX7_lowestRuleAt_24 : decode cX7_lowestRuleAt 24 = .ok (.iload 4, 2) := by decide +kernel
theorem dX7_lowestRuleAt_26 : decode cX7_lowestRuleAt 26 = .ok (.ireturn, 1) := by decide +kernel
theorem dX7_lowestRuleAt_27 : decode cX7_lowestRuleAt 27 = .ok (.iinc 4 1, 3) := by decide +kernel
theorem dX7_lowestRuleAt_30 : decode cX7_lowestRuleAt 30 = .ok (.goto (-27), 3) := by decide +kernel
theorem dX7_lowestRuleAt_33 : decode cX7_lowestRuleAt 33 = .ok (.iconst (-1), 1) := by decide +kernel
theorem dX7_lowestRuleAt_34 : decode cX7_lowestRuleAt 34 = .ok (.ireturn, 1) := by decide +kernel
theorem dX7_countRedexes_0 : decode cX7_countRedexes 0 = .ok (.iconst 0, 1) := by decide +kernel
theorem dX7_countRedexes_1 : decode cX7_countRedexes 1 = .ok (.istore_n 3, 1) := by decide +kernel
theorem dX7_countRedexes_2 : decode cX7_countRedexes 2 = .ok (.iconst 0, 1) := by decide +kernel
theorem dX7_countRedexes_3 : decode cX7_countRedexes 3 = .ok (.istore 4, 2) := by decide +kernel
theorem dX7_countRedexes_5 : decode cX7_countRedexes 5 = .ok (.iload 4, 2) := by decide +kernel
theorem dX7_countRedexes_7 : decode cX7_countRedexes 7 = .ok (.aload_n 2, 1) := by decide +kernel
theorem dX7_countRedexes_8 : decode cX7_countRedexes 8 = .ok (.getfield 31, 3) := by decide +kernel
theorem dX7_countRedexes_11 : decode cX7_countRedexes 11 = .ok (.if_icmp .ge 23, 3) := by decide +kernel
theorem dX7_countRedexes_14 : decode cX7_countRedexes 14 = .ok (.aload_n 0, 1) := by decide +kernel
theorem dX7_countRedexes_15 : decode cX7_countRedexes 15 = .ok (.aload_n 1, 1) := by decide +kernel
theorem dX7_countRedexes_16 : decode cX7_countRedexes 16 = .ok (.aload_n 2, 1) := by decide +kernel
theorem dX7_countRedexes_17 : decode cX7_countRedexes 17 = .ok (.iload 4, 2) := by decide +kernel
theorem dX7_countRedexes_19 : decode cX7_countRedexes 19 = .ok (.invokevirtual 63, 3) := by decide +kernel
theorem dX7_countRedexes_22 : decode cX7_countRedexes 22 = .ok (.ifCond .lt 6, 3) := by decide +kernel
theorem dX7_countRedexes_25 : decode cX7_countRedexes 25 = .ok (.iinc 3 1, 3) := by decide +kernel
theorem dX7_countRedexes_28 : decode cX7_countRedexes 28 = .ok (.iinc 4 1, 3) := by decide +kernel
theorem dX7_countRedexes_31 : decode cX7_countRedexes 31 = .ok (.goto (-26), 3) := by decide +kernel
theorem dX7_countRedexes_34 : decode cX7_countRedexes 34 = .ok (.iload_n 3, 1) := by decide +kernel
theorem dX7_countRedexes_35 : decode cX7_countRedexes 35 = .ok (.ireturn, 1) := by decide +kernel
theorem dX7_findRedex_0 : decode cX7_findRedex 0 = .ok (.iconst 0, 1) := by decide +kernel
theorem dX7_findRedex_1 : decode cX7_findRedex 1 = .ok (.istore 4, 2) := by decide +kernel
theorem dX7_findRedex_3 : decode cX7_findRedex 3 = .ok (.iconst 0, 1) := by decide +kernel
theorem dX7_findRedex_4 : decode cX7_findRedex 4 = .ok (.istore 5, 2) := by decide +kernel
theorem dX7_findRedex_6 : decode cX7_findRedex 6 = .ok (.iload 5, 2) := by decide +kernel
theorem dX7_findRedex_8 : decode cX7_findRedex 8 = .ok (.aload_n 2, 1) := by decide +kernel
theorem dX7_findRedex_9 : decode cX7_findRedex 9 = .ok (.getfield 31, 3) := by decide +kernel
theorem dX7_findRedex_12 : decode cX7_findRedex 12 = .ok (.if_icmp .ge 32, 3) := by decide +kernel
theorem dX7_findRedex_15 : decode cX7_findRedex 15 = .ok (.aload_n 0, 1) := by decide +kernel
theorem dX7_findRedex_16 : decode cX7_findRedex 16 = .ok (.aload_n 1, 1) := by decide +kernel
theorem dX7_findRedex_17 : decode cX7_findRedex 17 = .ok (.aload_n 2, 1) := by decide +kernel
theorem dX7_findRedex_18 : decode cX7_findRedex 18 = .ok (.iload 5, 2) := by decide +kernel
theorem dX7_findRedex_20 : decode cX7_findRedex 20 = .ok (.invokevirtual 63, 3) := by decide +kernel
theorem dX7_findRedex_23 : decode cX7_findRedex 23 = .ok (.ifCond .lt 15, 3) := by decide +kernel
theorem dX7_findRedex_26 : decode cX7_findRedex 26 = .ok (.iload 4, 2) := by decide +kernel
theorem dX7_findRedex_28 : decode cX7_findRedex 28 = .ok (.iload_n 3, 1) := by decide +kernel
theorem dX7_findRedex_29 : decode cX7_findRedex 29 = .ok (.if_icmp .ne 6, 3) := by decide +kernel
theorem dX7_findRedex_32 : decode cX7_findRedex 32 = .ok (.iload 5, 2) := by decide +kernel
theorem dX7_findRedex_34 : decode cX7_findRedex 34 = .ok (.ireturn, 1) := by decide +kernel
theorem dX7_findRedex_35 : decode cX7_findRedex 35 = .ok (.iinc 4 1, 3) := by decide +kernel
theorem dX7_findRedex_38 : decode cX7_findRedex 38 = .ok (.iinc 5 1, 3) := by decide +kernel
theorem dX7_findRedex_41 : decode cX7_findRedex 41 = .ok (.goto (-35), 3) := by decide +kernel
theorem dX7_findRedex_44 : decode cX7_findRedex 44 = .ok (.iconst (-1), 1) := by decide +kernel
theorem dX7_findRedex_45 : decode cX7_findRedex 45 = .ok (.ireturn, 1) := by decide +kernel
theorem dX7_step_0 : decode cX7_step 0 = .ok (.aload_n 0, 1) := by decide +kernel
theorem dX7_step_1 : decode cX7_step 1 = .ok (.aload_n 1, 1) := by decide +kernel
theorem dX7_step_2 : decode cX7_step 2 = .ok (.aload_n 2, 1) := by decide +kernel
theorem dX7_step_3 : decode cX7_step 3 = .ok (.iload_n 3, 1) := by decide +kernel
theorem dX7_step_4 : decode cX7_step 4 = .ok (.invokevirtual 63, 3) := by decide +kernel
theorem dX7_step_7 : decode cX7_step 7 = .ok (.istore 5, 2) := by decide +kernel
theorem dX7_step_9 : decode cX7_step 9 = .ok (.iload 5, 2) := by decide +kernel
theorem dX7_step_11 : decode cX7_step 11 = .ok (.ifCond .ge 6, 3) := by decide +kernel
theorem dX7_step_14 : decode cX7_step 14 = .ok (.bipush (-5), 2) := by decide +kernel
theorem dX7_step_16 : decode cX7_step 16 = .ok (.ireturn, 1) := by decide +kernel
theorem dX7_step_17 : decode cX7_step 17 = .ok (.aload 4, 2) := by decide +kernel
theorem dX7_step_19 : decode cX7_step 19 = .ok (.invokevirtual 67, 3) := by decide +kernel
theorem dX7_step_22 : decode cX7_step 22 = .ok (.aload 4, 2) := by decide +kernel
theorem dX7_step_24 : decode cX7_step 24 = .ok (.aload_n 2, 1) := by decide +kernel
theorem dX7_step_25 : decode cX7_step 25 = .ok (.iconst 0, 1) := by decide +kernel
theorem dX7_step_26 : decode cX7_step 26 = .ok (.iload_n 3, 1) := by decide +kernel
theorem dX7_step_27 : decode cX7_step 27 = .ok (.invokevirtual 70, 3) := by decide +kernel
theorem dX7_step_30 : decode cX7_step 30 = .ok (.aload_n 1, 1) := by decide +kernel
theorem dX7_step_31 : decode cX7_step 31 = .ok (.iload 5, 2) := by decide +kernel
theorem dX7_step_33 : decode cX7_step 33 = .ok (.invokevirtual 74, 3) := by decide +kernel
theorem dX7_step_36 : decode cX7_step 36 = .ok (.astore 6, 2) := by decide +kernel
theorem dX7_step_38 : decode cX7_step 38 = .ok (.iconst 0, 1) := by decide +kernel
theorem dX7_step_39 : decode cX7_step 39 = .ok (.istore 7, 2) := by decide +kernel
theorem dX7_step_41 : decode cX7_step 41 = .ok (.iload 7, 2) := by decide +kernel
theorem dX7_step_43 : decode cX7_step 43 = .ok (.aload 6, 2) := by decide +kernel
theorem dX7_step_45 : decode cX7_step 45 = .ok (.getfield 31, 3) := by decide +kernel
theorem dX7_step_48 : decode cX7_step 48 = .ok (.if_icmp .ge 65, 3) := by decide +kernel
theorem dX7_step_51 : decode cX7_step 51 = .ok (.aload 6, 2) := by decide +kernel
theorem dX7_step_53 : decode cX7_step 53 = .ok (.iload 7, 2) := by decide +kernel
theorem dX7_step_55 : decode cX7_step 55 = .ok (.invokevirtual 35, 3) := by decide +kernel
theorem dX7_step_58 : decode cX7_step 58 = .ok (.istore 8, 2) := by decide +kernel
theorem dX7_step_60 : decode cX7_step 60 = .ok (.iload 8, 2) := by decide +kernel
theorem dX7_step_62 : decode cX7_step 62 = .ok (.invokestatic 77, 3) := by decide +kernel
theorem dX7_step_65 : decode cX7_step 65 = .ok (.ifCond .eq 35, 3) := by decide +kernel
theorem dX7_step_68 : decode cX7_step 68 = .ok (.aload_n 0, 1) := by decide +kernel
theorem dX7_step_69 : decode cX7_step 69 = .ok (.iload 8, 2) := by decide +kernel
theorem dX7_step_71 : decode cX7_step 71 = .ok (.invokestatic 39, 3) := by decide +kernel
theorem dX7_step_74 : decode cX7_step 74 = .ok (.invokevirtual 81, 3) := by decide +kernel
theorem dX7_step_77 : decode cX7_step 77 = .ok (.istore 9, 2) := by decide +kernel
theorem dX7_step_79 : decode cX7_step 79 = .ok (.aload 4, 2) := by decide +kernel
theorem dX7_step_81 : decode cX7_step 81 = .ok (.aload_n 2, 1) := by decide +kernel
theorem dX7_step_82 : decode cX7_step 82 = .ok (.iload 9, 2) := by decide +kernel
theorem dX7_step_84 : decode cX7_step 84 = .ok (.aload_n 1, 1) := by decide +kernel
theorem dX7_step_85 : decode cX7_step 85 = .ok (.getfield 42, 3) := by decide +kernel
theorem dX7_step_88 : decode cX7_step 88 = .ok (.aload_n 2, 1) := by decide +kernel
theorem dX7_step_89 : decode cX7_step 89 = .ok (.iload 9, 2) := by decide +kernel
theorem dX7_step_91 : decode cX7_step 91 = .ok (.invokevirtual 52, 3) := by decide +kernel
theorem dX7_step_94 : decode cX7_step 94 = .ok (.invokevirtual 70, 3) := by decide +kernel
theorem dX7_step_97 : decode cX7_step 97 = .ok (.goto 10, 3) := by decide +kernel
theorem dX7_step_100 : decode cX7_step 100 = .ok (.aload 4, 2) := by decide +kernel
theorem dX7_step_102 : decode cX7_step 102 = .ok (.iload 8, 2) := by decide +kernel
theorem dX7_step_104 : decode cX7_step 104 = .ok (.invokevirtual 84, 3) := by decide +kernel
theorem dX7_step_107 : decode cX7_step 107 = .ok (.iinc 7 1, 3) := by decide +kernel
theorem dX7_step_110 : decode cX7_step 110 = .ok (.goto (-69), 3) := by decide +kernel
theorem dX7_step_113 : decode cX7_step 113 = .ok (.aload 4, 2) := by decide +kernel
theorem dX7_step_115 : decode cX7_step 115 = .ok (.aload_n 2, 1) := by decide +kernel
theorem dX7_step_116 : decode cX7_step 116 = .ok (.aload_n 1, 1) := by decide +kernel
theorem dX7_step_117 : decode cX7_step 117 = .ok (.getfield 42, 3) := by decide +kernel
theorem dX7_step_120 : decode cX7_step 120 = .ok (.aload_n 2, 1) := by decide +kernel
theorem dX7_step_121 : decode cX7_step 121 = .ok (.iload_n 3, 1) := by decide +kernel
theorem dX7_step_122 : decode cX7_step 122 = .ok (.invokevirtual 52, 3) := by decide +kernel
theorem dX7_step_125 : decode cX7_step 125 = .ok (.aload_n 2, 1) := by decide +kernel
theorem dX7_step_126 : decode cX7_step 126 = .ok (.getfield 31, 3) := by decide +kernel
theorem dX7_step_129 : decode cX7_step 129 = .ok (.invokevirtual 70, 3) := by decide +kernel
theorem dX7_step_132 : decode cX7_step 132 = .ok (.aload 4, 2) := by decide +kernel
theorem dX7_step_134 : decode cX7_step 134 = .ok (.getfield 31, 3) := by decide +kernel
theorem dX7_step_137 : decode cX7_step 137 = .ok (.bipush 40, 2) := by decide +kernel
theorem dX7_step_139 : decode cX7_step 139 = .ok (.if_icmp .gt 11, 3) := by decide +kernel
theorem dX7_step_142 : decode cX7_step 142 = .ok (.aload 4, 2) := by decide +kernel
theorem dX7_step_144 : decode cX7_step 144 = .ok (.getfield 31, 3) := by decide +kernel
theorem dX7_step_147 : decode cX7_step 147 = .ok (.goto 5, 3) := by decide +kernel
theorem dX7_step_150 : decode cX7_step 150 = .ok (.bipush (-8), 2) := by decide +kernel
theorem dX7_step_152 : decode cX7_step 152 = .ok (.ireturn, 1) := by decide +kernel
theorem dX7_stepsOutermost_0 : decode cX7_stepsOutermost 0 = .ok (.iconst 0, 1) := by decide +kernel
theorem dX7_stepsOutermost_1 : decode cX7_stepsOutermost 1 = .ok (.istore 5, 2) := by decide +kernel
theorem dX7_stepsOutermost_3 : decode cX7_stepsOutermost 3 = .ok (.iload 5, 2) := by decide +kernel
theorem dX7_stepsOutermost_5 : decode cX7_stepsOutermost 5 = .ok (.iload_n 3, 1) := by decide +kernel
theorem dX7_stepsOutermost_6 : decode cX7_stepsOutermost 6 = .ok (.if_icmp .ge 45, 3) := by decide +kernel
theorem dX7_stepsOutermost_9 : decode cX7_stepsOutermost 9 = .ok (.aload_n 0, 1) := by decide +kernel
theorem dX7_stepsOutermost_10 : decode cX7_stepsOutermost 10 = .ok (.aload_n 1, 1) := by decide +kernel
theorem dX7_stepsOutermost_11 : decode cX7_stepsOutermost 11 = .ok (.aload_n 2, 1) := by decide +kernel
theorem dX7_stepsOutermost_12 : decode cX7_stepsOutermost 12 = .ok (.iconst 0, 1) := by decide +kernel
theorem dX7_stepsOutermost_13 : decode cX7_stepsOutermost 13 = .ok (.invokevirtual 88, 3) := by decide +kernel
theorem dX7_stepsOutermost_16 : decode cX7_stepsOutermost 16 = .ok (.istore 6, 2) := by decide +kernel
theorem dX7_stepsOutermost_18 : decode cX7_stepsOutermost 18 = .ok (.iload 6, 2) := by decide +kernel
theorem dX7_stepsOutermost_20 : decode cX7_stepsOutermost 20 = .ok (.ifCond .lt 16, 3) := by decide +kernel
theorem dX7_stepsOutermost_23 : decode cX7_stepsOutermost 23 = .ok (.aload_n 0, 1) := by decide +kernel
theorem dX7_stepsOutermost_24 : decode cX7_stepsOutermost 24 = .ok (.aload_n 1, 1) := by decide +kernel
theorem dX7_stepsOutermost_25 : decode cX7_stepsOutermost 25 = .ok (.aload_n 2, 1) := by decide +kernel
theorem dX7_stepsOutermost_26 : decode cX7_stepsOutermost 26 = .ok (.iload 6, 2) := by decide +kernel
theorem dX7_stepsOutermost_28 : decode cX7_stepsOutermost 28 = .ok (.aload 4, 2) := by decide +kernel
theorem dX7_stepsOutermost_30 : decode cX7_stepsOutermost 30 = .ok (.invokevirtual 91, 3) := by decide +kernel
theorem dX7_stepsOutermost_33 : decode cX7_stepsOutermost 33 = .ok (.ifCond .ge 6, 3) := by decide +kernel
theorem dX7_stepsOutermost_36 : decode cX7_stepsOutermost 36 = .ok (.iload 5, 2) := by decide +kernel
theorem dX7_stepsOutermost_38 : decode cX7_stepsOutermost 38 = .ok (.ireturn, 1) := by decide +kernel
theorem dX7_stepsOutermost_39 : decode cX7_stepsOutermost 39 = .ok (.aload_n 2, 1) := by decide +kernel
theorem dX7_stepsOutermost_40 : decode cX7_stepsOutermost 40 = .ok (.aload 4, 2) := by decide +kernel
theorem dX7_stepsOutermost_42 : decode cX7_stepsOutermost 42 = .ok (.invokevirtual 95, 3) := by decide +kernel
theorem dX7_stepsOutermost_45 : decode cX7_stepsOutermost 45 = .ok (.iinc 5 1, 3) := by decide +kernel
theorem dX7_stepsOutermost_48 : decode cX7_stepsOutermost 48 = .ok (.goto (-45), 3) := by decide +kernel
theorem dX7_stepsOutermost_51 : decode cX7_stepsOutermost 51 = .ok (.iload_n 3, 1) := by decide +kernel
theorem dX7_stepsOutermost_52 : decode cX7_stepsOutermost 52 = .ok (.ireturn, 1) := by decide +kernel
theorem dX7_stepsToRepetition_0 : decode cX7_stepsToRepetition 0 = .ok (.aload_n 0, 1) := by decide +kernel
theorem dX7_stepsToRepetition_1 : decode cX7_stepsToRepetition 1 = .ok (.getfield 17, 3) := by decide +kernel
theorem dX7_stepsToRepetition_4 : decode cX7_stepsToRepetition 4 = .ok (.iconst 0, 1) := by decide +kernel
theorem dX7_stepsToRepetition_5 : decode cX7_stepsToRepetition 5 = .ok (.aaload, 1) := by decide +kernel
theorem dX7_stepsToRepetition_6 : decode cX7_stepsToRepetition 6 = .ok (.aload_n 2, 1) := by decide +kernel
theorem dX7_stepsToRepetition_7 : decode cX7_stepsToRepetition 7 = .ok (.invokevirtual 95, 3) := by decide +kernel
theorem dX7_stepsToRepetition_10 : decode cX7_stepsToRepetition 10 = .ok (.iconst 1, 1) := by decide +kernel
theorem dX7_stepsToRepetition_11 : decode cX7_stepsToRepetition 11 = .ok (.istore 4, 2) := by decide +kernel
theorem dX7_stepsToRepetition_13 : decode cX7_stepsToRepetition 13 = .ok (.iload 4, 2) := by decide +kernel
theorem dX7_stepsToRepetition_15 : decode cX7_stepsToRepetition 15 = .ok (.iload_n 3, 1) := by decide +kernel
theorem dX7_stepsToRepetition_16 : decode cX7_stepsToRepetition 16 = .ok (.if_icmp .gt 79, 3) := by decide +kernel
theorem dX7_stepsToRepetition_19 : decode cX7_stepsToRepetition 19 = .ok (.iload 4, 2) := by decide +kernel
theorem dX7_stepsToRepetition_21 : decode cX7_stepsToRepetition 21 = .ok (.aload_n 0, 1) := by decide +kernel
theorem dX7_stepsToRepetition_22 : decode cX7_stepsToRepetition 22 = .ok (.getfield 17, 3) := by decide +kernel
theorem dX7_stepsToRepetition_25 : decode cX7_stepsToRepetition 25 = .ok (.arraylength, 1) := by decide +kernel
theorem dX7_stepsToRepetition_26 : decode cX7_stepsToRepetition 26 = .ok (.if_icmp .ge 69, 3) := by decide +kernel
theorem dX7_stepsToRepetition_29 : decode cX7_stepsToRepetition 29 = .ok (.aload_n 0, 1) := by decide +kernel
theorem dX7_stepsToRepetition_30 : decode cX7_stepsToRepetition 30 = .ok (.getfield 17, 3) := by decide +kernel
theorem dX7_stepsToRepetition_33 : decode cX7_stepsToRepetition 33 = .ok (.iload 4, 2) := by decide +kernel
theorem dX7_stepsToRepetition_35 : decode cX7_stepsToRepetition 35 = .ok (.iconst 1, 1) := by decide +kernel
theorem dX7_stepsToRepetition_36 : decode cX7_stepsToRepetition 36 = .ok (.isub, 1) := by decide +kernel
theorem dX7_stepsToRepetition_37 : decode cX7_stepsToRepetition 37 = .ok (.aaload, 1) := by decide +kernel
theorem dX7_stepsToRepetition_38 : decode cX7_stepsToRepetition 38 = .ok (.astore 5, 2) := by decide +kernel
theorem dX7_stepsToRepetition_40 : decode cX7_stepsToRepetition 40 = .ok (.aload_n 0, 1) := by decide +kernel
theorem dX7_stepsToRepetition_41 : decode cX7_stepsToRepetition 41 = .ok (.aload_n 1, 1) := by decide +kernel
theorem dX7_stepsToRepetition_42 : decode cX7_stepsToRepetition 42 = .ok (.aload 5, 2) := by decide +kernel
theorem dX7_stepsToRepetition_44 : decode cX7_stepsToRepetition 44 = .ok (.iconst 0, 1) := by decide +kernel
theorem dX7_stepsToRepetition_45 : decode cX7_stepsToRepetition 45 = .ok (.invokevirtual 88, 3) := by decide +kernel
theorem dX7_stepsToRepetition_48 : decode cX7_stepsToRepetition 48 = .ok (.istore 6, 2) := by decide +kernel
theorem dX7_stepsToRepetition_50 : decode cX7_stepsToRepetition 50 = .ok (.iload 6, 2) := by decide +kernel
theorem dX7_stepsToRepetition_52 : decode cX7_stepsToRepetition 52 = .ok (.ifCond .lt 22, 3) := by decide +kernel
theorem dX7_stepsToRepetition_55 : decode cX7_stepsToRepetition 55 = .ok (.aload_n 0, 1) := by decide +kernel
theorem dX7_stepsToRepetition_56 : decode cX7_stepsToRepetition 56 = .ok (.aload_n 1, 1) := by decide +kernel
theorem dX7_stepsToRepetition_57 : decode cX7_stepsToRepetition 57 = .ok (.aload 5, 2) := by decide +kernel
theorem dX7_stepsToRepetition_59 : decode cX7_stepsToRepetition 59 = .ok (.iload 6, 2) := by decide +kernel
theorem dX7_stepsToRepetition_61 : decode cX7_stepsToRepetition 61 = .ok (.aload_n 0, 1) := by decide +kernel
theorem dX7_stepsToRepetition_62 : decode cX7_stepsToRepetition 62 = .ok (.getfield 17, 3) := by decide +kernel
theorem dX7_stepsToRepetition_65 : decode cX7_stepsToRepetition 65 = .ok (.iload 4, 2) := by decide +kernel
theorem dX7_stepsToRepetition_67 : decode cX7_stepsToRepetition 67 = .ok (.aaload, 1) := by decide +kernel
theorem dX7_stepsToRepetition_68 : decode cX7_stepsToRepetition 68 = .ok (.invokevirtual 91, 3) := by decide +kernel
theorem dX7_stepsToRepetition_71 : decode cX7_stepsToRepetition 71 = .ok (.ifCond .ge 6, 3) := by decide +kernel
theorem dX7_stepsToRepetition_74 : decode cX7_stepsToRepetition 74 = .ok (.bipush (-5), 2) := by decide +kernel
theorem dX7_stepsToRepetition_76 : decode cX7_stepsToRepetition 76 = .ok (.ireturn, 1) := by decide +kernel
theorem dX7_stepsToRepetition_77 : decode cX7_stepsToRepetition 77 = .ok (.aload_n 0, 1) := by decide +kernel
theorem dX7_stepsToRepetition_78 : decode cX7_stepsToRepetition 78 = .ok (.iload 4, 2) := by decide +kernel
theorem dX7_stepsToRepetition_80 : decode cX7_stepsToRepetition 80 = .ok (.invokevirtual 99, 3) := by decide +kernel
theorem dX7_stepsToRepetition_83 : decode cX7_stepsToRepetition 83 = .ok (.ifCond .eq 6, 3) := by decide +kernel
theorem dX7_stepsToRepetition_86 : decode cX7_stepsToRepetition 86 = .ok (.iload 4, 2) := by decide +kernel
theorem dX7_stepsToRepetition_88 : decode cX7_stepsToRepetition 88 = .ok (.ireturn, 1) := by decide +kernel
theorem dX7_stepsToRepetition_89 : decode cX7_stepsToRepetition 89 = .ok (.iinc 4 1, 3) := by decide +kernel
theorem dX7_stepsToRepetition_92 : decode cX7_stepsToRepetition 92 = .ok (.goto (-79), 3) := by decide +kernel
theorem dX7_stepsToRepetition_95 : decode cX7_stepsToRepetition 95 = .ok (.bipush (-5), 2) := by decide +kernel
theorem dX7_stepsToRepetition_97 : decode cX7_stepsToRepetition 97 = .ok (.ireturn, 1) := by decide +kernel
theorem dX7_repeatsEarlier_0 : decode cX7_repeatsEarlier 0 = .ok (.iconst 0, 1) := by decide +kernel
theorem dX7_repeatsEarlier_1 : decode cX7_repeatsEarlier 1 = .ok (.istore_n 2, 1) := by decide +kernel
theorem dX7_repeatsEarlier_2 : decode cX7_repeatsEarlier 2 = .ok (.iload_n 2, 1) := by decide +kernel
theorem dX7_repeatsEarlier_3 : decode cX7_repeatsEarlier 3 = .ok (.iload_n 1, 1) := by decide +kernel
theorem dX7_repeatsEarlier_4 : decode cX7_repeatsEarlier 4 = .ok (.if_icmp .ge 38, 3) := by decide +kernel
theorem dX7_repeatsEarlier_7 : decode cX7_repeatsEarlier 7 = .ok (.iload_n 1, 1) := by decide +kernel
theorem dX7_repeatsEarlier_8 : decode cX7_repeatsEarlier 8 = .ok (.aload_n 0, 1) := by decide +kernel
theorem dX7_repeatsEarlier_9 : decode cX7_repeatsEarlier 9 = .ok (.getfield 17, 3) := by decide +kernel
theorem dX7_repeatsEarlier_12 : decode cX7_repeatsEarlier 12 = .ok (.arraylength, 1) := by decide +kernel
theorem dX7_repeatsEarlier_13 : decode cX7_repeatsEarlier 13 = .ok (.if_icmp .ge 29, 3) := by decide +kernel
theorem dX7_repeatsEarlier_16 : decode cX7_repeatsEarlier 16 = .ok (.aload_n 0, 1) := by decide +kernel
theorem dX7_repeatsEarlier_17 : decode cX7_repeatsEarlier 17 = .ok (.getfield 17, 3) := by decide +kernel
theorem dX7_repeatsEarlier_20 : decode cX7_repeatsEarlier 20 = .ok (.iload_n 2, 1) := by decide +kernel
theorem dX7_repeatsEarlier_21 : decode cX7_repeatsEarlier 21 = .ok (.aaload, 1) := by decide +kernel
theorem dX7_repeatsEarlier_22 : decode cX7_repeatsEarlier 22 = .ok (.aload_n 0, 1) := by decide +kernel
theorem dX7_repeatsEarlier_23 : decode cX7_repeatsEarlier 23 = .ok (.getfield 17, 3) := by decide +kernel
theorem dX7_repeatsEarlier_26 : decode cX7_repeatsEarlier 26 = .ok (.iload_n 1, 1) := by decide +kernel
theorem dX7_repeatsEarlier_27 : decode cX7_repeatsEarlier 27 = .ok (.aaload, 1) := by decide +kernel
theorem dX7_repeatsEarlier_28 : decode cX7_repeatsEarlier 28 = .ok (.invokevirtual 102, 3) := by decide +kernel
theorem dX7_repeatsEarlier_31 : decode cX7_repeatsEarlier 31 = .ok (.ifCond .ne 5, 3) := by decide +kernel
theorem dX7_repeatsEarlier_34 : decode cX7_repeatsEarlier 34 = .ok (.iconst 1, 1) := by decide +kernel
theorem dX7_repeatsEarlier_35 : decode cX7_repeatsEarlier 35 = .ok (.ireturn, 1) := by decide +kernel
theorem dX7_repeatsEarlier_36 : decode cX7_repeatsEarlier 36 = .ok (.iinc 2 1, 3) := by decide +kernel
theorem dX7_repeatsEarlier_39 : decode cX7_repeatsEarlier 39 = .ok (.goto (-37), 3) := by decide +kernel
theorem dX7_repeatsEarlier_42 : decode cX7_repeatsEarlier 42 = .ok (.iconst 0, 1) := by decide +kernel
theorem dX7_repeatsEarlier_43 : decode cX7_repeatsEarlier 43 = .ok (.ireturn, 1) := by decide +kernel
theorem dX8_init_0 : decode cX8_init 0 = .ok (.aload_n 0, 1) := by decide +kernel
theorem dX8_init_1 : decode cX8_init 1 = .ok (.invokespecial 3, 3) := by decide +kernel
theorem dX8_init_4 : decode cX8_init 4 = .ok (.aload_n 0, 1) := by decide +kernel
theorem dX8_init_5 : decode cX8_init 5 = .ok (.sipush 128, 3) := by decide +kernel
theorem dX8_init_8 : decode cX8_init 8 = .ok (.newarray .int, 2) := by decide +kernel
theorem dX8_init_10 : decode cX8_init 10 = .ok (.putfield 9, 3) := by decide +kernel
theorem dX8_init_13 : decode cX8_init 13 = .ok (.aload_n 0, 1) := by decide +kernel
theorem dX8_init_14 : decode cX8_init 14 = .ok (.getfield 9, 3) := by decide +kernel
theorem dX8_init_17 : decode cX8_init 17 = .ok (.bipush 115, 2) := by decide +kernel
theorem dX8_init_19 : decode cX8_init 19 = .ok (.iconst 1, 1) := by decide +kernel
theorem dX8_init_20 : decode cX8_init 20 = .ok (.iastore, 1) := by decide +kernel
theorem dX8_init_21 : decode cX8_init 21 = .ok (.aload_n 0, 1) := by decide +kernel
theorem dX8_init_22 : decode cX8_init 22 = .ok (.getfield 9, 3) := by decide +kernel
theorem dX8_init_25 : decode cX8_init 25 = .ok (.bipush 99, 2) := by decide +kernel
theorem dX8_init_27 : decode cX8_init 27 = .ok (.iconst 2, 1) := by decide +kernel
theorem dX8_init_28 : decode cX8_init 28 = .ok (.iastore, 1) := by decide +kernel
theorem dX8_init_29 : decode cX8_init 29 = .ok (.aload_n 0, 1) := by decide +kernel
theorem dX8_init_30 : decode cX8_init 30 = .ok (.getfield 9, 3) := by decide +kernel
theorem dX8_init_33 : decode cX8_init 33 = .ok (.bipush 102, 2) := by decide +kernel
theorem dX8_init_35 : decode cX8_init 35 = .ok (.iconst 2, 1) := by decide +kernel
theorem dX8_init_36 : decode cX8_init 36 = .ok (.iastore, 1) := by decide +kernel
theorem dX8_init_37 : decode cX8_init 37 = .ok (.aload_n 0, 1) := by decide +kernel
theorem dX8_init_38 : decode cX8_init 38 = .ok (.getfield 9, 3) := by decide +kernel
theorem dX8_init_41 : decode cX8_init 41 = .ok (.bipush 103, 2) := by decide +kernel
theorem dX8_init_43 : decode cX8_init 43 = .ok (.iconst 2, 1) := by decide +kernel
theorem dX8_init_44 : decode cX8_init 44 = .ok (.iastore, 1) := by decide +kernel
theorem dX8_init_45 : decode cX8_init 45 = .ok (.aload_n 0, 1) := by decide +kernel
theorem dX8_init_46 : decode cX8_init 46 = .ok (.getfield 9, 3) := by decide +kernel
theorem dX8_init_49 : decode cX8_init 49 = .ok (.bipush 104, 2) := by decide +kernel
theorem dX8_init_51 : decode cX8_init 51 = .ok (.iconst 1, 1) := by decide +kernel
theorem dX8_init_52 : decode cX8_init 52 = .ok (.iastore, 1) := by decide +kernel
theorem dX8_init_53 : decode cX8_init 53 = .ok (.return_, 1) := by decide +kernel
theorem dX8_ofSymbol_0 : decode cX8_ofSymbol 0 = .ok (.iload_n 1, 1) := by decide +kernel
theorem dX8_ofSymbol_1 : decode cX8_ofSymbol 1 = .ok (.ifCond .lt 21, 3) := by decide +kernel
theorem dX8_ofSymbol_4 : decode cX8_ofSymbol 4 = .ok (.iload_n 1, 1) := by decide +kernel
theorem dX8_ofSymbol_5 : decode cX8_ofSymbol 5 = .ok (.aload_n 0, 1) := by decide +kernel
theorem dX8_ofSymbol_6 : decode cX8_ofSymbol 6 = .ok (.getfield 9, 3) := by decide +kernel
theorem dX8_ofSymbol_9 : decode cX8_ofSymbol 9 = .ok (.arraylength, 1) := by decide +kernel
theorem dX8_ofSymbol_10 : decode cX8_ofSymbol 10 = .ok (.if_icmp .ge 12, 3) := by decide +kernel
theorem dX8_ofSymbol_13 : decode cX8_ofSymbol 13 = .ok (.aload_n 0, 1) := by decide +kernel
theorem dX8_ofSymbol_14 : decode cX8_ofSymbol 14 = .ok (.getfield 9, 3) := by decide +kernel
theorem dX8_ofSymbol_17 : decode cX8_ofSymbol 17 = .ok (.iload_n 1, 1) := by decide +kernel
theorem dX8_ofSymbol_18 : decode cX8_ofSymbol 18 = .ok (.iaload, 1) := by decide +kernel
theorem dX8_ofSymbol_19 : decode cX8_ofSymbol 19 = .ok (.goto 4, 3) := by decide +kernel
theorem dX8_ofSymbol_22 : decode cX8_ofSymbol 22 = .ok (.iconst 0, 1) := by decide +kernel
theorem dX8_ofSymbol_23 : decode cX8_ofSymbol 23 = .ok (.ireturn, 1) := by decide +kernel
theorem dX8_ofFunction_0 : decode cX8_ofFunction 0 = .ok (.iload_n 1, 1) := by decide +kernel
theorem dX8_ofFunction_1 : decode cX8_ofFunction 1 = .ok (.ifCond .lt 20, 3) := by decide +kernel
theorem dX8_ofFunction_4 : decode cX8_ofFunction 4 = .ok (.iload_n 1, 1) := by decide +kernel
theorem dX8_ofFunction_5 : decode cX8_ofFunction 5 = .ok (.iconst 3, 1) := by decide +kernel
theorem dX8_ofFunction_6 : decode cX8_ofFunction 6 = .ok (.if_icmp .ge 15, 3) := by decide +kernel
theorem dX8_ofFunction_9 : decode cX8_ofFunction 9 = .ok (.aload_n 0, 1) := by decide +kernel
theorem dX8_ofFunction_10 : decode cX8_ofFunction 10 = .ok (.getfield 9, 3) := by decide +kernel
theorem dX8_ofFunction_13 : decode cX8_ofFunction 13 = .ok (.bipush 102, 2) := by decide +kernel
theorem dX8_ofFunction_15 : decode cX8_ofFunction 15 = .ok (.iload_n 1, 1) := by decide +kernel
theorem dX8_ofFunction_16 : decode cX8_ofFunction 16 = .ok (.iadd, 1) := by decide +kernel
theorem dX8_ofFunction_17 : decode cX8_ofFunction 17 = .ok (.iaload, 1) := by decide +kernel
theorem dX8_ofFunction_18 : decode cX8_ofFunction 18 = .ok (.goto 4, 3) := by decide +kernel
theorem dX8_ofFunction_21 : decode cX8_ofFunction 21 = .ok (.iconst 0, 1) := by decide +kernel
theorem dX8_ofFunction_22 : decode cX8_ofFunction 22 = .ok (.ireturn, 1) := by decide +kernel
theorem dX8_change_0 : decode cX8_change 0 = .ok (.iload_n 1, 1) := by decide +kernel
theorem dX8_change_1 : decode cX8_change 1 = .ok (.ifCond .lt 18, 3) := by decide +kernel
theorem dX8_change_4 : decode cX8_change 4 = .ok (.iload_n 1, 1) := by decide +kernel
theorem dX8_change_5 : decode cX8_change 5 = .ok (.iconst 3, 1) := by decide +kernel
theorem dX8_change_6 : decode cX8_change 6 = .ok (.if_icmp .ge 13, 3) := by decide +kernel
theorem dX8_change_9 : decode cX8_change 9 = .ok (.aload_n 0, 1) := by decide +kernel
theorem dX8_change_10 : decode cX8_change 10 = .ok (.getfield 9, 3) := by decide +kernel
theorem dX8_change_13 : decode cX8_change 13 = .ok (.bipush 102, 2) := by decide +kernel
theorem dX8_change_15 : decode cX8_change 15 = .ok (.iload_n 1, 1) := by decide +kernel
theorem dX8_change_16 : decode cX8_change 16 = .ok (.iadd, 1) := by decide +kernel
theorem dX8_change_17 : decode cX8_change 17 = .ok (.iload_n 2, 1) := by decide +kernel
theorem dX8_change_18 : decode cX8_change 18 = .ok (.iastore, 1) := by decide +kernel
theorem dX8_change_19 : decode cX8_change 19 = .ok (.return_, 1) := by decide +kernel
theorem dX8_copyFrom_0 : decode cX8_copyFrom 0 = .ok (.aload_n 1, 1) := by decide +kernel
theorem dX8_copyFrom_1 : decode cX8_copyFrom 1 = .ok (.getfield 9, 3) := by decide +kernel
theorem dX8_copyFrom_4 : decode cX8_copyFrom 4 = .ok (.iconst 0, 1) := by decide +kernel
theorem dX8_copyFrom_5 : decode cX8_copyFrom 5 = .ok (.aload_n 0, 1) := by decide +kernel
theorem dX8_copyFrom_6 : decode cX8_copyFrom 6 = .ok (.getfield 9, 3) := by decide +kernel
theorem dX8_copyFrom_9 : decode cX8_copyFrom 9 = .ok (.iconst 0, 1) := by decide +kernel
theorem dX8_copyFrom_10 : decode cX8_copyFrom 10 = .ok (.aload_n 0, 1) := by decide +kernel
theorem dX8_copyFrom_11 : decode cX8_copyFrom 11 = .ok (.getfield 9, 3) := by decide +kernel
theorem dX8_copyFrom_14 : decode cX8_copyFrom 14 = .ok (.arraylength, 1) := by decide +kernel
theorem dX8_copyFrom_15 : decode cX8_copyFrom 15 = .ok (.invokestatic 15, 3) := by decide +kernel
theorem dX8_copyFrom_18 : decode cX8_copyFrom 18 = .ok (.return_, 1) := by decide +kernel
theorem dX8_endOf_0 : decode cX8_endOf 0 = .ok (.iconst 1, 1) := by decide +kernel
theorem dX8_endOf_1 : decode cX8_endOf 1 = .ok (.istore_n 3, 1) := by decide +kernel
theorem dX8_endOf_2 : decode cX8_endOf 2 = .ok (.iload_n 2, 1) := by decide +kernel
theorem dX8_endOf_3 : decode cX8_endOf 3 = .ok (.istore 4, 2) := by decide +kernel
theorem dX8_endOf_5 : decode cX8_endOf 5 = .ok (.iload 4, 2) := by decide +kernel
theorem dX8_endOf_7 : decode cX8_endOf 7 = .ok (.aload_n 1, 1) := by decide +kernel
theorem dX8_endOf_8 : decode cX8_endOf 8 = .ok (.getfield 21, 3) := by decide +kernel
theorem dX8_endOf_11 : decode cX8_endOf 11 = .ok (.if_icmp .ge 28, 3) := by decide +kernel
theorem dX8_endOf_14 : decode cX8_endOf 14 = .ok (.iload_n 3, 1) := by decide +kernel
theorem dX8_endOf_15 : decode cX8_endOf 15 = .ok (.ifCond .le 24, 3) := by decide +kernel
theorem dX8_endOf_18 : decode cX8_endOf 18 = .ok (.iload_n 3, 1) := by decide +kernel
theorem dX8_endOf_19 : decode cX8_endOf 19 = .ok (.aload_n 0, 1) := by decide +kernel
theorem dX8_endOf_20 : decode cX8_endOf 20 = .ok (.aload_n 1, 1) := by decide +kernel
theorem dX8_endOf_21 : decode cX8_endOf 21 = .ok (.iload 4, 2) := by decide +kernel
theorem dX8_endOf_23 : decode cX8_endOf 23 = .ok (.invokevirtual 27, 3) := by decide +kernel
theorem dX8_endOf_26 : decode cX8_endOf 26 = .ok (.invokevirtual 31, 3) := by decide +kernel
theorem dX8_endOf_29 : decode cX8_endOf 29 = .ok (.iconst 1, 1) := by decide +kernel
theorem dX8_endOf_30 : decode cX8_endOf 30 = .ok (.isub, 1) := by decide +kernel
theorem dX8_endOf_31 : decode cX8_endOf 31 = .ok (.iadd, 1) := by decide +kernel
theorem dX8_endOf_32 : decode cX8_endOf 32 = .ok (.istore_n 3, 1) := by decide +kernel
theorem dX8_endOf_33 : decode cX8_endOf 33 = .ok (.iinc 4 1, 3) := by decide +kernel
theorem dX8_endOf_36 : decode cX8_endOf 36 = .ok (.goto (-31), 3) := by decide +kernel
theorem dX8_endOf_39 : decode cX8_endOf 39 = .ok (.iload 4, 2) := by decide +kernel
theorem dX8_endOf_41 : decode cX8_endOf 41 = .ok (.ireturn, 1) := by decide +kernel
theorem dX8_argumentOf_0 : decode cX8_argumentOf 0 = .ok (.iload_n 2, 1) := by decide +kernel
theorem dX8_argumentOf_1 : decode cX8_argumentOf 1 = .ok (.iconst 1, 1) := by decide +kernel
theorem dX8_argumentOf_2 : decode cX8_argumentOf 2 = .ok (.iadd, 1) := by decide +kernel
theorem dX8_argumentOf_3 : decode cX8_argumentOf 3 = .ok (.istore 4, 2) := by decide +kernel
theorem dX8_argumentOf_5 : decode cX8_argumentOf 5 = .ok (.iconst 0, 1) := by decide +kernel
theorem dX8_argumentOf_6 : decode cX8_argumentOf 6 = .ok (.istore 5, 2) := by decide +kernel
theorem dX8_argumentOf_8 : decode cX8_argumentOf 8 = .ok (.iload 5, 2) := by decide +kernel
theorem dX8_argumentOf_10 : decode cX8_argumentOf 10 = .ok (.iload_n 3, 1) := by decide +kernel
theorem dX8_argumentOf_11 : decode cX8_argumentOf 11 = .ok (.if_icmp .ge 18, 3) := by decide +kernel
theorem dX8_argumentOf_14 : decode cX8_argumentOf 14 = .ok (.aload_n 0, 1) := by decide +kernel
theorem dX8_argumentOf_15 : decode cX8_argumentOf 15 = .ok (.aload_n 1, 1) := by decide +kernel
theorem dX8_argumentOf_16 : decode cX8_argumentOf 16 = .ok (.iload 4, 2) := by decide +kernel
theorem dX8_argumentOf_18 : decode cX8_argumentOf 18 = .ok (.invokevirtual 34, 3) := by decide +kernel
theorem dX8_argumentOf_21 : decode cX8_argumentOf 21 = .ok (.istore 4, 2) := by decide +kernel
theorem dX8_argumentOf_23 : decode cX8_argumentOf 23 = .ok (.iinc 5 1, 3) := by decide +kernel
theorem dX8_argumentOf_26 : decode cX8_argumentOf 26 = .ok (.goto (-18), 3) := by decide +kernel
theorem dX8_argumentOf_29 : decode cX8_argumentOf 29 = .ok (.iload 4, 2) := by decide +kernel
theorem dX8_argumentOf_31 : decode cX8_argumentOf 31 = .ok (.ireturn, 1) := by decide +kernel
theorem dX8_sameSubterms_0 : decode cX8_sameSubterms 0 = .ok (.iconst 1, 1) := by decide +kernel
theorem dX8_sameSubterms_1 : decode cX8_sameSubterms 1 = .ok (.istore 5, 2) := by decide +kernel
theorem dX8_sameSubterms_3 : decode cX8_sameSubterms 3 = .ok (.iconst 0, 1) := by decide +kernel
theorem dX8_sameSubterms_4 : decode cX8_sameSubterms 4 = .ok (.istore 6, 2) := by decide +kernel
theorem dX8_sameSubterms_6 : decode cX8_sameSubterms 6 = .ok (.iload_n 2, 1) := by decide +kernel
theorem dX8_sameSubterms_7 : decode cX8_sameSubterms 7 = .ok (.iload 6, 2) := by decide +kernel
theorem dX8_sameSubterms_9 : decode cX8_sameSubterms 9 = .ok (.iadd, 1) := by decide +kernel
theorem dX8_sameSubterms_10 : decode cX8_sameSubterms 10 = .ok (.aload_n 1, 1) := by decide +kernel
theorem dX8_sameSubterms_11 : decode cX8_sameSubterms 11 = .ok (.getfield 21, 3) := by decide +kernel
theorem dX8_sameSubterms_14 : decode cX8_sameSubterms 14 = .ok (.if_icmp .ge 53, 3) := by decide +kernel
theorem dX8_sameSubterms_17 : decode cX8_sameSubterms 17 = .ok (.iload 5, 2) := by decide +kernel
theorem dX8_sameSubterms_19 : decode cX8_sameSubterms 19 = .ok (.ifCond .le 48, 3) := by decide +kernel
theorem dX8_sameSubterms_22 : decode cX8_sameSubterms 22 = .ok (.aload_n 1, 1) := by decide +kernel
theorem dX8_sameSubterms_23 : decode cX8_sameSubterms 23 = .ok (.iload_n 2, 1) := by decide +kernel
theorem dX8_sameSubterms_24 : decode cX8_sameSubterms 24 = .ok (.iload 6, 2) := by decide +kernel
theorem dX8_sameSubterms_26 : decode cX8_sameSubterms 26 = .ok (.iadd, 1) := by decide +kernel
theorem dX8_sameSubterms_27 : decode cX8_sameSubterms 27 = .ok (.invokevirtual 27, 3) := by decide +kernel
theorem dX8_sameSubterms_30 : decode cX8_sameSubterms 30 = .ok (.istore 7, 2) := by decide +kernel
theorem dX8_sameSubterms_32 : decode cX8_sameSubterms 32 = .ok (.iload 7, 2) := by decide +kernel
theorem dX8_sameSubterms_34 : decode cX8_sameSubterms 34 = .ok (.aload_n 3, 1) := by decide +kernel
theorem dX8_sameSubterms_35 : decode cX8_sameSubterms 35 = .ok (.iload 4, 2) := by decide +kernel
theorem dX8_sameSubterms_37 : decode cX8_sameSubterms 37 = .ok (.iload 6, 2) := by decide +kernel
theorem dX8_sameSubterms_39 : decode cX8_sameSubterms 39 = .ok (.iadd, 1) := by decide +kernel
theorem dX8_sameSubterms_40 : decode cX8_sameSubterms 40 = .ok (.invokevirtual 27, 3) := by decide +kernel
theorem dX8_sameSubterms_43 : decode cX8_sameSubterms 43 = .ok (.if_icmp .eq 5, 3) := by decide +kernel
theorem dX8_sameSubterms_46 : decode cX8_sameSubterms 46 = .ok (.iconst 0, 1) := by decide +kernel
theorem dX8_sameSubterms_47 : decode cX8_sameSubterms 47 = .ok (.ireturn, 1) := by decide +kernel
theorem dX8_sameSubterms_48 : decode cX8_sameSubterms 48 = .ok (.iload 5, 2) := by decide +kernel
theorem dX8_sameSubterms_50 : decode cX8_sameSubterms 50 = .ok (.aload_n 0, 1) := by decide +kernel
theorem dX8_sameSubterms_51 : decode cX8_sameSubterms 51 = .ok (.iload 7, 2) := by decide +kernel
theorem dX8_sameSubterms_53 : decode cX8_sameSubterms 53 = .ok (.invokevirtual 31, 3) := by decide +kernel
theorem dX8_sameSubterms_56 : decode cX8_sameSubterms 56 = .ok (.iconst 1, 1) := by decide +kernel
theorem dX8_sameSubterms_57 : decode cX8_sameSubterms 57 = .ok (.isub, 1) := by decide +kernel
theorem dX8_sameSubterms_58 : decode cX8_sameSubterms 58 = .ok (.iadd, 1) := by decide +kernel
theorem dX8_sameSubterms_59 : decode cX8_sameSubterms 59 = .ok (.istore 5, 2) := by decide +kernel
theorem dX8_sameSubterms_61 : decode cX8_sameSubterms 61 = .ok (.iinc 6 1, 3) := by decide +kernel
theorem dX8_sameSubterms_64 : decode cX8_sameSubterms 64 = .ok (.goto (-58), 3) := by decide +kernel
theorem dX8_sameSubterms_67 : decode cX8_sameSubterms 67 = .ok (.iconst 1, 1) := by decide +kernel
theorem dX8_sameSubterms_68 : decode cX8_sameSubterms 68 = .ok (.ireturn, 1) := by decide +kernel
theorem dX9_init_0 : decode cX9_init 0 = .ok (.aload_n 0, 1) := by decide +kernel
theorem dX9_init_1 : decode cX9_init 1 = .ok (.invokespecial 3, 3) := by decide +kernel
theorem dX9_init_4 : decode cX9_init 4 = .ok (.aload_n 0, 1) := by decide +kernel
theorem dX9_init_5 : decode cX9_init 5 = .ok (.bipush 40, 2) := by decide +kernel
theorem dX9_init_7 : decode cX9_init 7 = .ok (.newarray .int, 2) := by decide +kernel
theorem dX9_init_9 : decode cX9_init 9 = .ok (.putfield 9, 3) := by decide +kernel
theorem dX9_init_12 : decode cX9_init 12 = .ok (.aload_n 0, 1) := by decide +kernel
theorem dX9_init_13 : decode cX9_init 13 = .ok (.getfield 9, 3) := by decide +kernel
theorem dX9_init_16 : decode cX9_init 16 = .ok (.iconst 0, 1) := by decide +kernel
theorem dX9_init_17 : decode cX9_init 17 = .ok (.bipush 122, 2) := by decide +kernel
theorem dX9_init_19 : decode cX9_init 19 = .ok (.iastore, 1) := by decide +kernel
theorem dX9_init_20 : decode cX9_init 20 = .ok (.aload_n 0, 1) := by decide +kernel
theorem dX9_init_21 : decode cX9_init 21 = .ok (.iconst 1, 1) := by decide +kernel
theorem dX9_init_22 : decode cX9_init 22 = .ok (.putfield 15, 3) := by decide +kernel
theorem dX9_init_25 : decode cX9_init 25 = .ok (.return_, 1) := by decide +kernel
theorem dX9_empty_0 : decode cX9_empty 0 = .ok (.aload_n 0, 1) := by decide +kernel
theorem dX9_empty_1 : decode cX9_empty 1 = .ok (.iconst 0, 1) := by decide +kernel
theorem dX9_empty_2 : decode cX9_empty 2 = .ok (.putfield 15, 3) := by decide +kernel
theorem dX9_empty_5 : decode cX9_empty 5 = .ok (.return_, 1) := by decide +kernel
theorem dX9_becomeZero_0 : decode cX9_becomeZero 0 = .ok (.aload_n 0, 1) := by decide +kernel
theorem dX9_becomeZero_1 : decode cX9_becomeZero 1 = .ok (.iconst 0, 1) := by decide +kernel
theorem dX9_becomeZero_2 : decode cX9_becomeZero 2 = .ok (.putfield 15, 3) := by decide +kernel
theorem dX9_becomeZero_5 : decode cX9_becomeZero 5 = .ok (.aload_n 0, 1) := by decide +kernel
theorem dX9_becomeZero_6 : decode cX9_becomeZero 6 = .ok (.bipush 122, 2) := by decide +kernel
theorem dX9_becomeZero_8 : decode cX9_becomeZero 8 = .ok (.invokevirtual 19, 3) := by decide +kernel
theorem dX9_becomeZero_11 : decode cX9_becomeZero 11 = .ok (.return_, 1) := by decide +kernel
theorem dX9_append_0 : decode cX9_append 0 = .ok (.aload_n 0, 1) := by decide +kernel
theorem dX9_append_1 : decode cX9_append 1 = .ok (.getfield 15, 3) := by decide +kernel
theorem dX9_append_4 : decode cX9_append 4 = .ok (.ifCond .lt 25, 3) := by decide +kernel
theorem dX9_append_7 : decode cX9_append 7 = .ok (.aload_n 0, 1) := by decide +kernel
theorem dX9_append_8 : decode cX9_append 8 = .ok (.getfield 15, 3) := by decide +kernel
theorem dX9_append_11 : decode cX9_append 11 = .ok (.aload_n 0, 1) := by decide +kernel
theorem dX9_append_12 : decode cX9_append 12 = .ok (.getfield 9, 3) := by decide +kernel
theorem dX9_append_15 : decode cX9_append 15 = .ok (.arraylength, 1) := by decide +kernel
theorem dX9_append_16 : decode cX9_append 16 = .ok (.if_icmp .ge 13, 3) := by decide +kernel
theorem dX9_append_19 : decode cX9_append 19 = .ok (.aload_n 0, 1) := by decide +kernel
theorem dX9_append_20 : decode cX9_append 20 = .ok (.getfield 9, 3) := by decide +kernel
theorem dX9_append_23 : decode cX9_append 23 = .ok (.aload_n 0, 1) := by decide +kernel
theorem dX9_append_24 : decode cX9_append 24 = .ok (.getfield 15, 3) := by decide +kernel
theorem dX9_append_27 : decode cX9_append 27 = .ok (.iload_n 1, 1) := by decide +kernel
theorem dX9_append_28 : decode cX9_append 28 = .ok (.iastore, 1) := by decide +kernel
theorem dX9_append_29 : decode cX9_append 29 = .ok (.aload_n 0, 1) := by decide +kernel
theorem dX9_append_30 : decode cX9_append 30 = .ok (.dup, 1) := by decide +kernel
theorem dX9_append_31 : decode cX9_append 31 = .ok (.getfield 15, 3) := by decide +kernel
theorem dX9_append_34 : decode cX9_append 34 = .ok (.iconst 1, 1) := by decide +kernel
theorem dX9_append_35 : decode cX9_append 35 = .ok (.iadd, 1) := by decide +kernel
theorem dX9_append_36 : decode cX9_append 36 = .ok (.putfield 15, 3) := by decide +kernel
theorem dX9_append_39 : decode cX9_append 39 = .ok (.return_, 1) := by decide +kernel
theorem dX9_appendRange_0 : decode cX9_appendRange 0 = .ok (.iload_n 2, 1) := by decide +kernel
theorem dX9_appendRange_1 : decode cX9_appendRange 1 = .ok (.istore 4, 2) := by decide +kernel
theorem dX9_appendRange_3 : decode cX9_appendRange 3 = .ok (.iload 4, 2) := by decide +kernel
theorem dX9_appendRange_5 : decode cX9_appendRange 5 = .ok (.iload_n 3, 1) := by decide +kernel
theorem dX9_appendRange_6 : decode cX9_appendRange 6 = .ok (.if_icmp .ge 19, 3) := by decide +kernel
theorem dX9_appendRange_9 : decode cX9_appendRange 9 = .ok (.aload_n 0, 1) := by decide +kernel
theorem dX9_appendRange_10 : decode cX9_appendRange 10 = .ok (.aload_n 1, 1) := by decide +kernel
theorem dX9_appendRange_11 : decode cX9_appendRange 11 = .ok (.iload 4, 2) := by decide +kernel
theorem dX9_appendRange_13 : decode cX9_appendRange 13 = .ok (.invokevirtual 23, 3) := by decide +kernel
theorem dX9_appendRange_16 : decode cX9_appendRange 16 = .ok (.invokevirtual 19, 3) := by decide +kernel
theorem dX9_appendRange_19 : decode cX9_appendRange 19 = .ok (.iinc 4 1, 3) := by decide +kernel
theorem dX9_appendRange_22 : decode cX9_appendRange 22 = .ok (.goto (-19), 3) := by decide +kernel
theorem dX9_appendRange_25 : decode cX9_appendRange 25 = .ok (.return_, 1) := by decide +kernel
theorem dX9_symbolAt_0 : decode cX9_symbolAt 0 = .ok (.iload_n 1, 1) := by decide +kernel
theorem dX9_symbolAt_1 : decode cX9_symbolAt 1 = .ok (.ifCond .lt 29, 3) := by decide +kernel
theorem dX9_symbolAt_4 : decode cX9_symbolAt 4 = .ok (.iload_n 1, 1) := by decide +kernel
theorem dX9_symbolAt_5 : decode cX9_symbolAt 5 = .ok (.aload_n 0, 1) := by decide +kernel
theorem dX9_symbolAt_6 : decode cX9_symbolAt 6 = .ok (.getfield 15, 3) := by decide +kernel
theorem dX9_symbolAt_9 : decode cX9_symbolAt 9 = .ok (.if_icmp .ge 21, 3) := by decide +kernel
theorem dX9_symbolAt_12 : decode cX9_symbolAt 12 = .ok (.iload_n 1, 1) := by decide +kernel
theorem dX9_symbolAt_13 : decode cX9_symbolAt 13 = .ok (.aload_n 0, 1) := by decide +kernel
theorem dX9_symbolAt_14 : decode cX9_symbolAt 14 = .ok (.getfield 9, 3) := by decide +kernel
theorem dX9_symbolAt_17 : decode cX9_symbolAt 17 = .ok (.arraylength, 1) := by decide +kernel
theorem dX9_symbolAt_18 : decode cX9_symbolAt 18 = .ok (.if_icmp .ge 12, 3) := by decide +kernel
theorem dX9_symbolAt_21 : decode cX9_symbolAt 21 = .ok (.aload_n 0, 1) := by decide +kernel
theorem dX9_symbolAt_22 : decode cX9_symbolAt 22 = .ok (.getfield 9, 3) := by decide +kernel
theorem dX9_symbolAt_25 : decode cX9_symbolAt 25 = .ok (.iload_n 1, 1) := by decide +kernel
theorem dX9_symbolAt_26 : decode cX9_symbolAt 26 = .ok (.iaload, 1) := by decide +kernel
theorem dX9_symbolAt_27 : decode cX9_symbolAt 27 = .ok (.goto 4, 3) := by decide +kernel
theorem dX9_symbolAt_30 : decode cX9_symbolAt 30 = .ok (.iconst 0, 1) := by decide +kernel
theorem dX9_symbolAt_31 : decode cX9_symbolAt 31 = .ok (.ireturn, 1) := by decide +kernel
theorem dX9_contains_0 : decode cX9_contains 0 = .ok (.iconst 0, 1) := by decide +kernel
theorem dX9_contains_1 : decode cX9_contains 1 = .ok (.istore_n 2, 1) := by decide +kernel
theorem dX9_contains_2 : decode cX9_contains 2 = .ok (.iload_n 2, 1) := by decide +kernel
theorem dX9_contains_3 : decode cX9_contains 3 = .ok (.aload_n 0, 1) := by decide +kernel
theorem dX9_contains_4 : decode cX9_contains 4 = .ok (.getfield 15, 3) := by decide +kernel
theorem dX9_contains_7 : decode cX9_contains 7 = .ok (.if_icmp .ge 20, 3) := by decide +kernel
theorem dX9_contains_10 : decode cX9_contains 10 = .ok (.aload_n 0, 1) := by decide +kernel
theorem dX9_contains_11 : decode cX9_contains 11 = .ok (.iload_n 2, 1) := by decide +kernel
theorem dX9_contains_12 : decode cX9_contains 12 = .ok (.invokevirtual 23, 3) := by decide +kernel
theorem dX9_contains_15 : decode cX9_contains 15 = .ok (.iload_n 1, 1) := by decide +kernel
theorem dX9_contains_16 : decode cX9_contains 16 = .ok (.if_icmp .ne 5, 3) := by decide +kernel
theorem dX9_contains_19 : decode cX9_contains 19 = .ok (.iconst 1, 1) := by decide +kernel
theorem dX9_contains_20 : decode cX9_contains 20 = .ok (.ireturn, 1) := by decide +kernel
theorem dX9_contains_21 : decode cX9_contains 21 = .ok (.iinc 2 1, 3) := by decide +kernel
theorem dX9_contains_24 : decode cX9_contains 24 = .ok (.goto (-22), 3) := by decide +kernel
theorem dX9_contains_27 : decode cX9_contains 27 = .ok (.iconst 0, 1) := by decide +kernel
theorem dX9_contains_28 : decode cX9_contains 28 = .ok (.ireturn, 1) := by decide +kernel
theorem dX9_copyFrom_0 : decode cX9_copyFrom 0 = .ok (.aload_n 1, 1) := by decide +kernel
theorem dX9_copyFrom_1 : decode cX9_copyFrom 1 = .ok (.getfield 9, 3) := by decide +kernel
theorem dX9_copyFrom_4 : decode cX9_copyFrom 4 = .ok (.iconst 0, 1) := by decide +kernel
theorem dX9_copyFrom_5 : decode cX9_copyFrom 5 = .ok (.aload_n 0, 1) := by decide +kernel
theorem dX9_copyFrom_6 : decode cX9_copyFrom 6 = .ok (.getfield 9, 3) := by decide +kernel
theorem dX9_copyFrom_9 : decode cX9_copyFrom 9 = .ok (.iconst 0, 1) := by decide +kernel
theorem dX9_copyFrom_10 : decode cX9_copyFrom 10 = .ok (.aload_n 0, 1) := by decide +kernel
theorem dX9_copyFrom_11 : decode cX9_copyFrom 11 = .ok (.getfield 9, 3) := by decide +kernel
theorem dX9_copyFrom_14 : decode cX9_copyFrom 14 = .ok (.arraylength, 1) := by decide +kernel
theorem dX9_copyFrom_15 : decode cX9_copyFrom 15 = .ok (.invokestatic 27, 3) := by decide +kernel
theorem dX9_copyFrom_18 : decode cX9_copyFrom 18 = .ok (.aload_n 0, 1) := by decide +kernel
theorem dX9_copyFrom_19 : decode cX9_copyFrom 19 = .ok (.aload_n 1, 1) := by decide +kernel
theorem dX9_copyFrom_20 : decode cX9_copyFrom 20 = .ok (.getfield 15, 3) := by decide +kernel
theorem dX9_copyFrom_23 : decode cX9_copyFrom 23 = .ok (.putfield 15, 3) := by decide +kernel
theorem dX9_copyFrom_26 : decode cX9_copyFrom 26 = .ok (.return_, 1) := by decide +kernel
theorem dX9_orderAgainst_0 : decode cX9_orderAgainst 0 = .ok (.aload_n 0, 1) := by decide +kernel
theorem dX9_orderAgainst_1 : decode cX9_orderAgainst 1 = .ok (.getfield 15, 3) := by decide +kernel
theorem dX9_orderAgainst_4 : decode cX9_orderAgainst 4 = .ok (.aload_n 1, 1) := by decide +kernel
theorem dX9_orderAgainst_5 : decode cX9_orderAgainst 5 = .ok (.getfield 15, 3) := by decide +kernel
theorem dX9_orderAgainst_8 : decode cX9_orderAgainst 8 = .ok (.if_icmp .eq 15, 3) := by decide +kernel
theorem dX9_orderAgainst_11 : decode cX9_orderAgainst 11 = .ok (.aload_n 0, 1) := by decide +kernel
theorem dX9_orderAgainst_12 : decode cX9_orderAgainst 12 = .ok (.getfield 15, 3) := by decide +kernel
theorem dX9_orderAgainst_15 : decode cX9_orderAgainst 15 = .ok (.aload_n 1, 1) := by decide +kernel
theorem dX9_orderAgainst_16 : decode cX9_orderAgainst 16 = .ok (.getfield 15, 3) := by decide +kernel
theorem dX9_orderAgainst_19 : decode cX9_orderAgainst 19 = .ok (.invokestatic 33, 3) := by decide +kernel
theorem dX9_orderAgainst_22 : decode cX9_orderAgainst 22 = .ok (.ireturn, 1) := by decide +kernel
theorem dX9_orderAgainst_23 : decode cX9_orderAgainst 23 = .ok (.iconst 0, 1) := by decide +kernel
theorem dX9_orderAgainst_24 : decode cX9_orderAgainst 24 = .ok (.istore_n 2, 1) := by decide +kernel
theorem dX9_orderAgainst_25 : decode cX9_orderAgainst 25 = .ok (.iload_n 2, 1) := by decide +kernel
theorem dX9_orderAgainst_26 : decode cX9_orderAgainst 26 = .ok (.aload_n 0, 1) := by decide +kernel
theorem dX9_orderAgainst_27 : decode cX9_orderAgainst 27 = .ok (.getfield 15, 3) := by decide +kernel
theorem dX9_orderAgainst_30 : decode cX9_orderAgainst 30 = .ok (.if_icmp .ge 29, 3) := by decide +kernel
theorem dX9_orderAgainst_33 : decode cX9_orderAgainst 33 = .ok (.aload_n 0, 1) := by decide +kernel
theorem dX9_orderAgainst_34 : decode cX9_orderAgainst 34 = .ok (.iload_n 2, 1) := by decide +kernel
theorem dX9_orderAgainst_35 : decode cX9_orderAgainst 35 = .ok (.invokevirtual 23, 3) := by decide +kernel
theorem dX9_orderAgainst_38 : decode cX9_orderAgainst 38 = .ok (.aload_n 1, 1) := by decide +kernel
theorem dX9_orderAgainst_39 : decode cX9_orderAgainst 39 = .ok (.iload_n 2, 1) := by decide +kernel
theorem dX9_orderAgainst_40 : decode cX9_orderAgainst 40 = .ok (.invokevirtual 23, 3) := by decide +kernel
theorem dX9_orderAgainst_43 : decode cX9_orderAgainst 43 = .ok (.invokestatic 33, 3) := by decide +kernel
theorem dX9_orderAgainst_46 : decode cX9_orderAgainst 46 = .ok (.istore_n 3, 1) := by decide +kernel
theorem dX9_orderAgainst_47 : decode cX9_orderAgainst 47 = .ok (.iload_n 3, 1) := by decide +kernel
theorem dX9_orderAgainst_48 : decode cX9_orderAgainst 48 = .ok (.ifCond .eq 5, 3) := by decide +kernel
theorem dX9_orderAgainst_51 : decode cX9_orderAgainst 51 = .ok (.iload_n 3, 1) := by decide +kernel
theorem dX9_orderAgainst_52 : decode cX9_orderAgainst 52 = .ok (.ireturn, 1) := by decide +kernel
theorem dX9_orderAgainst_53 : decode cX9_orderAgainst 53 = .ok (.iinc 2 1, 3) := by decide +kernel
theorem dX9_orderAgainst_56 : decode cX9_orderAgainst 56 = .ok (.goto (-31), 3) := by decide +kernel
theorem dX9_orderAgainst_59 : decode cX9_orderAgainst 59 = .ok (.iconst 0, 1) := by decide +kernel
theorem dX9_orderAgainst_60 : decode cX9_orderAgainst 60 = .ok (.ireturn, 1) := by decide +kernel
theorem dX10_init_0 : decode cX10_init 0 = .ok (.aload_n 0, 1) := by decide +kernel
theorem dX10_init_1 : decode cX10_init 1 = .ok (.invokespecial 3, 3) := by decide +kernel
theorem dX10_init_4 : decode cX10_init 4 = .ok (.iload_n 1, 1) := by decide +kernel
theorem dX10_init_5 : decode cX10_init 5 = .ok (.iconst 0, 1) := by decide +kernel
theorem dX10_init_6 : decode cX10_init 6 = .ok (.invokestatic 9, 3) := by decide +kernel
theorem dX10_init_9 : decode cX10_init 9 = .ok (.istore_n 2, 1) := by decide +kernel
theorem dX10_init_10 : decode cX10_init 10 = .ok (.aload_n 0, 1) := by decide +kernel
theorem dX10_init_11 : decode cX10_init 11 = .ok (.iload_n 2, 1) := by decide +kernel
theorem dX10_init_12 : decode cX10_init 12 = .ok (.newarray .int, 2) := by decide +kernel
theorem dX10_init_14 : decode cX10_init 14 = .ok (.putfield 15, 3) := by decide +kernel
theorem dX10_init_17 : decode cX10_init 17 = .ok (.aload_n 0, 1) := by decide +kernel
theorem dX10_init_18 : decode cX10_init 18 = .ok (.iload_n 2, 1) := by decide +kernel
theorem dX10_init_19 : decode cX10_init 19 = .ok (.newarray .int, 2) := by decide +kernel
theorem dX10_init_21 : decode cX10_init 21 = .ok (.putfield 21, 3) := by decide +kernel
theorem dX10_init_24 : decode cX10_init 24 = .ok (.return_, 1) := by decide +kernel
theorem dX10_character_0 : decode cX10_character 0 = .ok (.iload_n 1, 1) := by decide +kernel
theorem dX10_character_1 : decode cX10_character 1 = .ok (.ifCond .lt 29, 3) := by decide +kernel
theorem dX10_character_4 : decode cX10_character 4 = .ok (.iload_n 1, 1) := by decide +kernel
theorem dX10_character_5 : decode cX10_character 5 = .ok (.aload_n 0, 1) := by decide +kernel
theorem dX10_character_6 : decode cX10_character 6 = .ok (.getfield 24, 3) := by decide +kernel
theorem dX10_character_9 : decode cX10_character 9 = .ok (.if_icmp .ge 21, 3) := by decide +kernel
theorem dX10_character_12 : decode cX10_character 12 = .ok (.iload_n 1, 1) := by decide +kernel
theorem dX10_character_13 : decode cX10_character 13 = .ok (.aload_n 0, 1) := by decide +kernel
theorem dX10_character_14 : decode cX10_character 14 = .ok (.getfield 15, 3) := by decide +kernel
theorem dX10_character_17 : decode cX10_character 17 = .ok (.arraylength, 1) := by decide +kernel
theorem dX10_character_18 : decode cX10_character 18 = .ok (.if_icmp .ge 12, 3) := by decide +kernel
theorem dX10_character_21 : decode cX10_character 21 = .ok (.aload_n 0, 1) := by decide +kernel
theorem dX10_character_22 : decode cX10_character 22 = .ok (.getfield 15, 3) := by decide +kernel
theorem dX10_character_25 : decode cX10_character 25 = .ok (.iload_n 1, 1) := by decide +kernel
theorem dX10_character_26 : decode cX10_character 26 = .ok (.iaload, 1) := by decide +kernel
theorem dX10_character_27 : decode cX10_character 27 = .ok (.goto 4, 3) := by decide +kernel
theorem dX10_character_30 : decode cX10_character 30 = .ok (.iconst 0, 1) := by decide +kernel
theorem dX10_character_31 : decode cX10_character 31 = .ok (.ireturn, 1) := by decide +kernel
theorem dX10_append_0 : decode cX10_append 0 = .ok (.aload_n 0, 1) := by decide +kernel
theorem dX10_append_1 : decode cX10_append 1 = .ok (.getfield 24, 3) := by decide +kernel
theorem dX10_append_4 : decode cX10_append 4 = .ok (.ifCond .lt 15, 3) := by decide +kernel
theorem dX10_append_7 : decode cX10_append 7 = .ok (.aload_n 0, 1) := by decide +kernel
theorem dX10_append_8 : decode cX10_append 8 = .ok (.getfield 24, 3) := by decide +kernel
theorem dX10_append_11 : decode cX10_append 11 = .ok (.aload_n 0, 1) := by decide +kernel
theorem dX10_append_12 : decode cX10_append 12 = .ok (.getfield 15, 3) := by decide +kernel
theorem dX10_append_15 : decode cX10_append 15 = .ok (.arraylength, 1) := by decide +kernel
theorem dX10_append_16 : decode cX10_append 16 = .ok (.if_icmp .lt 5, 3) := by decide +kernel
theorem dX10_append_19 : decode cX10_append 19 = .ok (.iconst 0, 1) := by decide +kernel
theorem dX10_append_20 : decode cX10_append 20 = .ok (.ireturn, 1) := by decide +kernel
theorem dX10_append_21 : decode cX10_append 21 = .ok (.aload_n 0, 1) := by decide +kernel
theorem dX10_append_22 : decode cX10_append 22 = .ok (.getfield 15, 3) := by decide +kernel
theorem dX10_append_25 : decode cX10_append 25 = .ok (.aload_n 0, 1) := by decide +kernel
theorem dX10_append_26 : decode cX10_append 26 = .ok (.getfield 24, 3) := by decide +kernel
theorem dX10_append_29 : decode cX10_append 29 = .ok (.iload_n 1, 1) := by decide +kernel
theorem dX10_append_30 : decode cX10_append 30 = .ok (.iastore, 1) := by decide +kernel
theorem dX10_append_31 : decode cX10_append 31 = .ok (.aload_n 0, 1) := by decide +kernel
theorem dX10_append_32 : decode cX10_append 32 = .ok (.dup, 1) := by decide +kernel
theorem dX10_append_33 : decode cX10_append 33 = .ok (.getfield 24, 3) := by decide +kernel
theorem dX10_append_36 : decode cX10_append 36 = .ok (.iconst 1, 1) := by decide +kernel
theorem dX10_append_37 : decode cX10_append 37 = .ok (.iadd, 1) := by decide +kernel
theorem dX10_append_38 : decode cX10_append 38 = .ok (.putfield 24, 3) := by decide +kernel
theorem dX10_append_41 : decode cX10_append 41 = .ok (.iconst 1, 1) := by decide +kernel
theorem dX10_append_42 : decode cX10_append 42 = .ok (.ireturn, 1) := by decide +kernel
theorem dX10_empty_0 : decode cX10_empty 0 = .ok (.aload_n 0, 1) := by decide +kernel
theorem dX10_empty_1 : decode cX10_empty 1 = .ok (.iconst 0, 1) := by decide +kernel
theorem dX10_empty_2 : decode cX10_empty 2 = .ok (.putfield 24, 3) := by decide +kernel
theorem dX10_empty_5 : decode cX10_empty 5 = .ok (.return_, 1) := by decide +kernel
theorem dX10_readWholeTerm_0 : decode cX10_readWholeTerm 0 = .ok (.aload_n 0, 1) := by decide +kernel
theorem dX10_readWholeTerm_1 : decode cX10_readWholeTerm 1 = .ok (.iconst 0, 1) := by decide +kernel
theorem dX10_readWholeTerm_2 : decode cX10_readWholeTerm 2 = .ok (.putfield 28, 3) := by decide +kernel
theorem dX10_readWholeTerm_5 : decode cX10_readWholeTerm 5 = .ok (.aload_n 0, 1) := by decide +kernel
theorem dX10_readWholeTerm_6 : decode cX10_readWholeTerm 6 = .ok (.aload_n 1, 1) := by decide +kernel
theorem dX10_readWholeTerm_7 : decode cX10_readWholeTerm 7 = .ok (.aload_n 2, 1) := by decide +kernel
theorem dX10_readWholeTerm_8 : decode cX10_readWholeTerm 8 = .ok (.invokevirtual 31, 3) := by decide +kernel
theorem dX10_readWholeTerm_11 : decode cX10_readWholeTerm 11 = .ok (.ifCond .eq 18, 3) := by decide +kernel
theorem dX10_readWholeTerm_14 : decode cX10_readWholeTerm 14 = .ok (.aload_n 0, 1) := by decide +kernel
theorem dX10_readWholeTerm_15 : decode cX10_readWholeTerm 15 = .ok (.getfield 28, 3) := by decide +kernel
theorem dX10_readWholeTerm_18 : decode cX10_readWholeTerm 18 = .ok (.aload_n 0, 1) := by decide +kernel
theorem dX10_readWholeTerm_19 : decode cX10_readWholeTerm 19 = .ok (.getfield 24, 3) := by decide +kernel
theorem dX10_readWholeTerm_22 : decode cX10_readWholeTerm 22 = .ok (.if_icmp .ne 7, 3) := by decide +kernel
theorem dX10_readWholeTerm_25 : decode cX10_readWholeTerm 25 = .ok (.iconst 1, 1) := by decide +kernel
theorem dX10_readWholeTerm_26 : decode cX10_readWholeTerm 26 = .ok (.goto 4, 3) := by decide +kernel
theorem dX10_readWholeTerm_29 : decode cX10_readWholeTerm 29 = .ok (.iconst 0, 1) := by decide +kernel
theorem dX10_readWholeTerm_30 : decode cX10_readWholeTerm 30 = .ok (.ireturn, 1) := by decide +kernel
theorem dX10_readRule_0 : decode cX10_readRule 0 = .ok (.aload_n 0, 1) := by decide +kernel
theorem dX10_readRule_1 : decode cX10_readRule 1 = .ok (.iconst 0, 1) := by decide +kernel
theorem dX10_readRule_2 : decode cX10_readRule 2 = .ok (.putfield 28, 3) := by decide +kernel
theorem dX10_readRule_5 : decode cX10_readRule 5 = .ok (.aload_n 0, 1) := by decide +kernel
theorem dX10_readRule_6 : decode cX10_readRule 6 = .ok (.aload_n 1, 1) := by decide +kernel
theorem dX10_readRule_7 : decode cX10_readRule 7 = .ok (.aload_n 2, 1) := by decide +kernel
theorem dX10_readRule_8 : decode cX10_readRule 8 = .ok (.invokevirtual 31, 3) := by decide +kernel
theorem dX10_readRule_11 : decode cX10_readRule 11 = .ok (.ifCond .eq 36, 3) := by decide +kernel
theorem dX10_readRule_14 : decode cX10_readRule 14 = .ok (.aload_n 0, 1) := by decide +kernel
theorem dX10_readRule_15 : decode cX10_readRule 15 = .ok (.bipush 62, 2) := by decide +kernel
theorem dX10_readRule_17 : decode cX10_readRule 17 = .ok (.invokevirtual 35, 3) := by decide +kernel
theorem dX10_readRule_20 : decode cX10_readRule 20 = .ok (.ifCond .eq 27, 3) := by decide +kernel
theorem dX10_readRule_23 : decode cX10_readRule 23 = .ok (.aload_n 0, 1) := by decide +kernel
theorem dX10_readRule_24 : decode cX10_readRule 24 = .ok (.aload_n 1, 1) := by decide +kernel
theorem dX10_readRule_25 : decode cX10_readRule 25 = .ok (.aload_n 3, 1) := by decide +kernel
theorem dX10_readRule_26 : decode cX10_readRule 26 = .ok (.invokevirtual 31, 3) := by decide +kernel
theorem dX10_readRule_29 : decode cX10_readRule 29 = .ok (.ifCond .eq 18, 3) := by decide +kernel
theorem dX10_readRule_32 : decode cX10_readRule 32 = .ok (.aload_n 0, 1) := by decide +kernel
theorem dX10_readRule_33 : decode cX10_readRule 33 = .ok (.getfield 28, 3) := by decide +kernel
theorem dX10_readRule_36 : decode cX10_readRule 36 = .ok (.aload_n 0, 1) := by decide +kernel
theorem dX10_readRule_37 : decode cX10_readRule 37 = .ok (.getfield 24, 3) := by decide +kernel
theorem dX10_readRule_40 : decode cX10_readRule 40 = .ok (.if_icmp .ne 7, 3) := by decide +kernel
theorem dX10_readRule_43 : decode cX10_readRule 43 = .ok (.iconst 1, 1) := by decide +kernel
theorem dX10_readRule_44 : decode cX10_readRule 44 = .ok (.goto 4, 3) := by decide +kernel
theorem dX10_readRule_47 : decode cX10_readRule 47 = .ok (.iconst 0, 1) := by decide +kernel
theorem dX10_readRule_48 : decode cX10_readRule 48 = .ok (.ireturn, 1) := by decide +kernel
theorem dX10_take_0 : decode cX10_take 0 = .ok (.aload_n 0, 1) := by decide +kernel
theorem dX10_take_1 : decode cX10_take 1 = .ok (.aload_n 0, 1) := by decide +kernel
theorem dX10_take_2 : decode cX10_take 2 = .ok (.getfield 28, 3) := by decide +kernel
theorem dX10_take_5 : decode cX10_take 5 = .ok (.invokevirtual 39, 3) := by decide +kernel
theorem dX10_take_8 : decode cX10_take 8 = .ok (.iload_n 1, 1) := by decide +kernel
theorem dX10_take_9 : decode cX10_take 9 = .ok (.if_icmp .eq 5, 3) := by decide +kernel
theorem dX10_take_12 : decode cX10_take 12 = .ok (.iconst 0, 1) := by decide +kernel
theorem dX10_take_13 : decode cX10_take 13 = .ok (.ireturn, 1) := by decide +kernel
theorem dX10_take_14 : decode cX10_take 14 = .ok (.aload_n 0, 1) := by decide +kernel
theorem dX10_take_15 : decode cX10_take 15 = .ok (.dup, 1) := by decide +kernel
theorem dX10_take_16 : decode cX10_take 16 = .ok (.getfield 28, 3) := by decide +kernel
theorem dX10_take_19 : decode cX10_take 19 = .ok (.iconst 1, 1) := by decide +kernel
theorem dX10_take_20 : decode cX10_take 20 = .ok (.iadd, 1) := by decide +kernel
theorem dX10_take_21 : decode cX10_take 21 = .ok (.putfield 28, 3) := by decide +kernel
theorem dX10_take_24 : decode cX10_take 24 = .ok (.iconst 1, 1) := by decide +kernel
theorem dX10_take_25 : decode cX10_take 25 = .ok (.ireturn, 1) := by decide +kernel
theorem dX10_readTerm_0 : decode cX10_readTerm 0 = .ok (.iconst 0, 1) := by decide +kernel
theorem dX10_readTerm_1 : decode cX10_readTerm 1 = .ok (.istore_n 3, 1) := by decide +kernel
theorem dX10_readTerm_2 : decode cX10_readTerm 2 = .ok (.aload_n 2, 1) := by decide +kernel
theorem dX10_readTerm_3 : decode cX10_readTerm 3 = .ok (.invokevirtual 43, 3) := by decide +kernel
theorem dX10_readTerm_6 : decode cX10_readTerm 6 = .ok (.iconst 0, 1) := by decide +kernel
theorem dX10_readTerm_7 : decode cX10_readTerm 7 = .ok (.istore 4, 2) := by decide +kernel
theorem dX10_readTerm_9 : decode cX10_readTerm 9 = .ok (.iload 4, 2) := by decide +kernel
theorem dX10_readTerm_11 : decode cX10_readTerm 11 = .ok (.aload_n 0, 1) := by decide +kernel
theorem dX10_readTerm_12 : decode cX10_readTerm 12 = .ok (.getfield 24, 3) := by decide +kernel
theorem dX10_readTerm_15 : decode cX10_readTerm 15 = .ok (.if_icmp .gt 112, 3) := by decide +kernel
theorem dX10_readTerm_18 : decode cX10_readTerm 18 = .ok (.aload_n 0, 1) := by decide +kernel
theorem dX10_readTerm_19 : decode cX10_readTerm 19 = .ok (.aload_n 0, 1) := by decide +kernel
theorem dX10_readTerm_20 : decode cX10_readTerm 20 = .ok (.getfield 28, 3) := by decide +kernel
theorem dX10_readTerm_23 : decode cX10_readTerm 23 = .ok (.invokevirtual 39, 3) := by decide +kernel
theorem dX10_readTerm_26 : decode cX10_readTerm 26 = .ok (.istore 5, 2) := by decide +kernel
theorem dX10_readTerm_28 : decode cX10_readTerm 28 = .ok (.iload 5, 2) := by decide +kernel
theorem dX10_readTerm_30 : decode cX10_readTerm 30 = .ok (.invokestatic 48, 3) := by decide +kernel
theorem dX10_readTerm_33 : decode cX10_readTerm 33 = .ok (.ifCond .ne 5, 3) := by decide +kernel
theorem dX10_readTerm_36 : decode cX10_readTerm 36 = .ok (.iconst 0, 1) := by decide +kernel
theorem dX10_readTerm_37 : decode cX10_readTerm 37 = .ok (.ireturn, 1) := by decide +kernel
theorem dX10_readTerm_38 : decode cX10_readTerm 38 = .ok (.aload_n 0, 1) := by decide +kernel
theorem dX10_readTerm_39 : decode cX10_readTerm 39 = .ok (.dup, 1) := by decide +kernel
theorem dX10_readTerm_40 : decode cX10_readTerm 40 = .ok (.getfield 28, 3) := by decide +kernel
theorem dX10_readTerm_43 : decode cX10_readTerm 43 = .ok (.iconst 1, 1) := by decide +kernel
theorem dX10_readTerm_44 : decode cX10_readTerm 44 = .ok (.iadd, 1) := by decide +kernel
theorem dX10_readTerm_45 : decode cX10_readTerm 45 = .ok (.putfield 28, 3) := by decide +kernel
theorem dX10_readTerm_48 : decode cX10_readTerm 48 = .ok (.aload_n 2, 1) := by decide +kernel
theorem dX10_readTerm_49 : decode cX10_readTerm 49 = .ok (.iload 5, 2) := by decide +kernel
theorem dX10_readTerm_51 : decode cX10_readTerm 51 = .ok (.invokevirtual 51, 3) := by decide +kernel
theorem dX10_readTerm_54 : decode cX10_readTerm 54 = .ok (.aload_n 1, 1) := by decide +kernel
theorem dX10_readTerm_55 : decode cX10_readTerm 55 = .ok (.iload 5, 2) := by decide +kernel
theorem dX10_readTerm_57 : decode cX10_readTerm 57 = .ok (.invokevirtual 55, 3) := by decide +kernel
theorem dX10_readTerm_60 : decode cX10_readTerm 60 = .ok (.istore 6, 2) := by decide +kernel
theorem dX10_readTerm_62 : decode cX10_readTerm 62 = .ok (.iload 6, 2) := by decide +kernel
theorem dX10_readTerm_64 : decode cX10_readTerm 64 = .ok (.ifCond .le 37, 3) := by decide +kernel
theorem dX10_readTerm_67 : decode cX10_readTerm 67 = .ok (.aload_n 0, 1) := by decide +kernel
theorem dX10_readTerm_68 : decode cX10_readTerm 68 = .ok (.bipush 40, 2) := by decide +kernel
theorem dX10_readTerm_70 : decode cX10_readTerm 70 = .ok (.invokevirtual 35, 3) := by decide +kernel
theorem dX10_readTerm_73 : decode cX10_readTerm 73 = .ok (.ifCond .eq 12, 3) := by decide +kernel
theorem dX10_readTerm_76 : decode cX10_readTerm 76 = .ok (.iload_n 3, 1) := by decide +kernel
theorem dX10_readTerm_77 : decode cX10_readTerm 77 = .ok (.aload_n 0, 1) := by decide +kernel
theorem dX10_readTerm_78 : decode cX10_readTerm 78 = .ok (.getfield 21, 3) := by decide +kernel
theorem dX10_readTerm_81 : decode cX10_readTerm 81 = .ok (.arraylength, 1) := by decide +kernel
theorem dX10_readTerm_82 : decode cX10_readTerm 82 = .ok (.if_icmp .lt 5, 3) := by decide +kernel
theorem dX10_readTerm_85 : decode cX10_readTerm 85 = .ok (.iconst 0, 1) := by decide +kernel
theorem dX10_readTerm_86 : decode cX10_readTerm 86 = .ok (.ireturn, 1) := by decide +kernel
theorem dX10_readTerm_87 : decode cX10_readTerm 87 = .ok (.aload_n 0, 1) := by decide +kernel
theorem dX10_readTerm_88 : decode cX10_readTerm 88 = .ok (.getfield 21, 3) := by decide +kernel
theorem dX10_readTerm_91 : decode cX10_readTerm 91 = .ok (.iload_n 3, 1) := by decide +kernel
theorem dX10_readTerm_92 : decode cX10_readTerm 92 = .ok (.iload 6, 2) := by decide +kernel
theorem dX10_readTerm_94 : decode cX10_readTerm 94 = .ok (.iastore, 1) := by decide +kernel
theorem dX10_readTerm_95 : decode cX10_readTerm 95 = .ok (.iinc 3 1, 3) := by decide +kernel
theorem dX10_readTerm_98 : decode cX10_readTerm 98 = .ok (.goto 23, 3) := by decide +kernel
theorem dX10_readTerm_101 : decode cX10_readTerm 101 = .ok (.aload_n 0, 1) := by decide +kernel
theorem dX10_readTerm_102 : decode cX10_readTerm 102 = .ok (.iload_n 3, 1) := by decide +kernel
theorem dX10_readTerm_103 : decode cX10_readTerm 103 = .ok (.invokevirtual 60, 3) := by decide +kernel
theorem dX10_readTerm_106 : decode cX10_readTerm 106 = .ok (.istore_n 3, 1) := by decide +kernel
theorem dX10_readTerm_107 : decode cX10_readTerm 107 = .ok (.iload_n 3, 1) := by decide +kernel
theorem dX10_readTerm_108 : decode cX10_readTerm 108 = .ok (.ifCond .gt 13, 3) := by decide +kernel
theorem dX10_readTerm_111 : decode cX10_readTerm 111 = .ok (.iload_n 3, 1) := by decide +kernel
theorem dX10_readTerm_112 : decode cX10_readTerm 112 = .ok (.ifCond .ne 7, 3) := by decide +kernel
theorem dX10_readTerm_115 : decode cX10_readTerm 115 = .ok (.iconst 1, 1) := by decide +kernel
theorem dX10_readTerm_116 : decode cX10_readTerm 116 = .ok (.goto 4, 3) := by decide +kernel
theorem dX10_readTerm_119 : decode cX10_readTerm 119 = .ok (.iconst 0, 1) := by decide +kernel
theorem dX10_readTerm_120 : decode cX10_readTerm 120 = .ok (.ireturn, 1) := by decide +kernel
theorem dX10_readTerm_121 : decode cX10_readTerm 121 = .ok (.iinc 4 1, 3) := by decide +kernel
theorem dX10_readTerm_124 : decode cX10_readTerm 124 = .ok (.goto (-115), 3) := by decide +kernel
theorem dX10_readTerm_127 : decode cX10_readTerm 127 = .ok (.iconst 0, 1) := by decide +kernel
theorem dX10_readTerm_128 : decode cX10_readTerm 128 = .ok (.ireturn, 1) := by decide +kernel
theorem dX10_readBehindArgument_0 : decode cX10_readBehindArgument 0 = .ok (.iload_n 1, 1) := by decide +kernel
theorem dX10_readBehindArgument_1 : decode cX10_readBehindArgument 1 = .ok (.aload_n 0, 1) := by decide +kernel
theorem dX10_readBehindArgument_2 : decode cX10_readBehindArgument 2 = .ok (.getfield 21, 3) := by decide +kernel
theorem dX10_readBehindArgument_5 : decode cX10_readBehindArgument 5 = .ok (.arraylength, 1) := by decide +kernel
theorem dX10_readBehindArgument_6 : decode cX10_readBehindArgument 6 = .ok (.invokestatic 63, 3) := by decide +kernel
theorem dX10_readBehindArgument_9 : decode cX10_readBehindArgument 9 = .ok (.iconst 1, 1) := by decide +kernel
theorem dX10_readBehindArgument_10 : decode cX10_readBehindArgument 10 = .ok (.isub, 1) := by decide +kernel
theorem dX10_readBehindArgument_11 : decode cX10_readBehindArgument 11 = .ok (.istore_n 2, 1) := by decide +kernel
theorem dX10_readBehindArgument_12 : decode cX10_readBehindArgument 12 = .ok (.iload_n 2, 1) := by decide +kernel
theorem dX10_readBehindArgument_13 : decode cX10_readBehindArgument 13 = .ok (.ifCond .lt 56, 3) := by decide +kernel
theorem dX10_readBehindArgument_16 : decode cX10_readBehindArgument 16 = .ok (.aload_n 0, 1) := by decide +kernel
theorem dX10_readBehindArgument_17 : decode cX10_readBehindArgument 17 = .ok (.getfield 21, 3) := by decide +kernel
theorem dX10_readBehindArgument_20 : decode cX10_readBehindArgument 20 = .ok (.iload_n 2, 1) := by decide +kernel
theorem dX10_readBehindArgument_21 : decode cX10_readBehindArgument 21 = .ok (.dup2, 1) := by decide +kernel
theorem dX10_readBehindArgument_22 : decode cX10_readBehindArgument 22 = .ok (.iaload, 1) := by decide +kernel
theorem dX10_readBehindArgument_23 : decode cX10_readBehindArgument 23 = .ok (.iconst 1, 1) := by decide +kernel
theorem dX10_readBehindArgument_24 : decode cX10_readBehindArgument 24 = .ok (.isub, 1) := by decide +kernel
theorem dX10_readBehindArgument_25 : decode cX10_readBehindArgument 25 = .ok (.iastore, 1) := by decide +kernel
theorem dX10_readBehindArgument_26 : decode cX10_readBehindArgument 26 = .ok (.aload_n 0, 1) := by decide +kernel
theorem dX10_readBehindArgument_27 : decode cX10_readBehindArgument 27 = .ok (.getfield 21, 3) := by decide +kernel
theorem dX10_readBehindArgument_30 : decode cX10_readBehindArgument 30 = .ok (.iload_n 2, 1) := by decide +kernel
theorem dX10_readBehindArgument_31 : decode cX10_readBehindArgument 31 = .ok (.iaload, 1) := by decide +kernel
theorem dX10_readBehindArgument_32 : decode cX10_readBehindArgument 32 = .ok (.ifCond .le 20, 3) := by decide +kernel
theorem dX10_readBehindArgument_35 : decode cX10_readBehindArgument 35 = .ok (.aload_n 0, 1) := by decide +kernel
theorem dX10_readBehindArgument_36 : decode cX10_readBehindArgument 36 = .ok (.bipush 44, 2) := by decide +kernel
theorem dX10_readBehindArgument_38 : decode cX10_readBehindArgument 38 = .ok (.invokevirtual 35, 3) := by decide +kernel
theorem dX10_readBehindArgument_41 : decode cX10_readBehindArgument 41 = .ok (.ifCond .eq 9, 3) := by decide +kernel
theorem dX10_readBehindArgument_44 : decode cX10_readBehindArgument 44 = .ok (.iload_n 2, 1) := by decide +kernel
theorem dX10_readBehindArgument_45 : decode cX10_readBehindArgument 45 = .ok (.iconst 1, 1) := by decide +kernel
theorem dX10_readBehindArgument_46 : decode cX10_readBehindArgument 46 = .ok (.iadd, 1) := by decide +kernel
theorem dX10_readBehindArgument_47 : decode cX10_readBehindArgument 47 = .ok (.goto 4, 3) := by decide +kernel
theorem dX10_readBehindArgument_50 : decode cX10_readBehindArgument 50 = .ok (.iconst (-1), 1) := by decide +kernel
theorem dX10_readBehindArgument_51 : decode cX10_readBehindArgument 51 = .ok (.ireturn, 1) := by decide +kernel
theorem dX10_readBehindArgument_52 : decode cX10_readBehindArgument 52 = .ok (.aload_n 0, 1) := by decide +kernel
theorem dX10_readBehindArgument_53 : decode cX10_readBehindArgument 53 = .ok (.bipush 41, 2) := by decide +kernel
theorem dX10_readBehindArgument_55 : decode cX10_readBehindArgument 55 = .ok (.invokevirtual 35, 3) := by decide +kernel
theorem dX10_readBehindArgument_58 : decode cX10_readBehindArgument 58 = .ok (.ifCond .ne 5, 3) := by decide +kernel
theorem dX10_readBehindArgument_61 : decode cX10_readBehindArgument 61 = .ok (.iconst (-1), 1) := by decide +kernel
theorem dX10_readBehindArgument_62 : decode cX10_readBehindArgument 62 = .ok (.ireturn, 1) := by decide +kernel
theorem dX10_readBehindArgument_63 : decode cX10_readBehindArgument 63 = .ok (.iinc 2 (-1), 3) := by decide +kernel
theorem dX10_readBehindArgument_66 : decode cX10_readBehindArgument 66 = .ok (.goto (-54), 3) := by decide +kernel
theorem dX10_readBehindArgument_69 : decode cX10_readBehindArgument 69 = .ok (.iconst 0, 1) := by decide +kernel
theorem dX10_readBehindArgument_70 : decode cX10_readBehindArgument 70 = .ok (.ireturn, 1) := by decide +kernel
theorem dX10_write_0 : decode cX10_write 0 = .ok (.iconst 0, 1) := by decide +kernel
theorem dX10_write_1 : decode cX10_write 1 = .ok (.istore_n 3, 1) := by decide +kernel
theorem dX10_write_2 : decode cX10_write 2 = .ok (.aload_n 0, 1) := by decide +kernel
theorem dX10_write_3 : decode cX10_write 3 = .ok (.iconst 0, 1) := by decide +kernel
theorem dX10_write_4 : decode cX10_write 4 = .ok (.putfield 24, 3) := by decide +kernel
theorem dX10_write_7 : decode cX10_write 7 = .ok (.iconst 0, 1) := by decide +kernel
theorem dX10_write_8 : decode cX10_write 8 = .ok (.istore 4, 2) := by decide +kernel
theorem dX10_write_10 : decode cX10_write 10 = .ok (.iload 4, 2) := by decide +kernel
theorem dX10_write_12 : decode cX10_write 12 = .ok (.aload_n 2, 1) := by decide +kernel
theorem dX10_write_13 : decode cX10_write 13 = .ok (.getfield 66, 3) := by decide +kernel
theorem dX10_write_16 : decode cX10_write 16 = .ok (.if_icmp .ge 73, 3) := by decide +kernel
theorem dX10_write_19 : decode cX10_write 19 = .ok (.aload_n 2, 1) := by decide +kernel
theorem dX10_write_20 : decode cX10_write 20 = .ok (.iload 4, 2) := by decide +kernel
theorem dX10_write_22 : decode cX10_write 22 = .ok (.invokevirtual 69, 3) := by decide +kernel
theorem dX10_write_25 : decode cX10_write 25 = .ok (.istore 5, 2) := by decide +kernel
theorem dX10_write_27 : decode cX10_write 27 = .ok (.aload_n 1, 1) := by decide +kernel
theorem dX10_write_28 : decode cX10_write 28 = .ok (.iload 5, 2) := by decide +kernel
theorem dX10_write_30 : decode cX10_write 30 = .ok (.invokevirtual 55, 3) := by decide +kernel
theorem dX10_write_33 : decode cX10_write 33 = .ok (.istore 6, 2) := by decide +kernel
theorem dX10_write_35 : decode cX10_write 35 = .ok (.aload_n 0, 1) := by decide +kernel
theorem dX10_write_36 : decode cX10_write 36 = .ok (.iload 5, 2) := by decide +kernel
theorem dX10_write_38 : decode cX10_write 38 = .ok (.invokevirtual 72, 3) := by decide +kernel
theorem dX10_write_41 : decode cX10_write 41 = .ok (.pop, 1) := by decide +kernel
theorem dX10_write_42 : decode cX10_write 42 = .ok (.iload 6, 2) := by decide +kernel
theorem dX10_write_44 : decode cX10_write 44 = .ok (.ifCond .le 33, 3) := by decide +kernel
theorem dX10_write_47 : decode cX10_write 47 = .ok (.iload_n 3, 1) := by decide +kernel
theorem dX10_write_48 : decode cX10_write 48 = .ok (.aload_n 0, 1) := by decide +kernel
theorem dX10_write_49 : decode cX10_write 49 = .ok (.getfield 21, 3) := by decide +kernel
theorem dX10_write_52 : decode cX10_write 52 = .ok (.arraylength, 1) := by decide +kernel
theorem dX10_write_53 : decode cX10_write 53 = .ok (.if_icmp .ge 24, 3) := by decide +kernel
theorem dX10_write_56 : decode cX10_write 56 = .ok (.aload_n 0, 1) := by decide +kernel
theorem dX10_write_57 : decode cX10_write 57 = .ok (.bipush 40, 2) := by decide +kernel
theorem dX10_write_59 : decode cX10_write 59 = .ok (.invokevirtual 72, 3) := by decide +kernel
theorem dX10_write_62 : decode cX10_write 62 = .ok (.pop, 1) := by decide +kernel
theorem dX10_write_63 : decode cX10_write 63 = .ok (.aload_n 0, 1) := by decide +kernel
theorem dX10_write_64 : decode cX10_write 64 = .ok (.getfield 21, 3) := by decide +kernel
theorem dX10_write_67 : decode cX10_write 67 = .ok (.iload_n 3, 1) := by decide +kernel
theorem dX10_write_68 : decode cX10_write 68 = .ok (.iload 6, 2) := by decide +kernel
theorem dX10_write_70 : decode cX10_write 70 = .ok (.iastore, 1) := by decide +kernel
theorem dX10_write_71 : decode cX10_write 71 = .ok (.iinc 3 1, 3) := by decide +kernel
theorem dX10_write_74 : decode cX10_write 74 = .ok (.goto 9, 3) := by decide +kernel
theorem dX10_write_77 : decode cX10_write 77 = .ok (.aload_n 0, 1) := by decide +kernel
theorem dX10_write_78 : decode cX10_write 78 = .ok (.iload_n 3, 1) := by decide +kernel
theorem dX10_write_79 : decode cX10_write 79 = .ok (.invokevirtual 74, 3) := by decide +kernel
theorem dX10_write_82 : decode cX10_write 82 = .ok (.istore_n 3, 1) := by decide +kernel
theorem dX10_write_83 : decode cX10_write 83 = .ok (.iinc 4 1, 3) := by decide +kernel
theorem dX10_write_86 : decode cX10_write 86 = .ok (.goto (-76), 3) := by decide +kernel
theorem dX10_write_89 : decode cX10_write 89 = .ok (.return_, 1) := by decide +kernel
theorem dX10_writeBehindArgument_0 : decode cX10_writeBehindArgument 0 = .ok (.iload_n 1, 1) := by decide +kernel
theorem dX10_writeBehindArgument_1 : decode cX10_writeBehindArgument 1 = .ok (.aload_n 0, 1) := by decide +kernel
theorem dX10_writeBehindArgument_2 : decode cX10_writeBehindArgument 2 = .ok (.getfield 21, 3) := by decide +kernel
theorem dX10_writeBehindArgument_5 : decode cX10_writeBehindArgument 5 = .ok (.arraylength, 1) := by decide +kernel
theorem dX10_writeBehindArgument_6 : decode cX10_writeBehindArgument 6 = .ok (.invokestatic 63, 3) := by decide +kernel
theorem dX10_writeBehindArgument_9 : decode cX10_writeBehindArgument 9 = .ok (.iconst 1, 1) := by decide +kernel
theorem dX10_writeBehindArgument_10 : decode cX10_writeBehindArgument 10 = .ok (.isub, 1) := by decide +kernel
theorem dX10_writeBehindArgument_11 : decode cX10_writeBehindArgument 11 = .ok (.istore_n 2, 1) := by decide +kernel
theorem dX10_writeBehindArgument_12 : decode cX10_writeBehindArgument 12 = .ok (.iload_n 2, 1) := by decide +kernel
theorem dX10_writeBehindArgument_13 : decode cX10_writeBehindArgument 13 = .ok (.ifCond .lt 46, 3) := by decide +kernel
theorem dX10_writeBehindArgument_16 : decode cX10_writeBehindArgument 16 = .ok (.aload_n 0, 1) := by decide +kernel
theorem dX10_writeBehindArgument_17 : decode cX10_writeBehindArgument 17 = .ok (.getfield 21, 3) := by decide +kernel
theorem dX10_writeBehindArgument_20 : decode cX10_writeBehindArgument 20 = .ok (.iload_n 2, 1) := by decide +kernel
theorem dX10_writeBehindArgument_21 : decode cX10_writeBehindArgument 21 = .ok (.dup2, 1) := by decide +kernel
theorem dX10_writeBehindArgument_22 : decode cX10_writeBehindArgument 22 = .ok (.iaload, 1) := by decide +kernel
theorem dX10_writeBehindArgument_23 : decode cX10_writeBehindArgument 23 = .ok (.iconst 1, 1) := by decide +kernel
theorem dX10_writeBehindArgument_24 : decode cX10_writeBehindArgument 24 = .ok (.isub, 1) := by decide +kernel
theorem dX10_writeBehindArgument_25 : decode cX10_writeBehindArgument 25 = .ok (.iastore, 1) := by decide +kernel
theorem dX10_writeBehindArgument_26 : decode cX10_writeBehindArgument 26 = .ok (.aload_n 0, 1) := by decide +kernel
theorem dX10_writeBehindArgument_27 : decode cX10_writeBehindArgument 27 = .ok (.getfield 21, 3) := by decide +kernel
theorem dX10_writeBehindArgument_30 : decode cX10_writeBehindArgument 30 = .ok (.iload_n 2, 1) := by decide +kernel
theorem dX10_writeBehindArgument_31 : decode cX10_writeBehindArgument 31 = .ok (.iaload, 1) := by decide +kernel
theorem dX10_writeBehindArgument_32 : decode cX10_writeBehindArgument 32 = .ok (.ifCond .le 14, 3) := by decide +kernel
theorem dX10_writeBehindArgument_35 : decode cX10_writeBehindArgument 35 = .ok (.aload_n 0, 1) := by decide +kernel
theorem dX10_writeBehindArgument_36 : decode cX10_writeBehindArgument 36 = .ok (.bipush 44, 2) := by decide +kernel
theorem dX10_writeBehindArgument_38 : decode cX10_writeBehindArgument 38 = .ok (.invokevirtual 72, 3) := by decide +kernel
theorem dX10_writeBehindArgument_41 : decode cX10_writeBehindArgument 41 = .ok (.pop, 1) := by decide +kernel
theorem dX10_writeBehindArgument_42 : decode cX10_writeBehindArgument 42 = .ok (.iload_n 2, 1) := by decide +kernel
theorem dX10_writeBehindArgument_43 : decode cX10_writeBehindArgument 43 = .ok (.iconst 1, 1) := by decide +kernel
theorem dX10_writeBehindArgument_44 : decode cX10_writeBehindArgument 44 = .ok (.iadd, 1) := by decide +kernel
theorem dX10_writeBehindArgument_45 : decode cX10_writeBehindArgument 45 = .ok (.ireturn, 1) := by decide +kernel
theorem dX10_writeBehindArgument_46 : decode cX10_writeBehindArgument 46 = .ok (.aload_n 0, 1) := by decide +kernel
theorem dX10_writeBehindArgument_47 : decode cX10_writeBehindArgument 47 = .ok (.bipush 41, 2) := by decide +kernel
theorem dX10_writeBehindArgument_49 : decode cX10_writeBehindArgument 49 = .ok (.invokevirtual 72, 3) := by decide +kernel
theorem dX10_writeBehindArgument_52 : decode cX10_writeBehindArgument 52 = .ok (.pop, 1) := by decide +kernel
theorem dX10_writeBehindArgument_53 : decode cX10_writeBehindArgument 53 = .ok (.iinc 2 (-1), 3) := by decide +kernel
theorem dX10_writeBehindArgument_56 : decode cX10_writeBehindArgument 56 = .ok (.goto (-44), 3) := by decide +kernel
theorem dX10_writeBehindArgument_59 : decode cX10_writeBehindArgument 59 = .ok (.iconst 0, 1) := by decide +kernel
theorem dX10_writeBehindArgument_60 : decode cX10_writeBehindArgument 60 = .ok (.ireturn, 1) := by decide +kernel
theorem dX11_init_0 : decode cX11_init 0 = .ok (.aload_n 0, 1) := by decide +kernel
theorem dX11_init_1 : decode cX11_init 1 = .ok (.invokespecial 3, 3) := by decide +kernel
theorem dX11_init_4 : decode cX11_init 4 = .ok (.aload_n 0, 1) := by decide +kernel
theorem dX11_init_5 : decode cX11_init 5 = .ok (.new 9, 3) := by decide +kernel
theorem dX11_init_8 : decode cX11_init 8 = .ok (.dup, 1) := by decide +kernel
theorem dX11_init_9 : decode cX11_init 9 = .ok (.invokespecial 11, 3) := by decide +kernel
theorem dX11_init_12 : decode cX11_init 12 = .ok (.putfield 12, 3) := by decide +kernel
theorem dX11_init_15 : decode cX11_init 15 = .ok (.aload_n 0, 1) := by decide +kernel
theorem dX11_init_16 : decode cX11_init 16 = .ok (.new 9, 3) := by decide +kernel
theorem dX11_init_19 : decode cX11_init 19 = .ok (.dup, 1) := by decide +kernel
theorem dX11_init_20 : decode cX11_init 20 = .ok (.invokespecial 11, 3) := by decide +kernel
theorem dX11_init_23 : decode cX11_init 23 = .ok (.putfield 16, 3) := by decide +kernel
theorem dX11_init_26 : decode cX11_init 26 = .ok (.aload_n 0, 1) := by decide +kernel
theorem dX11_init_27 : decode cX11_init 27 = .ok (.new 19, 3) := by decide +kernel
theorem dX11_init_30 : decode cX11_init 30 = .ok (.dup, 1) := by decide +kernel
theorem dX11_init_31 : decode cX11_init 31 = .ok (.bipush 80, 2) := by decide +kernel
theorem dX11_init_33 : decode cX11_init 33 = .ok (.invokespecial 21, 3) := by decide +kernel
theorem dX11_init_36 : decode cX11_init 36 = .ok (.putfield 24, 3) := by decide +kernel
theorem dX11_init_39 : decode cX11_init 39 = .ok (.aload_n 0, 1) := by decide +kernel
theorem dX11_init_40 : decode cX11_init 40 = .ok (.new 19, 3) := by decide +kernel
theorem dX11_init_43 : decode cX11_init 43 = .ok (.dup, 1) := by decide +kernel
theorem dX11_init_44 : decode cX11_init 44 = .ok (.sipush 160, 3) := by decide +kernel
theorem dX11_init_47 : decode cX11_init 47 = .ok (.invokespecial 21, 3) := by decide +kernel
theorem dX11_init_50 : decode cX11_init 50 = .ok (.putfield 28, 3) := by decide +kernel
theorem dX11_init_53 : decode cX11_init 53 = .ok (.aload_n 0, 1) := by decide +kernel
theorem dX11_init_54 : decode cX11_init 54 = .ok (.new 31, 3) := by decide +kernel
theorem dX11_init_57 : decode cX11_init 57 = .ok (.dup, 1) := by decide +kernel
theorem dX11_init_58 : decode cX11_init 58 = .ok (.invokespecial 33, 3) := by decide +kernel
theorem dX11_init_61 : decode cX11_init 61 = .ok (.putfield 34, 3) := by decide +kernel
theorem dX11_init_64 : decode cX11_init 64 = .ok (.aload_n 0, 1) := by decide +kernel
theorem dX11_init_65 : decode cX11_init 65 = .ok (.new 38, 3) := by decide +kernel
theorem dX11_init_68 : decode cX11_init 68 = .ok (.dup, 1) := by decide +kernel
theorem dX11_init_69 : decode cX11_init 69 = .ok (.invokespecial 40, 3) := by decide +kernel
theorem dX11_init_72 : decode cX11_init 72 = .ok (.putfield 41, 3) := by decide +kernel
theorem dX11_init_75 : decode cX11_init 75 = .ok (.aload_n 0, 1) := by decide +kernel
theorem dX11_init_76 : decode cX11_init 76 = .ok (.new 45, 3) := by decide +kernel
theorem dX11_init_79 : decode cX11_init 79 = .ok (.dup, 1) := by decide +kernel
theorem dX11_init_80 : decode cX11_init 80 = .ok (.invokespecial 47, 3) := by decide +kernel
theorem dX11_init_83 : decode cX11_init 83 = .ok (.putfield 48, 3) := by decide +kernel
theorem dX11_init_86 : decode cX11_init 86 = .ok (.aload_n 0, 1) := by decide +kernel
theorem dX11_init_87 : decode cX11_init 87 = .ok (.new 52, 3) := by decide +kernel
theorem dX11_init_90 : decode cX11_init 90 = .ok (.dup, 1) := by decide +kernel
theorem dX11_init_91 : decode cX11_init 91 = .ok (.invokespecial 54, 3) := by decide +kernel
theorem dX11_init_94 : decode cX11_init 94 = .ok (.putfield 55, 3) := by decide +kernel
theorem dX11_init_97 : decode cX11_init 97 = .ok (.aload_n 0, 1) := by decide +kernel
theorem dX11_init_98 : decode cX11_init 98 = .ok (.new 59, 3) := by decide +kernel
theorem dX11_init_101 : decode cX11_init 101 = .ok (.dup, 1) := by decide +kernel
theorem dX11_init_102 : decode cX11_init 102 = .ok (.invokespecial 61, 3) := by decide +kernel
theorem dX11_init_105 : decode cX11_init 105 = .ok (.putfield 62, 3) := by decide +kernel
theorem dX11_init_108 : decode cX11_init 108 = .ok (.aload_n 0, 1) := by decide +kernel
theorem dX11_init_109 : decode cX11_init 109 = .ok (.new 66, 3) := by decide +kernel
theorem dX11_init_112 : decode cX11_init 112 = .ok (.dup, 1) := by decide +kernel
theorem dX11_init_113 : decode cX11_init 113 = .ok (.invokespecial 68, 3) := by decide +kernel
theorem dX11_init_116 : decode cX11_init 116 = .ok (.putfield 69, 3) := by decide +kernel
theorem dX11_init_119 : decode cX11_init 119 = .ok (.aload_n 0, 1) := by decide +kernel
theorem dX11_init_120 : decode cX11_init 120 = .ok (.new 73, 3) := by decide +kernel
theorem dX11_init_123 : decode cX11_init 123 = .ok (.dup, 1) := by decide +kernel
theorem dX11_init_124 : decode cX11_init 124 = .ok (.invokespecial 75, 3) := by decide +kernel
theorem dX11_init_127 : decode cX11_init 127 = .ok (.putfield 76, 3) := by decide +kernel
theorem dX11_init_130 : decode cX11_init 130 = .ok (.return_, 1) := by decide +kernel
theorem dX11_setArity_0 : decode cX11_setArity 0 = .ok (.iload_n 1, 1) := by decide +kernel
theorem dX11_setArity_1 : decode cX11_setArity 1 = .ok (.invokestatic 80, 3) := by decide +kernel
theorem dX11_setArity_4 : decode cX11_setArity 4 = .ok (.ifCond .ne 5, 3) := by decide +kernel
theorem dX11_setArity_7 : decode cX11_setArity 7 = .ok (.iconst (-1), 1) := by decide +kernel
theorem dX11_setArity_8 : decode cX11_setArity 8 = .ok (.ireturn, 1) := by decide +kernel
theorem dX11_setArity_9 : decode cX11_setArity 9 = .ok (.iload_n 2, 1) := by decide +kernel
theorem dX11_setArity_10 : decode cX11_setArity 10 = .ok (.iconst 1, 1) := by decide +kernel
theorem dX11_setArity_11 : decode cX11_setArity 11 = .ok (.if_icmp .lt 8, 3) := by decide +kernel
theorem dX11_setArity_14 : decode cX11_setArity 14 = .ok (.iload_n 2, 1) := by decide +kernel
theorem dX11_setArity_15 : decode cX11_setArity 15 = .ok (.iconst 3, 1) := by decide +kernel
theorem dX11_setArity_16 : decode cX11_setArity 16 = .ok (.if_icmp .le 6, 3) := by decide +kernel
theorem dX11_setArity_19 : decode cX11_setArity 19 = .ok (.bipush (-2), 2) := by decide +kernel
theorem dX11_setArity_21 : decode cX11_setArity 21 = .ok (.ireturn, 1) := by decide +kernel
theorem dX11_setArity_22 : decode cX11_setArity 22 = .ok (.aload_n 0, 1) := by decide +kernel
theorem dX11_setArity_23 : decode cX11_setArity 23 = .ok (.getfield 12, 3) := by decide +kernel
theorem dX11_setArity_26 : decode cX11_setArity 26 = .ok (.getfield 84, 3) := by decide +kernel
theorem dX11_setArity_29 : decode cX11_setArity 29 = .ok (.ifCond .le 6, 3) := by decide +kernel
theorem dX11_setArity_32 : decode cX11_setArity 32 = .ok (.bipush (-3), 2) := by decide +kernel
theorem dX11_setArity_34 : decode cX11_setArity 34 = .ok (.ireturn, 1) := by decide +kernel
theorem dX11_setArity_35 : decode cX11_setArity 35 = .ok (.aload_n 0, 1) := by decide +kernel
theorem dX11_setArity_36 : decode cX11_setArity 36 = .ok (.getfield 12, 3) := by decide +kernel
theorem dX11_setArity_39 : decode cX11_setArity 39 = .ok (.getfield 88, 3) := by decide +kernel
theorem dX11_setArity_42 : decode cX11_setArity 42 = .ok (.iload_n 1, 1) := by decide +kernel
theorem dX11_setArity_43 : decode cX11_setArity 43 = .ok (.invokevirtual 92, 3) := by decide +kernel
theorem dX11_setArity_46 : decode cX11_setArity 46 = .ok (.istore_n 3, 1) := by decide +kernel
theorem dX11_setArity_47 : decode cX11_setArity 47 = .ok (.aload_n 0, 1) := by decide +kernel
theorem dX11_setArity_48 : decode cX11_setArity 48 = .ok (.getfield 12, 3) := by decide +kernel
theorem dX11_setArity_51 : decode cX11_setArity 51 = .ok (.getfield 88, 3) := by decide +kernel
theorem dX11_setArity_54 : decode cX11_setArity 54 = .ok (.iload_n 1, 1) := by decide +kernel
theorem dX11_setArity_55 : decode cX11_setArity 55 = .ok (.iload_n 2, 1) := by decide +kernel
theorem dX11_setArity_56 : decode cX11_setArity 56 = .ok (.invokevirtual 98, 3) := by decide +kernel
theorem dX11_setArity_59 : decode cX11_setArity 59 = .ok (.aload_n 0, 1) := by decide +kernel
theorem dX11_setArity_60 : decode cX11_setArity 60 = .ok (.getfield 12, 3) := by decide +kernel
theorem dX11_setArity_63 : decode cX11_setArity 63 = .ok (.iload_n 1, 1) := by decide +kernel
theorem dX11_setArity_64 : decode cX11_setArity 64 = .ok (.invokestatic 102, 3) := by decide +kernel
theorem dX11_setArity_67 : decode cX11_setArity 67 = .ok (.invokevirtual 105, 3) := by decide +kernel
theorem dX11_setArity_70 : decode cX11_setArity 70 = .ok (.iload_n 3, 1) := by decide +kernel
theorem dX11_setArity_71 : decode cX11_setArity 71 = .ok (.ireturn, 1) := by decide +kernel
theorem dX11_arity_0 : decode cX11_arity 0 = .ok (.iload_n 1, 1) := by decide +kernel
theorem dX11_arity_1 : decode cX11_arity 1 = .ok (.invokestatic 80, 3) := by decide +kernel
theorem dX11_arity_4 : decode cX11_arity 4 = .ok (.ifCond .eq 17, 3) := by decide +kernel
theorem dX11_arity_7 : decode cX11_arity 7 = .ok (.aload_n 0, 1) := by decide +kernel
theorem dX11_arity_8 : decode cX11_arity 8 = .ok (.getfield 12, 3) := by decide +kernel
theorem dX11_arity_11 : decode cX11_arity 11 = .ok (.getfield 88, 3) := by decide +kernel
theorem dX11_arity_14 : decode cX11_arity 14 = .ok (.iload_n 1, 1) := by decide +kernel
theorem dX11_arity_15 : decode cX11_arity 15 = .ok (.invokevirtual 92, 3) := by decide +kernel
theorem dX11_arity_18 : decode cX11_arity 18 = .ok (.goto 4, 3) := by decide +kernel
theorem dX11_arity_21 : decode cX11_arity 21 = .ok (.iconst (-1), 1) := by decide +kernel
theorem dX11_arity_22 : decode cX11_arity 22 = .ok (.ireturn, 1) := by decide +kernel
theorem dX11_addRule_0 : decode cX11_addRule 0 = .ok (.aload_n 0, 1) := by decide +kernel
theorem dX11_addRule_1 : decode cX11_addRule 1 = .ok (.getfield 12, 3) := by decide +kernel
theorem dX11_addRule_4 : decode cX11_addRule 4 = .ok (.getfield 84, 3) := by decide +kernel
theorem dX11_addRule_7 : decode cX11_addRule 7 = .ok (.bipush 6, 2) := by decide +kernel
theorem dX11_addRule_9 : decode cX11_addRule 9 = .ok (.if_icmp .lt 6, 3) := by decide +kernel
theorem dX11_addRule_12 : decode cX11_addRule 12 = .ok (.bipush (-4), 2) := by decide +kernel
theorem dX11_addRule_14 : decode cX11_addRule 14 = .ok (.ireturn, 1) := by decide +kernel
theorem dX11_addRule_15 : decode cX11_addRule 15 = .ok (.aload_n 0, 1) := by decide +kernel
theorem dX11_addRule_16 : decode cX11_addRule 16 = .ok (.getfield 12, 3) := by decide +kernel
theorem dX11_addRule_19 : decode cX11_addRule 19 = .ok (.aload_n 0, 1) := by decide +kernel
theorem dX11_addRule_20 : decode cX11_addRule 20 = .ok (.getfield 12, 3) := by decide +kernel
theorem dX11_addRule_23 : decode cX11_addRule 23 = .ok (.getfield 84, 3) := by decide +kernel
theorem dX11_addRule_26 : decode cX11_addRule 26 = .ok (.invokevirtual 108, 3) := by decide +kernel
theorem dX11_addRule_29 : decode cX11_addRule 29 = .ok (.astore_n 1, 1) := by decide +kernel
theorem dX11_addRule_30 : decode cX11_addRule 30 = .ok (.aload_n 0, 1) := by decide +kernel
theorem dX11_addRule_31 : decode cX11_addRule 31 = .ok (.getfield 12, 3) := by decide +kernel
theorem dX11_addRule_34 : decode cX11_addRule 34 = .ok (.aload_n 0, 1) := by decide +kernel
theorem dX11_addRule_35 : decode cX11_addRule 35 = .ok (.getfield 12, 3) := by decide +kernel
theorem dX11_addRule_38 : decode cX11_addRule 38 = .ok (.getfield 84, 3) := by decide +kernel
theorem dX11_addRule_41 : decode cX11_addRule 41 = .ok (.invokevirtual 112, 3) := by decide +kernel
theorem dX11_addRule_44 : decode cX11_addRule 44 = .ok (.astore_n 2, 1) := by decide +kernel
theorem dX11_addRule_45 : decode cX11_addRule 45 = .ok (.aload_n 0, 1) := by decide +kernel
theorem dX11_addRule_46 : decode cX11_addRule 46 = .ok (.getfield 24, 3) := by decide +kernel
theorem dX11_addRule_49 : decode cX11_addRule 49 = .ok (.aload_n 0, 1) := by decide +kernel
theorem dX11_addRule_50 : decode cX11_addRule 50 = .ok (.getfield 12, 3) := by decide +kernel
theorem dX11_addRule_53 : decode cX11_addRule 53 = .ok (.getfield 88, 3) := by decide +kernel
theorem dX11_addRule_56 : decode cX11_addRule 56 = .ok (.aload_n 1, 1) := by decide +kernel
theorem dX11_addRule_57 : decode cX11_addRule 57 = .ok (.aload_n 2, 1) := by decide +kernel
theorem dX11_addRule_58 : decode cX11_addRule 58 = .ok (.invokevirtual 115, 3) := by decide +kernel
theorem dX11_addRule_61 : decode cX11_addRule 61 = .ok (.istore_n 3, 1) := by decide +kernel
theorem dX11_addRule_62 : decode cX11_addRule 62 = .ok (.aload_n 0, 1) := by decide +kernel
theorem dX11_addRule_63 : decode cX11_addRule 63 = .ok (.getfield 24, 3) := by decide +kernel
theorem dX11_addRule_66 : decode cX11_addRule 66 = .ok (.getfield 119, 3) := by decide +kernel
theorem dX11_addRule_69 : decode cX11_addRule 69 = .ok (.istore 4, 2) := by decide +kernel
theorem dX11_addRule_71 : decode cX11_addRule 71 = .ok (.aload_n 0, 1) := by decide +kernel
theorem dX11_addRule_72 : decode cX11_addRule 72 = .ok (.getfield 24, 3) := by decide +kernel
theorem dX11_addRule_75 : decode cX11_addRule 75 = .ok (.invokevirtual 122, 3) := by decide +kernel
theorem dX11_addRule_78 : decode cX11_addRule 78 = .ok (.iload_n 3, 1) := by decide +kernel
theorem dX11_addRule_79 : decode cX11_addRule 79 = .ok (.ifCond .ne 9, 3) := by decide +kernel
theorem dX11_addRule_82 : decode cX11_addRule 82 = .ok (.bipush (-100), 2) := by decide +kernel
theorem dX11_addRule_84 : decode cX11_addRule 84 = .ok (.iload 4, 2) := by decide +kernel
theorem dX11_addRule_86 : decode cX11_addRule 86 = .ok (.isub, 1) := by decide +kernel
theorem dX11_addRule_87 : decode cX11_addRule 87 = .ok (.ireturn, 1) := by decide +kernel
theorem dX11_addRule_88 : decode cX11_addRule 88 = .ok (.aload_n 1, 1) := by decide +kernel
theorem dX11_addRule_89 : decode cX11_addRule 89 = .ok (.aload_n 2, 1) := by decide +kernel
theorem dX11_addRule_90 : decode cX11_addRule 90 = .ok (.invokestatic 125, 3) := by decide +kernel
theorem dX11_addRule_93 : decode cX11_addRule 93 = .ok (.ifCond .ne 6, 3) := by decide +kernel
theorem dX11_addRule_96 : decode cX11_addRule 96 = .ok (.bipush (-6), 2) := by decide +kernel
theorem dX11_addRule_98 : decode cX11_addRule 98 = .ok (.ireturn, 1) := by decide +kernel
theorem dX11_addRule_99 : decode cX11_addRule 99 = .ok (.aload_n 0, 1) := by decide +kernel
theorem dX11_addRule_100 : decode cX11_addRule 100 = .ok (.getfield 12, 3) := by decide +kernel
theorem dX11_addRule_103 : decode cX11_addRule 103 = .ok (.dup, 1) := by decide +kernel
theorem dX11_addRule_104 : decode cX11_addRule 104 = .ok (.getfield 84, 3) := by decide +kernel
theorem dX11_addRule_107 : decode cX11_addRule 107 = .ok (.iconst 1, 1) := by decide +kernel
theorem dX11_addRule_108 : decode cX11_addRule 108 = .ok (.iadd, 1) := by decide +kernel
theorem dX11_addRule_109 : decode cX11_addRule 109 = .ok (.putfield 84, 3) := by decide +kernel
theorem dX11_addRule_112 : decode cX11_addRule 112 = .ok (.aload_n 0, 1) := by decide +kernel
theorem dX11_addRule_113 : decode cX11_addRule 113 = .ok (.invokevirtual 129, 3) := by decide +kernel
theorem dX11_addRule_116 : decode cX11_addRule 116 = .ok (.aload_n 0, 1) := by decide +kernel
theorem dX11_addRule_117 : decode cX11_addRule 117 = .ok (.getfield 12, 3) := by decide +kernel
theorem dX11_addRule_120 : decode cX11_addRule 120 = .ok (.getfield 84, 3) := by decide +kernel
theorem dX11_addRule_123 : decode cX11_addRule 123 = .ok (.iconst 1, 1) := by decide +kernel
theorem dX11_addRule_124 : decode cX11_addRule 124 = .ok (.isub, 1) := by decide +kernel
theorem dX11_addRule_125 : decode cX11_addRule 125 = .ok (.ireturn, 1) := by decide +kernel
theorem dX11_removeRule_0 : decode cX11_removeRule 0 = .ok (.aload_n 0, 1) := by decide +kernel
theorem dX11_removeRule_1 : decode cX11_removeRule 1 = .ok (.iload_n 1, 1) := by decide +kernel
theorem dX11_removeRule_2 : decode cX11_removeRule 2 = .ok (.invokevirtual 132, 3) := by decide +kernel
theorem dX11_removeRule_5 : decode cX11_removeRule 5 = .ok (.ifCond .ne 5, 3) := by decide +kernel
theorem dX11_removeRule_8 : decode cX11_removeRule 8 = .ok (.iconst (-1), 1) := by decide +kernel
theorem dX11_removeRule_9 : decode cX11_removeRule 9 = .ok (.ireturn, 1) := by decide +kernel
theorem dX11_removeRule_10 : decode cX11_removeRule 10 = .ok (.aload_n 0, 1) := by decide +kernel
theorem dX11_removeRule_11 : decode cX11_removeRule 11 = .ok (.getfield 12, 3) := by decide +kernel
theorem dX11_removeRule_14 : decode cX11_removeRule 14 = .ok (.iload_n 1, 1) := by decide +kernel
theorem dX11_removeRule_15 : decode cX11_removeRule 15 = .ok (.invokevirtual 135, 3) := by decide +kernel
theorem dX11_removeRule_18 : decode cX11_removeRule 18 = .ok (.aload_n 0, 1) := by decide +kernel
theorem dX11_removeRule_19 : decode cX11_removeRule 19 = .ok (.invokevirtual 129, 3) := by decide +kernel
theorem dX11_removeRule_22 : decode cX11_removeRule 22 = .ok (.aload_n 0, 1) := by decide +kernel
theorem dX11_removeRule_23 : decode cX11_removeRule 23 = .ok (.getfield 12, 3) := by decide +kernel
theorem dX11_removeRule_26 : decode cX11_removeRule 26 = .ok (.getfield 84, 3) := by decide +kernel
theorem dX11_removeRule_29 : decode cX11_removeRule 29 = .ok (.ireturn, 1) := by decide +kernel
theorem dX11_ruleCount_0 : decode cX11_ruleCount 0 = .ok (.aload_n 0, 1) := by decide +kernel
theorem dX11_ruleCount_1 : decode cX11_ruleCount 1 = .ok (.getfield 12, 3) := by decide +kernel
theorem dX11_ruleCount_4 : decode cX11_ruleCount 4 = .ok (.getfield 84, 3) := by decide +kernel
theorem dX11_ruleCount_7 : decode cX11_ruleCount 7 = .ok (.ireturn, 1) := by decide +kernel
theorem dX11_leftSize_0 : decode cX11_leftSize 0 = .ok (.aload_n 0, 1) := by decide +kernel
theorem dX11_leftSize_1 : decode cX11_leftSize 1 = .ok (.iload_n 1, 1) := by decide +kernel
theorem dX11_leftSize_2 : decode cX11_leftSize 2 = .ok (.invokevirtual 132, 3) := by decide +kernel
theorem dX11_leftSize_5 : decode cX11_leftSize 5 = .ok (.ifCond .eq 17, 3) := by decide +kernel
theorem dX11_leftSize_8 : decode cX11_leftSize 8 = .ok (.aload_n 0, 1) := by decide +kernel
theorem dX11_leftSize_9 : decode cX11_leftSize 9 = .ok (.getfield 12, 3) := by decide +kernel
theorem dX11_leftSize_12 : decode cX11_leftSize 12 = .ok (.iload_n 1, 1) := by decide +kernel
theorem dX11_leftSize_13 : decode cX11_leftSize 13 = .ok (.invokevirtual 108, 3) := by decide +kernel
theorem dX11_leftSize_16 : decode cX11_leftSize 16 = .ok (.getfield 138, 3) := by decide +kernel
theorem dX11_leftSize_19 : decode cX11_leftSize 19 = .ok (.goto 4, 3) := by decide +kernel
theorem dX11_leftSize_22 : decode cX11_leftSize 22 = .ok (.iconst (-1), 1) := by decide +kernel
theorem dX11_leftSize_23 : decode cX11_leftSize 23 = .ok (.ireturn, 1) := by decide +kernel
theorem dX11_rightSize_0 : decode cX11_rightSize 0 = .ok (.aload_n 0, 1) := by decide +kernel
theorem dX11_rightSize_1 : decode cX11_rightSize 1 = .ok (.iload_n 1, 1) := by decide +kernel
theorem dX11_rightSize_2 : decode cX11_rightSize 2 = .ok (.invokevirtual 132, 3) := by decide +kernel
theorem dX11_rightSize_5 : decode cX11_rightSize 5 = .ok (.ifCond .eq 17, 3) := by decide +kernel
theorem dX11_rightSize_8 : decode cX11_rightSize 8 = .ok (.aload_n 0, 1) := by decide +kernel
theorem dX11_rightSize_9 : decode cX11_rightSize 9 = .ok (.getfield 12, 3) := by decide +kernel
theorem dX11_rightSize_12 : decode cX11_rightSize 12 = .ok (.iload_n 1, 1) := by decide +kernel
theorem dX11_rightSize_13 : decode cX11_rightSize 13 = .ok (.invokevirtual 112, 3) := by decide +kernel
theorem dX11_rightSize_16 : decode cX11_rightSize 16 = .ok (.getfield 138, 3) := by decide +kernel
theorem dX11_rightSize_19 : decode cX11_rightSize 19 = .ok (.goto 4, 3) := by decide +kernel
theorem dX11_rightSize_22 : decode cX11_rightSize 22 = .ok (.iconst (-1), 1) := by decide +kernel
theorem dX11_rightSize_23 : decode cX11_rightSize 23 = .ok (.ireturn, 1) := by decide +kernel
theorem dX11_pairCount_0 : decode cX11_pairCount 0 = .ok (.aload_n 0, 1) := by decide +kernel
theorem dX11_pairCount_1 : decode cX11_pairCount 1 = .ok (.invokevirtual 141, 3) := by decide +kernel
theorem dX11_pairCount_4 : decode cX11_pairCount 4 = .ok (.getfield 145, 3) := by decide +kernel
theorem dX11_pairCount_7 : decode cX11_pairCount 7 = .ok (.ireturn, 1) := by decide +kernel
theorem dX11_pairRule_0 : decode cX11_pairRule 0 = .ok (.aload_n 0, 1) := by decide +kernel
theorem dX11_pairRule_1 : decode cX11_pairRule 1 = .ok (.iload_n 1, 1) := by decide +kernel
theorem dX11_pairRule_2 : decode cX11_pairRule 2 = .ok (.invokevirtual 148, 3) := by decide +kernel
theorem dX11_pairRule_5 : decode cX11_pairRule 5 = .ok (.ifCond .eq 14, 3) := by decide +kernel
theorem dX11_pairRule_8 : decode cX11_pairRule 8 = .ok (.aload_n 0, 1) := by decide +kernel
theorem dX11_pairRule_9 : decode cX11_pairRule 9 = .ok (.invokevirtual 141, 3) := by decide +kernel
theorem dX11_pairRule_12 : decode cX11_pairRule 12 = .ok (.iload_n 1, 1) := by decide +kernel
theorem dX11_pairRule_13 : decode cX11_pairRule 13 = .ok (.invokevirtual 151, 3) := by decide +kernel
theorem dX11_pairRule_16 : decode cX11_pairRule 16 = .ok (.goto 4, 3) := by decide +kernel
theorem dX11_pairRule_19 : decode cX11_pairRule 19 = .ok (.iconst (-1), 1) := by decide +kernel
theorem dX11_pairRule_20 : decode cX11_pairRule 20 = .ok (.ireturn, 1) := by decide +kernel
theorem dX11_pairPosition_0 : decode cX11_pairPosition 0 = .ok (.aload_n 0, 1) := by decide +kernel
theorem dX11_pairPosition_1 : decode cX11_pairPosition 1 = .ok (.iload_n 1, 1) := by decide +kernel
theorem dX11_pairPosition_2 : decode cX11_pairPosition 2 = .ok (.invokevirtual 148, 3) := by decide +kernel
theorem dX11_pairPosition_5 : decode cX11_pairPosition 5 = .ok (.ifCond .eq 14, 3) := by decide +kernel
theorem dX11_pairPosition_8 : decode cX11_pairPosition 8 = .ok (.aload_n 0, 1) := by decide +kernel
theorem dX11_pairPosition_9 : decode cX11_pairPosition 9 = .ok (.invokevirtual 141, 3) := by decide +kernel
