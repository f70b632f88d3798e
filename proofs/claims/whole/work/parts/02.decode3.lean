theorem dX12_decode_10 : decode cX12_decode 10 = .ok (.aload_n 1, 1) := by decide +kernel
theorem dX12_decode_11 : decode cX12_decode 11 = .ok (.iload_n 3, 1) := by decide +kernel
theorem dX12_decode_12 : decode cX12_decode 12 = .ok (.iload_n 2, 1) := by decide +kernel
theorem dX12_decode_13 : decode cX12_decode 13 = .ok (.iconst 3, 1) := by decide +kernel
theorem dX12_decode_14 : decode cX12_decode 14 = .ok (.irem, 1) := by decide +kernel
theorem dX12_decode_15 : decode cX12_decode 15 = .ok (.iastore, 1) := by decide +kernel
theorem dX12_decode_16 : decode cX12_decode 16 = .ok (.iload_n 2, 1) := by decide +kernel
theorem dX12_decode_17 : decode cX12_decode 17 = .ok (.iconst 3, 1) := by decide +kernel
theorem dX12_decode_18 : decode cX12_decode 18 = .ok (.idiv, 1) := by decide +kernel
theorem dX12_decode_19 : decode cX12_decode 19 = .ok (.istore_n 2, 1) := by decide +kernel
theorem dX12_decode_20 : decode cX12_decode 20 = .ok (.iinc 3 1, 3) := by decide +kernel
theorem dX12_decode_23 : decode cX12_decode 23 = .ok (.goto (-19), 3) := by decide +kernel
theorem dX12_decode_26 : decode cX12_decode 26 = .ok (.return_, 1) := by decide +kernel
theorem dX12_functions_0 : decode cX12_functions 0 = .ok (.iload_n 0, 1) := by decide +kernel
theorem dX12_functions_1 : decode cX12_functions 1 = .ok (.sipush 19683, 3) := by decide +kernel
theorem dX12_functions_4 : decode cX12_functions 4 = .ok (.idiv, 1) := by decide +kernel
theorem dX12_functions_5 : decode cX12_functions 5 = .ok (.ireturn, 1) := by decide +kernel
theorem dX12_encode_0 : decode cX12_encode 0 = .ok (.iload_n 0, 1) := by decide +kernel
theorem dX12_encode_1 : decode cX12_encode 1 = .ok (.istore_n 2, 1) := by decide +kernel
theorem dX12_encode_2 : decode cX12_encode 2 = .ok (.bipush 8, 2) := by decide +kernel
theorem dX12_encode_4 : decode cX12_encode 4 = .ok (.istore_n 3, 1) := by decide +kernel
theorem dX12_encode_5 : decode cX12_encode 5 = .ok (.iload_n 3, 1) := by decide +kernel
theorem dX12_encode_6 : decode cX12_encode 6 = .ok (.ifCond .lt 17, 3) := by decide +kernel
theorem dX12_encode_9 : decode cX12_encode 9 = .ok (.iconst 3, 1) := by decide +kernel
theorem dX12_encode_10 : decode cX12_encode 10 = .ok (.iload_n 2, 1) := by decide +kernel
theorem dX12_encode_11 : decode cX12_encode 11 = .ok (.imul, 1) := by decide +kernel
theorem dX12_encode_12 : decode cX12_encode 12 = .ok (.aload_n 1, 1) := by decide +kernel
theorem dX12_encode_13 : decode cX12_encode 13 = .ok (.iload_n 3, 1) := by decide +kernel
theorem dX12_encode_14 : decode cX12_encode 14 = .ok (.iaload, 1) := by decide +kernel
theorem dX12_encode_15 : decode cX12_encode 15 = .ok (.iadd, 1) := by decide +kernel
theorem dX12_encode_16 : decode cX12_encode 16 = .ok (.istore_n 2, 1) := by decide +kernel
theorem dX12_encode_17 : decode cX12_encode 17 = .ok (.iinc 3 (-1), 3) := by decide +kernel
theorem dX12_encode_20 : decode cX12_encode 20 = .ok (.goto (-15), 3) := by decide +kernel
theorem dX12_encode_23 : decode cX12_encode 23 = .ok (.iload_n 2, 1) := by decide +kernel
theorem dX12_encode_24 : decode cX12_encode 24 = .ok (.ireturn, 1) := by decide +kernel
theorem dX12_compose_0 : decode cX12_compose 0 = .ok (.iload_n 1, 1) := by decide +kernel
theorem dX12_compose_1 : decode cX12_compose 1 = .ok (.invokestatic 233, 3) := by decide +kernel
theorem dX12_compose_4 : decode cX12_compose 4 = .ok (.iconst 3, 1) := by decide +kernel
theorem dX12_compose_5 : decode cX12_compose 5 = .ok (.irem, 1) := by decide +kernel
theorem dX12_compose_6 : decode cX12_compose 6 = .ok (.iload_n 2, 1) := by decide +kernel
theorem dX12_compose_7 : decode cX12_compose 7 = .ok (.invokestatic 233, 3) := by decide +kernel
theorem dX12_compose_10 : decode cX12_compose 10 = .ok (.iconst 3, 1) := by decide +kernel
theorem dX12_compose_11 : decode cX12_compose 11 = .ok (.idiv, 1) := by decide +kernel
theorem dX12_compose_12 : decode cX12_compose 12 = .ok (.if_icmp .eq 6, 3) := by decide +kernel
theorem dX12_compose_15 : decode cX12_compose 15 = .ok (.bipush (-5), 2) := by decide +kernel
theorem dX12_compose_17 : decode cX12_compose 17 = .ok (.ireturn, 1) := by decide +kernel
theorem dX12_compose_18 : decode cX12_compose 18 = .ok (.iload_n 1, 1) := by decide +kernel
theorem dX12_compose_19 : decode cX12_compose 19 = .ok (.aload_n 0, 1) := by decide +kernel
theorem dX12_compose_20 : decode cX12_compose 20 = .ok (.getfield 69, 3) := by decide +kernel
theorem dX12_compose_23 : decode cX12_compose 23 = .ok (.invokestatic 236, 3) := by decide +kernel
theorem dX12_compose_26 : decode cX12_compose 26 = .ok (.iload_n 2, 1) := by decide +kernel
theorem dX12_compose_27 : decode cX12_compose 27 = .ok (.aload_n 0, 1) := by decide +kernel
theorem dX12_compose_28 : decode cX12_compose 28 = .ok (.getfield 72, 3) := by decide +kernel
theorem dX12_compose_31 : decode cX12_compose 31 = .ok (.invokestatic 236, 3) := by decide +kernel
theorem dX12_compose_34 : decode cX12_compose 34 = .ok (.iconst 0, 1) := by decide +kernel
theorem dX12_compose_35 : decode cX12_compose 35 = .ok (.istore_n 3, 1) := by decide +kernel
theorem dX12_compose_36 : decode cX12_compose 36 = .ok (.iload_n 3, 1) := by decide +kernel
theorem dX12_compose_37 : decode cX12_compose 37 = .ok (.iconst 3, 1) := by decide +kernel
theorem dX12_compose_38 : decode cX12_compose 38 = .ok (.if_icmp .ge 110, 3) := by decide +kernel
theorem dX12_compose_41 : decode cX12_compose 41 = .ok (.iconst 0, 1) := by decide +kernel
theorem dX12_compose_42 : decode cX12_compose 42 = .ok (.istore 4, 2) := by decide +kernel
theorem dX12_compose_44 : decode cX12_compose 44 = .ok (.iload 4, 2) := by decide +kernel
theorem dX12_compose_46 : decode cX12_compose 46 = .ok (.iconst 3, 1) := by decide +kernel
theorem dX12_compose_47 : decode cX12_compose 47 = .ok (.if_icmp .ge 95, 3) := by decide +kernel
theorem dX12_compose_50 : decode cX12_compose 50 = .ok (.iconst 0, 1) := by decide +kernel
theorem dX12_compose_51 : decode cX12_compose 51 = .ok (.istore 5, 2) := by decide +kernel
theorem dX12_compose_53 : decode cX12_compose 53 = .ok (.iconst 0, 1) := by decide +kernel
theorem dX12_compose_54 : decode cX12_compose 54 = .ok (.istore 6, 2) := by decide +kernel
theorem dX12_compose_56 : decode cX12_compose 56 = .ok (.iload 6, 2) := by decide +kernel
theorem dX12_compose_58 : decode cX12_compose 58 = .ok (.iconst 3, 1) := by decide +kernel
theorem dX12_compose_59 : decode cX12_compose 59 = .ok (.if_icmp .ge 64, 3) := by decide +kernel
theorem dX12_compose_62 : decode cX12_compose 62 = .ok (.aload_n 0, 1) := by decide +kernel
theorem dX12_compose_63 : decode cX12_compose 63 = .ok (.getfield 69, 3) := by decide +kernel
theorem dX12_compose_66 : decode cX12_compose 66 = .ok (.iconst 3, 1) := by decide +kernel
theorem dX12_compose_67 : decode cX12_compose 67 = .ok (.iload_n 3, 1) := by decide +kernel
theorem dX12_compose_68 : decode cX12_compose 68 = .ok (.imul, 1) := by decide +kernel
theorem dX12_compose_69 : decode cX12_compose 69 = .ok (.iload 6, 2) := by decide +kernel
theorem dX12_compose_71 : decode cX12_compose 71 = .ok (.iadd, 1) := by decide +kernel
theorem dX12_compose_72 : decode cX12_compose 72 = .ok (.iaload, 1) := by decide +kernel
theorem dX12_compose_73 : decode cX12_compose 73 = .ok (.istore 7, 2) := by decide +kernel
theorem dX12_compose_75 : decode cX12_compose 75 = .ok (.aload_n 0, 1) := by decide +kernel
theorem dX12_compose_76 : decode cX12_compose 76 = .ok (.getfield 72, 3) := by decide +kernel
theorem dX12_compose_79 : decode cX12_compose 79 = .ok (.iconst 3, 1) := by decide +kernel
theorem dX12_compose_80 : decode cX12_compose 80 = .ok (.iload 6, 2) := by decide +kernel
theorem dX12_compose_82 : decode cX12_compose 82 = .ok (.imul, 1) := by decide +kernel
theorem dX12_compose_83 : decode cX12_compose 83 = .ok (.iload 4, 2) := by decide +kernel
theorem dX12_compose_85 : decode cX12_compose 85 = .ok (.iadd, 1) := by decide +kernel
theorem dX12_compose_86 : decode cX12_compose 86 = .ok (.iaload, 1) := by decide +kernel
theorem dX12_compose_87 : decode cX12_compose 87 = .ok (.istore 8, 2) := by decide +kernel
theorem dX12_compose_89 : decode cX12_compose 89 = .ok (.iload 5, 2) := by decide +kernel
theorem dX12_compose_91 : decode cX12_compose 91 = .ok (.iload 7, 2) := by decide +kernel
theorem dX12_compose_93 : decode cX12_compose 93 = .ok (.ifCond .eq 8, 3) := by decide +kernel
theorem dX12_compose_96 : decode cX12_compose 96 = .ok (.iload 8, 2) := by decide +kernel
theorem dX12_compose_98 : decode cX12_compose 98 = .ok (.ifCond .ne 7, 3) := by decide +kernel
theorem dX12_compose_101 : decode cX12_compose 101 = .ok (.iconst 0, 1) := by decide +kernel
theorem dX12_compose_102 : decode cX12_compose 102 = .ok (.goto 10, 3) := by decide +kernel
theorem dX12_compose_105 : decode cX12_compose 105 = .ok (.iload 7, 2) := by decide +kernel
theorem dX12_compose_107 : decode cX12_compose 107 = .ok (.iload 8, 2) := by decide +kernel
theorem dX12_compose_109 : decode cX12_compose 109 = .ok (.invokestatic 240, 3) := by decide +kernel
theorem dX12_compose_112 : decode cX12_compose 112 = .ok (.invokestatic 240, 3) := by decide +kernel
theorem dX12_compose_115 : decode cX12_compose 115 = .ok (.istore 5, 2) := by decide +kernel
theorem dX12_compose_117 : decode cX12_compose 117 = .ok (.iinc 6 1, 3) := by decide +kernel
theorem dX12_compose_120 : decode cX12_compose 120 = .ok (.goto (-64), 3) := by decide +kernel
theorem dX12_compose_123 : decode cX12_compose 123 = .ok (.aload_n 0, 1) := by decide +kernel
theorem dX12_compose_124 : decode cX12_compose 124 = .ok (.getfield 79, 3) := by decide +kernel
theorem dX12_compose_127 : decode cX12_compose 127 = .ok (.iconst 3, 1) := by decide +kernel
theorem dX12_compose_128 : decode cX12_compose 128 = .ok (.iload_n 3, 1) := by decide +kernel
theorem dX12_compose_129 : decode cX12_compose 129 = .ok (.imul, 1) := by decide +kernel
theorem dX12_compose_130 : decode cX12_compose 130 = .ok (.iload 4, 2) := by decide +kernel
theorem dX12_compose_132 : decode cX12_compose 132 = .ok (.iadd, 1) := by decide +kernel
theorem dX12_compose_133 : decode cX12_compose 133 = .ok (.iload 5, 2) := by decide +kernel
theorem dX12_compose_135 : decode cX12_compose 135 = .ok (.iastore, 1) := by decide +kernel
theorem dX12_compose_136 : decode cX12_compose 136 = .ok (.iinc 4 1, 3) := by decide +kernel
theorem dX12_compose_139 : decode cX12_compose 139 = .ok (.goto (-95), 3) := by decide +kernel
theorem dX12_compose_142 : decode cX12_compose 142 = .ok (.iinc 3 1, 3) := by decide +kernel
theorem dX12_compose_145 : decode cX12_compose 145 = .ok (.goto (-109), 3) := by decide +kernel
theorem dX12_compose_148 : decode cX12_compose 148 = .ok (.iload_n 1, 1) := by decide +kernel
theorem dX12_compose_149 : decode cX12_compose 149 = .ok (.invokestatic 233, 3) := by decide +kernel
theorem dX12_compose_152 : decode cX12_compose 152 = .ok (.iconst 3, 1) := by decide +kernel
theorem dX12_compose_153 : decode cX12_compose 153 = .ok (.idiv, 1) := by decide +kernel
theorem dX12_compose_154 : decode cX12_compose 154 = .ok (.iconst 3, 1) := by decide +kernel
theorem dX12_compose_155 : decode cX12_compose 155 = .ok (.imul, 1) := by decide +kernel
theorem dX12_compose_156 : decode cX12_compose 156 = .ok (.iload_n 2, 1) := by decide +kernel
theorem dX12_compose_157 : decode cX12_compose 157 = .ok (.invokestatic 233, 3) := by decide +kernel
theorem dX12_compose_160 : decode cX12_compose 160 = .ok (.iconst 3, 1) := by decide +kernel
theorem dX12_compose_161 : decode cX12_compose 161 = .ok (.irem, 1) := by decide +kernel
theorem dX12_compose_162 : decode cX12_compose 162 = .ok (.iadd, 1) := by decide +kernel
theorem dX12_compose_163 : decode cX12_compose 163 = .ok (.aload_n 0, 1) := by decide +kernel
theorem dX12_compose_164 : decode cX12_compose 164 = .ok (.getfield 79, 3) := by decide +kernel
theorem dX12_compose_167 : decode cX12_compose 167 = .ok (.invokestatic 246, 3) := by decide +kernel
theorem dX12_compose_170 : decode cX12_compose 170 = .ok (.ireturn, 1) := by decide +kernel
theorem dX12_addGraph_0 : decode cX12_addGraph 0 = .ok (.iload_n 1, 1) := by decide +kernel
theorem dX12_addGraph_1 : decode cX12_addGraph 1 = .ok (.ifCond .lt 49, 3) := by decide +kernel
theorem dX12_addGraph_4 : decode cX12_addGraph 4 = .ok (.aload_n 0, 1) := by decide +kernel
theorem dX12_addGraph_5 : decode cX12_addGraph 5 = .ok (.getfield 250, 3) := by decide +kernel
theorem dX12_addGraph_8 : decode cX12_addGraph 8 = .ok (.sipush 400, 3) := by decide +kernel
theorem dX12_addGraph_11 : decode cX12_addGraph 11 = .ok (.if_icmp .gt 39, 3) := by decide +kernel
theorem dX12_addGraph_14 : decode cX12_addGraph 14 = .ok (.aload_n 0, 1) := by decide +kernel
theorem dX12_addGraph_15 : decode cX12_addGraph 15 = .ok (.getfield 76, 3) := by decide +kernel
theorem dX12_addGraph_18 : decode cX12_addGraph 18 = .ok (.iload_n 1, 1) := by decide +kernel
theorem dX12_addGraph_19 : decode cX12_addGraph 19 = .ok (.baload, 1) := by decide +kernel
theorem dX12_addGraph_20 : decode cX12_addGraph 20 = .ok (.ifCond .ne 30, 3) := by decide +kernel
theorem dX12_addGraph_23 : decode cX12_addGraph 23 = .ok (.aload_n 0, 1) := by decide +kernel
theorem dX12_addGraph_24 : decode cX12_addGraph 24 = .ok (.getfield 76, 3) := by decide +kernel
theorem dX12_addGraph_27 : decode cX12_addGraph 27 = .ok (.iload_n 1, 1) := by decide +kernel
theorem dX12_addGraph_28 : decode cX12_addGraph 28 = .ok (.iconst 1, 1) := by decide +kernel
theorem dX12_addGraph_29 : decode cX12_addGraph 29 = .ok (.bastore, 1) := by decide +kernel
theorem dX12_addGraph_30 : decode cX12_addGraph 30 = .ok (.aload_n 0, 1) := by decide +kernel
theorem dX12_addGraph_31 : decode cX12_addGraph 31 = .ok (.getfield 66, 3) := by decide +kernel
theorem dX12_addGraph_34 : decode cX12_addGraph 34 = .ok (.aload_n 0, 1) := by decide +kernel
theorem dX12_addGraph_35 : decode cX12_addGraph 35 = .ok (.getfield 250, 3) := by decide +kernel
theorem dX12_addGraph_38 : decode cX12_addGraph 38 = .ok (.iload_n 1, 1) := by decide +kernel
theorem dX12_addGraph_39 : decode cX12_addGraph 39 = .ok (.iastore, 1) := by decide +kernel
theorem dX12_addGraph_40 : decode cX12_addGraph 40 = .ok (.aload_n 0, 1) := by decide +kernel
theorem dX12_addGraph_41 : decode cX12_addGraph 41 = .ok (.dup, 1) := by decide +kernel
theorem dX12_addGraph_42 : decode cX12_addGraph 42 = .ok (.getfield 250, 3) := by decide +kernel
theorem dX12_addGraph_45 : decode cX12_addGraph 45 = .ok (.iconst 1, 1) := by decide +kernel
theorem dX12_addGraph_46 : decode cX12_addGraph 46 = .ok (.iadd, 1) := by decide +kernel
theorem dX12_addGraph_47 : decode cX12_addGraph 47 = .ok (.putfield 250, 3) := by decide +kernel
theorem dX12_addGraph_50 : decode cX12_addGraph 50 = .ok (.return_, 1) := by decide +kernel
theorem dX12_findClosure_0 : decode cX12_findClosure 0 = .ok (.aload_n 0, 1) := by decide +kernel
theorem dX12_findClosure_1 : decode cX12_findClosure 1 = .ok (.invokevirtual 185, 3) := by decide +kernel
theorem dX12_findClosure_4 : decode cX12_findClosure 4 = .ok (.istore_n 1, 1) := by decide +kernel
theorem dX12_findClosure_5 : decode cX12_findClosure 5 = .ok (.aload_n 0, 1) := by decide +kernel
theorem dX12_findClosure_6 : decode cX12_findClosure 6 = .ok (.iconst 0, 1) := by decide +kernel
theorem dX12_findClosure_7 : decode cX12_findClosure 7 = .ok (.putfield 250, 3) := by decide +kernel
theorem dX12_findClosure_10 : decode cX12_findClosure 10 = .ok (.iconst 0, 1) := by decide +kernel
theorem dX12_findClosure_11 : decode cX12_findClosure 11 = .ok (.istore_n 2, 1) := by decide +kernel
theorem dX12_findClosure_12 : decode cX12_findClosure 12 = .ok (.iload_n 2, 1) := by decide +kernel
theorem dX12_findClosure_13 : decode cX12_findClosure 13 = .ok (.iload_n 1, 1) := by decide +kernel
theorem dX12_findClosure_14 : decode cX12_findClosure 14 = .ok (.if_icmp .ge 112, 3) := by decide +kernel
theorem dX12_findClosure_17 : decode cX12_findClosure 17 = .ok (.iconst 0, 1) := by decide +kernel
theorem dX12_findClosure_18 : decode cX12_findClosure 18 = .ok (.istore_n 3, 1) := by decide +kernel
theorem dX12_findClosure_19 : decode cX12_findClosure 19 = .ok (.iload_n 3, 1) := by decide +kernel
theorem dX12_findClosure_20 : decode cX12_findClosure 20 = .ok (.bipush 9, 2) := by decide +kernel
theorem dX12_findClosure_22 : decode cX12_findClosure 22 = .ok (.if_icmp .ge 74, 3) := by decide +kernel
theorem dX12_findClosure_25 : decode cX12_findClosure 25 = .ok (.iload_n 3, 1) := by decide +kernel
theorem dX12_findClosure_26 : decode cX12_findClosure 26 = .ok (.iconst 3, 1) := by decide +kernel
theorem dX12_findClosure_27 : decode cX12_findClosure 27 = .ok (.idiv, 1) := by decide +kernel
theorem dX12_findClosure_28 : decode cX12_findClosure 28 = .ok (.aload_n 0, 1) := by decide +kernel
theorem dX12_findClosure_29 : decode cX12_findClosure 29 = .ok (.getfield 9, 3) := by decide +kernel
theorem dX12_findClosure_32 : decode cX12_findClosure 32 = .ok (.aload_n 0, 1) := by decide +kernel
theorem dX12_findClosure_33 : decode cX12_findClosure 33 = .ok (.iload_n 2, 1) := by decide +kernel
theorem dX12_findClosure_34 : decode cX12_findClosure 34 = .ok (.invokevirtual 191, 3) := by decide +kernel
theorem dX12_findClosure_37 : decode cX12_findClosure 37 = .ok (.iaload, 1) := by decide +kernel
theorem dX12_findClosure_38 : decode cX12_findClosure 38 = .ok (.if_icmp .ge 23, 3) := by decide +kernel
theorem dX12_findClosure_41 : decode cX12_findClosure 41 = .ok (.iload_n 3, 1) := by decide +kernel
theorem dX12_findClosure_42 : decode cX12_findClosure 42 = .ok (.iconst 3, 1) := by decide +kernel
theorem dX12_findClosure_43 : decode cX12_findClosure 43 = .ok (.irem, 1) := by decide +kernel
theorem dX12_findClosure_44 : decode cX12_findClosure 44 = .ok (.aload_n 0, 1) := by decide +kernel
theorem dX12_findClosure_45 : decode cX12_findClosure 45 = .ok (.getfield 9, 3) := by decide +kernel
theorem dX12_findClosure_48 : decode cX12_findClosure 48 = .ok (.aload_n 0, 1) := by decide +kernel
theorem dX12_findClosure_49 : decode cX12_findClosure 49 = .ok (.iload_n 2, 1) := by decide +kernel
theorem dX12_findClosure_50 : decode cX12_findClosure 50 = .ok (.invokevirtual 194, 3) := by decide +kernel
theorem dX12_findClosure_53 : decode cX12_findClosure 53 = .ok (.iaload, 1) := by decide +kernel
theorem dX12_findClosure_54 : decode cX12_findClosure 54 = .ok (.if_icmp .ge 7, 3) := by decide +kernel
theorem dX12_findClosure_57 : decode cX12_findClosure 57 = .ok (.iconst 1, 1) := by decide +kernel
theorem dX12_findClosure_58 : decode cX12_findClosure 58 = .ok (.goto 4, 3) := by decide +kernel
theorem dX12_findClosure_61 : decode cX12_findClosure 61 = .ok (.iconst 0, 1) := by decide +kernel
theorem dX12_findClosure_62 : decode cX12_findClosure 62 = .ok (.istore 4, 2) := by decide +kernel
theorem dX12_findClosure_64 : decode cX12_findClosure 64 = .ok (.aload_n 0, 1) := by decide +kernel
theorem dX12_findClosure_65 : decode cX12_findClosure 65 = .ok (.getfield 79, 3) := by decide +kernel
theorem dX12_findClosure_68 : decode cX12_findClosure 68 = .ok (.iload_n 3, 1) := by decide +kernel
theorem dX12_findClosure_69 : decode cX12_findClosure 69 = .ok (.iload 4, 2) := by decide +kernel
theorem dX12_findClosure_71 : decode cX12_findClosure 71 = .ok (.ifCond .eq 17, 3) := by decide +kernel
theorem dX12_findClosure_74 : decode cX12_findClosure 74 = .ok (.aload_n 0, 1) := by decide +kernel
theorem dX12_findClosure_75 : decode cX12_findClosure 75 = .ok (.iload_n 2, 1) := by decide +kernel
theorem dX12_findClosure_76 : decode cX12_findClosure 76 = .ok (.iload_n 3, 1) := by decide +kernel
theorem dX12_findClosure_77 : decode cX12_findClosure 77 = .ok (.iconst 3, 1) := by decide +kernel
theorem dX12_findClosure_78 : decode cX12_findClosure 78 = .ok (.idiv, 1) := by decide +kernel
theorem dX12_findClosure_79 : decode cX12_findClosure 79 = .ok (.iload_n 3, 1) := by decide +kernel
theorem dX12_findClosure_80 : decode cX12_findClosure 80 = .ok (.iconst 3, 1) := by decide +kernel
theorem dX12_findClosure_81 : decode cX12_findClosure 81 = .ok (.irem, 1) := by decide +kernel
theorem dX12_findClosure_82 : decode cX12_findClosure 82 = .ok (.invokevirtual 229, 3) := by decide +kernel
theorem dX12_findClosure_85 : decode cX12_findClosure 85 = .ok (.goto 4, 3) := by decide +kernel
theorem dX12_findClosure_88 : decode cX12_findClosure 88 = .ok (.iconst 0, 1) := by decide +kernel
theorem dX12_findClosure_89 : decode cX12_findClosure 89 = .ok (.iastore, 1) := by decide +kernel
theorem dX12_findClosure_90 : decode cX12_findClosure 90 = .ok (.iinc 3 1, 3) := by decide +kernel
theorem dX12_findClosure_93 : decode cX12_findClosure 93 = .ok (.goto (-74), 3) := by decide +kernel
theorem dX12_findClosure_96 : decode cX12_findClosure 96 = .ok (.aload_n 0, 1) := by decide +kernel
theorem dX12_findClosure_97 : decode cX12_findClosure 97 = .ok (.iconst 3, 1) := by decide +kernel
theorem dX12_findClosure_98 : decode cX12_findClosure 98 = .ok (.aload_n 0, 1) := by decide +kernel
theorem dX12_findClosure_99 : decode cX12_findClosure 99 = .ok (.iload_n 2, 1) := by decide +kernel
theorem dX12_findClosure_100 : decode cX12_findClosure 100 = .ok (.invokevirtual 191, 3) := by decide +kernel
theorem dX12_findClosure_103 : decode cX12_findClosure 103 = .ok (.imul, 1) := by decide +kernel
theorem dX12_findClosure_104 : decode cX12_findClosure 104 = .ok (.aload_n 0, 1) := by decide +kernel
theorem dX12_findClosure_105 : decode cX12_findClosure 105 = .ok (.iload_n 2, 1) := by decide +kernel
theorem dX12_findClosure_106 : decode cX12_findClosure 106 = .ok (.invokevirtual 194, 3) := by decide +kernel
theorem dX12_findClosure_109 : decode cX12_findClosure 109 = .ok (.iadd, 1) := by decide +kernel
theorem dX12_findClosure_110 : decode cX12_findClosure 110 = .ok (.aload_n 0, 1) := by decide +kernel
theorem dX12_findClosure_111 : decode cX12_findClosure 111 = .ok (.getfield 79, 3) := by decide +kernel
theorem dX12_findClosure_114 : decode cX12_findClosure 114 = .ok (.invokestatic 246, 3) := by decide +kernel
theorem dX12_findClosure_117 : decode cX12_findClosure 117 = .ok (.invokevirtual 253, 3) := by decide +kernel
theorem dX12_findClosure_120 : decode cX12_findClosure 120 = .ok (.iinc 2 1, 3) := by decide +kernel
theorem dX12_findClosure_123 : decode cX12_findClosure 123 = .ok (.goto (-111), 3) := by decide +kernel
theorem dX12_findClosure_126 : decode cX12_findClosure 126 = .ok (.iconst 0, 1) := by decide +kernel
theorem dX12_findClosure_127 : decode cX12_findClosure 127 = .ok (.istore_n 2, 1) := by decide +kernel
theorem dX12_findClosure_128 : decode cX12_findClosure 128 = .ok (.iload_n 2, 1) := by decide +kernel
theorem dX12_findClosure_129 : decode cX12_findClosure 129 = .ok (.aload_n 0, 1) := by decide +kernel
theorem dX12_findClosure_130 : decode cX12_findClosure 130 = .ok (.getfield 250, 3) := by decide +kernel
theorem dX12_findClosure_133 : decode cX12_findClosure 133 = .ok (.if_icmp .ge 72, 3) := by decide +kernel
theorem dX12_findClosure_136 : decode cX12_findClosure 136 = .ok (.aload_n 0, 1) := by decide +kernel
theorem dX12_findClosure_137 : decode cX12_findClosure 137 = .ok (.getfield 250, 3) := by decide +kernel
theorem dX12_findClosure_140 : decode cX12_findClosure 140 = .ok (.sipush 400, 3) := by decide +kernel
theorem dX12_findClosure_143 : decode cX12_findClosure 143 = .ok (.if_icmp .gt 62, 3) := by decide +kernel
theorem dX12_findClosure_146 : decode cX12_findClosure 146 = .ok (.iconst 0, 1) := by decide +kernel
theorem dX12_findClosure_147 : decode cX12_findClosure 147 = .ok (.istore_n 3, 1) := by decide +kernel
theorem dX12_findClosure_148 : decode cX12_findClosure 148 = .ok (.iload_n 3, 1) := by decide +kernel
theorem dX12_findClosure_149 : decode cX12_findClosure 149 = .ok (.iload_n 2, 1) := by decide +kernel
theorem dX12_findClosure_150 : decode cX12_findClosure 150 = .ok (.if_icmp .gt 49, 3) := by decide +kernel
theorem dX12_findClosure_153 : decode cX12_findClosure 153 = .ok (.aload_n 0, 1) := by decide +kernel
theorem dX12_findClosure_154 : decode cX12_findClosure 154 = .ok (.aload_n 0, 1) := by decide +kernel
theorem dX12_findClosure_155 : decode cX12_findClosure 155 = .ok (.aload_n 0, 1) := by decide +kernel
theorem dX12_findClosure_156 : decode cX12_findClosure 156 = .ok (.getfield 66, 3) := by decide +kernel
theorem dX12_findClosure_159 : decode cX12_findClosure 159 = .ok (.iload_n 2, 1) := by decide +kernel
theorem dX12_findClosure_160 : decode cX12_findClosure 160 = .ok (.iaload, 1) := by decide +kernel
theorem dX12_findClosure_161 : decode cX12_findClosure 161 = .ok (.aload_n 0, 1) := by decide +kernel
theorem dX12_findClosure_162 : decode cX12_findClosure 162 = .ok (.getfield 66, 3) := by decide +kernel
theorem dX12_findClosure_165 : decode cX12_findClosure 165 = .ok (.iload_n 3, 1) := by decide +kernel
theorem dX12_findClosure_166 : decode cX12_findClosure 166 = .ok (.iaload, 1) := by decide +kernel
theorem dX12_findClosure_167 : decode cX12_findClosure 167 = .ok (.invokevirtual 256, 3) := by decide +kernel
theorem dX12_findClosure_170 : decode cX12_findClosure 170 = .ok (.invokevirtual 253, 3) := by decide +kernel
theorem dX12_findClosure_173 : decode cX12_findClosure 173 = .ok (.aload_n 0, 1) := by decide +kernel
theorem dX12_findClosure_174 : decode cX12_findClosure 174 = .ok (.aload_n 0, 1) := by decide +kernel
theorem dX12_findClosure_175 : decode cX12_findClosure 175 = .ok (.aload_n 0, 1) := by decide +kernel
theorem dX12_findClosure_176 : decode cX12_findClosure 176 = .ok (.getfield 66, 3) := by decide +kernel
theorem dX12_findClosure_179 : decode cX12_findClosure 179 = .ok (.iload_n 3, 1) := by decide +kernel
theorem dX12_findClosure_180 : decode cX12_findClosure 180 = .ok (.iaload, 1) := by decide +kernel
theorem dX12_findClosure_181 : decode cX12_findClosure 181 = .ok (.aload_n 0, 1) := by decide +kernel
theorem dX12_findClosure_182 : decode cX12_findClosure 182 = .ok (.getfield 66, 3) := by decide +kernel
theorem dX12_findClosure_185 : decode cX12_findClosure 185 = .ok (.iload_n 2, 1) := by decide +kernel
theorem dX12_findClosure_186 : decode cX12_findClosure 186 = .ok (.iaload, 1) := by decide +kernel
theorem dX12_findClosure_187 : decode cX12_findClosure 187 = .ok (.invokevirtual 256, 3) := by decide +kernel
theorem dX12_findClosure_190 : decode cX12_findClosure 190 = .ok (.invokevirtual 253, 3) := by decide +kernel
theorem dX12_findClosure_193 : decode cX12_findClosure 193 = .ok (.iinc 3 1, 3) := by decide +kernel
theorem dX12_findClosure_196 : decode cX12_findClosure 196 = .ok (.goto (-48), 3) := by decide +kernel
theorem dX12_findClosure_199 : decode cX12_findClosure 199 = .ok (.iinc 2 1, 3) := by decide +kernel
theorem dX12_findClosure_202 : decode cX12_findClosure 202 = .ok (.goto (-74), 3) := by decide +kernel
theorem dX12_findClosure_205 : decode cX12_findClosure 205 = .ok (.iconst 0, 1) := by decide +kernel
theorem dX12_findClosure_206 : decode cX12_findClosure 206 = .ok (.istore_n 2, 1) := by decide +kernel
theorem dX12_findClosure_207 : decode cX12_findClosure 207 = .ok (.iload_n 2, 1) := by decide +kernel
theorem dX12_findClosure_208 : decode cX12_findClosure 208 = .ok (.aload_n 0, 1) := by decide +kernel
theorem dX12_findClosure_209 : decode cX12_findClosure 209 = .ok (.getfield 250, 3) := by decide +kernel
theorem dX12_findClosure_212 : decode cX12_findClosure 212 = .ok (.if_icmp .ge 21, 3) := by decide +kernel
theorem dX12_findClosure_215 : decode cX12_findClosure 215 = .ok (.aload_n 0, 1) := by decide +kernel
theorem dX12_findClosure_216 : decode cX12_findClosure 216 = .ok (.getfield 76, 3) := by decide +kernel
theorem dX12_findClosure_219 : decode cX12_findClosure 219 = .ok (.aload_n 0, 1) := by decide +kernel
theorem dX12_findClosure_220 : decode cX12_findClosure 220 = .ok (.getfield 66, 3) := by decide +kernel
theorem dX12_findClosure_223 : decode cX12_findClosure 223 = .ok (.iload_n 2, 1) := by decide +kernel
theorem dX12_findClosure_224 : decode cX12_findClosure 224 = .ok (.iaload, 1) := by decide +kernel
theorem dX12_findClosure_225 : decode cX12_findClosure 225 = .ok (.iconst 0, 1) := by decide +kernel
theorem dX12_findClosure_226 : decode cX12_findClosure 226 = .ok (.bastore, 1) := by decide +kernel
theorem dX12_findClosure_227 : decode cX12_findClosure 227 = .ok (.iinc 2 1, 3) := by decide +kernel
theorem dX12_findClosure_230 : decode cX12_findClosure 230 = .ok (.goto (-23), 3) := by decide +kernel
theorem dX12_findClosure_233 : decode cX12_findClosure 233 = .ok (.aload_n 0, 1) := by decide +kernel
theorem dX12_findClosure_234 : decode cX12_findClosure 234 = .ok (.getfield 250, 3) := by decide +kernel
theorem dX12_findClosure_237 : decode cX12_findClosure 237 = .ok (.sipush 400, 3) := by decide +kernel
theorem dX12_findClosure_240 : decode cX12_findClosure 240 = .ok (.if_icmp .gt 7, 3) := by decide +kernel
theorem dX12_findClosure_243 : decode cX12_findClosure 243 = .ok (.iconst 1, 1) := by decide +kernel
theorem dX12_findClosure_244 : decode cX12_findClosure 244 = .ok (.goto 4, 3) := by decide +kernel
theorem dX12_findClosure_247 : decode cX12_findClosure 247 = .ok (.iconst 0, 1) := by decide +kernel
theorem dX12_findClosure_248 : decode cX12_findClosure 248 = .ok (.ireturn, 1) := by decide +kernel
theorem dX12_closureSize_0 : decode cX12_closureSize 0 = .ok (.aload_n 0, 1) := by decide +kernel
theorem dX12_closureSize_1 : decode cX12_closureSize 1 = .ok (.invokevirtual 259, 3) := by decide +kernel
theorem dX12_closureSize_4 : decode cX12_closureSize 4 = .ok (.ifCond .eq 10, 3) := by decide +kernel
theorem dX12_closureSize_7 : decode cX12_closureSize 7 = .ok (.aload_n 0, 1) := by decide +kernel
theorem dX12_closureSize_8 : decode cX12_closureSize 8 = .ok (.getfield 250, 3) := by decide +kernel
theorem dX12_closureSize_11 : decode cX12_closureSize 11 = .ok (.goto 5, 3) := by decide +kernel
theorem dX12_closureSize_14 : decode cX12_closureSize 14 = .ok (.bipush (-8), 2) := by decide +kernel
theorem dX12_closureSize_16 : decode cX12_closureSize 16 = .ok (.ireturn, 1) := by decide +kernel
theorem dX12_idempotentCount_0 : decode cX12_idempotentCount 0 = .ok (.aload_n 0, 1) := by decide +kernel
theorem dX12_idempotentCount_1 : decode cX12_idempotentCount 1 = .ok (.invokevirtual 259, 3) := by decide +kernel
theorem dX12_idempotentCount_4 : decode cX12_idempotentCount 4 = .ok (.ifCond .ne 6, 3) := by decide +kernel
theorem dX12_idempotentCount_7 : decode cX12_idempotentCount 7 = .ok (.bipush (-8), 2) := by decide +kernel
theorem dX12_idempotentCount_9 : decode cX12_idempotentCount 9 = .ok (.ireturn, 1) := by decide +kernel
theorem dX12_idempotentCount_10 : decode cX12_idempotentCount 10 = .ok (.iconst 0, 1) := by decide +kernel
theorem dX12_idempotentCount_11 : decode cX12_idempotentCount 11 = .ok (.istore_n 1, 1) := by decide +kernel
theorem dX12_idempotentCount_12 : decode cX12_idempotentCount 12 = .ok (.iconst 0, 1) := by decide +kernel
theorem dX12_idempotentCount_13 : decode cX12_idempotentCount 13 = .ok (.istore_n 2, 1) := by decide +kernel
theorem dX12_idempotentCount_14 : decode cX12_idempotentCount 14 = .ok (.iload_n 2, 1) := by decide +kernel
theorem dX12_idempotentCount_15 : decode cX12_idempotentCount 15 = .ok (.aload_n 0, 1) := by decide +kernel
theorem dX12_idempotentCount_16 : decode cX12_idempotentCount 16 = .ok (.getfield 250, 3) := by decide +kernel
theorem dX12_idempotentCount_19 : decode cX12_idempotentCount 19 = .ok (.if_icmp .ge 56, 3) := by decide +kernel
theorem dX12_idempotentCount_22 : decode cX12_idempotentCount 22 = .ok (.iload_n 1, 1) := by decide +kernel
theorem dX12_idempotentCount_23 : decode cX12_idempotentCount 23 = .ok (.aload_n 0, 1) := by decide +kernel
theorem dX12_idempotentCount_24 : decode cX12_idempotentCount 24 = .ok (.getfield 66, 3) := by decide +kernel
theorem dX12_idempotentCount_27 : decode cX12_idempotentCount 27 = .ok (.iload_n 2, 1) := by decide +kernel
theorem dX12_idempotentCount_28 : decode cX12_idempotentCount 28 = .ok (.iaload, 1) := by decide +kernel
theorem dX12_idempotentCount_29 : decode cX12_idempotentCount 29 = .ok (.invokestatic 233, 3) := by decide +kernel
theorem dX12_idempotentCount_32 : decode cX12_idempotentCount 32 = .ok (.iconst 4, 1) := by decide +kernel
theorem dX12_idempotentCount_33 : decode cX12_idempotentCount 33 = .ok (.irem, 1) := by decide +kernel
theorem dX12_idempotentCount_34 : decode cX12_idempotentCount 34 = .ok (.ifCond .ne 32, 3) := by decide +kernel
theorem dX12_idempotentCount_37 : decode cX12_idempotentCount 37 = .ok (.aload_n 0, 1) := by decide +kernel
theorem dX12_idempotentCount_38 : decode cX12_idempotentCount 38 = .ok (.aload_n 0, 1) := by decide +kernel
theorem dX12_idempotentCount_39 : decode cX12_idempotentCount 39 = .ok (.getfield 66, 3) := by decide +kernel
theorem dX12_idempotentCount_42 : decode cX12_idempotentCount 42 = .ok (.iload_n 2, 1) := by decide +kernel
theorem dX12_idempotentCount_43 : decode cX12_idempotentCount 43 = .ok (.iaload, 1) := by decide +kernel
theorem dX12_idempotentCount_44 : decode cX12_idempotentCount 44 = .ok (.aload_n 0, 1) := by decide +kernel
theorem dX12_idempotentCount_45 : decode cX12_idempotentCount 45 = .ok (.getfield 66, 3) := by decide +kernel
theorem dX12_idempotentCount_48 : decode cX12_idempotentCount 48 = .ok (.iload_n 2, 1) := by decide +kernel
theorem dX12_idempotentCount_49 : decode cX12_idempotentCount 49 = .ok (.iaload, 1) := by decide +kernel
theorem dX12_idempotentCount_50 : decode cX12_idempotentCount 50 = .ok (.invokevirtual 256, 3) := by decide +kernel
theorem dX12_idempotentCount_53 : decode cX12_idempotentCount 53 = .ok (.aload_n 0, 1) := by decide +kernel
theorem dX12_idempotentCount_54 : decode cX12_idempotentCount 54 = .ok (.getfield 66, 3) := by decide +kernel
theorem dX12_idempotentCount_57 : decode cX12_idempotentCount 57 = .ok (.iload_n 2, 1) := by decide +kernel
theorem dX12_idempotentCount_58 : decode cX12_idempotentCount 58 = .ok (.iaload, 1) := by decide +kernel
theorem dX12_idempotentCount_59 : decode cX12_idempotentCount 59 = .ok (.if_icmp .ne 7, 3) := by decide +kernel
theorem dX12_idempotentCount_62 : decode cX12_idempotentCount 62 = .ok (.iconst 1, 1) := by decide +kernel
theorem dX12_idempotentCount_63 : decode cX12_idempotentCount 63 = .ok (.goto 4, 3) := by decide +kernel
theorem dX12_idempotentCount_66 : decode cX12_idempotentCount 66 = .ok (.iconst 0, 1) := by decide +kernel
theorem dX12_idempotentCount_67 : decode cX12_idempotentCount 67 = .ok (.iadd, 1) := by decide +kernel
theorem dX12_idempotentCount_68 : decode cX12_idempotentCount 68 = .ok (.istore_n 1, 1) := by decide +kernel
theorem dX12_idempotentCount_69 : decode cX12_idempotentCount 69 = .ok (.iinc 2 1, 3) := by decide +kernel
theorem dX12_idempotentCount_72 : decode cX12_idempotentCount 72 = .ok (.goto (-58), 3) := by decide +kernel
theorem dX12_idempotentCount_75 : decode cX12_idempotentCount 75 = .ok (.iload_n 1, 1) := by decide +kernel
theorem dX12_idempotentCount_76 : decode cX12_idempotentCount 76 = .ok (.ireturn, 1) := by decide +kernel
theorem dX12_terminatesBySizeChange_0 : decode cX12_terminatesBySizeChange 0 = .ok (.aload_n 0, 1) := by decide +kernel
theorem dX12_terminatesBySizeChange_1 : decode cX12_terminatesBySizeChange 1 = .ok (.invokevirtual 259, 3) := by decide +kernel
theorem dX12_terminatesBySizeChange_4 : decode cX12_terminatesBySizeChange 4 = .ok (.ifCond .ne 6, 3) := by decide +kernel
theorem dX12_terminatesBySizeChange_7 : decode cX12_terminatesBySizeChange 7 = .ok (.bipush (-8), 2) := by decide +kernel
theorem dX12_terminatesBySizeChange_9 : decode cX12_terminatesBySizeChange 9 = .ok (.ireturn, 1) := by decide +kernel
theorem dX12_terminatesBySizeChange_10 : decode cX12_terminatesBySizeChange 10 = .ok (.iconst 1, 1) := by decide +kernel
theorem dX12_terminatesBySizeChange_11 : decode cX12_terminatesBySizeChange 11 = .ok (.istore_n 1, 1) := by decide +kernel
theorem dX12_terminatesBySizeChange_12 : decode cX12_terminatesBySizeChange 12 = .ok (.iconst 0, 1) := by decide +kernel
theorem dX12_terminatesBySizeChange_13 : decode cX12_terminatesBySizeChange 13 = .ok (.istore_n 2, 1) := by decide +kernel
theorem dX12_terminatesBySizeChange_14 : decode cX12_terminatesBySizeChange 14 = .ok (.iload_n 2, 1) := by decide +kernel
theorem dX12_terminatesBySizeChange_15 : decode cX12_terminatesBySizeChange 15 = .ok (.aload_n 0, 1) := by decide +kernel
theorem dX12_terminatesBySizeChange_16 : decode cX12_terminatesBySizeChange 16 = .ok (.getfield 250, 3) := by decide +kernel
theorem dX12_terminatesBySizeChange_19 : decode cX12_terminatesBySizeChange 19 = .ok (.if_icmp .ge 100, 3) := by decide +kernel
theorem dX12_terminatesBySizeChange_22 : decode cX12_terminatesBySizeChange 22 = .ok (.aload_n 0, 1) := by decide +kernel
theorem dX12_terminatesBySizeChange_23 : decode cX12_terminatesBySizeChange 23 = .ok (.getfield 66, 3) := by decide +kernel
theorem dX12_terminatesBySizeChange_26 : decode cX12_terminatesBySizeChange 26 = .ok (.iload_n 2, 1) := by decide +kernel
theorem dX12_terminatesBySizeChange_27 : decode cX12_terminatesBySizeChange 27 = .ok (.iaload, 1) := by decide +kernel
theorem dX12_terminatesBySizeChange_28 : decode cX12_terminatesBySizeChange 28 = .ok (.invokestatic 233, 3) := by decide +kernel
theorem dX12_terminatesBySizeChange_31 : decode cX12_terminatesBySizeChange 31 = .ok (.iconst 4, 1) := by decide +kernel
theorem dX12_terminatesBySizeChange_32 : decode cX12_terminatesBySizeChange 32 = .ok (.irem, 1) := by decide +kernel
theorem dX12_terminatesBySizeChange_33 : decode cX12_terminatesBySizeChange 33 = .ok (.ifCond .ne 80, 3) := by decide +kernel
theorem dX12_terminatesBySizeChange_36 : decode cX12_terminatesBySizeChange 36 = .ok (.aload_n 0, 1) := by decide +kernel
theorem dX12_terminatesBySizeChange_37 : decode cX12_terminatesBySizeChange 37 = .ok (.aload_n 0, 1) := by decide +kernel
theorem dX12_terminatesBySizeChange_38 : decode cX12_terminatesBySizeChange 38 = .ok (.getfield 66, 3) := by decide +kernel
theorem dX12_terminatesBySizeChange_41 : decode cX12_terminatesBySizeChange 41 = .ok (.iload_n 2, 1) := by decide +kernel
theorem dX12_terminatesBySizeChange_42 : decode cX12_terminatesBySizeChange 42 = .ok (.iaload, 1) := by decide +kernel
theorem dX12_terminatesBySizeChange_43 : decode cX12_terminatesBySizeChange 43 = .ok (.aload_n 0, 1) := by decide +kernel
theorem dX12_terminatesBySizeChange_44 : decode cX12_terminatesBySizeChange 44 = .ok (.getfield 66, 3) := by decide +kernel
theorem dX12_terminatesBySizeChange_47 : decode cX12_terminatesBySizeChange 47 = .ok (.iload_n 2, 1) := by decide +kernel
theorem dX12_terminatesBySizeChange_48 : decode cX12_terminatesBySizeChange 48 = .ok (.iaload, 1) := by decide +kernel
theorem dX12_terminatesBySizeChange_49 : decode cX12_terminatesBySizeChange 49 = .ok (.invokevirtual 256, 3) := by decide +kernel
theorem dX12_terminatesBySizeChange_52 : decode cX12_terminatesBySizeChange 52 = .ok (.aload_n 0, 1) := by decide +kernel
theorem dX12_terminatesBySizeChange_53 : decode cX12_terminatesBySizeChange 53 = .ok (.getfield 66, 3) := by decide +kernel
theorem dX12_terminatesBySizeChange_56 : decode cX12_terminatesBySizeChange 56 = .ok (.iload_n 2, 1) := by decide +kernel
theorem dX12_terminatesBySizeChange_57 : decode cX12_terminatesBySizeChange 57 = .ok (.iaload, 1) := by decide +kernel
theorem dX12_terminatesBySizeChange_58 : decode cX12_terminatesBySizeChange 58 = .ok (.if_icmp .ne 55, 3) := by decide +kernel
theorem dX12_terminatesBySizeChange_61 : decode cX12_terminatesBySizeChange 61 = .ok (.aload_n 0, 1) := by decide +kernel
theorem dX12_terminatesBySizeChange_62 : decode cX12_terminatesBySizeChange 62 = .ok (.getfield 66, 3) := by decide +kernel
theorem dX12_terminatesBySizeChange_65 : decode cX12_terminatesBySizeChange 65 = .ok (.iload_n 2, 1) := by decide +kernel
theorem dX12_terminatesBySizeChange_66 : decode cX12_terminatesBySizeChange 66 = .ok (.iaload, 1) := by decide +kernel
theorem dX12_terminatesBySizeChange_67 : decode cX12_terminatesBySizeChange 67 = .ok (.aload_n 0, 1) := by decide +kernel
theorem dX12_terminatesBySizeChange_68 : decode cX12_terminatesBySizeChange 68 = .ok (.getfield 69, 3) := by decide +kernel
theorem dX12_terminatesBySizeChange_71 : decode cX12_terminatesBySizeChange 71 = .ok (.invokestatic 236, 3) := by decide +kernel
theorem dX12_terminatesBySizeChange_74 : decode cX12_terminatesBySizeChange 74 = .ok (.iload_n 1, 1) := by decide +kernel
theorem dX12_terminatesBySizeChange_75 : decode cX12_terminatesBySizeChange 75 = .ok (.aload_n 0, 1) := by decide +kernel
theorem dX12_terminatesBySizeChange_76 : decode cX12_terminatesBySizeChange 76 = .ok (.getfield 69, 3) := by decide +kernel
theorem dX12_terminatesBySizeChange_79 : decode cX12_terminatesBySizeChange 79 = .ok (.iconst 0, 1) := by decide +kernel
theorem dX12_terminatesBySizeChange_80 : decode cX12_terminatesBySizeChange 80 = .ok (.iaload, 1) := by decide +kernel
theorem dX12_terminatesBySizeChange_81 : decode cX12_terminatesBySizeChange 81 = .ok (.iconst 2, 1) := by decide +kernel
theorem dX12_terminatesBySizeChange_82 : decode cX12_terminatesBySizeChange 82 = .ok (.if_icmp .eq 24, 3) := by decide +kernel
theorem dX12_terminatesBySizeChange_85 : decode cX12_terminatesBySizeChange 85 = .ok (.aload_n 0, 1) := by decide +kernel
theorem dX12_terminatesBySizeChange_86 : decode cX12_terminatesBySizeChange 86 = .ok (.getfield 69, 3) := by decide +kernel
theorem dX12_terminatesBySizeChange_89 : decode cX12_terminatesBySizeChange 89 = .ok (.iconst 4, 1) := by decide +kernel
theorem dX12_terminatesBySizeChange_90 : decode cX12_terminatesBySizeChange 90 = .ok (.iaload, 1) := by decide +kernel
theorem dX12_terminatesBySizeChange_91 : decode cX12_terminatesBySizeChange 91 = .ok (.iconst 2, 1) := by decide +kernel
theorem dX12_terminatesBySizeChange_92 : decode cX12_terminatesBySizeChange 92 = .ok (.if_icmp .eq 14, 3) := by decide +kernel
theorem dX12_terminatesBySizeChange_95 : decode cX12_terminatesBySizeChange 95 = .ok (.aload_n 0, 1) := by decide +kernel
theorem dX12_terminatesBySizeChange_96 : decode cX12_terminatesBySizeChange 96 = .ok (.getfield 69, 3) := by decide +kernel
theorem dX12_terminatesBySizeChange_99 : decode cX12_terminatesBySizeChange 99 = .ok (.bipush 8, 2) := by decide +kernel
theorem dX12_terminatesBySizeChange_101 : decode cX12_terminatesBySizeChange 101 = .ok (.iaload, 1) := by decide +kernel
theorem dX12_terminatesBySizeChange_102 : decode cX12_terminatesBySizeChange 102 = .ok (.iconst 2, 1) := by decide +kernel
theorem dX12_terminatesBySizeChange_103 : decode cX12_terminatesBySizeChange 103 = .ok (.if_icmp .ne 7, 3) := by decide +kernel
theorem dX12_terminatesBySizeChange_106 : decode cX12_terminatesBySizeChange 106 = .ok (.iconst 1, 1) := by decide +kernel
theorem dX12_terminatesBySizeChange_107 : decode cX12_terminatesBySizeChange 107 = .ok (.goto 4, 3) := by decide +kernel
theorem dX12_terminatesBySizeChange_110 : decode cX12_terminatesBySizeChange 110 = .ok (.iconst 0, 1) := by decide +kernel
theorem dX12_terminatesBySizeChange_111 : decode cX12_terminatesBySizeChange 111 = .ok (.iand, 1) := by decide +kernel
theorem dX12_terminatesBySizeChange_112 : decode cX12_terminatesBySizeChange 112 = .ok (.istore_n 1, 1) := by decide +kernel
theorem dX12_terminatesBySizeChange_113 : decode cX12_terminatesBySizeChange 113 = .ok (.iinc 2 1, 3) := by decide +kernel
theorem dX12_terminatesBySizeChange_116 : decode cX12_terminatesBySizeChange 116 = .ok (.goto (-102), 3) := by decide +kernel
theorem dX12_terminatesBySizeChange_119 : decode cX12_terminatesBySizeChange 119 = .ok (.iload_n 1, 1) := by decide +kernel
theorem dX12_terminatesBySizeChange_120 : decode cX12_terminatesBySizeChange 120 = .ok (.ifCond .eq 7, 3) := by decide +kernel
theorem dX12_terminatesBySizeChange_123 : decode cX12_terminatesBySizeChange 123 = .ok (.iconst 1, 1) := by decide +kernel
theorem dX12_terminatesBySizeChange_124 : decode cX12_terminatesBySizeChange 124 = .ok (.goto 4, 3) := by decide +kernel
theorem dX12_terminatesBySizeChange_127 : decode cX12_terminatesBySizeChange 127 = .ok (.iconst 0, 1) := by decide +kernel
theorem dX12_terminatesBySizeChange_128 : decode cX12_terminatesBySizeChange 128 = .ok (.ireturn, 1) := by decide +kernel
theorem dX12_isValid_0 : decode cX12_isValid 0 = .ok (.iconst 0, 1) := by decide +kernel
theorem dX12_isValid_1 : decode cX12_isValid 1 = .ok (.istore_n 2, 1) := by decide +kernel
theorem dX12_isValid_2 : decode cX12_isValid 2 = .ok (.aload_n 0, 1) := by decide +kernel
theorem dX12_isValid_3 : decode cX12_isValid 3 = .ok (.getfield 85, 3) := by decide +kernel
theorem dX12_isValid_6 : decode cX12_isValid 6 = .ok (.astore_n 3, 1) := by decide +kernel
theorem dX12_isValid_7 : decode cX12_isValid 7 = .ok (.iconst 0, 1) := by decide +kernel
theorem dX12_isValid_8 : decode cX12_isValid 8 = .ok (.istore 4, 2) := by decide +kernel
theorem dX12_isValid_10 : decode cX12_isValid 10 = .ok (.iload 4, 2) := by decide +kernel
theorem dX12_isValid_12 : decode cX12_isValid 12 = .ok (.iconst 3, 1) := by decide +kernel
theorem dX12_isValid_13 : decode cX12_isValid 13 = .ok (.if_icmp .ge 14, 3) := by decide +kernel
theorem dX12_isValid_16 : decode cX12_isValid 16 = .ok (.aload_n 3, 1) := by decide +kernel
theorem dX12_isValid_17 : decode cX12_isValid 17 = .ok (.iload 4, 2) := by decide +kernel
theorem dX12_isValid_19 : decode cX12_isValid 19 = .ok (.iconst 0, 1) := by decide +kernel
theorem dX12_isValid_20 : decode cX12_isValid 20 = .ok (.bastore, 1) := by decide +kernel
theorem dX12_isValid_21 : decode cX12_isValid 21 = .ok (.iinc 4 1, 3) := by decide +kernel
theorem dX12_isValid_24 : decode cX12_isValid 24 = .ok (.goto (-14), 3) := by decide +kernel
theorem dX12_isValid_27 : decode cX12_isValid 27 = .ok (.iconst 0, 1) := by decide +kernel
theorem dX12_isValid_28 : decode cX12_isValid 28 = .ok (.istore 4, 2) := by decide +kernel
theorem dX12_isValid_30 : decode cX12_isValid 30 = .ok (.iload 4, 2) := by decide +kernel
theorem dX12_isValid_32 : decode cX12_isValid 32 = .ok (.aload_n 0, 1) := by decide +kernel
theorem dX12_isValid_33 : decode cX12_isValid 33 = .ok (.getfield 211, 3) := by decide +kernel
theorem dX12_isValid_36 : decode cX12_isValid 36 = .ok (.if_icmp .ge 93, 3) := by decide +kernel
theorem dX12_isValid_39 : decode cX12_isValid 39 = .ok (.aload_n 0, 1) := by decide +kernel
theorem dX12_isValid_40 : decode cX12_isValid 40 = .ok (.getfield 63, 3) := by decide +kernel
theorem dX12_isValid_43 : decode cX12_isValid 43 = .ok (.iload 4, 2) := by decide +kernel
theorem dX12_isValid_45 : decode cX12_isValid 45 = .ok (.iaload, 1) := by decide +kernel
theorem dX12_isValid_46 : decode cX12_isValid 46 = .ok (.iload_n 1, 1) := by decide +kernel
theorem dX12_isValid_47 : decode cX12_isValid 47 = .ok (.if_icmp .ne 76, 3) := by decide +kernel
theorem dX12_isValid_50 : decode cX12_isValid 50 = .ok (.aload_n 0, 1) := by decide +kernel
theorem dX12_isValid_51 : decode cX12_isValid 51 = .ok (.iload 4, 2) := by decide +kernel
theorem dX12_isValid_53 : decode cX12_isValid 53 = .ok (.aload_n 0, 1) := by decide +kernel
theorem dX12_isValid_54 : decode cX12_isValid 54 = .ok (.getfield 82, 3) := by decide +kernel
theorem dX12_isValid_57 : decode cX12_isValid 57 = .ok (.aload_n 0, 1) := by decide +kernel
theorem dX12_isValid_58 : decode cX12_isValid 58 = .ok (.iload 4, 2) := by decide +kernel
theorem dX12_isValid_60 : decode cX12_isValid 60 = .ok (.invokevirtual 191, 3) := by decide +kernel
theorem dX12_isValid_63 : decode cX12_isValid 63 = .ok (.iaload, 1) := by decide +kernel
theorem dX12_isValid_64 : decode cX12_isValid 64 = .ok (.iconst 1, 1) := by decide +kernel
theorem dX12_isValid_65 : decode cX12_isValid 65 = .ok (.isub, 1) := by decide +kernel
theorem dX12_isValid_66 : decode cX12_isValid 66 = .ok (.aload_n 0, 1) := by decide +kernel
theorem dX12_isValid_67 : decode cX12_isValid 67 = .ok (.getfield 82, 3) := by decide +kernel
theorem dX12_isValid_70 : decode cX12_isValid 70 = .ok (.aload_n 0, 1) := by decide +kernel
theorem dX12_isValid_71 : decode cX12_isValid 71 = .ok (.iload 4, 2) := by decide +kernel
theorem dX12_isValid_73 : decode cX12_isValid 73 = .ok (.invokevirtual 194, 3) := by decide +kernel
theorem dX12_isValid_76 : decode cX12_isValid 76 = .ok (.iaload, 1) := by decide +kernel
theorem dX12_isValid_77 : decode cX12_isValid 77 = .ok (.iconst 1, 1) := by decide +kernel
theorem dX12_isValid_78 : decode cX12_isValid 78 = .ok (.isub, 1) := by decide +kernel
theorem dX12_isValid_79 : decode cX12_isValid 79 = .ok (.invokevirtual 229, 3) := by decide +kernel
theorem dX12_isValid_82 : decode cX12_isValid 82 = .ok (.istore 5, 2) := by decide +kernel
theorem dX12_isValid_84 : decode cX12_isValid 84 = .ok (.iload 5, 2) := by decide +kernel
theorem dX12_isValid_86 : decode cX12_isValid 86 = .ok (.ifCond .ne 5, 3) := by decide +kernel
theorem dX12_isValid_89 : decode cX12_isValid 89 = .ok (.iconst 0, 1) := by decide +kernel
theorem dX12_isValid_90 : decode cX12_isValid 90 = .ok (.ireturn, 1) := by decide +kernel
theorem dX12_isValid_91 : decode cX12_isValid 91 = .ok (.iload_n 2, 1) := by decide +kernel
theorem dX12_isValid_92 : decode cX12_isValid 92 = .ok (.iload 5, 2) := by decide +kernel
theorem dX12_isValid_94 : decode cX12_isValid 94 = .ok (.iconst 2, 1) := by decide +kernel
theorem dX12_isValid_95 : decode cX12_isValid 95 = .ok (.if_icmp .ne 7, 3) := by decide +kernel
theorem dX12_isValid_98 : decode cX12_isValid 98 = .ok (.iconst 1, 1) := by decide +kernel
theorem dX12_isValid_99 : decode cX12_isValid 99 = .ok (.goto 4, 3) := by decide +kernel
theorem dX12_isValid_102 : decode cX12_isValid 102 = .ok (.iconst 0, 1) := by decide +kernel
theorem dX12_isValid_103 : decode cX12_isValid 103 = .ok (.ior, 1) := by decide +kernel
theorem dX12_isValid_104 : decode cX12_isValid 104 = .ok (.istore_n 2, 1) := by decide +kernel
theorem dX12_isValid_105 : decode cX12_isValid 105 = .ok (.aload_n 3, 1) := by decide +kernel
theorem dX12_isValid_106 : decode cX12_isValid 106 = .ok (.aload_n 0, 1) := by decide +kernel
theorem dX12_isValid_107 : decode cX12_isValid 107 = .ok (.iload 4, 2) := by decide +kernel
theorem dX12_isValid_109 : decode cX12_isValid 109 = .ok (.invokevirtual 191, 3) := by decide +kernel
theorem dX12_isValid_112 : decode cX12_isValid 112 = .ok (.iconst 1, 1) := by decide +kernel
theorem dX12_isValid_113 : decode cX12_isValid 113 = .ok (.bastore, 1) := by decide +kernel
theorem dX12_isValid_114 : decode cX12_isValid 114 = .ok (.aload_n 3, 1) := by decide +kernel
theorem dX12_isValid_115 : decode cX12_isValid 115 = .ok (.aload_n 0, 1) := by decide +kernel
theorem dX12_isValid_116 : decode cX12_isValid 116 = .ok (.iload 4, 2) := by decide +kernel
theorem dX12_isValid_118 : decode cX12_isValid 118 = .ok (.invokevirtual 194, 3) := by decide +kernel
theorem dX12_isValid_121 : decode cX12_isValid 121 = .ok (.iconst 1, 1) := by decide +kernel
theorem dX12_isValid_122 : decode cX12_isValid 122 = .ok (.bastore, 1) := by decide +kernel
theorem dX12_isValid_123 : decode cX12_isValid 123 = .ok (.iinc 4 1, 3) := by decide +kernel
theorem dX12_isValid_126 : decode cX12_isValid 126 = .ok (.goto (-96), 3) := by decide +kernel
theorem dX12_isValid_129 : decode cX12_isValid 129 = .ok (.iload_n 2, 1) := by decide +kernel
theorem dX12_isValid_130 : decode cX12_isValid 130 = .ok (.istore 4, 2) := by decide +kernel
theorem dX12_isValid_132 : decode cX12_isValid 132 = .ok (.iconst 0, 1) := by decide +kernel
theorem dX12_isValid_133 : decode cX12_isValid 133 = .ok (.istore 5, 2) := by decide +kernel
theorem dX12_isValid_135 : decode cX12_isValid 135 = .ok (.iload 5, 2) := by decide +kernel
theorem dX12_isValid_137 : decode cX12_isValid 137 = .ok (.iconst 3, 1) := by decide +kernel
theorem dX12_isValid_138 : decode cX12_isValid 138 = .ok (.if_icmp .ge 37, 3) := by decide +kernel
theorem dX12_isValid_141 : decode cX12_isValid 141 = .ok (.iload 4, 2) := by decide +kernel
theorem dX12_isValid_143 : decode cX12_isValid 143 = .ok (.aload_n 3, 1) := by decide +kernel
theorem dX12_isValid_144 : decode cX12_isValid 144 = .ok (.iload 5, 2) := by decide +kernel
theorem dX12_isValid_146 : decode cX12_isValid 146 = .ok (.baload, 1) := by decide +kernel
theorem dX12_isValid_147 : decode cX12_isValid 147 = .ok (.ifCond .ne 14, 3) := by decide +kernel
theorem dX12_isValid_150 : decode cX12_isValid 150 = .ok (.aload_n 0, 1) := by decide +kernel
theorem dX12_isValid_151 : decode cX12_isValid 151 = .ok (.getfield 82, 3) := by decide +kernel
theorem dX12_isValid_154 : decode cX12_isValid 154 = .ok (.iload 5, 2) := by decide +kernel
theorem dX12_isValid_156 : decode cX12_isValid 156 = .ok (.iaload, 1) := by decide +kernel
theorem dX12_isValid_157 : decode cX12_isValid 157 = .ok (.iconst 1, 1) := by decide +kernel
theorem dX12_isValid_158 : decode cX12_isValid 158 = .ok (.if_icmp .ne 7, 3) := by decide +kernel
theorem dX12_isValid_161 : decode cX12_isValid 161 = .ok (.iconst 1, 1) := by decide +kernel
theorem dX12_isValid_162 : decode cX12_isValid 162 = .ok (.goto 4, 3) := by decide +kernel
theorem dX12_isValid_165 : decode cX12_isValid 165 = .ok (.iconst 0, 1) := by decide +kernel
theorem dX12_isValid_166 : decode cX12_isValid 166 = .ok (.iand, 1) := by decide +kernel
theorem dX12_isValid_167 : decode cX12_isValid 167 = .ok (.istore 4, 2) := by decide +kernel
theorem dX12_isValid_169 : decode cX12_isValid 169 = .ok (.iinc 5 1, 3) := by decide +kernel
theorem dX12_isValid_172 : decode cX12_isValid 172 = .ok (.goto (-37), 3) := by decide +kernel
theorem dX12_isValid_175 : decode cX12_isValid 175 = .ok (.iload 4, 2) := by decide +kernel
theorem dX12_isValid_177 : decode cX12_isValid 177 = .ok (.ireturn, 1) := by decide +kernel
theorem dX12_findProjection_0 : decode cX12_findProjection 0 = .ok (.iconst 1, 1) := by decide +kernel
theorem dX12_findProjection_1 : decode cX12_findProjection 1 = .ok (.istore_n 2, 1) := by decide +kernel
theorem dX12_findProjection_2 : decode cX12_findProjection 2 = .ok (.iload_n 2, 1) := by decide +kernel
theorem dX12_findProjection_3 : decode cX12_findProjection 3 = .ok (.aload_n 0, 1) := by decide +kernel
theorem dX12_findProjection_4 : decode cX12_findProjection 4 = .ok (.getfield 9, 3) := by decide +kernel
theorem dX12_findProjection_7 : decode cX12_findProjection 7 = .ok (.iconst 0, 1) := by decide +kernel
theorem dX12_findProjection_8 : decode cX12_findProjection 8 = .ok (.iaload, 1) := by decide +kernel
theorem dX12_findProjection_9 : decode cX12_findProjection 9 = .ok (.if_icmp .gt 90, 3) := by decide +kernel
theorem dX12_findProjection_12 : decode cX12_findProjection 12 = .ok (.iconst 1, 1) := by decide +kernel
theorem dX12_findProjection_13 : decode cX12_findProjection 13 = .ok (.istore_n 3, 1) := by decide +kernel
theorem dX12_findProjection_14 : decode cX12_findProjection 14 = .ok (.iload_n 3, 1) := by decide +kernel
theorem dX12_findProjection_15 : decode cX12_findProjection 15 = .ok (.aload_n 0, 1) := by decide +kernel
theorem dX12_findProjection_16 : decode cX12_findProjection 16 = .ok (.getfield 9, 3) := by decide +kernel
theorem dX12_findProjection_19 : decode cX12_findProjection 19 = .ok (.iconst 1, 1) := by decide +kernel
theorem dX12_findProjection_20 : decode cX12_findProjection 20 = .ok (.iaload, 1) := by decide +kernel
theorem dX12_findProjection_21 : decode cX12_findProjection 21 = .ok (.if_icmp .gt 72, 3) := by decide +kernel
theorem dX12_findProjection_24 : decode cX12_findProjection 24 = .ok (.iconst 1, 1) := by decide +kernel
theorem dX12_findProjection_25 : decode cX12_findProjection 25 = .ok (.istore 4, 2) := by decide +kernel
theorem dX12_findProjection_27 : decode cX12_findProjection 27 = .ok (.iload 4, 2) := by decide +kernel
theorem dX12_findProjection_29 : decode cX12_findProjection 29 = .ok (.aload_n 0, 1) := by decide +kernel
theorem dX12_findProjection_30 : decode cX12_findProjection 30 = .ok (.getfield 9, 3) := by decide +kernel
theorem dX12_findProjection_33 : decode cX12_findProjection 33 = .ok (.iconst 2, 1) := by decide +kernel
theorem dX12_findProjection_34 : decode cX12_findProjection 34 = .ok (.iaload, 1) := by decide +kernel
theorem dX12_findProjection_35 : decode cX12_findProjection 35 = .ok (.if_icmp .gt 52, 3) := by decide +kernel
theorem dX12_findProjection_38 : decode cX12_findProjection 38 = .ok (.aload_n 0, 1) := by decide +kernel
theorem dX12_findProjection_39 : decode cX12_findProjection 39 = .ok (.getfield 82, 3) := by decide +kernel
theorem dX12_findProjection_42 : decode cX12_findProjection 42 = .ok (.iconst 0, 1) := by decide +kernel
theorem dX12_findProjection_43 : decode cX12_findProjection 43 = .ok (.iload_n 2, 1) := by decide +kernel
theorem dX12_findProjection_44 : decode cX12_findProjection 44 = .ok (.iastore, 1) := by decide +kernel
theorem dX12_findProjection_45 : decode cX12_findProjection 45 = .ok (.aload_n 0, 1) := by decide +kernel
theorem dX12_findProjection_46 : decode cX12_findProjection 46 = .ok (.getfield 82, 3) := by decide +kernel
theorem dX12_findProjection_49 : decode cX12_findProjection 49 = .ok (.iconst 1, 1) := by decide +kernel
theorem dX12_findProjection_50 : decode cX12_findProjection 50 = .ok (.iload_n 3, 1) := by decide +kernel
theorem dX12_findProjection_51 : decode cX12_findProjection 51 = .ok (.iastore, 1) := by decide +kernel
theorem dX12_findProjection_52 : decode cX12_findProjection 52 = .ok (.aload_n 0, 1) := by decide +kernel
theorem dX12_findProjection_53 : decode cX12_findProjection 53 = .ok (.getfield 82, 3) := by decide +kernel
theorem dX12_findProjection_56 : decode cX12_findProjection 56 = .ok (.iconst 2, 1) := by decide +kernel
theorem dX12_findProjection_57 : decode cX12_findProjection 57 = .ok (.iload 4, 2) := by decide +kernel
theorem dX12_findProjection_59 : decode cX12_findProjection 59 = .ok (.iastore, 1) := by decide +kernel
theorem dX12_findProjection_60 : decode cX12_findProjection 60 = .ok (.aload_n 0, 1) := by decide +kernel
theorem dX12_findProjection_61 : decode cX12_findProjection 61 = .ok (.iload_n 1, 1) := by decide +kernel
theorem dX12_findProjection_62 : decode cX12_findProjection 62 = .ok (.invokevirtual 262, 3) := by decide +kernel
theorem dX12_findProjection_65 : decode cX12_findProjection 65 = .ok (.ifCond .eq 16, 3) := by decide +kernel
theorem dX12_findProjection_68 : decode cX12_findProjection 68 = .ok (.bipush 100, 2) := by decide +kernel
theorem dX12_findProjection_70 : decode cX12_findProjection 70 = .ok (.iload_n 2, 1) := by decide +kernel
theorem dX12_findProjection_71 : decode cX12_findProjection 71 = .ok (.imul, 1) := by decide +kernel
theorem dX12_findProjection_72 : decode cX12_findProjection 72 = .ok (.bipush 10, 2) := by decide +kernel
theorem dX12_findProjection_74 : decode cX12_findProjection 74 = .ok (.iload_n 3, 1) := by decide +kernel
theorem dX12_findProjection_75 : decode cX12_findProjection 75 = .ok (.imul, 1) := by decide +kernel
theorem dX12_findProjection_76 : decode cX12_findProjection 76 = .ok (.iadd, 1) := by decide +kernel
theorem dX12_findProjection_77 : decode cX12_findProjection 77 = .ok (.iload 4, 2) := by decide +kernel
theorem dX12_findProjection_79 : decode cX12_findProjection 79 = .ok (.iadd, 1) := by decide +kernel
theorem dX12_findProjection_80 : decode cX12_findProjection 80 = .ok (.ireturn, 1) := by decide +kernel
theorem dX12_findProjection_81 : decode cX12_findProjection 81 = .ok (.iinc 4 1, 3) := by decide +kernel
theorem dX12_findProjection_84 : decode cX12_findProjection 84 = .ok (.goto (-57), 3) := by decide +kernel
theorem dX12_findProjection_87 : decode cX12_findProjection 87 = .ok (.iinc 3 1, 3) := by decide +kernel
theorem dX12_findProjection_90 : decode cX12_findProjection 90 = .ok (.goto (-76), 3) := by decide +kernel
theorem dX12_findProjection_93 : decode cX12_findProjection 93 = .ok (.iinc 2 1, 3) := by decide +kernel
theorem dX12_findProjection_96 : decode cX12_findProjection 96 = .ok (.goto (-94), 3) := by decide +kernel
theorem dX12_findProjection_99 : decode cX12_findProjection 99 = .ok (.bipush (-5), 2) := by decide +kernel
theorem dX12_findProjection_101 : decode cX12_findProjection 101 = .ok (.ireturn, 1) := by decide +kernel
theorem dX12_projection_0 : decode cX12_projection 0 = .ok (.aload_n 0, 1) := by decide +kernel
theorem dX12_projection_1 : decode cX12_projection 1 = .ok (.invokevirtual 223, 3) := by decide +kernel
theorem dX12_projection_4 : decode cX12_projection 4 = .ok (.aload_n 0, 1) := by decide +kernel
theorem dX12_projection_5 : decode cX12_projection 5 = .ok (.invokevirtual 226, 3) := by decide +kernel
theorem dX12_projection_8 : decode cX12_projection 8 = .ok (.iload_n 1, 1) := by decide +kernel
theorem dX12_projection_9 : decode cX12_projection 9 = .ok (.iconst 0, 1) := by decide +kernel
theorem dX12_projection_10 : decode cX12_projection 10 = .ok (.aload_n 0, 1) := by decide +kernel
theorem dX12_projection_11 : decode cX12_projection 11 = .ok (.getfield 220, 3) := by decide +kernel
theorem dX12_projection_14 : decode cX12_projection 14 = .ok (.iconst 1, 1) := by decide +kernel
theorem dX12_projection_15 : decode cX12_projection 15 = .ok (.isub, 1) := by decide +kernel
theorem dX12_projection_16 : decode cX12_projection 16 = .ok (.invokestatic 105, 3) := by decide +kernel
theorem dX12_projection_19 : decode cX12_projection 19 = .ok (.ifCond .eq 11, 3) := by decide +kernel
theorem dX12_projection_22 : decode cX12_projection 22 = .ok (.aload_n 0, 1) := by decide +kernel
theorem dX12_projection_23 : decode cX12_projection 23 = .ok (.iload_n 1, 1) := by decide +kernel
theorem dX12_projection_24 : decode cX12_projection 24 = .ok (.invokevirtual 265, 3) := by decide +kernel
theorem dX12_projection_27 : decode cX12_projection 27 = .ok (.goto 4, 3) := by decide +kernel
theorem dX12_projection_30 : decode cX12_projection 30 = .ok (.iconst (-1), 1) := by decide +kernel
theorem dX12_projection_31 : decode cX12_projection 31 = .ok (.ireturn, 1) := by decide +kernel
theorem dX12_eliminate_0 : decode cX12_eliminate 0 = .ok (.aload_n 0, 1) := by decide +kernel
theorem dX12_eliminate_1 : decode cX12_eliminate 1 = .ok (.invokevirtual 223, 3) := by decide +kernel
theorem dX12_eliminate_4 : decode cX12_eliminate 4 = .ok (.iconst 0, 1) := by decide +kernel
theorem dX12_eliminate_5 : decode cX12_eliminate 5 = .ok (.istore_n 1, 1) := by decide +kernel
theorem dX12_eliminate_6 : decode cX12_eliminate 6 = .ok (.iconst 1, 1) := by decide +kernel
theorem dX12_eliminate_7 : decode cX12_eliminate 7 = .ok (.istore_n 2, 1) := by decide +kernel
theorem dX12_eliminate_8 : decode cX12_eliminate 8 = .ok (.iload_n 2, 1) := by decide +kernel
theorem dX12_eliminate_9 : decode cX12_eliminate 9 = .ok (.ifCond .eq 192, 3) := by decide +kernel
theorem dX12_eliminate_12 : decode cX12_eliminate 12 = .ok (.aload_n 0, 1) := by decide +kernel
theorem dX12_eliminate_13 : decode cX12_eliminate 13 = .ok (.invokevirtual 226, 3) := by decide +kernel
theorem dX12_eliminate_16 : decode cX12_eliminate 16 = .ok (.iconst 0, 1) := by decide +kernel
theorem dX12_eliminate_17 : decode cX12_eliminate 17 = .ok (.istore_n 2, 1) := by decide +kernel
theorem dX12_eliminate_18 : decode cX12_eliminate 18 = .ok (.iconst 0, 1) := by decide +kernel
theorem dX12_eliminate_19 : decode cX12_eliminate 19 = .ok (.istore_n 3, 1) := by decide +kernel
theorem dX12_eliminate_20 : decode cX12_eliminate 20 = .ok (.iload_n 3, 1) := by decide +kernel
theorem dX12_eliminate_21 : decode cX12_eliminate 21 = .ok (.aload_n 0, 1) := by decide +kernel
theorem dX12_eliminate_22 : decode cX12_eliminate 22 = .ok (.getfield 211, 3) := by decide +kernel
theorem dX12_eliminate_25 : decode cX12_eliminate 25 = .ok (.if_icmp .ge 16, 3) := by decide +kernel
theorem dX12_eliminate_28 : decode cX12_eliminate 28 = .ok (.aload_n 0, 1) := by decide +kernel
theorem dX12_eliminate_29 : decode cX12_eliminate 29 = .ok (.getfield 88, 3) := by decide +kernel
theorem dX12_eliminate_32 : decode cX12_eliminate 32 = .ok (.iload_n 3, 1) := by decide +kernel
theorem dX12_eliminate_33 : decode cX12_eliminate 33 = .ok (.iconst 0, 1) := by decide +kernel
theorem dX12_eliminate_34 : decode cX12_eliminate 34 = .ok (.bastore, 1) := by decide +kernel
theorem dX12_eliminate_35 : decode cX12_eliminate 35 = .ok (.iinc 3 1, 3) := by decide +kernel
theorem dX12_eliminate_38 : decode cX12_eliminate 38 = .ok (.goto (-18), 3) := by decide +kernel
theorem dX12_eliminate_41 : decode cX12_eliminate 41 = .ok (.iconst 0, 1) := by decide +kernel
theorem dX12_eliminate_42 : decode cX12_eliminate 42 = .ok (.istore_n 3, 1) := by decide +kernel
theorem dX12_eliminate_43 : decode cX12_eliminate 43 = .ok (.iload_n 3, 1) := by decide +kernel
theorem dX12_eliminate_44 : decode cX12_eliminate 44 = .ok (.aload_n 0, 1) := by decide +kernel
theorem dX12_eliminate_45 : decode cX12_eliminate 45 = .ok (.getfield 220, 3) := by decide +kernel
theorem dX12_eliminate_48 : decode cX12_eliminate 48 = .ok (.if_icmp .ge 99, 3) := by decide +kernel
theorem dX12_eliminate_51 : decode cX12_eliminate 51 = .ok (.aload_n 0, 1) := by decide +kernel
theorem dX12_eliminate_52 : decode cX12_eliminate 52 = .ok (.iload_n 3, 1) := by decide +kernel
theorem dX12_eliminate_53 : decode cX12_eliminate 53 = .ok (.invokevirtual 265, 3) := by decide +kernel
theorem dX12_eliminate_56 : decode cX12_eliminate 56 = .ok (.ifCond .lt 85, 3) := by decide +kernel
theorem dX12_eliminate_59 : decode cX12_eliminate 59 = .ok (.iconst 1, 1) := by decide +kernel
theorem dX12_eliminate_60 : decode cX12_eliminate 60 = .ok (.istore_n 2, 1) := by decide +kernel
theorem dX12_eliminate_61 : decode cX12_eliminate 61 = .ok (.iconst 0, 1) := by decide +kernel
theorem dX12_eliminate_62 : decode cX12_eliminate 62 = .ok (.istore 4, 2) := by decide +kernel
theorem dX12_eliminate_64 : decode cX12_eliminate 64 = .ok (.iload 4, 2) := by decide +kernel
theorem dX12_eliminate_66 : decode cX12_eliminate 66 = .ok (.aload_n 0, 1) := by decide +kernel
theorem dX12_eliminate_67 : decode cX12_eliminate 67 = .ok (.getfield 211, 3) := by decide +kernel
theorem dX12_eliminate_70 : decode cX12_eliminate 70 = .ok (.if_icmp .ge 71, 3) := by decide +kernel
theorem dX12_eliminate_73 : decode cX12_eliminate 73 = .ok (.aload_n 0, 1) := by decide +kernel
theorem dX12_eliminate_74 : decode cX12_eliminate 74 = .ok (.getfield 88, 3) := by decide +kernel
theorem dX12_eliminate_77 : decode cX12_eliminate 77 = .ok (.iload 4, 2) := by decide +kernel
theorem dX12_eliminate_79 : decode cX12_eliminate 79 = .ok (.dup2, 1) := by decide +kernel
theorem dX12_eliminate_80 : decode cX12_eliminate 80 = .ok (.baload, 1) := by decide +kernel
theorem dX12_eliminate_81 : decode cX12_eliminate 81 = .ok (.aload_n 0, 1) := by decide +kernel
theorem dX12_eliminate_82 : decode cX12_eliminate 82 = .ok (.getfield 63, 3) := by decide +kernel
theorem dX12_eliminate_85 : decode cX12_eliminate 85 = .ok (.iload 4, 2) := by decide +kernel
theorem dX12_eliminate_87 : decode cX12_eliminate 87 = .ok (.iaload, 1) := by decide +kernel
theorem dX12_eliminate_88 : decode cX12_eliminate 88 = .ok (.iload_n 3, 1) := by decide +kernel
theorem dX12_eliminate_89 : decode cX12_eliminate 89 = .ok (.if_icmp .ne 43, 3) := by decide +kernel
theorem dX12_eliminate_92 : decode cX12_eliminate 92 = .ok (.aload_n 0, 1) := by decide +kernel
theorem dX12_eliminate_93 : decode cX12_eliminate 93 = .ok (.iload 4, 2) := by decide +kernel
theorem dX12_eliminate_95 : decode cX12_eliminate 95 = .ok (.aload_n 0, 1) := by decide +kernel
theorem dX12_eliminate_96 : decode cX12_eliminate 96 = .ok (.getfield 82, 3) := by decide +kernel
theorem dX12_eliminate_99 : decode cX12_eliminate 99 = .ok (.aload_n 0, 1) := by decide +kernel
theorem dX12_eliminate_100 : decode cX12_eliminate 100 = .ok (.iload 4, 2) := by decide +kernel
theorem dX12_eliminate_102 : decode cX12_eliminate 102 = .ok (.invokevirtual 191, 3) := by decide +kernel
theorem dX12_eliminate_105 : decode cX12_eliminate 105 = .ok (.iaload, 1) := by decide +kernel
theorem dX12_eliminate_106 : decode cX12_eliminate 106 = .ok (.iconst 1, 1) := by decide +kernel
theorem dX12_eliminate_107 : decode cX12_eliminate 107 = .ok (.isub, 1) := by decide +kernel
theorem dX12_eliminate_108 : decode cX12_eliminate 108 = .ok (.aload_n 0, 1) := by decide +kernel
theorem dX12_eliminate_109 : decode cX12_eliminate 109 = .ok (.getfield 82, 3) := by decide +kernel
theorem dX12_eliminate_112 : decode cX12_eliminate 112 = .ok (.aload_n 0, 1) := by decide +kernel
theorem dX12_eliminate_113 : decode cX12_eliminate 113 = .ok (.iload 4, 2) := by decide +kernel
theorem dX12_eliminate_115 : decode cX12_eliminate 115 = .ok (.invokevirtual 194, 3) := by decide +kernel
theorem dX12_eliminate_118 : decode cX12_eliminate 118 = .ok (.iaload, 1) := by decide +kernel
theorem dX12_eliminate_119 : decode cX12_eliminate 119 = .ok (.iconst 1, 1) := by decide +kernel
theorem dX12_eliminate_120 : decode cX12_eliminate 120 = .ok (.isub, 1) := by decide +kernel
theorem dX12_eliminate_121 : decode cX12_eliminate 121 = .ok (.invokevirtual 229, 3) := by decide +kernel
theorem dX12_eliminate_124 : decode cX12_eliminate 124 = .ok (.iconst 2, 1) := by decide +kernel
theorem dX12_eliminate_125 : decode cX12_eliminate 125 = .ok (.if_icmp .ne 7, 3) := by decide +kernel
theorem dX12_eliminate_128 : decode cX12_eliminate 128 = .ok (.iconst 1, 1) := by decide +kernel
theorem dX12_eliminate_129 : decode cX12_eliminate 129 = .ok (.goto 4, 3) := by decide +kernel
theorem dX12_eliminate_132 : decode cX12_eliminate 132 = .ok (.iconst 0, 1) := by decide +kernel
theorem dX12_eliminate_133 : decode cX12_eliminate 133 = .ok (.ior, 1) := by decide +kernel
theorem dX12_eliminate_134 : decode cX12_eliminate 134 = .ok (.bastore, 1) := by decide +kernel
theorem dX12_eliminate_135 : decode cX12_eliminate 135 = .ok (.iinc 4 1, 3) := by decide +kernel
theorem dX12_eliminate_138 : decode cX12_eliminate 138 = .ok (.goto (-74), 3) := by decide +kernel
theorem dX12_eliminate_141 : decode cX12_eliminate 141 = .ok (.iinc 3 1, 3) := by decide +kernel
theorem dX12_eliminate_144 : decode cX12_eliminate 144 = .ok (.goto (-101), 3) := by decide +kernel
theorem dX12_eliminate_147 : decode cX12_eliminate 147 = .ok (.iconst 0, 1) := by decide +kernel
theorem dX12_eliminate_148 : decode cX12_eliminate 148 = .ok (.istore_n 3, 1) := by decide +kernel
theorem dX12_eliminate_149 : decode cX12_eliminate 149 = .ok (.iload_n 3, 1) := by decide +kernel
theorem dX12_eliminate_150 : decode cX12_eliminate 150 = .ok (.aload_n 0, 1) := by decide +kernel
theorem dX12_eliminate_151 : decode cX12_eliminate 151 = .ok (.getfield 211, 3) := by decide +kernel
theorem dX12_eliminate_154 : decode cX12_eliminate 154 = .ok (.if_icmp .ge 32, 3) := by decide +kernel
theorem dX12_eliminate_157 : decode cX12_eliminate 157 = .ok (.aload_n 0, 1) := by decide +kernel
theorem dX12_eliminate_158 : decode cX12_eliminate 158 = .ok (.getfield 59, 3) := by decide +kernel
theorem dX12_eliminate_161 : decode cX12_eliminate 161 = .ok (.iload_n 3, 1) := by decide +kernel
theorem dX12_eliminate_162 : decode cX12_eliminate 162 = .ok (.dup2, 1) := by decide +kernel
theorem dX12_eliminate_163 : decode cX12_eliminate 163 = .ok (.baload, 1) := by decide +kernel
theorem dX12_eliminate_164 : decode cX12_eliminate 164 = .ok (.aload_n 0, 1) := by decide +kernel
theorem dX12_eliminate_165 : decode cX12_eliminate 165 = .ok (.getfield 88, 3) := by decide +kernel
theorem dX12_eliminate_168 : decode cX12_eliminate 168 = .ok (.iload_n 3, 1) := by decide +kernel
theorem dX12_eliminate_169 : decode cX12_eliminate 169 = .ok (.baload, 1) := by decide +kernel
theorem dX12_eliminate_170 : decode cX12_eliminate 170 = .ok (.ifCond .ne 7, 3) := by decide +kernel
theorem dX12_eliminate_173 : decode cX12_eliminate 173 = .ok (.iconst 1, 1) := by decide +kernel
theorem dX12_eliminate_174 : decode cX12_eliminate 174 = .ok (.goto 4, 3) := by decide +kernel
theorem dX12_eliminate_177 : decode cX12_eliminate 177 = .ok (.iconst 0, 1) := by decide +kernel
theorem dX12_eliminate_178 : decode cX12_eliminate 178 = .ok (.iand, 1) := by decide +kernel
theorem dX12_eliminate_179 : decode cX12_eliminate 179 = .ok (.bastore, 1) := by decide +kernel
theorem dX12_eliminate_180 : decode cX12_eliminate 180 = .ok (.iinc 3 1, 3) := by decide +kernel
theorem dX12_eliminate_183 : decode cX12_eliminate 183 = .ok (.goto (-34), 3) := by decide +kernel
theorem dX12_eliminate_186 : decode cX12_eliminate 186 = .ok (.iload_n 1, 1) := by decide +kernel
theorem dX12_eliminate_187 : decode cX12_eliminate 187 = .ok (.iload_n 2, 1) := by decide +kernel
theorem dX12_eliminate_188 : decode cX12_eliminate 188 = .ok (.ifCond .eq 7, 3) := by decide +kernel
theorem dX12_eliminate_191 : decode cX12_eliminate 191 = .ok (.iconst 1, 1) := by decide +kernel
theorem dX12_eliminate_192 : decode cX12_eliminate 192 = .ok (.goto 4, 3) := by decide +kernel
theorem dX12_eliminate_195 : decode cX12_eliminate 195 = .ok (.iconst 0, 1) := by decide +kernel
theorem dX12_eliminate_196 : decode cX12_eliminate 196 = .ok (.iadd, 1) := by decide +kernel
theorem dX12_eliminate_197 : decode cX12_eliminate 197 = .ok (.istore_n 1, 1) := by decide +kernel
theorem dX12_eliminate_198 : decode cX12_eliminate 198 = .ok (.goto (-190), 3) := by decide +kernel
theorem dX12_eliminate_201 : decode cX12_eliminate 201 = .ok (.iload_n 1, 1) := by decide +kernel
theorem dX12_eliminate_202 : decode cX12_eliminate 202 = .ok (.ireturn, 1) := by decide +kernel
theorem dX12_eliminationRounds_0 : decode cX12_eliminationRounds 0 = .ok (.aload_n 0, 1) := by decide +kernel
theorem dX12_eliminationRounds_1 : decode cX12_eliminationRounds 1 = .ok (.invokevirtual 268, 3) := by decide +kernel
theorem dX12_eliminationRounds_4 : decode cX12_eliminationRounds 4 = .ok (.ireturn, 1) := by decide +kernel
theorem dX12_remainingPairCount_0 : decode cX12_remainingPairCount 0 = .ok (.aload_n 0, 1) := by decide +kernel
theorem dX12_remainingPairCount_1 : decode cX12_remainingPairCount 1 = .ok (.invokevirtual 268, 3) := by decide +kernel
theorem dX12_remainingPairCount_4 : decode cX12_remainingPairCount 4 = .ok (.istore_n 1, 1) := by decide +kernel
theorem dX12_remainingPairCount_5 : decode cX12_remainingPairCount 5 = .ok (.iconst 0, 1) := by decide +kernel
theorem dX12_remainingPairCount_6 : decode cX12_remainingPairCount 6 = .ok (.istore_n 2, 1) := by decide +kernel
theorem dX12_remainingPairCount_7 : decode cX12_remainingPairCount 7 = .ok (.iconst 0, 1) := by decide +kernel
theorem dX12_remainingPairCount_8 : decode cX12_remainingPairCount 8 = .ok (.istore_n 3, 1) := by decide +kernel
theorem dX12_remainingPairCount_9 : decode cX12_remainingPairCount 9 = .ok (.iload_n 3, 1) := by decide +kernel
theorem dX12_remainingPairCount_10 : decode cX12_remainingPairCount 10 = .ok (.aload_n 0, 1) := by decide +kernel
theorem dX12_remainingPairCount_11 : decode cX12_remainingPairCount 11 = .ok (.getfield 211, 3) := by decide +kernel
theorem dX12_remainingPairCount_14 : decode cX12_remainingPairCount 14 = .ok (.if_icmp .ge 26, 3) := by decide +kernel
theorem dX12_remainingPairCount_17 : decode cX12_remainingPairCount 17 = .ok (.iload_n 2, 1) := by decide +kernel
theorem dX12_remainingPairCount_18 : decode cX12_remainingPairCount 18 = .ok (.aload_n 0, 1) := by decide +kernel
theorem dX12_remainingPairCount_19 : decode cX12_remainingPairCount 19 = .ok (.getfield 63, 3) := by decide +kernel
theorem dX12_remainingPairCount_22 : decode cX12_remainingPairCount 22 = .ok (.iload_n 3, 1) := by decide +kernel
theorem dX12_remainingPairCount_23 : decode cX12_remainingPairCount 23 = .ok (.iaload, 1) := by decide +kernel
theorem dX12_remainingPairCount_24 : decode cX12_remainingPairCount 24 = .ok (.ifCond .lt 7, 3) := by decide +kernel
theorem dX12_remainingPairCount_27 : decode cX12_remainingPairCount 27 = .ok (.iconst 1, 1) := by decide +kernel
theorem dX12_remainingPairCount_28 : decode cX12_remainingPairCount 28 = .ok (.goto 4, 3) := by decide +kernel
theorem dX12_remainingPairCount_31 : decode cX12_remainingPairCount 31 = .ok (.iconst 0, 1) := by decide +kernel
theorem dX12_remainingPairCount_32 : decode cX12_remainingPairCount 32 = .ok (.iadd, 1) := by decide +kernel
theorem dX12_remainingPairCount_33 : decode cX12_remainingPairCount 33 = .ok (.istore_n 2, 1) := by decide +kernel
theorem dX12_remainingPairCount_34 : decode cX12_remainingPairCount 34 = .ok (.iinc 3 1, 3) := by decide +kernel
theorem dX12_remainingPairCount_37 : decode cX12_remainingPairCount 37 = .ok (.goto (-28), 3) := by decide +kernel
theorem dX12_remainingPairCount_40 : decode cX12_remainingPairCount 40 = .ok (.iload_n 2, 1) := by decide +kernel
theorem dX12_remainingPairCount_41 : decode cX12_remainingPairCount 41 = .ok (.ireturn, 1) := by decide +kernel
theorem dX12_remainingComponentCount_0 : decode cX12_remainingComponentCount 0 = .ok (.aload_n 0, 1) := by decide +kernel
theorem dX12_remainingComponentCount_1 : decode cX12_remainingComponentCount 1 = .ok (.invokevirtual 268, 3) := by decide +kernel
theorem dX12_remainingComponentCount_4 : decode cX12_remainingComponentCount 4 = .ok (.istore_n 1, 1) := by decide +kernel
theorem dX12_remainingComponentCount_5 : decode cX12_remainingComponentCount 5 = .ok (.aload_n 0, 1) := by decide +kernel
theorem dX12_remainingComponentCount_6 : decode cX12_remainingComponentCount 6 = .ok (.getfield 220, 3) := by decide +kernel
theorem dX12_remainingComponentCount_9 : decode cX12_remainingComponentCount 9 = .ok (.ireturn, 1) := by decide +kernel
theorem dX12_terminatesBySubtermCriterion_0 : decode cX12_terminatesBySubtermCriterion 0 = .ok (.aload_n 0, 1) := by decide +kernel
theorem dX12_terminatesBySubtermCriterion_1 : decode cX12_terminatesBySubtermCriterion 1 = .ok (.invokevirtual 271, 3) := by decide +kernel
theorem dX12_terminatesBySubtermCriterion_4 : decode cX12_terminatesBySubtermCriterion 4 = .ok (.ifCond .ne 7, 3) := by decide +kernel
theorem dX12_terminatesBySubtermCriterion_7 : decode cX12_terminatesBySubtermCriterion 7 = .ok (.iconst 1, 1) := by decide +kernel
theorem dX12_terminatesBySubtermCriterion_8 : decode cX12_terminatesBySubtermCriterion 8 = .ok (.goto 4, 3) := by decide +kernel
theorem dX12_terminatesBySubtermCriterion_11 : decode cX12_terminatesBySubtermCriterion 11 = .ok (.iconst 0, 1) := by decide +kernel
theorem dX12_terminatesBySubtermCriterion_12 : decode cX12_terminatesBySubtermCriterion 12 = .ok (.ireturn, 1) := by decide +kernel
theorem dX12_parseTerm_0 : decode cX12_parseTerm 0 = .ok (.iload_n 1, 1) := by decide +kernel
theorem dX12_parseTerm_1 : decode cX12_parseTerm 1 = .ok (.invokestatic 274, 3) := by decide +kernel
theorem dX12_parseTerm_4 : decode cX12_parseTerm 4 = .ok (.ifCond .ne 5, 3) := by decide +kernel
theorem dX12_parseTerm_7 : decode cX12_parseTerm 7 = .ok (.iconst (-1), 1) := by decide +kernel
theorem dX12_parseTerm_8 : decode cX12_parseTerm 8 = .ok (.ireturn, 1) := by decide +kernel
theorem dX12_parseTerm_9 : decode cX12_parseTerm 9 = .ok (.aload_n 0, 1) := by decide +kernel
theorem dX12_parseTerm_10 : decode cX12_parseTerm 10 = .ok (.iconst 0, 1) := by decide +kernel
theorem dX12_parseTerm_11 : decode cX12_parseTerm 11 = .ok (.putfield 148, 3) := by decide +kernel
theorem dX12_parseTerm_14 : decode cX12_parseTerm 14 = .ok (.aload_n 0, 1) := by decide +kernel
theorem dX12_parseTerm_15 : decode cX12_parseTerm 15 = .ok (.getfield 40, 3) := by decide +kernel
theorem dX12_parseTerm_18 : decode cX12_parseTerm 18 = .ok (.iconst 0, 1) := by decide +kernel
theorem dX12_parseTerm_19 : decode cX12_parseTerm 19 = .ok (.iconst 0, 1) := by decide +kernel
theorem dX12_parseTerm_20 : decode cX12_parseTerm 20 = .ok (.iastore, 1) := by decide +kernel
theorem dX12_parseTerm_21 : decode cX12_parseTerm 21 = .ok (.aload_n 0, 1) := by decide +kernel
theorem dX12_parseTerm_22 : decode cX12_parseTerm 22 = .ok (.invokevirtual 161, 3) := by decide +kernel
theorem dX12_parseTerm_25 : decode cX12_parseTerm 25 = .ok (.ifCond .eq 18, 3) := by decide +kernel
theorem dX12_parseTerm_28 : decode cX12_parseTerm 28 = .ok (.aload_n 0, 1) := by decide +kernel
theorem dX12_parseTerm_29 : decode cX12_parseTerm 29 = .ok (.getfield 148, 3) := by decide +kernel
theorem dX12_parseTerm_32 : decode cX12_parseTerm 32 = .ok (.aload_n 0, 1) := by decide +kernel
theorem dX12_parseTerm_33 : decode cX12_parseTerm 33 = .ok (.getfield 151, 3) := by decide +kernel
theorem dX12_parseTerm_36 : decode cX12_parseTerm 36 = .ok (.if_icmp .ne 7, 3) := by decide +kernel
theorem dX12_parseTerm_39 : decode cX12_parseTerm 39 = .ok (.iconst 1, 1) := by decide +kernel
theorem dX12_parseTerm_40 : decode cX12_parseTerm 40 = .ok (.goto 4, 3) := by decide +kernel
theorem dX12_parseTerm_43 : decode cX12_parseTerm 43 = .ok (.iconst 0, 1) := by decide +kernel
theorem dX12_parseTerm_44 : decode cX12_parseTerm 44 = .ok (.istore_n 2, 1) := by decide +kernel
theorem dX12_parseTerm_45 : decode cX12_parseTerm 45 = .ok (.aload_n 0, 1) := by decide +kernel
theorem dX12_parseTerm_46 : decode cX12_parseTerm 46 = .ok (.iconst 0, 1) := by decide +kernel
theorem dX12_parseTerm_47 : decode cX12_parseTerm 47 = .ok (.putfield 151, 3) := by decide +kernel
theorem dX12_parseTerm_50 : decode cX12_parseTerm 50 = .ok (.iload_n 2, 1) := by decide +kernel
theorem dX12_parseTerm_51 : decode cX12_parseTerm 51 = .ok (.ifCond .ne 11, 3) := by decide +kernel
theorem dX12_parseTerm_54 : decode cX12_parseTerm 54 = .ok (.bipush (-100), 2) := by decide +kernel
theorem dX12_parseTerm_56 : decode cX12_parseTerm 56 = .ok (.aload_n 0, 1) := by decide +kernel
theorem dX12_parseTerm_57 : decode cX12_parseTerm 57 = .ok (.getfield 148, 3) := by decide +kernel
theorem dX12_parseTerm_60 : decode cX12_parseTerm 60 = .ok (.isub, 1) := by decide +kernel
theorem dX12_parseTerm_61 : decode cX12_parseTerm 61 = .ok (.ireturn, 1) := by decide +kernel
theorem dX12_parseTerm_62 : decode cX12_parseTerm 62 = .ok (.aload_n 0, 1) := by decide +kernel
theorem dX12_parseTerm_63 : decode cX12_parseTerm 63 = .ok (.getfield 40, 3) := by decide +kernel
theorem dX12_parseTerm_66 : decode cX12_parseTerm 66 = .ok (.iconst 0, 1) := by decide +kernel
theorem dX12_parseTerm_67 : decode cX12_parseTerm 67 = .ok (.iaload, 1) := by decide +kernel
theorem dX12_parseTerm_68 : decode cX12_parseTerm 68 = .ok (.bipush 40, 2) := by decide +kernel
theorem dX12_parseTerm_70 : decode cX12_parseTerm 70 = .ok (.if_icmp .le 6, 3) := by decide +kernel
theorem dX12_parseTerm_73 : decode cX12_parseTerm 73 = .ok (.bipush (-6), 2) := by decide +kernel
theorem dX12_parseTerm_75 : decode cX12_parseTerm 75 = .ok (.ireturn, 1) := by decide +kernel
theorem dX12_parseTerm_76 : decode cX12_parseTerm 76 = .ok (.aload_n 0, 1) := by decide +kernel
theorem dX12_parseTerm_77 : decode cX12_parseTerm 77 = .ok (.getfield 40, 3) := by decide +kernel
theorem dX12_parseTerm_80 : decode cX12_parseTerm 80 = .ok (.iconst 0, 1) := by decide +kernel
theorem dX12_parseTerm_81 : decode cX12_parseTerm 81 = .ok (.aload_n 0, 1) := by decide +kernel
theorem dX12_parseTerm_82 : decode cX12_parseTerm 82 = .ok (.getfield 22, 3) := by decide +kernel
theorem dX12_parseTerm_85 : decode cX12_parseTerm 85 = .ok (.bipush 96, 2) := by decide +kernel
theorem dX12_parseTerm_87 : decode cX12_parseTerm 87 = .ok (.iload_n 1, 1) := by decide +kernel
theorem dX12_parseTerm_88 : decode cX12_parseTerm 88 = .ok (.imul, 1) := by decide +kernel
theorem dX12_parseTerm_89 : decode cX12_parseTerm 89 = .ok (.bipush 96, 2) := by decide +kernel
theorem dX12_parseTerm_91 : decode cX12_parseTerm 91 = .ok (.invokestatic 169, 3) := by decide +kernel
theorem dX12_parseTerm_94 : decode cX12_parseTerm 94 = .ok (.aload_n 0, 1) := by decide +kernel
theorem dX12_parseTerm_95 : decode cX12_parseTerm 95 = .ok (.getfield 40, 3) := by decide +kernel
theorem dX12_parseTerm_98 : decode cX12_parseTerm 98 = .ok (.iconst 0, 1) := by decide +kernel
theorem dX12_parseTerm_99 : decode cX12_parseTerm 99 = .ok (.iaload, 1) := by decide +kernel
theorem dX12_parseTerm_100 : decode cX12_parseTerm 100 = .ok (.ireturn, 1) := by decide +kernel
theorem dX12_termSize_0 : decode cX12_termSize 0 = .ok (.iload_n 1, 1) := by decide +kernel
theorem dX12_termSize_1 : decode cX12_termSize 1 = .ok (.invokestatic 274, 3) := by decide +kernel
theorem dX12_termSize_4 : decode cX12_termSize 4 = .ok (.ifCond .eq 15, 3) := by decide +kernel
theorem dX12_termSize_7 : decode cX12_termSize 7 = .ok (.aload_n 0, 1) := by decide +kernel
theorem dX12_termSize_8 : decode cX12_termSize 8 = .ok (.getfield 22, 3) := by decide +kernel
theorem dX12_termSize_11 : decode cX12_termSize 11 = .ok (.bipush 96, 2) := by decide +kernel
theorem dX12_termSize_13 : decode cX12_termSize 13 = .ok (.iload_n 1, 1) := by decide +kernel
theorem dX12_termSize_14 : decode cX12_termSize 14 = .ok (.imul, 1) := by decide +kernel
theorem dX12_termSize_15 : decode cX12_termSize 15 = .ok (.iaload, 1) := by decide +kernel
theorem dX12_termSize_16 : decode cX12_termSize 16 = .ok (.goto 4, 3) := by decide +kernel
theorem dX12_termSize_19 : decode cX12_termSize 19 = .ok (.iconst (-1), 1) := by decide +kernel
theorem dX12_termSize_20 : decode cX12_termSize 20 = .ok (.ireturn, 1) := by decide +kernel
theorem dX12_put_0 : decode cX12_put 0 = .ok (.aload_n 0, 1) := by decide +kernel
theorem dX12_put_1 : decode cX12_put 1 = .ok (.getfield 91, 3) := by decide +kernel
theorem dX12_put_4 : decode cX12_put 4 = .ok (.aload_n 0, 1) := by decide +kernel
theorem dX12_put_5 : decode cX12_put 5 = .ok (.getfield 277, 3) := by decide +kernel
theorem dX12_put_8 : decode cX12_put 8 = .ok (.iload_n 1, 1) := by decide +kernel
theorem dX12_put_9 : decode cX12_put 9 = .ok (.iastore, 1) := by decide +kernel
theorem dX12_put_10 : decode cX12_put 10 = .ok (.aload_n 0, 1) := by decide +kernel
theorem dX12_put_11 : decode cX12_put 11 = .ok (.dup, 1) := by decide +kernel
theorem dX12_put_12 : decode cX12_put 12 = .ok (.getfield 277, 3) := by decide +kernel
theorem dX12_put_15 : decode cX12_put 15 = .ok (.iconst 1, 1) := by decide +kernel
theorem dX12_put_16 : decode cX12_put 16 = .ok (.iadd, 1) := by decide +kernel
theorem dX12_put_17 : decode cX12_put 17 = .ok (.putfield 277, 3) := by decide +kernel
theorem dX12_put_20 : decode cX12_put 20 = .ok (.return_, 1) := by decide +kernel
theorem dX12_format_0 : decode cX12_format 0 = .ok (.aload_n 0, 1) := by decide +kernel
theorem dX12_format_1 : decode cX12_format 1 = .ok (.getfield 22, 3) := by decide +kernel
theorem dX12_format_4 : decode cX12_format 4 = .ok (.iload_n 1, 1) := by decide +kernel
theorem dX12_format_5 : decode cX12_format 5 = .ok (.iaload, 1) := by decide +kernel
theorem dX12_format_6 : decode cX12_format 6 = .ok (.istore_n 2, 1) := by decide +kernel
theorem dX12_format_7 : decode cX12_format 7 = .ok (.aload_n 0, 1) := by decide +kernel
theorem dX12_format_8 : decode cX12_format 8 = .ok (.iload_n 2, 1) := by decide +kernel
theorem dX12_format_9 : decode cX12_format 9 = .ok (.invokevirtual 280, 3) := by decide +kernel
theorem dX12_format_12 : decode cX12_format 12 = .ok (.iload_n 1, 1) := by decide +kernel
theorem dX12_format_13 : decode cX12_format 13 = .ok (.iconst 1, 1) := by decide +kernel
theorem dX12_format_14 : decode cX12_format 14 = .ok (.iadd, 1) := by decide +kernel
theorem dX12_format_15 : decode cX12_format 15 = .ok (.istore_n 3, 1) := by decide +kernel
theorem dX12_format_16 : decode cX12_format 16 = .ok (.aload_n 0, 1) := by decide +kernel
theorem dX12_format_17 : decode cX12_format 17 = .ok (.iload_n 2, 1) := by decide +kernel
theorem dX12_format_18 : decode cX12_format 18 = .ok (.invokevirtual 113, 3) := by decide +kernel
theorem dX12_format_21 : decode cX12_format 21 = .ok (.istore 4, 2) := by decide +kernel
theorem dX12_format_23 : decode cX12_format 23 = .ok (.iconst 0, 1) := by decide +kernel
theorem dX12_format_24 : decode cX12_format 24 = .ok (.istore 5, 2) := by decide +kernel
theorem dX12_format_26 : decode cX12_format 26 = .ok (.iload 5, 2) := by decide +kernel
theorem dX12_format_28 : decode cX12_format 28 = .ok (.iload 4, 2) := by decide +kernel
theorem dX12_format_30 : decode cX12_format 30 = .ok (.if_icmp .ge 31, 3) := by decide +kernel
theorem dX12_format_33 : decode cX12_format 33 = .ok (.aload_n 0, 1) := by decide +kernel
theorem dX12_format_34 : decode cX12_format 34 = .ok (.iload 5, 2) := by decide +kernel
theorem dX12_format_36 : decode cX12_format 36 = .ok (.ifCond .ne 8, 3) := by decide +kernel
theorem dX12_format_39 : decode cX12_format 39 = .ok (.bipush 40, 2) := by decide +kernel
theorem dX12_format_41 : decode cX12_format 41 = .ok (.goto 5, 3) := by decide +kernel
theorem dX12_format_44 : decode cX12_format 44 = .ok (.bipush 44, 2) := by decide +kernel
theorem dX12_format_46 : decode cX12_format 46 = .ok (.invokevirtual 280, 3) := by decide +kernel
theorem dX12_format_49 : decode cX12_format 49 = .ok (.aload_n 0, 1) := by decide +kernel
theorem dX12_format_50 : decode cX12_format 50 = .ok (.iload_n 3, 1) := by decide +kernel
theorem dX12_format_51 : decode cX12_format 51 = .ok (.invokevirtual 283, 3) := by decide +kernel
theorem dX12_format_54 : decode cX12_format 54 = .ok (.istore_n 3, 1) := by decide +kernel
theorem dX12_format_55 : decode cX12_format 55 = .ok (.iinc 5 1, 3) := by decide +kernel
theorem dX12_format_58 : decode cX12_format 58 = .ok (.goto (-32), 3) := by decide +kernel
theorem dX12_format_61 : decode cX12_format 61 = .ok (.iload 4, 2) := by decide +kernel
theorem dX12_format_63 : decode cX12_format 63 = .ok (.ifCond .le 9, 3) := by decide +kernel
theorem dX12_format_66 : decode cX12_format 66 = .ok (.aload_n 0, 1) := by decide +kernel
theorem dX12_format_67 : decode cX12_format 67 = .ok (.bipush 41, 2) := by decide +kernel
theorem dX12_format_69 : decode cX12_format 69 = .ok (.invokevirtual 280, 3) := by decide +kernel
theorem dX12_format_72 : decode cX12_format 72 = .ok (.iload_n 3, 1) := by decide +kernel
theorem dX12_format_73 : decode cX12_format 73 = .ok (.ireturn, 1) := by decide +kernel
theorem dX12_formattedLength_0 : decode cX12_formattedLength 0 = .ok (.iload_n 1, 1) := by decide +kernel
theorem dX12_formattedLength_1 : decode cX12_formattedLength 1 = .ok (.invokestatic 274, 3) := by decide +kernel
theorem dX12_formattedLength_4 : decode cX12_formattedLength 4 = .ok (.ifCond .ne 5, 3) := by decide +kernel
theorem dX12_formattedLength_7 : decode cX12_formattedLength 7 = .ok (.iconst (-1), 1) := by decide +kernel
theorem dX12_formattedLength_8 : decode cX12_formattedLength 8 = .ok (.ireturn, 1) := by decide +kernel
theorem dX12_formattedLength_9 : decode cX12_formattedLength 9 = .ok (.aload_n 0, 1) := by decide +kernel
theorem dX12_formattedLength_10 : decode cX12_formattedLength 10 = .ok (.iconst 0, 1) := by decide +kernel
theorem dX12_formattedLength_11 : decode cX12_formattedLength 11 = .ok (.putfield 277, 3) := by decide +kernel
theorem dX12_formattedLength_14 : decode cX12_formattedLength 14 = .ok (.aload_n 0, 1) := by decide +kernel
theorem dX12_formattedLength_15 : decode cX12_formattedLength 15 = .ok (.bipush 96, 2) := by decide +kernel
theorem dX12_formattedLength_17 : decode cX12_formattedLength 17 = .ok (.iload_n 1, 1) := by decide +kernel
theorem dX12_formattedLength_18 : decode cX12_formattedLength 18 = .ok (.imul, 1) := by decide +kernel
theorem dX12_formattedLength_19 : decode cX12_formattedLength 19 = .ok (.iconst 1, 1) := by decide +kernel
theorem dX12_formattedLength_20 : decode cX12_formattedLength 20 = .ok (.iadd, 1) := by decide +kernel
theorem dX12_formattedLength_21 : decode cX12_formattedLength 21 = .ok (.invokevirtual 283, 3) := by decide +kernel
theorem dX12_formattedLength_24 : decode cX12_formattedLength 24 = .ok (.istore_n 2, 1) := by decide +kernel
theorem dX12_formattedLength_25 : decode cX12_formattedLength 25 = .ok (.aload_n 0, 1) := by decide +kernel
theorem dX12_formattedLength_26 : decode cX12_formattedLength 26 = .ok (.getfield 277, 3) := by decide +kernel
theorem dX12_formattedLength_29 : decode cX12_formattedLength 29 = .ok (.ireturn, 1) := by decide +kernel
theorem dX12_formattedCharacter_0 : decode cX12_formattedCharacter 0 = .ok (.aload_n 0, 1) := by decide +kernel
theorem dX12_formattedCharacter_1 : decode cX12_formattedCharacter 1 = .ok (.iload_n 1, 1) := by decide +kernel
theorem dX12_formattedCharacter_2 : decode cX12_formattedCharacter 2 = .ok (.invokevirtual 286, 3) := by decide +kernel
theorem dX12_formattedCharacter_5 : decode cX12_formattedCharacter 5 = .ok (.istore_n 3, 1) := by decide +kernel
theorem dX12_formattedCharacter_6 : decode cX12_formattedCharacter 6 = .ok (.iload_n 2, 1) := by decide +kernel
theorem dX12_formattedCharacter_7 : decode cX12_formattedCharacter 7 = .ok (.iconst 0, 1) := by decide +kernel
theorem dX12_formattedCharacter_8 : decode cX12_formattedCharacter 8 = .ok (.iload_n 3, 1) := by decide +kernel
theorem dX12_formattedCharacter_9 : decode cX12_formattedCharacter 9 = .ok (.iconst 1, 1) := by decide +kernel
theorem dX12_formattedCharacter_10 : decode cX12_formattedCharacter 10 = .ok (.isub, 1) := by decide +kernel
theorem dX12_formattedCharacter_11 : decode cX12_formattedCharacter 11 = .ok (.invokestatic 105, 3) := by decide +kernel
theorem dX12_formattedCharacter_14 : decode cX12_formattedCharacter 14 = .ok (.ifCond .eq 12, 3) := by decide +kernel
theorem dX12_formattedCharacter_17 : decode cX12_formattedCharacter 17 = .ok (.aload_n 0, 1) := by decide +kernel
theorem dX12_formattedCharacter_18 : decode cX12_formattedCharacter 18 = .ok (.getfield 91, 3) := by decide +kernel
theorem dX12_formattedCharacter_21 : decode cX12_formattedCharacter 21 = .ok (.iload_n 2, 1) := by decide +kernel
theorem dX12_formattedCharacter_22 : decode cX12_formattedCharacter 22 = .ok (.iaload, 1) := by decide +kernel
theorem dX12_formattedCharacter_23 : decode cX12_formattedCharacter 23 = .ok (.goto 4, 3) := by decide +kernel
theorem dX12_formattedCharacter_26 : decode cX12_formattedCharacter 26 = .ok (.iconst (-1), 1) := by decide +kernel
theorem dX12_formattedCharacter_27 : decode cX12_formattedCharacter 27 = .ok (.ireturn, 1) := by decide +kernel
theorem dX12_compareTerms_0 : decode cX12_compareTerms 0 = .ok (.iload_n 1, 1) := by decide +kernel
theorem dX12_compareTerms_1 : decode cX12_compareTerms 1 = .ok (.invokestatic 274, 3) := by decide +kernel
theorem dX12_compareTerms_4 : decode cX12_compareTerms 4 = .ok (.ifCond .eq 10, 3) := by decide +kernel
theorem dX12_compareTerms_7 : decode cX12_compareTerms 7 = .ok (.iload_n 2, 1) := by decide +kernel
theorem dX12_compareTerms_8 : decode cX12_compareTerms 8 = .ok (.invokestatic 274, 3) := by decide +kernel
theorem dX12_compareTerms_11 : decode cX12_compareTerms 11 = .ok (.ifCond .ne 5, 3) := by decide +kernel
theorem dX12_compareTerms_14 : decode cX12_compareTerms 14 = .ok (.iconst (-1), 1) := by decide +kernel
theorem dX12_compareTerms_15 : decode cX12_compareTerms 15 = .ok (.ireturn, 1) := by decide +kernel
theorem dX12_compareTerms_16 : decode cX12_compareTerms 16 = .ok (.aload_n 0, 1) := by decide +kernel
theorem dX12_compareTerms_17 : decode cX12_compareTerms 17 = .ok (.getfield 22, 3) := by decide +kernel
theorem dX12_compareTerms_20 : decode cX12_compareTerms 20 = .ok (.bipush 96, 2) := by decide +kernel
theorem dX12_compareTerms_22 : decode cX12_compareTerms 22 = .ok (.iload_n 1, 1) := by decide +kernel
theorem dX12_compareTerms_23 : decode cX12_compareTerms 23 = .ok (.imul, 1) := by decide +kernel
theorem dX12_compareTerms_24 : decode cX12_compareTerms 24 = .ok (.aload_n 0, 1) := by decide +kernel
theorem dX12_compareTerms_25 : decode cX12_compareTerms 25 = .ok (.getfield 22, 3) := by decide +kernel
theorem dX12_compareTerms_28 : decode cX12_compareTerms 28 = .ok (.bipush 96, 2) := by decide +kernel
theorem dX12_compareTerms_30 : decode cX12_compareTerms 30 = .ok (.iload_n 2, 1) := by decide +kernel
theorem dX12_compareTerms_31 : decode cX12_compareTerms 31 = .ok (.imul, 1) := by decide +kernel
theorem dX12_compareTerms_32 : decode cX12_compareTerms 32 = .ok (.invokestatic 288, 3) := by decide +kernel
theorem dX12_compareTerms_35 : decode cX12_compareTerms 35 = .ok (.istore_n 3, 1) := by decide +kernel
theorem dX12_compareTerms_36 : decode cX12_compareTerms 36 = .ok (.iload_n 3, 1) := by decide +kernel
theorem dX12_compareTerms_37 : decode cX12_compareTerms 37 = .ok (.ifCond .ge 7, 3) := by decide +kernel
theorem dX12_compareTerms_40 : decode cX12_compareTerms 40 = .ok (.iconst 0, 1) := by decide +kernel
theorem dX12_compareTerms_41 : decode cX12_compareTerms 41 = .ok (.goto 12, 3) := by decide +kernel
theorem dX12_compareTerms_44 : decode cX12_compareTerms 44 = .ok (.iload_n 3, 1) := by decide +kernel
theorem dX12_compareTerms_45 : decode cX12_compareTerms 45 = .ok (.ifCond .ne 7, 3) := by decide +kernel
theorem dX12_compareTerms_48 : decode cX12_compareTerms 48 = .ok (.iconst 1, 1) := by decide +kernel
theorem dX12_compareTerms_49 : decode cX12_compareTerms 49 = .ok (.goto 4, 3) := by decide +kernel
theorem dX12_compareTerms_52 : decode cX12_compareTerms 52 = .ok (.iconst 2, 1) := by decide +kernel
theorem dX12_compareTerms_53 : decode cX12_compareTerms 53 = .ok (.ireturn, 1) := by decide +kernel
theorem dX12_copyTerm_0 : decode cX12_copyTerm 0 = .ok (.iload_n 1, 1) := by decide +kernel
theorem dX12_copyTerm_1 : decode cX12_copyTerm 1 = .ok (.invokestatic 274, 3) := by decide +kernel
theorem dX12_copyTerm_4 : decode cX12_copyTerm 4 = .ok (.ifCond .eq 10, 3) := by decide +kernel
theorem dX12_copyTerm_7 : decode cX12_copyTerm 7 = .ok (.iload_n 2, 1) := by decide +kernel
theorem dX12_copyTerm_8 : decode cX12_copyTerm 8 = .ok (.invokestatic 274, 3) := by decide +kernel
theorem dX12_copyTerm_11 : decode cX12_copyTerm 11 = .ok (.ifCond .ne 5, 3) := by decide +kernel
theorem dX12_copyTerm_14 : decode cX12_copyTerm 14 = .ok (.iconst (-1), 1) := by decide +kernel
theorem dX12_copyTerm_15 : decode cX12_copyTerm 15 = .ok (.ireturn, 1) := by decide +kernel
theorem dX12_copyTerm_16 : decode cX12_copyTerm 16 = .ok (.aload_n 0, 1) := by decide +kernel
theorem dX12_copyTerm_17 : decode cX12_copyTerm 17 = .ok (.getfield 22, 3) := by decide +kernel
theorem dX12_copyTerm_20 : decode cX12_copyTerm 20 = .ok (.bipush 96, 2) := by decide +kernel
theorem dX12_copyTerm_22 : decode cX12_copyTerm 22 = .ok (.iload_n 1, 1) := by decide +kernel
theorem dX12_copyTerm_23 : decode cX12_copyTerm 23 = .ok (.imul, 1) := by decide +kernel
theorem dX12_copyTerm_24 : decode cX12_copyTerm 24 = .ok (.aload_n 0, 1) := by decide +kernel
theorem dX12_copyTerm_25 : decode cX12_copyTerm 25 = .ok (.getfield 22, 3) := by decide +kernel
theorem dX12_copyTerm_28 : decode cX12_copyTerm 28 = .ok (.bipush 96, 2) := by decide +kernel
theorem dX12_copyTerm_30 : decode cX12_copyTerm 30 = .ok (.iload_n 2, 1) := by decide +kernel
theorem dX12_copyTerm_31 : decode cX12_copyTerm 31 = .ok (.imul, 1) := by decide +kernel
theorem dX12_copyTerm_32 : decode cX12_copyTerm 32 = .ok (.bipush 96, 2) := by decide +kernel
theorem dX12_copyTerm_34 : decode cX12_copyTerm 34 = .ok (.invokestatic 169, 3) := by decide +kernel
theorem dX12_copyTerm_37 : decode cX12_copyTerm 37 = .ok (.aload_n 0, 1) := by decide +kernel
theorem dX12_copyTerm_38 : decode cX12_copyTerm 38 = .ok (.getfield 22, 3) := by decide +kernel
theorem dX12_copyTerm_41 : decode cX12_copyTerm 41 = .ok (.bipush 96, 2) := by decide +kernel
theorem dX12_copyTerm_43 : decode cX12_copyTerm 43 = .ok (.iload_n 2, 1) := by decide +kernel
theorem dX12_copyTerm_44 : decode cX12_copyTerm 44 = .ok (.imul, 1) := by decide +kernel
theorem dX12_copyTerm_45 : decode cX12_copyTerm 45 = .ok (.iaload, 1) := by decide +kernel
theorem dX12_copyTerm_46 : decode cX12_copyTerm 46 = .ok (.ireturn, 1) := by decide +kernel
theorem dX12_load_0 : decode cX12_load 0 = .ok (.aload_n 0, 1) := by decide +kernel
theorem dX12_load_1 : decode cX12_load 1 = .ok (.getfield 16, 3) := by decide +kernel
theorem dX12_load_4 : decode cX12_load 4 = .ok (.iload_n 1, 1) := by decide +kernel
theorem dX12_load_5 : decode cX12_load 5 = .ok (.aload_n 0, 1) := by decide +kernel
theorem dX12_load_6 : decode cX12_load 6 = .ok (.getfield 22, 3) := by decide +kernel
theorem dX12_load_9 : decode cX12_load 9 = .ok (.bipush 96, 2) := by decide +kernel
theorem dX12_load_11 : decode cX12_load 11 = .ok (.iload_n 2, 1) := by decide +kernel
theorem dX12_load_12 : decode cX12_load 12 = .ok (.imul, 1) := by decide +kernel
theorem dX12_load_13 : decode cX12_load 13 = .ok (.bipush 96, 2) := by decide +kernel
theorem dX12_load_15 : decode cX12_load 15 = .ok (.invokestatic 169, 3) := by decide +kernel
theorem dX12_load_18 : decode cX12_load 18 = .ok (.aload_n 0, 1) := by decide +kernel
theorem dX12_load_19 : decode cX12_load 19 = .ok (.getfield 16, 3) := by decide +kernel
theorem dX12_load_22 : decode cX12_load 22 = .ok (.iload_n 1, 1) := by decide +kernel
theorem dX12_load_23 : decode cX12_load 23 = .ok (.iaload, 1) := by decide +kernel
theorem dX12_load_24 : decode cX12_load 24 = .ok (.ireturn, 1) := by decide +kernel
theorem dX12_loadLeft_0 : decode cX12_loadLeft 0 = .ok (.aload_n 0, 1) := by decide +kernel
theorem dX12_loadLeft_1 : decode cX12_loadLeft 1 = .ok (.iload_n 1, 1) := by decide +kernel
theorem dX12_loadLeft_2 : decode cX12_loadLeft 2 = .ok (.invokevirtual 176, 3) := by decide +kernel
theorem dX12_loadLeft_5 : decode cX12_loadLeft 5 = .ok (.ifCond .eq 22, 3) := by decide +kernel
theorem dX12_loadLeft_8 : decode cX12_loadLeft 8 = .ok (.iload_n 2, 1) := by decide +kernel
theorem dX12_loadLeft_9 : decode cX12_loadLeft 9 = .ok (.invokestatic 274, 3) := by decide +kernel
theorem dX12_loadLeft_12 : decode cX12_loadLeft 12 = .ok (.ifCond .eq 15, 3) := by decide +kernel
theorem dX12_loadLeft_15 : decode cX12_loadLeft 15 = .ok (.aload_n 0, 1) := by decide +kernel
theorem dX12_loadLeft_16 : decode cX12_loadLeft 16 = .ok (.iload_n 1, 1) := by decide +kernel
theorem dX12_loadLeft_17 : decode cX12_loadLeft 17 = .ok (.invokestatic 125, 3) := by decide +kernel
theorem dX12_loadLeft_20 : decode cX12_loadLeft 20 = .ok (.iload_n 2, 1) := by decide +kernel
theorem dX12_loadLeft_21 : decode cX12_loadLeft 21 = .ok (.invokevirtual 292, 3) := by decide +kernel
theorem dX12_loadLeft_24 : decode cX12_loadLeft 24 = .ok (.goto 4, 3) := by decide +kernel
theorem dX12_loadLeft_27 : decode cX12_loadLeft 27 = .ok (.iconst (-1), 1) := by decide +kernel
theorem dX12_loadLeft_28 : decode cX12_loadLeft 28 = .ok (.ireturn, 1) := by decide +kernel
theorem dX12_loadRight_0 : decode cX12_loadRight 0 = .ok (.aload_n 0, 1) := by decide +kernel
theorem dX12_loadRight_1 : decode cX12_loadRight 1 = .ok (.iload_n 1, 1) := by decide +kernel
theorem dX12_loadRight_2 : decode cX12_loadRight 2 = .ok (.invokevirtual 176, 3) := by decide +kernel
theorem dX12_loadRight_5 : decode cX12_loadRight 5 = .ok (.ifCond .eq 22, 3) := by decide +kernel
theorem dX12_loadRight_8 : decode cX12_loadRight 8 = .ok (.iload_n 2, 1) := by decide +kernel
theorem dX12_loadRight_9 : decode cX12_loadRight 9 = .ok (.invokestatic 274, 3) := by decide +kernel
theorem dX12_loadRight_12 : decode cX12_loadRight 12 = .ok (.ifCond .eq 15, 3) := by decide +kernel
theorem dX12_loadRight_15 : decode cX12_loadRight 15 = .ok (.aload_n 0, 1) := by decide +kernel
theorem dX12_loadRight_16 : decode cX12_loadRight 16 = .ok (.iload_n 1, 1) := by decide +kernel
theorem dX12_loadRight_17 : decode cX12_loadRight 17 = .ok (.invokestatic 145, 3) := by decide +kernel
theorem dX12_loadRight_20 : decode cX12_loadRight 20 = .ok (.iload_n 2, 1) := by decide +kernel
theorem dX12_loadRight_21 : decode cX12_loadRight 21 = .ok (.invokevirtual 292, 3) := by decide +kernel
theorem dX12_loadRight_24 : decode cX12_loadRight 24 = .ok (.goto 4, 3) := by decide +kernel
theorem dX12_loadRight_27 : decode cX12_loadRight 27 = .ok (.iconst (-1), 1) := by decide +kernel
theorem dX12_loadRight_28 : decode cX12_loadRight 28 = .ok (.ireturn, 1) := by decide +kernel
theorem dX12_isPosition_0 : decode cX12_isPosition 0 = .ok (.iload_n 1, 1) := by decide +kernel
theorem dX12_isPosition_1 : decode cX12_isPosition 1 = .ok (.invokestatic 274, 3) := by decide +kernel
theorem dX12_isPosition_4 : decode cX12_isPosition 4 = .ok (.ifCond .eq 26, 3) := by decide +kernel
theorem dX12_isPosition_7 : decode cX12_isPosition 7 = .ok (.iload_n 2, 1) := by decide +kernel
theorem dX12_isPosition_8 : decode cX12_isPosition 8 = .ok (.iconst 0, 1) := by decide +kernel
theorem dX12_isPosition_9 : decode cX12_isPosition 9 = .ok (.aload_n 0, 1) := by decide +kernel
theorem dX12_isPosition_10 : decode cX12_isPosition 10 = .ok (.getfield 22, 3) := by decide +kernel
theorem dX12_isPosition_13 : decode cX12_isPosition 13 = .ok (.bipush 96, 2) := by decide +kernel
theorem dX12_isPosition_15 : decode cX12_isPosition 15 = .ok (.iload_n 1, 1) := by decide +kernel
theorem dX12_isPosition_16 : decode cX12_isPosition 16 = .ok (.imul, 1) := by decide +kernel
theorem dX12_isPosition_17 : decode cX12_isPosition 17 = .ok (.iaload, 1) := by decide +kernel
theorem dX12_isPosition_18 : decode cX12_isPosition 18 = .ok (.iconst 1, 1) := by decide +kernel
theorem dX12_isPosition_19 : decode cX12_isPosition 19 = .ok (.isub, 1) := by decide +kernel
theorem dX12_isPosition_20 : decode cX12_isPosition 20 = .ok (.invokestatic 105, 3) := by decide +kernel
theorem dX12_isPosition_23 : decode cX12_isPosition 23 = .ok (.ifCond .eq 7, 3) := by decide +kernel
theorem dX12_isPosition_26 : decode cX12_isPosition 26 = .ok (.iconst 1, 1) := by decide +kernel
theorem dX12_isPosition_27 : decode cX12_isPosition 27 = .ok (.goto 4, 3) := by decide +kernel
theorem dX12_isPosition_30 : decode cX12_isPosition 30 = .ok (.iconst 0, 1) := by decide +kernel
theorem dX12_isPosition_31 : decode cX12_isPosition 31 = .ok (.ireturn, 1) := by decide +kernel
theorem dX12_matches_0 : decode cX12_matches 0 = .ok (.aload_n 0, 1) := by decide +kernel
theorem dX12_matches_1 : decode cX12_matches 1 = .ok (.iload_n 1, 1) := by decide +kernel
theorem dX12_matches_2 : decode cX12_matches 2 = .ok (.invokevirtual 176, 3) := by decide +kernel
theorem dX12_matches_5 : decode cX12_matches 5 = .ok (.ifCond .eq 12, 3) := by decide +kernel
theorem dX12_matches_8 : decode cX12_matches 8 = .ok (.aload_n 0, 1) := by decide +kernel
theorem dX12_matches_9 : decode cX12_matches 9 = .ok (.iload_n 2, 1) := by decide +kernel
theorem dX12_matches_10 : decode cX12_matches 10 = .ok (.iload_n 3, 1) := by decide +kernel
theorem dX12_matches_11 : decode cX12_matches 11 = .ok (.invokevirtual 295, 3) := by decide +kernel
theorem dX12_matches_14 : decode cX12_matches 14 = .ok (.ifCond .ne 5, 3) := by decide +kernel
theorem dX12_matches_17 : decode cX12_matches 17 = .ok (.iconst (-1), 1) := by decide +kernel
theorem dX12_matches_18 : decode cX12_matches 18 = .ok (.ireturn, 1) := by decide +kernel
theorem dX12_matches_19 : decode cX12_matches 19 = .ok (.aload_n 0, 1) := by decide +kernel
theorem dX12_matches_20 : decode cX12_matches 20 = .ok (.iload_n 1, 1) := by decide +kernel
theorem dX12_matches_21 : decode cX12_matches 21 = .ok (.aload_n 0, 1) := by decide +kernel
theorem dX12_matches_22 : decode cX12_matches 22 = .ok (.getfield 22, 3) := by decide +kernel
theorem dX12_matches_25 : decode cX12_matches 25 = .ok (.bipush 96, 2) := by decide +kernel
theorem dX12_matches_27 : decode cX12_matches 27 = .ok (.iload_n 2, 1) := by decide +kernel
theorem dX12_matches_28 : decode cX12_matches 28 = .ok (.imul, 1) := by decide +kernel
theorem dX12_matches_29 : decode cX12_matches 29 = .ok (.iconst 1, 1) := by decide +kernel
theorem dX12_matches_30 : decode cX12_matches 30 = .ok (.iadd, 1) := by decide +kernel
theorem dX12_matches_31 : decode cX12_matches 31 = .ok (.iload_n 3, 1) := by decide +kernel
theorem dX12_matches_32 : decode cX12_matches 32 = .ok (.iadd, 1) := by decide +kernel
theorem dX12_matches_33 : decode cX12_matches 33 = .ok (.invokevirtual 138, 3) := by decide +kernel
theorem dX12_matches_36 : decode cX12_matches 36 = .ok (.ifCond .eq 7, 3) := by decide +kernel
theorem dX12_matches_39 : decode cX12_matches 39 = .ok (.iconst 1, 1) := by decide +kernel
theorem dX12_matches_40 : decode cX12_matches 40 = .ok (.goto 4, 3) := by decide +kernel
theorem dX12_matches_43 : decode cX12_matches 43 = .ok (.iconst 0, 1) := by decide +kernel
theorem dX12_matches_44 : decode cX12_matches 44 = .ok (.ireturn, 1) := by decide +kernel
theorem dX12_redexCount_0 : decode cX12_redexCount 0 = .ok (.iload_n 1, 1) := by decide +kernel
theorem dX12_redexCount_1 : decode cX12_redexCount 1 = .ok (.invokestatic 274, 3) := by decide +kernel
theorem dX12_redexCount_4 : decode cX12_redexCount 4 = .ok (.ifCond .eq 19, 3) := by decide +kernel
theorem dX12_redexCount_7 : decode cX12_redexCount 7 = .ok (.aload_n 0, 1) := by decide +kernel
theorem dX12_redexCount_8 : decode cX12_redexCount 8 = .ok (.aload_n 0, 1) := by decide +kernel
theorem dX12_redexCount_9 : decode cX12_redexCount 9 = .ok (.getfield 22, 3) := by decide +kernel
theorem dX12_redexCount_12 : decode cX12_redexCount 12 = .ok (.bipush 96, 2) := by decide +kernel
theorem dX12_redexCount_14 : decode cX12_redexCount 14 = .ok (.iload_n 1, 1) := by decide +kernel
theorem dX12_redexCount_15 : decode cX12_redexCount 15 = .ok (.imul, 1) := by decide +kernel
theorem dX12_redexCount_16 : decode cX12_redexCount 16 = .ok (.iconst (-1), 1) := by decide +kernel
theorem dX12_redexCount_17 : decode cX12_redexCount 17 = .ok (.invokevirtual 298, 3) := by decide +kernel
theorem dX12_redexCount_20 : decode cX12_redexCount 20 = .ok (.goto 4, 3) := by decide +kernel
theorem dX12_redexCount_23 : decode cX12_redexCount 23 = .ok (.iconst (-1), 1) := by decide +kernel
theorem dX12_redexCount_24 : decode cX12_redexCount 24 = .ok (.ireturn, 1) := by decide +kernel
theorem dX12_redexAt_0 : decode cX12_redexAt 0 = .ok (.iload_n 1, 1) := by decide +kernel
theorem dX12_redexAt_1 : decode cX12_redexAt 1 = .ok (.invokestatic 274, 3) := by decide +kernel
theorem dX12_redexAt_4 : decode cX12_redexAt 4 = .ok (.ifCond .eq 23, 3) := by decide +kernel
theorem dX12_redexAt_7 : decode cX12_redexAt 7 = .ok (.iload_n 2, 1) := by decide +kernel
theorem dX12_redexAt_8 : decode cX12_redexAt 8 = .ok (.ifCond .lt 19, 3) := by decide +kernel
theorem dX12_redexAt_11 : decode cX12_redexAt 11 = .ok (.aload_n 0, 1) := by decide +kernel
theorem dX12_redexAt_12 : decode cX12_redexAt 12 = .ok (.aload_n 0, 1) := by decide +kernel
theorem dX12_redexAt_13 : decode cX12_redexAt 13 = .ok (.getfield 22, 3) := by decide +kernel
theorem dX12_redexAt_16 : decode cX12_redexAt 16 = .ok (.bipush 96, 2) := by decide +kernel
theorem dX12_redexAt_18 : decode cX12_redexAt 18 = .ok (.iload_n 1, 1) := by decide +kernel
theorem dX12_redexAt_19 : decode cX12_redexAt 19 = .ok (.imul, 1) := by decide +kernel
theorem dX12_redexAt_20 : decode cX12_redexAt 20 = .ok (.iload_n 2, 1) := by decide +kernel
theorem dX12_redexAt_21 : decode cX12_redexAt 21 = .ok (.invokevirtual 298, 3) := by decide +kernel
theorem dX12_redexAt_24 : decode cX12_redexAt 24 = .ok (.goto 4, 3) := by decide +kernel
theorem dX12_redexAt_27 : decode cX12_redexAt 27 = .ok (.iconst (-1), 1) := by decide +kernel
theorem dX12_redexAt_28 : decode cX12_redexAt 28 = .ok (.ireturn, 1) := by decide +kernel
theorem dX12_rewriteAt_0 : decode cX12_rewriteAt 0 = .ok (.aload_n 0, 1) := by decide +kernel
theorem dX12_rewriteAt_1 : decode cX12_rewriteAt 1 = .ok (.iload_n 1, 1) := by decide +kernel
theorem dX12_rewriteAt_2 : decode cX12_rewriteAt 2 = .ok (.iload_n 2, 1) := by decide +kernel
theorem dX12_rewriteAt_3 : decode cX12_rewriteAt 3 = .ok (.invokevirtual 295, 3) := by decide +kernel
theorem dX12_rewriteAt_6 : decode cX12_rewriteAt 6 = .ok (.ifCond .ne 5, 3) := by decide +kernel
theorem dX12_rewriteAt_9 : decode cX12_rewriteAt 9 = .ok (.iconst (-1), 1) := by decide +kernel
theorem dX12_rewriteAt_10 : decode cX12_rewriteAt 10 = .ok (.ireturn, 1) := by decide +kernel
theorem dX12_rewriteAt_11 : decode cX12_rewriteAt 11 = .ok (.aload_n 0, 1) := by decide +kernel
theorem dX12_rewriteAt_12 : decode cX12_rewriteAt 12 = .ok (.aload_n 0, 1) := by decide +kernel
theorem dX12_rewriteAt_13 : decode cX12_rewriteAt 13 = .ok (.getfield 22, 3) := by decide +kernel
theorem dX12_rewriteAt_16 : decode cX12_rewriteAt 16 = .ok (.bipush 96, 2) := by decide +kernel
theorem dX12_rewriteAt_18 : decode cX12_rewriteAt 18 = .ok (.iload_n 1, 1) := by decide +kernel
theorem dX12_rewriteAt_19 : decode cX12_rewriteAt 19 = .ok (.imul, 1) := by decide +kernel
theorem dX12_rewriteAt_20 : decode cX12_rewriteAt 20 = .ok (.iload_n 2, 1) := by decide +kernel
theorem dX12_rewriteAt_21 : decode cX12_rewriteAt 21 = .ok (.invokevirtual 301, 3) := by decide +kernel
theorem dX12_rewriteAt_24 : decode cX12_rewriteAt 24 = .ok (.istore_n 3, 1) := by decide +kernel
theorem dX12_rewriteAt_25 : decode cX12_rewriteAt 25 = .ok (.iload_n 3, 1) := by decide +kernel
theorem dX12_rewriteAt_26 : decode cX12_rewriteAt 26 = .ok (.ifCond .le 21, 3) := by decide +kernel
theorem dX12_rewriteAt_29 : decode cX12_rewriteAt 29 = .ok (.aload_n 0, 1) := by decide +kernel
theorem dX12_rewriteAt_30 : decode cX12_rewriteAt 30 = .ok (.getfield 34, 3) := by decide +kernel
theorem dX12_rewriteAt_33 : decode cX12_rewriteAt 33 = .ok (.iconst 0, 1) := by decide +kernel
theorem dX12_rewriteAt_34 : decode cX12_rewriteAt 34 = .ok (.aload_n 0, 1) := by decide +kernel
theorem dX12_rewriteAt_35 : decode cX12_rewriteAt 35 = .ok (.getfield 22, 3) := by decide +kernel
theorem dX12_rewriteAt_38 : decode cX12_rewriteAt 38 = .ok (.bipush 96, 2) := by decide +kernel
theorem dX12_rewriteAt_40 : decode cX12_rewriteAt 40 = .ok (.iload_n 1, 1) := by decide +kernel
theorem dX12_rewriteAt_41 : decode cX12_rewriteAt 41 = .ok (.imul, 1) := by decide +kernel
theorem dX12_rewriteAt_42 : decode cX12_rewriteAt 42 = .ok (.bipush 96, 2) := by decide +kernel
theorem dX12_rewriteAt_44 : decode cX12_rewriteAt 44 = .ok (.invokestatic 169, 3) := by decide +kernel
theorem dX12_rewriteAt_47 : decode cX12_rewriteAt 47 = .ok (.iload_n 3, 1) := by decide +kernel
theorem dX12_rewriteAt_48 : decode cX12_rewriteAt 48 = .ok (.ireturn, 1) := by decide +kernel
theorem dX12_rewriteOutermost_0 : decode cX12_rewriteOutermost 0 = .ok (.iload_n 1, 1) := by decide +kernel
theorem dX12_rewriteOutermost_1 : decode cX12_rewriteOutermost 1 = .ok (.invokestatic 274, 3) := by decide +kernel
theorem dX12_rewriteOutermost_4 : decode cX12_rewriteOutermost 4 = .ok (.ifCond .ne 5, 3) := by decide +kernel
theorem dX12_rewriteOutermost_7 : decode cX12_rewriteOutermost 7 = .ok (.iconst (-1), 1) := by decide +kernel
theorem dX12_rewriteOutermost_8 : decode cX12_rewriteOutermost 8 = .ok (.ireturn, 1) := by decide +kernel
theorem dX12_rewriteOutermost_9 : decode cX12_rewriteOutermost 9 = .ok (.iload_n 2, 1) := by decide +kernel
theorem dX12_rewriteOutermost_10 : decode cX12_rewriteOutermost 10 = .ok (.iconst 0, 1) := by decide +kernel
theorem dX12_rewriteOutermost_11 : decode cX12_rewriteOutermost 11 = .ok (.bipush 100, 2) := by decide +kernel
theorem dX12_rewriteOutermost_13 : decode cX12_rewriteOutermost 13 = .ok (.invokestatic 105, 3) := by decide +kernel
theorem dX12_rewriteOutermost_16 : decode cX12_rewriteOutermost 16 = .ok (.ifCond .ne 6, 3) := by decide +kernel
theorem dX12_rewriteOutermost_19 : decode cX12_rewriteOutermost 19 = .ok (.bipush (-2), 2) := by decide +kernel
theorem dX12_rewriteOutermost_21 : decode cX12_rewriteOutermost 21 = .ok (.ireturn, 1) := by decide +kernel
theorem dX12_rewriteOutermost_22 : decode cX12_rewriteOutermost 22 = .ok (.iconst 0, 1) := by decide +kernel
theorem dX12_rewriteOutermost_23 : decode cX12_rewriteOutermost 23 = .ok (.istore_n 3, 1) := by decide +kernel
theorem dX12_rewriteOutermost_24 : decode cX12_rewriteOutermost 24 = .ok (.iconst 1, 1) := by decide +kernel
theorem dX12_rewriteOutermost_25 : decode cX12_rewriteOutermost 25 = .ok (.istore 4, 2) := by decide +kernel
theorem dX12_rewriteOutermost_27 : decode cX12_rewriteOutermost 27 = .ok (.iload 4, 2) := by decide +kernel
theorem dX12_rewriteOutermost_29 : decode cX12_rewriteOutermost 29 = .ok (.ifCond .eq 61, 3) := by decide +kernel
theorem dX12_rewriteOutermost_32 : decode cX12_rewriteOutermost 32 = .ok (.iload_n 3, 1) := by decide +kernel
theorem dX12_rewriteOutermost_33 : decode cX12_rewriteOutermost 33 = .ok (.iload_n 2, 1) := by decide +kernel
theorem dX12_rewriteOutermost_34 : decode cX12_rewriteOutermost 34 = .ok (.if_icmp .ge 56, 3) := by decide +kernel
theorem dX12_rewriteOutermost_37 : decode cX12_rewriteOutermost 37 = .ok (.aload_n 0, 1) := by decide +kernel
theorem dX12_rewriteOutermost_38 : decode cX12_rewriteOutermost 38 = .ok (.aload_n 0, 1) := by decide +kernel
theorem dX12_rewriteOutermost_39 : decode cX12_rewriteOutermost 39 = .ok (.getfield 22, 3) := by decide +kernel
theorem dX12_rewriteOutermost_42 : decode cX12_rewriteOutermost 42 = .ok (.bipush 96, 2) := by decide +kernel
theorem dX12_rewriteOutermost_44 : decode cX12_rewriteOutermost 44 = .ok (.iload_n 1, 1) := by decide +kernel
theorem dX12_rewriteOutermost_45 : decode cX12_rewriteOutermost 45 = .ok (.imul, 1) := by decide +kernel
theorem dX12_rewriteOutermost_46 : decode cX12_rewriteOutermost 46 = .ok (.iconst 0, 1) := by decide +kernel
theorem dX12_rewriteOutermost_47 : decode cX12_rewriteOutermost 47 = .ok (.invokevirtual 298, 3) := by decide +kernel
theorem dX12_rewriteOutermost_50 : decode cX12_rewriteOutermost 50 = .ok (.istore 5, 2) := by decide +kernel
theorem dX12_rewriteOutermost_52 : decode cX12_rewriteOutermost 52 = .ok (.iload 5, 2) := by decide +kernel
theorem dX12_rewriteOutermost_54 : decode cX12_rewriteOutermost 54 = .ok (.ifCond .lt 17, 3) := by decide +kernel
theorem dX12_rewriteOutermost_57 : decode cX12_rewriteOutermost 57 = .ok (.aload_n 0, 1) := by decide +kernel
theorem dX12_rewriteOutermost_58 : decode cX12_rewriteOutermost 58 = .ok (.iload_n 1, 1) := by decide +kernel
theorem dX12_rewriteOutermost_59 : decode cX12_rewriteOutermost 59 = .ok (.iload 5, 2) := by decide +kernel
theorem dX12_rewriteOutermost_61 : decode cX12_rewriteOutermost 61 = .ok (.invokevirtual 304, 3) := by decide +kernel
theorem dX12_rewriteOutermost_64 : decode cX12_rewriteOutermost 64 = .ok (.ifCond .le 7, 3) := by decide +kernel
theorem dX12_rewriteOutermost_67 : decode cX12_rewriteOutermost 67 = .ok (.iconst 1, 1) := by decide +kernel
theorem dX12_rewriteOutermost_68 : decode cX12_rewriteOutermost 68 = .ok (.goto 4, 3) := by decide +kernel
theorem dX12_rewriteOutermost_71 : decode cX12_rewriteOutermost 71 = .ok (.iconst 0, 1) := by decide +kernel
theorem dX12_rewriteOutermost_72 : decode cX12_rewriteOutermost 72 = .ok (.istore 4, 2) := by decide +kernel
theorem dX12_rewriteOutermost_74 : decode cX12_rewriteOutermost 74 = .ok (.iload_n 3, 1) := by decide +kernel
theorem dX12_rewriteOutermost_75 : decode cX12_rewriteOutermost 75 = .ok (.iload 4, 2) := by decide +kernel
theorem dX12_rewriteOutermost_77 : decode cX12_rewriteOutermost 77 = .ok (.ifCond .eq 7, 3) := by decide +kernel
theorem dX12_rewriteOutermost_80 : decode cX12_rewriteOutermost 80 = .ok (.iconst 1, 1) := by decide +kernel
theorem dX12_rewriteOutermost_81 : decode cX12_rewriteOutermost 81 = .ok (.goto 4, 3) := by decide +kernel
theorem dX12_rewriteOutermost_84 : decode cX12_rewriteOutermost 84 = .ok (.iconst 0, 1) := by decide +kernel
theorem dX12_rewriteOutermost_85 : decode cX12_rewriteOutermost 85 = .ok (.iadd, 1) := by decide +kernel
theorem dX12_rewriteOutermost_86 : decode cX12_rewriteOutermost 86 = .ok (.istore_n 3, 1) := by decide +kernel
theorem dX12_rewriteOutermost_87 : decode cX12_rewriteOutermost 87 = .ok (.goto (-60), 3) := by decide +kernel
theorem dX12_rewriteOutermost_90 : decode cX12_rewriteOutermost 90 = .ok (.iload_n 3, 1) := by decide +kernel
theorem dX12_rewriteOutermost_91 : decode cX12_rewriteOutermost 91 = .ok (.ireturn, 1) := by decide +kernel
theorem dX12_isMet_0 : decode cX12_isMet 0 = .ok (.iconst 0, 1) := by decide +kernel
theorem dX12_isMet_1 : decode cX12_isMet 1 = .ok (.istore_n 1, 1) := by decide +kernel
theorem dX12_isMet_2 : decode cX12_isMet 2 = .ok (.iconst 0, 1) := by decide +kernel
theorem dX12_isMet_3 : decode cX12_isMet 3 = .ok (.istore_n 2, 1) := by decide +kernel
theorem dX12_isMet_4 : decode cX12_isMet 4 = .ok (.iload_n 2, 1) := by decide +kernel
theorem dX12_isMet_5 : decode cX12_isMet 5 = .ok (.aload_n 0, 1) := by decide +kernel
theorem dX12_isMet_6 : decode cX12_isMet 6 = .ok (.getfield 307, 3) := by decide +kernel
theorem dX12_isMet_9 : decode cX12_isMet 9 = .ok (.if_icmp .ge 38, 3) := by decide +kernel
theorem dX12_isMet_12 : decode cX12_isMet 12 = .ok (.iload_n 1, 1) := by decide +kernel
theorem dX12_isMet_13 : decode cX12_isMet 13 = .ok (.ifCond .ne 34, 3) := by decide +kernel
theorem dX12_isMet_16 : decode cX12_isMet 16 = .ok (.aload_n 0, 1) := by decide +kernel
theorem dX12_isMet_17 : decode cX12_isMet 17 = .ok (.getfield 95, 3) := by decide +kernel
theorem dX12_isMet_20 : decode cX12_isMet 20 = .ok (.bipush 96, 2) := by decide +kernel
theorem dX12_isMet_22 : decode cX12_isMet 22 = .ok (.iload_n 2, 1) := by decide +kernel
theorem dX12_isMet_23 : decode cX12_isMet 23 = .ok (.imul, 1) := by decide +kernel
theorem dX12_isMet_24 : decode cX12_isMet 24 = .ok (.aload_n 0, 1) := by decide +kernel
theorem dX12_isMet_25 : decode cX12_isMet 25 = .ok (.getfield 34, 3) := by decide +kernel
theorem dX12_isMet_28 : decode cX12_isMet 28 = .ok (.iconst 0, 1) := by decide +kernel
theorem dX12_isMet_29 : decode cX12_isMet 29 = .ok (.invokestatic 288, 3) := by decide +kernel
theorem dX12_isMet_32 : decode cX12_isMet 32 = .ok (.ifCond .ne 7, 3) := by decide +kernel
theorem dX12_isMet_35 : decode cX12_isMet 35 = .ok (.iconst 1, 1) := by decide +kernel
theorem dX12_isMet_36 : decode cX12_isMet 36 = .ok (.goto 4, 3) := by decide +kernel
theorem dX12_isMet_39 : decode cX12_isMet 39 = .ok (.iconst 0, 1) := by decide +kernel
theorem dX12_isMet_40 : decode cX12_isMet 40 = .ok (.istore_n 1, 1) := by decide +kernel
theorem dX12_isMet_41 : decode cX12_isMet 41 = .ok (.iinc 2 1, 3) := by decide +kernel
theorem dX12_isMet_44 : decode cX12_isMet 44 = .ok (.goto (-40), 3) := by decide +kernel
theorem dX12_isMet_47 : decode cX12_isMet 47 = .ok (.iload_n 1, 1) := by decide +kernel
theorem dX12_isMet_48 : decode cX12_isMet 48 = .ok (.ireturn, 1) := by decide +kernel
theorem dX12_meet_0 : decode cX12_meet 0 = .ok (.aload_n 1, 1) := by decide +kernel
theorem dX12_meet_1 : decode cX12_meet 1 = .ok (.iload_n 2, 1) := by decide +kernel
theorem dX12_meet_2 : decode cX12_meet 2 = .ok (.aload_n 0, 1) := by decide +kernel
theorem dX12_meet_3 : decode cX12_meet 3 = .ok (.getfield 95, 3) := by decide +kernel
theorem dX12_meet_6 : decode cX12_meet 6 = .ok (.bipush 96, 2) := by decide +kernel
theorem dX12_meet_8 : decode cX12_meet 8 = .ok (.aload_n 0, 1) := by decide +kernel
theorem dX12_meet_9 : decode cX12_meet 9 = .ok (.getfield 307, 3) := by decide +kernel
theorem dX12_meet_12 : decode cX12_meet 12 = .ok (.imul, 1) := by decide +kernel
theorem dX12_meet_13 : decode cX12_meet 13 = .ok (.bipush 96, 2) := by decide +kernel
theorem dX12_meet_15 : decode cX12_meet 15 = .ok (.invokestatic 169, 3) := by decide +kernel
theorem dX12_meet_18 : decode cX12_meet 18 = .ok (.aload_n 0, 1) := by decide +kernel
theorem dX12_meet_19 : decode cX12_meet 19 = .ok (.getfield 98, 3) := by decide +kernel
theorem dX12_meet_22 : decode cX12_meet 22 = .ok (.aload_n 0, 1) := by decide +kernel
theorem dX12_meet_23 : decode cX12_meet 23 = .ok (.getfield 307, 3) := by decide +kernel
theorem dX12_meet_26 : decode cX12_meet 26 = .ok (.iconst 0, 1) := by decide +kernel
theorem dX12_meet_27 : decode cX12_meet 27 = .ok (.bastore, 1) := by decide +kernel
theorem dX12_meet_28 : decode cX12_meet 28 = .ok (.aload_n 0, 1) := by decide +kernel
theorem dX12_meet_29 : decode cX12_meet 29 = .ok (.dup, 1) := by decide +kernel
theorem dX12_meet_30 : decode cX12_meet 30 = .ok (.getfield 307, 3) := by decide +kernel
theorem dX12_meet_33 : decode cX12_meet 33 = .ok (.iconst 1, 1) := by decide +kernel
theorem dX12_meet_34 : decode cX12_meet 34 = .ok (.iadd, 1) := by decide +kernel
theorem dX12_meet_35 : decode cX12_meet 35 = .ok (.putfield 307, 3) := by decide +kernel
theorem dX12_meet_38 : decode cX12_meet 38 = .ok (.return_, 1) := by decide +kernel
theorem dX12_findLoop_0 : decode cX12_findLoop 0 = .ok (.iload_n 1, 1) := by decide +kernel
theorem dX12_findLoop_1 : decode cX12_findLoop 1 = .ok (.invokestatic 274, 3) := by decide +kernel
theorem dX12_findLoop_4 : decode cX12_findLoop 4 = .ok (.ifCond .ne 5, 3) := by decide +kernel
theorem dX12_findLoop_7 : decode cX12_findLoop 7 = .ok (.iconst (-1), 1) := by decide +kernel
theorem dX12_findLoop_8 : decode cX12_findLoop 8 = .ok (.ireturn, 1) := by decide +kernel
theorem dX12_findLoop_9 : decode cX12_findLoop 9 = .ok (.iload_n 2, 1) := by decide +kernel
theorem dX12_findLoop_10 : decode cX12_findLoop 10 = .ok (.iconst 1, 1) := by decide +kernel
theorem dX12_findLoop_11 : decode cX12_findLoop 11 = .ok (.bipush 100, 2) := by decide +kernel
theorem dX12_findLoop_13 : decode cX12_findLoop 13 = .ok (.invokestatic 105, 3) := by decide +kernel
theorem dX12_findLoop_16 : decode cX12_findLoop 16 = .ok (.ifCond .ne 6, 3) := by decide +kernel
theorem dX12_findLoop_19 : decode cX12_findLoop 19 = .ok (.bipush (-2), 2) := by decide +kernel
theorem dX12_findLoop_21 : decode cX12_findLoop 21 = .ok (.ireturn, 1) := by decide +kernel
theorem dX12_findLoop_22 : decode cX12_findLoop 22 = .ok (.aload_n 0, 1) := by decide +kernel
theorem dX12_findLoop_23 : decode cX12_findLoop 23 = .ok (.iconst 0, 1) := by decide +kernel
theorem dX12_findLoop_24 : decode cX12_findLoop 24 = .ok (.putfield 307, 3) := by decide +kernel
theorem dX12_findLoop_27 : decode cX12_findLoop 27 = .ok (.aload_n 0, 1) := by decide +kernel
theorem dX12_findLoop_28 : decode cX12_findLoop 28 = .ok (.aload_n 0, 1) := by decide +kernel
theorem dX12_findLoop_29 : decode cX12_findLoop 29 = .ok (.getfield 22, 3) := by decide +kernel
theorem dX12_findLoop_32 : decode cX12_findLoop 32 = .ok (.bipush 96, 2) := by decide +kernel
theorem dX12_findLoop_34 : decode cX12_findLoop 34 = .ok (.iload_n 1, 1) := by decide +kernel
theorem dX12_findLoop_35 : decode cX12_findLoop 35 = .ok (.imul, 1) := by decide +kernel
theorem dX12_findLoop_36 : decode cX12_findLoop 36 = .ok (.invokevirtual 310, 3) := by decide +kernel
theorem dX12_findLoop_39 : decode cX12_findLoop 39 = .ok (.iconst 1, 1) := by decide +kernel
theorem dX12_findLoop_40 : decode cX12_findLoop 40 = .ok (.istore_n 3, 1) := by decide +kernel
theorem dX12_findLoop_41 : decode cX12_findLoop 41 = .ok (.iload_n 3, 1) := by decide +kernel
theorem dX12_findLoop_42 : decode cX12_findLoop 42 = .ok (.iload_n 2, 1) := by decide +kernel
theorem dX12_findLoop_43 : decode cX12_findLoop 43 = .ok (.if_icmp .gt 74, 3) := by decide +kernel
theorem dX12_findLoop_46 : decode cX12_findLoop 46 = .ok (.bipush 96, 2) := by decide +kernel
theorem dX12_findLoop_48 : decode cX12_findLoop 48 = .ok (.aload_n 0, 1) := by decide +kernel
theorem dX12_findLoop_49 : decode cX12_findLoop 49 = .ok (.getfield 307, 3) := by decide +kernel
theorem dX12_findLoop_52 : decode cX12_findLoop 52 = .ok (.iconst 1, 1) := by decide +kernel
theorem dX12_findLoop_53 : decode cX12_findLoop 53 = .ok (.isub, 1) := by decide +kernel
theorem dX12_findLoop_54 : decode cX12_findLoop 54 = .ok (.imul, 1) := by decide +kernel
theorem dX12_findLoop_55 : decode cX12_findLoop 55 = .ok (.istore 4, 2) := by decide +kernel
theorem dX12_findLoop_57 : decode cX12_findLoop 57 = .ok (.aload_n 0, 1) := by decide +kernel
theorem dX12_findLoop_58 : decode cX12_findLoop 58 = .ok (.aload_n 0, 1) := by decide +kernel
theorem dX12_findLoop_59 : decode cX12_findLoop 59 = .ok (.getfield 95, 3) := by decide +kernel
theorem dX12_findLoop_62 : decode cX12_findLoop 62 = .ok (.iload 4, 2) := by decide +kernel
theorem dX12_findLoop_64 : decode cX12_findLoop 64 = .ok (.iconst 0, 1) := by decide +kernel
theorem dX12_findLoop_65 : decode cX12_findLoop 65 = .ok (.invokevirtual 298, 3) := by decide +kernel
theorem dX12_findLoop_68 : decode cX12_findLoop 68 = .ok (.istore 5, 2) := by decide +kernel
theorem dX12_findLoop_70 : decode cX12_findLoop 70 = .ok (.iload 5, 2) := by decide +kernel
theorem dX12_findLoop_72 : decode cX12_findLoop 72 = .ok (.ifCond .lt 18, 3) := by decide +kernel
theorem dX12_findLoop_75 : decode cX12_findLoop 75 = .ok (.aload_n 0, 1) := by decide +kernel
theorem dX12_findLoop_76 : decode cX12_findLoop 76 = .ok (.aload_n 0, 1) := by decide +kernel
theorem dX12_findLoop_77 : decode cX12_findLoop 77 = .ok (.getfield 95, 3) := by decide +kernel
theorem dX12_findLoop_80 : decode cX12_findLoop 80 = .ok (.iload 4, 2) := by decide +kernel
theorem dX12_findLoop_82 : decode cX12_findLoop 82 = .ok (.iload 5, 2) := by decide +kernel
theorem dX12_findLoop_84 : decode cX12_findLoop 84 = .ok (.invokevirtual 301, 3) := by decide +kernel
theorem dX12_findLoop_87 : decode cX12_findLoop 87 = .ok (.ifCond .ge 6, 3) := by decide +kernel
theorem dX12_findLoop_90 : decode cX12_findLoop 90 = .ok (.bipush (-5), 2) := by decide +kernel
theorem dX12_findLoop_92 : decode cX12_findLoop 92 = .ok (.ireturn, 1) := by decide +kernel
theorem dX12_findLoop_93 : decode cX12_findLoop 93 = .ok (.aload_n 0, 1) := by decide +kernel
theorem dX12_findLoop_94 : decode cX12_findLoop 94 = .ok (.invokevirtual 314, 3) := by decide +kernel
theorem dX12_findLoop_97 : decode cX12_findLoop 97 = .ok (.ifCond .eq 5, 3) := by decide +kernel
theorem dX12_findLoop_100 : decode cX12_findLoop 100 = .ok (.iload_n 3, 1) := by decide +kernel
theorem dX12_findLoop_101 : decode cX12_findLoop 101 = .ok (.ireturn, 1) := by decide +kernel
theorem dX12_findLoop_102 : decode cX12_findLoop 102 = .ok (.aload_n 0, 1) := by decide +kernel
theorem dX12_findLoop_103 : decode cX12_findLoop 103 = .ok (.aload_n 0, 1) := by decide +kernel
theorem dX12_findLoop_104 : decode cX12_findLoop 104 = .ok (.getfield 34, 3) := by decide +kernel
theorem dX12_findLoop_107 : decode cX12_findLoop 107 = .ok (.iconst 0, 1) := by decide +kernel
theorem dX12_findLoop_108 : decode cX12_findLoop 108 = .ok (.invokevirtual 310, 3) := by decide +kernel
theorem dX12_findLoop_111 : decode cX12_findLoop 111 = .ok (.iinc 3 1, 3) := by decide +kernel
theorem dX12_findLoop_114 : decode cX12_findLoop 114 = .ok (.goto (-73), 3) := by decide +kernel
theorem dX12_findLoop_117 : decode cX12_findLoop 117 = .ok (.bipush (-5), 2) := by decide +kernel
theorem dX12_findLoop_119 : decode cX12_findLoop 119 = .ok (.ireturn, 1) := by decide +kernel
theorem dX12_lowestUnexpanded_0 : decode cX12_lowestUnexpanded 0 = .ok (.bipush (-5), 2) := by decide +kernel
theorem dX12_lowestUnexpanded_2 : decode cX12_lowestUnexpanded 2 = .ok (.istore_n 1, 1) := by decide +kernel
theorem dX12_lowestUnexpanded_3 : decode cX12_lowestUnexpanded 3 = .ok (.iconst 0, 1) := by decide +kernel
theorem dX12_lowestUnexpanded_4 : decode cX12_lowestUnexpanded 4 = .ok (.istore_n 2, 1) := by decide +kernel
theorem dX12_lowestUnexpanded_5 : decode cX12_lowestUnexpanded 5 = .ok (.iload_n 2, 1) := by decide +kernel
theorem dX12_lowestUnexpanded_6 : decode cX12_lowestUnexpanded 6 = .ok (.aload_n 0, 1) := by decide +kernel
theorem dX12_lowestUnexpanded_7 : decode cX12_lowestUnexpanded 7 = .ok (.getfield 307, 3) := by decide +kernel
theorem dX12_lowestUnexpanded_10 : decode cX12_lowestUnexpanded 10 = .ok (.if_icmp .ge 46, 3) := by decide +kernel
theorem dX12_lowestUnexpanded_13 : decode cX12_lowestUnexpanded 13 = .ok (.aload_n 0, 1) := by decide +kernel
theorem dX12_lowestUnexpanded_14 : decode cX12_lowestUnexpanded 14 = .ok (.getfield 98, 3) := by decide +kernel
theorem dX12_lowestUnexpanded_17 : decode cX12_lowestUnexpanded 17 = .ok (.iload_n 2, 1) := by decide +kernel
theorem dX12_lowestUnexpanded_18 : decode cX12_lowestUnexpanded 18 = .ok (.baload, 1) := by decide +kernel
theorem dX12_lowestUnexpanded_19 : decode cX12_lowestUnexpanded 19 = .ok (.ifCond .ne 31, 3) := by decide +kernel
theorem dX12_lowestUnexpanded_22 : decode cX12_lowestUnexpanded 22 = .ok (.iload_n 1, 1) := by decide +kernel
theorem dX12_lowestUnexpanded_23 : decode cX12_lowestUnexpanded 23 = .ok (.ifCond .lt 25, 3) := by decide +kernel
theorem dX12_lowestUnexpanded_26 : decode cX12_lowestUnexpanded 26 = .ok (.aload_n 0, 1) := by decide +kernel
theorem dX12_lowestUnexpanded_27 : decode cX12_lowestUnexpanded 27 = .ok (.getfield 95, 3) := by decide +kernel
theorem dX12_lowestUnexpanded_30 : decode cX12_lowestUnexpanded 30 = .ok (.bipush 96, 2) := by decide +kernel
theorem dX12_lowestUnexpanded_32 : decode cX12_lowestUnexpanded 32 = .ok (.iload_n 2, 1) := by decide +kernel
theorem dX12_lowestUnexpanded_33 : decode cX12_lowestUnexpanded 33 = .ok (.imul, 1) := by decide +kernel
theorem dX12_lowestUnexpanded_34 : decode cX12_lowestUnexpanded 34 = .ok (.aload_n 0, 1) := by decide +kernel
theorem dX12_lowestUnexpanded_35 : decode cX12_lowestUnexpanded 35 = .ok (.getfield 95, 3) := by decide +kernel
theorem dX12_lowestUnexpanded_38 : decode cX12_lowestUnexpanded 38 = .ok (.bipush 96, 2) := by decide +kernel
theorem dX12_lowestUnexpanded_40 : decode cX12_lowestUnexpanded 40 = .ok (.iload_n 1, 1) := by decide +kernel
theorem dX12_lowestUnexpanded_41 : decode cX12_lowestUnexpanded 41 = .ok (.imul, 1) := by decide +kernel
theorem dX12_lowestUnexpanded_42 : decode cX12_lowestUnexpanded 42 = .ok (.invokestatic 288, 3) := by decide +kernel
theorem dX12_lowestUnexpanded_45 : decode cX12_lowestUnexpanded 45 = .ok (.ifCond .ge 5, 3) := by decide +kernel
theorem dX12_lowestUnexpanded_48 : decode cX12_lowestUnexpanded 48 = .ok (.iload_n 2, 1) := by decide +kernel
theorem dX12_lowestUnexpanded_49 : decode cX12_lowestUnexpanded 49 = .ok (.istore_n 1, 1) := by decide +kernel
theorem dX12_lowestUnexpanded_50 : decode cX12_lowestUnexpanded 50 = .ok (.iinc 2 1, 3) := by decide +kernel
theorem dX12_lowestUnexpanded_53 : decode cX12_lowestUnexpanded 53 = .ok (.goto (-48), 3) := by decide +kernel
theorem dX12_lowestUnexpanded_56 : decode cX12_lowestUnexpanded 56 = .ok (.iload_n 1, 1) := by decide +kernel
theorem dX12_lowestUnexpanded_57 : decode cX12_lowestUnexpanded 57 = .ok (.ireturn, 1) := by decide +kernel
theorem dX12_explore_0 : decode cX12_explore 0 = .ok (.aload_n 0, 1) := by decide +kernel
theorem dX12_explore_1 : decode cX12_explore 1 = .ok (.iconst 0, 1) := by decide +kernel
theorem dX12_explore_2 : decode cX12_explore 2 = .ok (.putfield 307, 3) := by decide +kernel
theorem dX12_explore_5 : decode cX12_explore 5 = .ok (.aload_n 0, 1) := by decide +kernel
theorem dX12_explore_6 : decode cX12_explore 6 = .ok (.iconst 0, 1) := by decide +kernel
theorem dX12_explore_7 : decode cX12_explore 7 = .ok (.putfield 317, 3) := by decide +kernel
theorem dX12_explore_10 : decode cX12_explore 10 = .ok (.aload_n 0, 1) := by decide +kernel
theorem dX12_explore_11 : decode cX12_explore 11 = .ok (.aload_n 0, 1) := by decide +kernel
theorem dX12_explore_12 : decode cX12_explore 12 = .ok (.getfield 22, 3) := by decide +kernel
theorem dX12_explore_15 : decode cX12_explore 15 = .ok (.bipush 96, 2) := by decide +kernel
theorem dX12_explore_17 : decode cX12_explore 17 = .ok (.iload_n 1, 1) := by decide +kernel
theorem dX12_explore_18 : decode cX12_explore 18 = .ok (.imul, 1) := by decide +kernel
theorem dX12_explore_19 : decode cX12_explore 19 = .ok (.invokevirtual 310, 3) := by decide +kernel
theorem dX12_explore_22 : decode cX12_explore 22 = .ok (.iconst 0, 1) := by decide +kernel
theorem dX12_explore_23 : decode cX12_explore 23 = .ok (.istore_n 3, 1) := by decide +kernel
theorem dX12_explore_24 : decode cX12_explore 24 = .ok (.iload_n 3, 1) := by decide +kernel
theorem dX12_explore_25 : decode cX12_explore 25 = .ok (.ifCond .lt 97, 3) := by decide +kernel
theorem dX12_explore_28 : decode cX12_explore 28 = .ok (.aload_n 0, 1) := by decide +kernel
theorem dX12_explore_29 : decode cX12_explore 29 = .ok (.getfield 317, 3) := by decide +kernel
theorem dX12_explore_32 : decode cX12_explore 32 = .ok (.iload_n 2, 1) := by decide +kernel
theorem dX12_explore_33 : decode cX12_explore 33 = .ok (.if_icmp .ge 89, 3) := by decide +kernel
theorem dX12_explore_36 : decode cX12_explore 36 = .ok (.aload_n 0, 1) := by decide +kernel
theorem dX12_explore_37 : decode cX12_explore 37 = .ok (.getfield 98, 3) := by decide +kernel
theorem dX12_explore_40 : decode cX12_explore 40 = .ok (.iload_n 3, 1) := by decide +kernel
theorem dX12_explore_41 : decode cX12_explore 41 = .ok (.iconst 1, 1) := by decide +kernel
theorem dX12_explore_42 : decode cX12_explore 42 = .ok (.bastore, 1) := by decide +kernel
theorem dX12_explore_43 : decode cX12_explore 43 = .ok (.aload_n 0, 1) := by decide +kernel
theorem dX12_explore_44 : decode cX12_explore 44 = .ok (.dup, 1) := by decide +kernel
theorem dX12_explore_45 : decode cX12_explore 45 = .ok (.getfield 317, 3) := by decide +kernel
theorem dX12_explore_48 : decode cX12_explore 48 = .ok (.iconst 1, 1) := by decide +kernel
theorem dX12_explore_49 : decode cX12_explore 49 = .ok (.iadd, 1) := by decide +kernel
theorem dX12_explore_50 : decode cX12_explore 50 = .ok (.putfield 317, 3) := by decide +kernel
theorem dX12_explore_53 : decode cX12_explore 53 = .ok (.aload_n 0, 1) := by decide +kernel
theorem dX12_explore_54 : decode cX12_explore 54 = .ok (.iload_n 3, 1) := by decide +kernel
theorem dX12_explore_55 : decode cX12_explore 55 = .ok (.putfield 320, 3) := by decide +kernel
theorem dX12_explore_58 : decode cX12_explore 58 = .ok (.iconst 0, 1) := by decide +kernel
theorem dX12_explore_59 : decode cX12_explore 59 = .ok (.istore 4, 2) := by decide +kernel
theorem dX12_explore_61 : decode cX12_explore 61 = .ok (.iload 4, 2) := by decide +kernel
theorem dX12_explore_63 : decode cX12_explore 63 = .ok (.aload_n 0, 1) := by decide +kernel
theorem dX12_explore_64 : decode cX12_explore 64 = .ok (.getfield 95, 3) := by decide +kernel
theorem dX12_explore_67 : decode cX12_explore 67 = .ok (.bipush 96, 2) := by decide +kernel
theorem dX12_explore_69 : decode cX12_explore 69 = .ok (.iload_n 3, 1) := by decide +kernel
theorem dX12_explore_70 : decode cX12_explore 70 = .ok (.imul, 1) := by decide +kernel
theorem dX12_explore_71 : decode cX12_explore 71 = .ok (.iaload, 1) := by decide +kernel
theorem dX12_explore_72 : decode cX12_explore 72 = .ok (.if_icmp .ge 42, 3) := by decide +kernel
theorem dX12_explore_75 : decode cX12_explore 75 = .ok (.aload_n 0, 1) := by decide +kernel
theorem dX12_explore_76 : decode cX12_explore 76 = .ok (.aload_n 0, 1) := by decide +kernel
theorem dX12_explore_77 : decode cX12_explore 77 = .ok (.getfield 95, 3) := by decide +kernel
theorem dX12_explore_80 : decode cX12_explore 80 = .ok (.bipush 96, 2) := by decide +kernel
theorem dX12_explore_82 : decode cX12_explore 82 = .ok (.iload_n 3, 1) := by decide +kernel
theorem dX12_explore_83 : decode cX12_explore 83 = .ok (.imul, 1) := by decide +kernel
theorem dX12_explore_84 : decode cX12_explore 84 = .ok (.iload 4, 2) := by decide +kernel
theorem dX12_explore_86 : decode cX12_explore 86 = .ok (.invokevirtual 301, 3) := by decide +kernel
theorem dX12_explore_89 : decode cX12_explore 89 = .ok (.ifCond .le 19, 3) := by decide +kernel
theorem dX12_explore_92 : decode cX12_explore 92 = .ok (.aload_n 0, 1) := by decide +kernel
theorem dX12_explore_93 : decode cX12_explore 93 = .ok (.invokevirtual 314, 3) := by decide +kernel
theorem dX12_explore_96 : decode cX12_explore 96 = .ok (.ifCond .ne 12, 3) := by decide +kernel
theorem dX12_explore_99 : decode cX12_explore 99 = .ok (.aload_n 0, 1) := by decide +kernel
theorem dX12_explore_100 : decode cX12_explore 100 = .ok (.aload_n 0, 1) := by decide +kernel
theorem dX12_explore_101 : decode cX12_explore 101 = .ok (.getfield 34, 3) := by decide +kernel
theorem dX12_explore_104 : decode cX12_explore 104 = .ok (.iconst 0, 1) := by decide +kernel
theorem dX12_explore_105 : decode cX12_explore 105 = .ok (.invokevirtual 310, 3) := by decide +kernel
theorem dX12_explore_108 : decode cX12_explore 108 = .ok (.iinc 4 1, 3) := by decide +kernel
theorem dX12_explore_111 : decode cX12_explore 111 = .ok (.goto (-50), 3) := by decide +kernel
theorem dX12_explore_114 : decode cX12_explore 114 = .ok (.aload_n 0, 1) := by decide +kernel
theorem dX12_explore_115 : decode cX12_explore 115 = .ok (.invokevirtual 323, 3) := by decide +kernel
theorem dX12_explore_118 : decode cX12_explore 118 = .ok (.istore_n 3, 1) := by decide +kernel
theorem dX12_explore_119 : decode cX12_explore 119 = .ok (.goto (-95), 3) := by decide +kernel
theorem dX12_explore_122 : decode cX12_explore 122 = .ok (.return_, 1) := by decide +kernel
theorem dX12_wrongExploration_0 : decode cX12_wrongExploration 0 = .ok (.iload_n 1, 1) := by decide +kernel
theorem dX12_wrongExploration_1 : decode cX12_wrongExploration 1 = .ok (.invokestatic 274, 3) := by decide +kernel
theorem dX12_wrongExploration_4 : decode cX12_wrongExploration 4 = .ok (.ifCond .ne 7, 3) := by decide +kernel
theorem dX12_wrongExploration_7 : decode cX12_wrongExploration 7 = .ok (.iconst (-1), 1) := by decide +kernel
theorem dX12_wrongExploration_8 : decode cX12_wrongExploration 8 = .ok (.goto 19, 3) := by decide +kernel
theorem dX12_wrongExploration_11 : decode cX12_wrongExploration 11 = .ok (.iload_n 2, 1) := by decide +kernel
theorem dX12_wrongExploration_12 : decode cX12_wrongExploration 12 = .ok (.iconst 1, 1) := by decide +kernel
theorem dX12_wrongExploration_13 : decode cX12_wrongExploration 13 = .ok (.bipush 30, 2) := by decide +kernel
theorem dX12_wrongExploration_15 : decode cX12_wrongExploration 15 = .ok (.invokestatic 105, 3) := by decide +kernel
theorem dX12_wrongExploration_18 : decode cX12_wrongExploration 18 = .ok (.ifCond .eq 7, 3) := by decide +kernel
theorem dX12_wrongExploration_21 : decode cX12_wrongExploration 21 = .ok (.iconst 0, 1) := by decide +kernel
theorem dX12_wrongExploration_22 : decode cX12_wrongExploration 22 = .ok (.goto 5, 3) := by decide +kernel
theorem dX12_wrongExploration_25 : decode cX12_wrongExploration 25 = .ok (.bipush (-2), 2) := by decide +kernel
theorem dX12_wrongExploration_27 : decode cX12_wrongExploration 27 = .ok (.ireturn, 1) := by decide +kernel
theorem dX12_exploredCount_0 : decode cX12_exploredCount 0 = .ok (.aload_n 0, 1) := by decide +kernel
theorem dX12_exploredCount_1 : decode cX12_exploredCount 1 = .ok (.iload_n 1, 1) := by decide +kernel
theorem dX12_exploredCount_2 : decode cX12_exploredCount 2 = .ok (.iload_n 2, 1) := by decide +kernel
theorem dX12_exploredCount_3 : decode cX12_exploredCount 3 = .ok (.invokevirtual 326, 3) := by decide +kernel
theorem dX12_exploredCount_6 : decode cX12_exploredCount 6 = .ok (.istore_n 3, 1) := by decide +kernel
theorem dX12_exploredCount_7 : decode cX12_exploredCount 7 = .ok (.iload_n 3, 1) := by decide +kernel
theorem dX12_exploredCount_8 : decode cX12_exploredCount 8 = .ok (.ifCond .ge 5, 3) := by decide +kernel
theorem dX12_exploredCount_11 : decode cX12_exploredCount 11 = .ok (.iload_n 3, 1) := by decide +kernel
theorem dX12_exploredCount_12 : decode cX12_exploredCount 12 = .ok (.ireturn, 1) := by decide +kernel
theorem dX12_exploredCount_13 : decode cX12_exploredCount 13 = .ok (.aload_n 0, 1) := by decide +kernel
theorem dX12_exploredCount_14 : decode cX12_exploredCount 14 = .ok (.iload_n 1, 1) := by decide +kernel
theorem dX12_exploredCount_15 : decode cX12_exploredCount 15 = .ok (.iload_n 2, 1) := by decide +kernel
theorem dX12_exploredCount_16 : decode cX12_exploredCount 16 = .ok (.invokevirtual 329, 3) := by decide +kernel
theorem dX12_exploredCount_19 : decode cX12_exploredCount 19 = .ok (.aload_n 0, 1) := by decide +kernel
theorem dX12_exploredCount_20 : decode cX12_exploredCount 20 = .ok (.getfield 317, 3) := by decide +kernel
theorem dX12_exploredCount_23 : decode cX12_exploredCount 23 = .ok (.ireturn, 1) := by decide +kernel
theorem dX12_isNormalForm_0 : decode cX12_isNormalForm 0 = .ok (.aload_n 0, 1) := by decide +kernel
theorem dX12_isNormalForm_1 : decode cX12_isNormalForm 1 = .ok (.aload_n 1, 1) := by decide +kernel
theorem dX12_isNormalForm_2 : decode cX12_isNormalForm 2 = .ok (.iload_n 2, 1) := by decide +kernel
theorem dX12_isNormalForm_3 : decode cX12_isNormalForm 3 = .ok (.iconst (-1), 1) := by decide +kernel
theorem dX12_isNormalForm_4 : decode cX12_isNormalForm 4 = .ok (.invokevirtual 298, 3) := by decide +kernel
theorem dX12_isNormalForm_7 : decode cX12_isNormalForm 7 = .ok (.ifCond .ne 7, 3) := by decide +kernel
theorem dX12_isNormalForm_10 : decode cX12_isNormalForm 10 = .ok (.iconst 1, 1) := by decide +kernel
theorem dX12_isNormalForm_11 : decode cX12_isNormalForm 11 = .ok (.goto 4, 3) := by decide +kernel
theorem dX12_isNormalForm_14 : decode cX12_isNormalForm 14 = .ok (.iconst 0, 1) := by decide +kernel
theorem dX12_isNormalForm_15 : decode cX12_isNormalForm 15 = .ok (.ireturn, 1) := by decide +kernel
theorem dX12_exploredNormalForms_0 : decode cX12_exploredNormalForms 0 = .ok (.aload_n 0, 1) := by decide +kernel
theorem dX12_exploredNormalForms_1 : decode cX12_exploredNormalForms 1 = .ok (.iload_n 1, 1) := by decide +kernel
theorem dX12_exploredNormalForms_2 : decode cX12_exploredNormalForms 2 = .ok (.iload_n 2, 1) := by decide +kernel
theorem dX12_exploredNormalForms_3 : decode cX12_exploredNormalForms 3 = .ok (.invokevirtual 326, 3) := by decide +kernel
theorem dX12_exploredNormalForms_6 : decode cX12_exploredNormalForms 6 = .ok (.istore_n 3, 1) := by decide +kernel
theorem dX12_exploredNormalForms_7 : decode cX12_exploredNormalForms 7 = .ok (.iload_n 3, 1) := by decide +kernel
theorem dX12_exploredNormalForms_8 : decode cX12_exploredNormalForms 8 = .ok (.ifCond .ge 5, 3) := by decide +kernel
theorem dX12_exploredNormalForms_11 : decode cX12_exploredNormalForms 11 = .ok (.iload_n 3, 1) := by decide +kernel
theorem dX12_exploredNormalForms_12 : decode cX12_exploredNormalForms 12 = .ok (.ireturn, 1) := by decide +kernel
theorem dX12_exploredNormalForms_13 : decode cX12_exploredNormalForms 13 = .ok (.aload_n 0, 1) := by decide +kernel
theorem dX12_exploredNormalForms_14 : decode cX12_exploredNormalForms 14 = .ok (.iload_n 1, 1) := by decide +kernel
theorem dX12_exploredNormalForms_15 : decode cX12_exploredNormalForms 15 = .ok (.iload_n 2, 1) := by decide +kernel
theorem dX12_exploredNormalForms_16 : decode cX12_exploredNormalForms 16 = .ok (.invokevirtual 329, 3) := by decide +kernel
theorem dX12_exploredNormalForms_19 : decode cX12_exploredNormalForms 19 = .ok (.iconst 0, 1) := by decide +kernel
theorem dX12_exploredNormalForms_20 : decode cX12_exploredNormalForms 20 = .ok (.istore 4, 2) := by decide +kernel
theorem dX12_exploredNormalForms_22 : decode cX12_exploredNormalForms 22 = .ok (.iconst 0, 1) := by decide +kernel
theorem dX12_exploredNormalForms_23 : decode cX12_exploredNormalForms 23 = .ok (.istore 5, 2) := by decide +kernel
theorem dX12_exploredNormalForms_25 : decode cX12_exploredNormalForms 25 = .ok (.iload 5, 2) := by decide +kernel
theorem dX12_exploredNormalForms_27 : decode cX12_exploredNormalForms 27 = .ok (.aload_n 0, 1) := by decide +kernel
theorem dX12_exploredNormalForms_28 : decode cX12_exploredNormalForms 28 = .ok (.getfield 307, 3) := by decide +kernel
theorem dX12_exploredNormalForms_31 : decode cX12_exploredNormalForms 31 = .ok (.if_icmp .ge 45, 3) := by decide +kernel
theorem dX12_exploredNormalForms_34 : decode cX12_exploredNormalForms 34 = .ok (.iload 4, 2) := by decide +kernel
theorem dX12_exploredNormalForms_36 : decode cX12_exploredNormalForms 36 = .ok (.aload_n 0, 1) := by decide +kernel
theorem dX12_exploredNormalForms_37 : decode cX12_exploredNormalForms 37 = .ok (.getfield 98, 3) := by decide +kernel
theorem dX12_exploredNormalForms_40 : decode cX12_exploredNormalForms 40 = .ok (.iload 5, 2) := by decide +kernel
theorem dX12_exploredNormalForms_42 : decode cX12_exploredNormalForms 42 = .ok (.baload, 1) := by decide +kernel
theorem dX12_exploredNormalForms_43 : decode cX12_exploredNormalForms 43 = .ok (.ifCond .eq 23, 3) := by decide +kernel
theorem dX12_exploredNormalForms_46 : decode cX12_exploredNormalForms 46 = .ok (.aload_n 0, 1) := by decide +kernel
theorem dX12_exploredNormalForms_47 : decode cX12_exploredNormalForms 47 = .ok (.aload_n 0, 1) := by decide +kernel
theorem dX12_exploredNormalForms_48 : decode cX12_exploredNormalForms 48 = .ok (.getfield 95, 3) := by decide +kernel
theorem dX12_exploredNormalForms_51 : decode cX12_exploredNormalForms 51 = .ok (.bipush 96, 2) := by decide +kernel
theorem dX12_exploredNormalForms_53 : decode cX12_exploredNormalForms 53 = .ok (.iload 5, 2) := by decide +kernel
theorem dX12_exploredNormalForms_55 : decode cX12_exploredNormalForms 55 = .ok (.imul, 1) := by decide +kernel
theorem dX12_exploredNormalForms_56 : decode cX12_exploredNormalForms 56 = .ok (.invokevirtual 333, 3) := by decide +kernel
theorem dX12_exploredNormalForms_59 : decode cX12_exploredNormalForms 59 = .ok (.ifCond .eq 7, 3) := by decide +kernel
theorem dX12_exploredNormalForms_62 : decode cX12_exploredNormalForms 62 = .ok (.iconst 1, 1) := by decide +kernel
theorem dX12_exploredNormalForms_63 : decode cX12_exploredNormalForms 63 = .ok (.goto 4, 3) := by decide +kernel
theorem dX12_exploredNormalForms_66 : decode cX12_exploredNormalForms 66 = .ok (.iconst 0, 1) := by decide +kernel
theorem dX12_exploredNormalForms_67 : decode cX12_exploredNormalForms 67 = .ok (.iadd, 1) := by decide +kernel
theorem dX12_exploredNormalForms_68 : decode cX12_exploredNormalForms 68 = .ok (.istore 4, 2) := by decide +kernel
theorem dX12_exploredNormalForms_70 : decode cX12_exploredNormalForms 70 = .ok (.iinc 5 1, 3) := by decide +kernel
theorem dX12_exploredNormalForms_73 : decode cX12_exploredNormalForms 73 = .ok (.goto (-48), 3) := by decide +kernel
theorem dX12_exploredNormalForms_76 : decode cX12_exploredNormalForms 76 = .ok (.iload 4, 2) := by decide +kernel
theorem dX12_exploredNormalForms_78 : decode cX12_exploredNormalForms 78 = .ok (.ireturn, 1) := by decide +kernel
theorem dX12_lastExploredSize_0 : decode cX12_lastExploredSize 0 = .ok (.aload_n 0, 1) := by decide +kernel
theorem dX12_lastExploredSize_1 : decode cX12_lastExploredSize 1 = .ok (.iload_n 1, 1) := by decide +kernel
theorem dX12_lastExploredSize_2 : decode cX12_lastExploredSize 2 = .ok (.iload_n 2, 1) := by decide +kernel
theorem dX12_lastExploredSize_3 : decode cX12_lastExploredSize 3 = .ok (.invokevirtual 326, 3) := by decide +kernel
theorem dX12_lastExploredSize_6 : decode cX12_lastExploredSize 6 = .ok (.istore_n 3, 1) := by decide +kernel
theorem dX12_lastExploredSize_7 : decode cX12_lastExploredSize 7 = .ok (.iload_n 3, 1) := by decide +kernel
theorem dX12_lastExploredSize_8 : decode cX12_lastExploredSize 8 = .ok (.ifCond .ge 5, 3) := by decide +kernel
theorem dX12_lastExploredSize_11 : decode cX12_lastExploredSize 11 = .ok (.iload_n 3, 1) := by decide +kernel
theorem dX12_lastExploredSize_12 : decode cX12_lastExploredSize 12 = .ok (.ireturn, 1) := by decide +kernel
theorem dX12_lastExploredSize_13 : decode cX12_lastExploredSize 13 = .ok (.aload_n 0, 1) := by decide +kernel
theorem dX12_lastExploredSize_14 : decode cX12_lastExploredSize 14 = .ok (.iload_n 1, 1) := by decide +kernel
theorem dX12_lastExploredSize_15 : decode cX12_lastExploredSize 15 = .ok (.iload_n 2, 1) := by decide +kernel
theorem dX12_lastExploredSize_16 : decode cX12_lastExploredSize 16 = .ok (.invokevirtual 329, 3) := by decide +kernel
theorem dX12_lastExploredSize_19 : decode cX12_lastExploredSize 19 = .ok (.aload_n 0, 1) := by decide +kernel
theorem dX12_lastExploredSize_20 : decode cX12_lastExploredSize 20 = .ok (.getfield 95, 3) := by decide +kernel
theorem dX12_lastExploredSize_23 : decode cX12_lastExploredSize 23 = .ok (.bipush 96, 2) := by decide +kernel
theorem dX12_lastExploredSize_25 : decode cX12_lastExploredSize 25 = .ok (.aload_n 0, 1) := by decide +kernel
theorem dX12_lastExploredSize_26 : decode cX12_lastExploredSize 26 = .ok (.getfield 320, 3) := by decide +kernel
theorem dX12_lastExploredSize_29 : decode cX12_lastExploredSize 29 = .ok (.imul, 1) := by decide +kernel
theorem dX12_lastExploredSize_30 : decode cX12_lastExploredSize 30 = .ok (.iaload, 1) := by decide +kernel
theorem dX12_lastExploredSize_31 : decode cX12_lastExploredSize 31 = .ok (.ireturn, 1) := by decide +kernel
theorem dX12_loadNormalForm_0 : decode cX12_loadNormalForm 0 = .ok (.iload_n 3, 1) := by decide +kernel
theorem dX12_loadNormalForm_1 : decode cX12_loadNormalForm 1 = .ok (.invokestatic 274, 3) := by decide +kernel
theorem dX12_loadNormalForm_4 : decode cX12_loadNormalForm 4 = .ok (.ifCond .eq 12, 3) := by decide +kernel
theorem dX12_loadNormalForm_7 : decode cX12_loadNormalForm 7 = .ok (.aload_n 0, 1) := by decide +kernel
theorem dX12_loadNormalForm_8 : decode cX12_loadNormalForm 8 = .ok (.iload_n 1, 1) := by decide +kernel
theorem dX12_loadNormalForm_9 : decode cX12_loadNormalForm 9 = .ok (.iload_n 2, 1) := by decide +kernel
theorem dX12_loadNormalForm_10 : decode cX12_loadNormalForm 10 = .ok (.invokevirtual 326, 3) := by decide +kernel
theorem dX12_loadNormalForm_13 : decode cX12_loadNormalForm 13 = .ok (.goto 4, 3) := by decide +kernel
theorem dX12_loadNormalForm_16 : decode cX12_loadNormalForm 16 = .ok (.iconst (-1), 1) := by decide +kernel
theorem dX12_loadNormalForm_17 : decode cX12_loadNormalForm 17 = .ok (.istore 4, 2) := by decide +kernel
theorem dX12_loadNormalForm_19 : decode cX12_loadNormalForm 19 = .ok (.iload 4, 2) := by decide +kernel
theorem dX12_loadNormalForm_21 : decode cX12_loadNormalForm 21 = .ok (.ifCond .ge 6, 3) := by decide +kernel
theorem dX12_loadNormalForm_24 : decode cX12_loadNormalForm 24 = .ok (.iload 4, 2) := by decide +kernel
theorem dX12_loadNormalForm_26 : decode cX12_loadNormalForm 26 = .ok (.ireturn, 1) := by decide +kernel
theorem dX12_loadNormalForm_27 : decode cX12_loadNormalForm 27 = .ok (.aload_n 0, 1) := by decide +kernel
theorem dX12_loadNormalForm_28 : decode cX12_loadNormalForm 28 = .ok (.iload_n 1, 1) := by decide +kernel
theorem dX12_loadNormalForm_29 : decode cX12_loadNormalForm 29 = .ok (.iload_n 2, 1) := by decide +kernel
theorem dX12_loadNormalForm_30 : decode cX12_loadNormalForm 30 = .ok (.invokevirtual 329, 3) := by decide +kernel
theorem dX12_loadNormalForm_33 : decode cX12_loadNormalForm 33 = .ok (.bipush (-5), 2) := by decide +kernel
theorem dX12_loadNormalForm_35 : decode cX12_loadNormalForm 35 = .ok (.istore 5, 2) := by decide +kernel
theorem dX12_loadNormalForm_37 : decode cX12_loadNormalForm 37 = .ok (.iconst 0, 1) := by decide +kernel
theorem dX12_loadNormalForm_38 : decode cX12_loadNormalForm 38 = .ok (.istore 6, 2) := by decide +kernel
theorem dX12_loadNormalForm_40 : decode cX12_loadNormalForm 40 = .ok (.iload 6, 2) := by decide +kernel
theorem dX12_loadNormalForm_42 : decode cX12_loadNormalForm 42 = .ok (.aload_n 0, 1) := by decide +kernel
theorem dX12_loadNormalForm_43 : decode cX12_loadNormalForm 43 = .ok (.getfield 307, 3) := by decide +kernel
theorem dX12_loadNormalForm_46 : decode cX12_loadNormalForm 46 = .ok (.if_icmp .ge 85, 3) := by decide +kernel
theorem dX12_loadNormalForm_49 : decode cX12_loadNormalForm 49 = .ok (.aload_n 0, 1) := by decide +kernel
theorem dX12_loadNormalForm_50 : decode cX12_loadNormalForm 50 = .ok (.getfield 98, 3) := by decide +kernel
theorem dX12_loadNormalForm_53 : decode cX12_loadNormalForm 53 = .ok (.iload 6, 2) := by decide +kernel
theorem dX12_loadNormalForm_55 : decode cX12_loadNormalForm 55 = .ok (.baload, 1) := by decide +kernel
theorem dX12_loadNormalForm_56 : decode cX12_loadNormalForm 56 = .ok (.ifCond .eq 23, 3) := by decide +kernel
theorem dX12_loadNormalForm_59 : decode cX12_loadNormalForm 59 = .ok (.aload_n 0, 1) := by decide +kernel
theorem dX12_loadNormalForm_60 : decode cX12_loadNormalForm 60 = .ok (.aload_n 0, 1) := by decide +kernel
theorem dX12_loadNormalForm_61 : decode cX12_loadNormalForm 61 = .ok (.getfield 95, 3) := by decide +kernel
theorem dX12_loadNormalForm_64 : decode cX12_loadNormalForm 64 = .ok (.bipush 96, 2) := by decide +kernel
theorem dX12_loadNormalForm_66 : decode cX12_loadNormalForm 66 = .ok (.iload 6, 2) := by decide +kernel
theorem dX12_loadNormalForm_68 : decode cX12_loadNormalForm 68 = .ok (.imul, 1) := by decide +kernel
theorem dX12_loadNormalForm_69 : decode cX12_loadNormalForm 69 = .ok (.invokevirtual 333, 3) := by decide +kernel
theorem dX12_loadNormalForm_72 : decode cX12_loadNormalForm 72 = .ok (.ifCond .eq 7, 3) := by decide +kernel
theorem dX12_loadNormalForm_75 : decode cX12_loadNormalForm 75 = .ok (.iconst 1, 1) := by decide +kernel
theorem dX12_loadNormalForm_76 : decode cX12_loadNormalForm 76 = .ok (.goto 4, 3) := by decide +kernel
theorem dX12_loadNormalForm_79 : decode cX12_loadNormalForm 79 = .ok (.iconst 0, 1) := by decide +kernel
theorem dX12_loadNormalForm_80 : decode cX12_loadNormalForm 80 = .ok (.istore 7, 2) := by decide +kernel
theorem dX12_loadNormalForm_82 : decode cX12_loadNormalForm 82 = .ok (.iload 7, 2) := by decide +kernel
theorem dX12_loadNormalForm_84 : decode cX12_loadNormalForm 84 = .ok (.ifCond .eq 37, 3) := by decide +kernel
theorem dX12_loadNormalForm_87 : decode cX12_loadNormalForm 87 = .ok (.iload 5, 2) := by decide +kernel
theorem dX12_loadNormalForm_89 : decode cX12_loadNormalForm 89 = .ok (.ifCond .lt 27, 3) := by decide +kernel
theorem dX12_loadNormalForm_92 : decode cX12_loadNormalForm 92 = .ok (.aload_n 0, 1) := by decide +kernel
theorem dX12_loadNormalForm_93 : decode cX12_loadNormalForm 93 = .ok (.getfield 95, 3) := by decide +kernel
theorem dX12_loadNormalForm_96 : decode cX12_loadNormalForm 96 = .ok (.bipush 96, 2) := by decide +kernel
theorem dX12_loadNormalForm_98 : decode cX12_loadNormalForm 98 = .ok (.iload 6, 2) := by decide +kernel
theorem dX12_loadNormalForm_100 : decode cX12_loadNormalForm 100 = .ok (.imul, 1) := by decide +kernel
theorem dX12_loadNormalForm_101 : decode cX12_loadNormalForm 101 = .ok (.aload_n 0, 1) := by decide +kernel
theorem dX12_loadNormalForm_102 : decode cX12_loadNormalForm 102 = .ok (.getfield 95, 3) := by decide +kernel
theorem dX12_loadNormalForm_105 : decode cX12_loadNormalForm 105 = .ok (.bipush 96, 2) := by decide +kernel
theorem dX12_loadNormalForm_107 : decode cX12_loadNormalForm 107 = .ok (.iload 5, 2) := by decide +kernel
theorem dX12_loadNormalForm_109 : decode cX12_loadNormalForm 109 = .ok (.imul, 1) := by decide +kernel
theorem dX12_loadNormalForm_110 : decode cX12_loadNormalForm 110 = .ok (.invokestatic 288, 3) := by decide +kernel
theorem dX12_loadNormalForm_113 : decode cX12_loadNormalForm 113 = .ok (.ifCond .ge 8, 3) := by decide +kernel
theorem dX12_loadNormalForm_116 : decode cX12_loadNormalForm 116 = .ok (.iload 6, 2) := by decide +kernel
theorem dX12_loadNormalForm_118 : decode cX12_loadNormalForm 118 = .ok (.goto 5, 3) := by decide +kernel
theorem dX12_loadNormalForm_121 : decode cX12_loadNormalForm 121 = .ok (.iload 5, 2) := by decide +kernel
theorem dX12_loadNormalForm_123 : decode cX12_loadNormalForm 123 = .ok (.istore 5, 2) := by decide +kernel
theorem dX12_loadNormalForm_125 : decode cX12_loadNormalForm 125 = .ok (.iinc 6 1, 3) := by decide +kernel
theorem dX12_loadNormalForm_128 : decode cX12_loadNormalForm 128 = .ok (.goto (-88), 3) := by decide +kernel
theorem dX12_loadNormalForm_131 : decode cX12_loadNormalForm 131 = .ok (.iload 5, 2) := by decide +kernel
theorem dX12_loadNormalForm_133 : decode cX12_loadNormalForm 133 = .ok (.ifCond .ge 6, 3) := by decide +kernel
theorem dX12_loadNormalForm_136 : decode cX12_loadNormalForm 136 = .ok (.bipush (-5), 2) := by decide +kernel
theorem dX12_loadNormalForm_138 : decode cX12_loadNormalForm 138 = .ok (.ireturn, 1) := by decide +kernel
theorem dX12_loadNormalForm_139 : decode cX12_loadNormalForm 139 = .ok (.aload_n 0, 1) := by decide +kernel
theorem dX12_loadNormalForm_140 : decode cX12_loadNormalForm 140 = .ok (.getfield 95, 3) := by decide +kernel
theorem dX12_loadNormalForm_143 : decode cX12_loadNormalForm 143 = .ok (.bipush 96, 2) := by decide +kernel
theorem dX12_loadNormalForm_145 : decode cX12_loadNormalForm 145 = .ok (.iload 5, 2) := by decide +kernel
theorem dX12_loadNormalForm_147 : decode cX12_loadNormalForm 147 = .ok (.imul, 1) := by decide +kernel
theorem dX12_loadNormalForm_148 : decode cX12_loadNormalForm 148 = .ok (.aload_n 0, 1) := by decide +kernel
theorem dX12_loadNormalForm_149 : decode cX12_loadNormalForm 149 = .ok (.getfield 22, 3) := by decide +kernel
theorem dX12_loadNormalForm_152 : decode cX12_loadNormalForm 152 = .ok (.bipush 96, 2) := by decide +kernel
theorem dX12_loadNormalForm_154 : decode cX12_loadNormalForm 154 = .ok (.iload_n 3, 1) := by decide +kernel
theorem dX12_loadNormalForm_155 : decode cX12_loadNormalForm 155 = .ok (.imul, 1) := by decide +kernel
theorem dX12_loadNormalForm_156 : decode cX12_loadNormalForm 156 = .ok (.bipush 96, 2) := by decide +kernel
theorem dX12_loadNormalForm_158 : decode cX12_loadNormalForm 158 = .ok (.invokestatic 169, 3) := by decide +kernel
theorem dX12_loadNormalForm_161 : decode cX12_loadNormalForm 161 = .ok (.aload_n 0, 1) := by decide +kernel
theorem dX12_loadNormalForm_162 : decode cX12_loadNormalForm 162 = .ok (.getfield 95, 3) := by decide +kernel
theorem dX12_loadNormalForm_165 : decode cX12_loadNormalForm 165 = .ok (.bipush 96, 2) := by decide +kernel
theorem dX12_loadNormalForm_167 : decode cX12_loadNormalForm 167 = .ok (.iload 5, 2) := by decide +kernel
theorem dX12_loadNormalForm_169 : decode cX12_loadNormalForm 169 = .ok (.imul, 1) := by decide +kernel
theorem dX12_loadNormalForm_170 : decode cX12_loadNormalForm 170 = .ok (.iaload, 1) := by decide +kernel
theorem dX12_loadNormalForm_171 : decode cX12_loadNormalForm 171 = .ok (.ireturn, 1) := by decide +kernel
theorem dX12_normalFormRegisterCount_0 : decode cX12_normalFormRegisterCount 0 = .ok (.iconst 0, 1) := by decide +kernel
theorem dX12_normalFormRegisterCount_1 : decode cX12_normalFormRegisterCount 1 = .ok (.istore_n 1, 1) := by decide +kernel
theorem dX12_normalFormRegisterCount_2 : decode cX12_normalFormRegisterCount 2 = .ok (.iconst 0, 1) := by decide +kernel
theorem dX12_normalFormRegisterCount_3 : decode cX12_normalFormRegisterCount 3 = .ok (.istore_n 2, 1) := by decide +kernel
theorem dX12_normalFormRegisterCount_4 : decode cX12_normalFormRegisterCount 4 = .ok (.iload_n 2, 1) := by decide +kernel
theorem dX12_normalFormRegisterCount_5 : decode cX12_normalFormRegisterCount 5 = .ok (.iconst 4, 1) := by decide +kernel
theorem dX12_normalFormRegisterCount_6 : decode cX12_normalFormRegisterCount 6 = .ok (.if_icmp .ge 32, 3) := by decide +kernel
theorem dX12_normalFormRegisterCount_9 : decode cX12_normalFormRegisterCount 9 = .ok (.iload_n 1, 1) := by decide +kernel
theorem dX12_normalFormRegisterCount_10 : decode cX12_normalFormRegisterCount 10 = .ok (.aload_n 0, 1) := by decide +kernel
theorem dX12_normalFormRegisterCount_11 : decode cX12_normalFormRegisterCount 11 = .ok (.aload_n 0, 1) := by decide +kernel
theorem dX12_normalFormRegisterCount_12 : decode cX12_normalFormRegisterCount 12 = .ok (.getfield 22, 3) := by decide +kernel
theorem dX12_normalFormRegisterCount_15 : decode cX12_normalFormRegisterCount 15 = .ok (.bipush 96, 2) := by decide +kernel
theorem dX12_normalFormRegisterCount_17 : decode cX12_normalFormRegisterCount 17 = .ok (.iload_n 2, 1) := by decide +kernel
theorem dX12_normalFormRegisterCount_18 : decode cX12_normalFormRegisterCount 18 = .ok (.imul, 1) := by decide +kernel
theorem dX12_normalFormRegisterCount_19 : decode cX12_normalFormRegisterCount 19 = .ok (.invokevirtual 333, 3) := by decide +kernel
theorem dX12_normalFormRegisterCount_22 : decode cX12_normalFormRegisterCount 22 = .ok (.ifCond .eq 7, 3) := by decide +kernel
theorem dX12_normalFormRegisterCount_25 : decode cX12_normalFormRegisterCount 25 = .ok (.iconst 1, 1) := by decide +kernel
theorem dX12_normalFormRegisterCount_26 : decode cX12_normalFormRegisterCount 26 = .ok (.goto 4, 3) := by decide +kernel
theorem dX12_normalFormRegisterCount_29 : decode cX12_normalFormRegisterCount 29 = .ok (.iconst 0, 1) := by decide +kernel
theorem dX12_normalFormRegisterCount_30 : decode cX12_normalFormRegisterCount 30 = .ok (.iadd, 1) := by decide +kernel
theorem dX12_normalFormRegisterCount_31 : decode cX12_normalFormRegisterCount 31 = .ok (.istore_n 1, 1) := by decide +kernel
theorem dX12_normalFormRegisterCount_32 : decode cX12_normalFormRegisterCount 32 = .ok (.iinc 2 1, 3) := by decide +kernel
theorem dX12_normalFormRegisterCount_35 : decode cX12_normalFormRegisterCount 35 = .ok (.goto (-31), 3) := by decide +kernel
theorem dX12_normalFormRegisterCount_38 : decode cX12_normalFormRegisterCount 38 = .ok (.iload_n 1, 1) := by decide +kernel
theorem dX12_normalFormRegisterCount_39 : decode cX12_normalFormRegisterCount 39 = .ok (.ireturn, 1) := by decide +kernel
theorem dX12_appendCharacter_0 : decode cX12_appendCharacter 0 = .ok (.iload_n 1, 1) := by decide +kernel
theorem dX12_appendCharacter_1 : decode cX12_appendCharacter 1 = .ok (.bipush 32, 2) := by decide +kernel
theorem dX12_appendCharacter_3 : decode cX12_appendCharacter 3 = .ok (.bipush 126, 2) := by decide +kernel
theorem dX12_appendCharacter_5 : decode cX12_appendCharacter 5 = .ok (.invokestatic 105, 3) := by decide +kernel
theorem dX12_appendCharacter_8 : decode cX12_appendCharacter 8 = .ok (.ifCond .ne 6, 3) := by decide +kernel
theorem dX12_appendCharacter_11 : decode cX12_appendCharacter 11 = .ok (.bipush (-2), 2) := by decide +kernel
theorem dX12_appendCharacter_13 : decode cX12_appendCharacter 13 = .ok (.ireturn, 1) := by decide +kernel
theorem dX12_appendCharacter_14 : decode cX12_appendCharacter 14 = .ok (.aload_n 0, 1) := by decide +kernel
theorem dX12_appendCharacter_15 : decode cX12_appendCharacter 15 = .ok (.getfield 151, 3) := by decide +kernel
theorem dX12_appendCharacter_18 : decode cX12_appendCharacter 18 = .ok (.bipush 80, 2) := by decide +kernel
theorem dX12_appendCharacter_20 : decode cX12_appendCharacter 20 = .ok (.if_icmp .ne 6, 3) := by decide +kernel
theorem dX12_appendCharacter_23 : decode cX12_appendCharacter 23 = .ok (.bipush (-4), 2) := by decide +kernel
theorem dX12_appendCharacter_25 : decode cX12_appendCharacter 25 = .ok (.ireturn, 1) := by decide +kernel
theorem dX12_appendCharacter_26 : decode cX12_appendCharacter 26 = .ok (.aload_n 0, 1) := by decide +kernel
theorem dX12_appendCharacter_27 : decode cX12_appendCharacter 27 = .ok (.getfield 37, 3) := by decide +kernel
theorem dX12_appendCharacter_30 : decode cX12_appendCharacter 30 = .ok (.aload_n 0, 1) := by decide +kernel
theorem dX12_appendCharacter_31 : decode cX12_appendCharacter 31 = .ok (.getfield 151, 3) := by decide +kernel
theorem dX12_appendCharacter_34 : decode cX12_appendCharacter 34 = .ok (.iload_n 1, 1) := by decide +kernel
theorem dX12_appendCharacter_35 : decode cX12_appendCharacter 35 = .ok (.iastore, 1) := by decide +kernel
theorem dX12_appendCharacter_36 : decode cX12_appendCharacter 36 = .ok (.aload_n 0, 1) := by decide +kernel
theorem dX12_appendCharacter_37 : decode cX12_appendCharacter 37 = .ok (.dup, 1) := by decide +kernel
theorem dX12_appendCharacter_38 : decode cX12_appendCharacter 38 = .ok (.getfield 151, 3) := by decide +kernel
theorem dX12_appendCharacter_41 : decode cX12_appendCharacter 41 = .ok (.iconst 1, 1) := by decide +kernel
theorem dX12_appendCharacter_42 : decode cX12_appendCharacter 42 = .ok (.iadd, 1) := by decide +kernel
theorem dX12_appendCharacter_43 : decode cX12_appendCharacter 43 = .ok (.putfield 151, 3) := by decide +kernel
theorem dX12_appendCharacter_46 : decode cX12_appendCharacter 46 = .ok (.aload_n 0, 1) := by decide +kernel
theorem dX12_appendCharacter_47 : decode cX12_appendCharacter 47 = .ok (.getfield 151, 3) := by decide +kernel
theorem dX12_appendCharacter_50 : decode cX12_appendCharacter 50 = .ok (.ireturn, 1) := by decide +kernel
theorem dX12_clearText_0 : decode cX12_clearText 0 = .ok (.aload_n 0, 1) := by decide +kernel
theorem dX12_clearText_1 : decode cX12_clearText 1 = .ok (.getfield 151, 3) := by decide +kernel
theorem dX12_clearText_4 : decode cX12_clearText 4 = .ok (.istore_n 1, 1) := by decide +kernel
theorem dX12_clearText_5 : decode cX12_clearText 5 = .ok (.aload_n 0, 1) := by decide +kernel
theorem dX12_clearText_6 : decode cX12_clearText 6 = .ok (.iconst 0, 1) := by decide +kernel
theorem dX12_clearText_7 : decode cX12_clearText 7 = .ok (.putfield 151, 3) := by decide +kernel
theorem dX12_clearText_10 : decode cX12_clearText 10 = .ok (.iload_n 1, 1) := by decide +kernel
theorem dX12_clearText_11 : decode cX12_clearText 11 = .ok (.ireturn, 1) := by decide +kernel
theorem dX12_textLength_0 : decode cX12_textLength 0 = .ok (.aload_n 0, 1) := by decide +kernel
theorem dX12_textLength_1 : decode cX12_textLength 1 = .ok (.getfield 151, 3) := by decide +kernel
theorem dX12_textLength_4 : decode cX12_textLength 4 = .ok (.ireturn, 1) := by decide +kernel
theorem dX12_saveSnapshot_0 : decode cX12_saveSnapshot 0 = .ok (.aload_n 0, 1) := by decide +kernel
theorem dX12_saveSnapshot_1 : decode cX12_saveSnapshot 1 = .ok (.getfield 9, 3) := by decide +kernel
theorem dX12_saveSnapshot_4 : decode cX12_saveSnapshot 4 = .ok (.iconst 0, 1) := by decide +kernel
theorem dX12_saveSnapshot_5 : decode cX12_saveSnapshot 5 = .ok (.aload_n 0, 1) := by decide +kernel
theorem dX12_saveSnapshot_6 : decode cX12_saveSnapshot 6 = .ok (.getfield 13, 3) := by decide +kernel
theorem dX12_saveSnapshot_9 : decode cX12_saveSnapshot 9 = .ok (.iconst 0, 1) := by decide +kernel
theorem dX12_saveSnapshot_10 : decode cX12_saveSnapshot 10 = .ok (.iconst 3, 1) := by decide +kernel
theorem dX12_saveSnapshot_11 : decode cX12_saveSnapshot 11 = .ok (.invokestatic 169, 3) := by decide +kernel
theorem dX12_saveSnapshot_14 : decode cX12_saveSnapshot 14 = .ok (.aload_n 0, 1) := by decide +kernel
theorem dX12_saveSnapshot_15 : decode cX12_saveSnapshot 15 = .ok (.getfield 16, 3) := by decide +kernel
theorem dX12_saveSnapshot_18 : decode cX12_saveSnapshot 18 = .ok (.iconst 0, 1) := by decide +kernel
theorem dX12_saveSnapshot_19 : decode cX12_saveSnapshot 19 = .ok (.aload_n 0, 1) := by decide +kernel
theorem dX12_saveSnapshot_20 : decode cX12_saveSnapshot 20 = .ok (.getfield 19, 3) := by decide +kernel
theorem dX12_saveSnapshot_23 : decode cX12_saveSnapshot 23 = .ok (.iconst 0, 1) := by decide +kernel
theorem dX12_saveSnapshot_24 : decode cX12_saveSnapshot 24 = .ok (.aload_n 0, 1) := by decide +kernel
theorem dX12_saveSnapshot_25 : decode cX12_saveSnapshot 25 = .ok (.getfield 16, 3) := by decide +kernel
theorem dX12_saveSnapshot_28 : decode cX12_saveSnapshot 28 = .ok (.arraylength, 1) := by decide +kernel
theorem dX12_saveSnapshot_29 : decode cX12_saveSnapshot 29 = .ok (.invokestatic 169, 3) := by decide +kernel
theorem dX12_saveSnapshot_32 : decode cX12_saveSnapshot 32 = .ok (.aload_n 0, 1) := by decide +kernel
theorem dX12_saveSnapshot_33 : decode cX12_saveSnapshot 33 = .ok (.getfield 22, 3) := by decide +kernel
theorem dX12_saveSnapshot_36 : decode cX12_saveSnapshot 36 = .ok (.iconst 0, 1) := by decide +kernel
theorem dX12_saveSnapshot_37 : decode cX12_saveSnapshot 37 = .ok (.aload_n 0, 1) := by decide +kernel
theorem dX12_saveSnapshot_38 : decode cX12_saveSnapshot 38 = .ok (.getfield 25, 3) := by decide +kernel
theorem dX12_saveSnapshot_41 : decode cX12_saveSnapshot 41 = .ok (.iconst 0, 1) := by decide +kernel
theorem dX12_saveSnapshot_42 : decode cX12_saveSnapshot 42 = .ok (.aload_n 0, 1) := by decide +kernel
theorem dX12_saveSnapshot_43 : decode cX12_saveSnapshot 43 = .ok (.getfield 22, 3) := by decide +kernel
theorem dX12_saveSnapshot_46 : decode cX12_saveSnapshot 46 = .ok (.arraylength, 1) := by decide +kernel
theorem dX12_saveSnapshot_47 : decode cX12_saveSnapshot 47 = .ok (.invokestatic 169, 3) := by decide +kernel
theorem dX12_saveSnapshot_50 : decode cX12_saveSnapshot 50 = .ok (.aload_n 0, 1) := by decide +kernel
theorem dX12_saveSnapshot_51 : decode cX12_saveSnapshot 51 = .ok (.aload_n 0, 1) := by decide +kernel
theorem dX12_saveSnapshot_52 : decode cX12_saveSnapshot 52 = .ok (.getfield 121, 3) := by decide +kernel
theorem dX12_saveSnapshot_55 : decode cX12_saveSnapshot 55 = .ok (.putfield 336, 3) := by decide +kernel
theorem dX12_saveSnapshot_58 : decode cX12_saveSnapshot 58 = .ok (.aload_n 0, 1) := by decide +kernel
theorem dX12_saveSnapshot_59 : decode cX12_saveSnapshot 59 = .ok (.iconst 1, 1) := by decide +kernel
theorem dX12_saveSnapshot_60 : decode cX12_saveSnapshot 60 = .ok (.putfield 339, 3) := by decide +kernel
theorem dX12_saveSnapshot_63 : decode cX12_saveSnapshot 63 = .ok (.aload_n 0, 1) := by decide +kernel
theorem dX12_saveSnapshot_64 : decode cX12_saveSnapshot 64 = .ok (.getfield 121, 3) := by decide +kernel
theorem dX12_saveSnapshot_67 : decode cX12_saveSnapshot 67 = .ok (.ireturn, 1) := by decide +kernel
theorem dX12_restoreSnapshot_0 : decode cX12_restoreSnapshot 0 = .ok (.aload_n 0, 1) := by decide +kernel
theorem dX12_restoreSnapshot_1 : decode cX12_restoreSnapshot 1 = .ok (.getfield 339, 3) := by decide +kernel
theorem dX12_restoreSnapshot_4 : decode cX12_restoreSnapshot 4 = .ok (.ifCond .ne 6, 3) := by decide +kernel
theorem dX12_restoreSnapshot_7 : decode cX12_restoreSnapshot 7 = .ok (.bipush (-3), 2) := by decide +kernel
theorem dX12_restoreSnapshot_9 : decode cX12_restoreSnapshot 9 = .ok (.ireturn, 1) := by decide +kernel
theorem dX12_restoreSnapshot_10 : decode cX12_restoreSnapshot 10 = .ok (.aload_n 0, 1) := by decide +kernel
theorem dX12_restoreSnapshot_11 : decode cX12_restoreSnapshot 11 = .ok (.getfield 13, 3) := by decide +kernel
theorem dX12_restoreSnapshot_14 : decode cX12_restoreSnapshot 14 = .ok (.iconst 0, 1) := by decide +kernel
theorem dX12_restoreSnapshot_15 : decode cX12_restoreSnapshot 15 = .ok (.aload_n 0, 1) := by decide +kernel
theorem dX12_restoreSnapshot_16 : decode cX12_restoreSnapshot 16 = .ok (.getfield 9, 3) := by decide +kernel
theorem dX12_restoreSnapshot_19 : decode cX12_restoreSnapshot 19 = .ok (.iconst 0, 1) := by decide +kernel
theorem dX12_restoreSnapshot_20 : decode cX12_restoreSnapshot 20 = .ok (.iconst 3, 1) := by decide +kernel
theorem dX12_restoreSnapshot_21 : decode cX12_restoreSnapshot 21 = .ok (.invokestatic 169, 3) := by decide +kernel
theorem dX12_restoreSnapshot_24 : decode cX12_restoreSnapshot 24 = .ok (.aload_n 0, 1) := by decide +kernel
theorem dX12_restoreSnapshot_25 : decode cX12_restoreSnapshot 25 = .ok (.getfield 19, 3) := by decide +kernel
theorem dX12_restoreSnapshot_28 : decode cX12_restoreSnapshot 28 = .ok (.iconst 0, 1) := by decide +kernel
theorem dX12_restoreSnapshot_29 : decode cX12_restoreSnapshot 29 = .ok (.aload_n 0, 1) := by decide +kernel
theorem dX12_restoreSnapshot_30 : decode cX12_restoreSnapshot 30 = .ok (.getfield 16, 3) := by decide +kernel
theorem dX12_restoreSnapshot_33 : decode cX12_restoreSnapshot 33 = .ok (.iconst 0, 1) := by decide +kernel
theorem dX12_restoreSnapshot_34 : decode cX12_restoreSnapshot 34 = .ok (.aload_n 0, 1) := by decide +kernel
theorem dX12_restoreSnapshot_35 : decode cX12_restoreSnapshot 35 = .ok (.getfield 16, 3) := by decide +kernel
theorem dX12_restoreSnapshot_38 : decode cX12_restoreSnapshot 38 = .ok (.arraylength, 1) := by decide +kernel
theorem dX12_restoreSnapshot_39 : decode cX12_restoreSnapshot 39 = .ok (.invokestatic 169, 3) := by decide +kernel
theorem dX12_restoreSnapshot_42 : decode cX12_restoreSnapshot 42 = .ok (.aload_n 0, 1) := by decide +kernel
theorem dX12_restoreSnapshot_43 : decode cX12_restoreSnapshot 43 = .ok (.getfield 25, 3) := by decide +kernel
theorem dX12_restoreSnapshot_46 : decode cX12_restoreSnapshot 46 = .ok (.iconst 0, 1) := by decide +kernel
theorem dX12_restoreSnapshot_47 : decode cX12_restoreSnapshot 47 = .ok (.aload_n 0, 1) := by decide +kernel
theorem dX12_restoreSnapshot_48 : decode cX12_restoreSnapshot 48 = .ok (.getfield 22, 3) := by decide +kernel
theorem dX12_restoreSnapshot_51 : decode cX12_restoreSnapshot 51 = .ok (.iconst 0, 1) := by decide +kernel
theorem dX12_restoreSnapshot_52 : decode cX12_restoreSnapshot 52 = .ok (.aload_n 0, 1) := by decide +kernel
theorem dX12_restoreSnapshot_53 : decode cX12_restoreSnapshot 53 = .ok (.getfield 22, 3) := by decide +kernel
theorem dX12_restoreSnapshot_56 : decode cX12_restoreSnapshot 56 = .ok (.arraylength, 1) := by decide +kernel
theorem dX12_restoreSnapshot_57 : decode cX12_restoreSnapshot 57 = .ok (.invokestatic 169, 3) := by decide +kernel
theorem dX12_restoreSnapshot_60 : decode cX12_restoreSnapshot 60 = .ok (.aload_n 0, 1) := by decide +kernel
theorem dX12_restoreSnapshot_61 : decode cX12_restoreSnapshot 61 = .ok (.aload_n 0, 1) := by decide +kernel
theorem dX12_restoreSnapshot_62 : decode cX12_restoreSnapshot 62 = .ok (.getfield 336, 3) := by decide +kernel
theorem dX12_restoreSnapshot_65 : decode cX12_restoreSnapshot 65 = .ok (.putfield 121, 3) := by decide +kernel
theorem dX12_restoreSnapshot_68 : decode cX12_restoreSnapshot 68 = .ok (.aload_n 0, 1) := by decide +kernel
theorem dX12_restoreSnapshot_69 : decode cX12_restoreSnapshot 69 = .ok (.getfield 121, 3) := by decide +kernel
theorem dX12_restoreSnapshot_72 : decode cX12_restoreSnapshot 72 = .ok (.ireturn, 1) := by decide +kernel
theorem dJ6_compare_7cf53_0 : decode cJ6_compare_7cf53 0 = .ok (.iload_n 0, 1) := by decide +kernel
theorem dJ6_compare_7cf53_1 : decode cJ6_compare_7cf53 1 = .ok (.iload_n 1, 1) := by decide +kernel
theorem dJ6_compare_7cf53_2 : decode cJ6_compare_7cf53 2 = .ok (.if_icmp .ge 7, 3) := by decide +kernel
theorem dJ6_compare_7cf53_5 : decode cJ6_compare_7cf53 5 = .ok (.iconst (-1), 1) := by decide +kernel
theorem dJ6_compare_7cf53_6 : decode cJ6_compare_7cf53 6 = .ok (.goto 13, 3) := by decide +kernel
theorem dJ6_compare_7cf53_9 : decode cJ6_compare_7cf53 9 = .ok (.iload_n 0, 1) := by decide +kernel
theorem dJ6_compare_7cf53_10 : decode cJ6_compare_7cf53 10 = .ok (.iload_n 1, 1) := by decide +kernel
theorem dJ6_compare_7cf53_11 : decode cJ6_compare_7cf53 11 = .ok (.if_icmp .ne 7, 3) := by decide +kernel
theorem dJ6_compare_7cf53_14 : decode cJ6_compare_7cf53 14 = .ok (.iconst 0, 1) := by decide +kernel
theorem dJ6_compare_7cf53_15 : decode cJ6_compare_7cf53 15 = .ok (.goto 4, 3) := by decide +kernel
theorem dJ6_compare_7cf53_18 : decode cJ6_compare_7cf53 18 = .ok (.iconst 1, 1) := by decide +kernel
theorem dJ6_compare_7cf53_19 : decode cJ6_compare_7cf53 19 = .ok (.ireturn, 1) := by decide +kernel
theorem dJ13_bitCount_95d88_0 : decode cJ13_bitCount_95d88 0 = .ok (.lload_n 0, 1) := by decide +kernel
theorem dJ13_bitCount_95d88_1 : decode cJ13_bitCount_95d88 1 = .ok (.lload_n 0, 1) := by decide +kernel
theorem dJ13_bitCount_95d88_2 : decode cJ13_bitCount_95d88 2 = .ok (.iconst 1, 1) := by decide +kernel
theorem dJ13_bitCount_95d88_3 : decode cJ13_bitCount_95d88 3 = .ok (.lushr, 1) := by decide +kernel
theorem dJ13_bitCount_95d88_4 : decode cJ13_bitCount_95d88 4 = .ok (.ldc2_w 314, 3) := by decide +kernel
theorem dJ13_bitCount_95d88_7 : decode cJ13_bitCount_95d88 7 = .ok (.land, 1) := by decide +kernel
theorem dJ13_bitCount_95d88_8 : decode cJ13_bitCount_95d88 8 = .ok (.lsub, 1) := by decide +kernel
theorem dJ13_bitCount_95d88_9 : decode cJ13_bitCount_95d88 9 = .ok (.lstore_n 0, 1) := by decide +kernel
theorem dJ13_bitCount_95d88_10 : decode cJ13_bitCount_95d88 10 = .ok (.lload_n 0, 1) := by decide +kernel
theorem dJ13_bitCount_95d88_11 : decode cJ13_bitCount_95d88 11 = .ok (.ldc2_w 316, 3) := by decide +kernel
theorem dJ13_bitCount_95d88_14 : decode cJ13_bitCount_95d88 14 = .ok (.land, 1) := by decide +kernel
theorem dJ13_bitCount_95d88_15 : decode cJ13_bitCount_95d88 15 = .ok (.lload_n 0, 1) := by decide +kernel
theorem dJ13_bitCount_95d88_16 : decode cJ13_bitCount_95d88 16 = .ok (.iconst 2, 1) := by decide +kernel
theorem dJ13_bitCount_95d88_17 : decode cJ13_bitCount_95d88 17 = .ok (.lushr, 1) := by decide +kernel
theorem dJ13_bitCount_95d88_18 : decode cJ13_bitCount_95d88 18 = .ok (.ldc2_w 316, 3) := by decide +kernel
theorem dJ13_bitCount_95d88_21 : decode cJ13_bitCount_95d88 21 = .ok (.land, 1) := by decide +kernel
theorem dJ13_bitCount_95d88_22 : decode cJ13_bitCount_95d88 22 = .ok (.ladd, 1) := by decide +kernel
theorem dJ13_bitCount_95d88_23 : decode cJ13_bitCount_95d88 23 = .ok (.lstore_n 0, 1) := by decide +kernel
theorem dJ13_bitCount_95d88_24 : decode cJ13_bitCount_95d88 24 = .ok (.lload_n 0, 1) := by decide +kernel
theorem dJ13_bitCount_95d88_25 : decode cJ13_bitCount_95d88 25 = .ok (.lload_n 0, 1) := by decide +kernel
theorem dJ13_bitCount_95d88_26 : decode cJ13_bitCount_95d88 26 = .ok (.iconst 4, 1) := by decide +kernel
theorem dJ13_bitCount_95d88_27 : decode cJ13_bitCount_95d88 27 = .ok (.lushr, 1) := by decide +kernel
theorem dJ13_bitCount_95d88_28 : decode cJ13_bitCount_95d88 28 = .ok (.ladd, 1) := by decide +kernel
theorem dJ13_bitCount_95d88_29 : decode cJ13_bitCount_95d88 29 = .ok (.ldc2_w 318, 3) := by decide +kernel
theorem dJ13_bitCount_95d88_32 : decode cJ13_bitCount_95d88 32 = .ok (.land, 1) := by decide +kernel
theorem dJ13_bitCount_95d88_33 : decode cJ13_bitCount_95d88 33 = .ok (.lstore_n 0, 1) := by decide +kernel
theorem dJ13_bitCount_95d88_34 : decode cJ13_bitCount_95d88 34 = .ok (.lload_n 0, 1) := by decide +kernel
theorem dJ13_bitCount_95d88_35 : decode cJ13_bitCount_95d88 35 = .ok (.lload_n 0, 1) := by decide +kernel
theorem dJ13_bitCount_95d88_36 : decode cJ13_bitCount_95d88 36 = .ok (.bipush 8, 2) := by decide +kernel
theorem dJ13_bitCount_95d88_38 : decode cJ13_bitCount_95d88 38 = .ok (.lushr, 1) := by decide +kernel
theorem dJ13_bitCount_95d88_39 : decode cJ13_bitCount_95d88 39 = .ok (.ladd, 1) := by decide +kernel
theorem dJ13_bitCount_95d88_40 : decode cJ13_bitCount_95d88 40 = .ok (.lstore_n 0, 1) := by decide +kernel
theorem dJ13_bitCount_95d88_41 : decode cJ13_bitCount_95d88 41 = .ok (.lload_n 0, 1) := by decide +kernel
theorem dJ13_bitCount_95d88_42 : decode cJ13_bitCount_95d88 42 = .ok (.lload_n 0, 1) := by decide +kernel
theorem dJ13_bitCount_95d88_43 : decode cJ13_bitCount_95d88 43 = .ok (.bipush 16, 2) := by decide +kernel
theorem dJ13_bitCount_95d88_45 : decode cJ13_bitCount_95d88 45 = .ok (.lushr, 1) := by decide +kernel
theorem dJ13_bitCount_95d88_46 : decode cJ13_bitCount_95d88 46 = .ok (.ladd, 1) := by decide +kernel
theorem dJ13_bitCount_95d88_47 : decode cJ13_bitCount_95d88 47 = .ok (.lstore_n 0, 1) := by decide +kernel
theorem dJ13_bitCount_95d88_48 : decode cJ13_bitCount_95d88 48 = .ok (.lload_n 0, 1) := by decide +kernel
theorem dJ13_bitCount_95d88_49 : decode cJ13_bitCount_95d88 49 = .ok (.lload_n 0, 1) := by decide +kernel
theorem dJ13_bitCount_95d88_50 : decode cJ13_bitCount_95d88 50 = .ok (.bipush 32, 2) := by decide +kernel
theorem dJ13_bitCount_95d88_52 : decode cJ13_bitCount_95d88 52 = .ok (.lushr, 1) := by decide +kernel
theorem dJ13_bitCount_95d88_53 : decode cJ13_bitCount_95d88 53 = .ok (.ladd, 1) := by decide +kernel
theorem dJ13_bitCount_95d88_54 : decode cJ13_bitCount_95d88 54 = .ok (.lstore_n 0, 1) := by decide +kernel
theorem dJ13_bitCount_95d88_55 : decode cJ13_bitCount_95d88 55 = .ok (.lload_n 0, 1) := by decide +kernel
theorem dJ13_bitCount_95d88_56 : decode cJ13_bitCount_95d88 56 = .ok (.l2i, 1) := by decide +kernel
theorem dJ13_bitCount_95d88_57 : decode cJ13_bitCount_95d88 57 = .ok (.bipush 127, 2) := by decide +kernel
theorem dJ13_bitCount_95d88_59 : decode cJ13_bitCount_95d88 59 = .ok (.iand, 1) := by decide +kernel
theorem dJ13_bitCount_95d88_60 : decode cJ13_bitCount_95d88 60 = .ok (.ireturn, 1) := by decide +kernel
theorem dJ9_max_7cf53_0 : decode cJ9_max_7cf53 0 = .ok (.iload_n 0, 1) := by decide +kernel
theorem dJ9_max_7cf53_1 : decode cJ9_max_7cf53 1 = .ok (.iload_n 1, 1) := by decide +kernel
theorem dJ9_max_7cf53_2 : decode cJ9_max_7cf53 2 = .ok (.if_icmp .lt 7, 3) := by decide +kernel
theorem dJ9_max_7cf53_5 : decode cJ9_max_7cf53 5 = .ok (.iload_n 0, 1) := by decide +kernel
theorem dJ9_max_7cf53_6 : decode cJ9_max_7cf53 6 = .ok (.goto 4, 3) := by decide +kernel
theorem dJ9_max_7cf53_9 : decode cJ9_max_7cf53 9 = .ok (.iload_n 1, 1) := by decide +kernel
theorem dJ9_max_7cf53_10 : decode cJ9_max_7cf53 10 = .ok (.ireturn, 1) := by decide +kernel
theorem dJ9_min_7cf53_0 : decode cJ9_min_7cf53 0 = .ok (.iload_n 0, 1) := by decide +kernel
theorem dJ9_min_7cf53_1 : decode cJ9_min_7cf53 1 = .ok (.iload_n 1, 1) := by decide +kernel
theorem dJ9_min_7cf53_2 : decode cJ9_min_7cf53 2 = .ok (.if_icmp .gt 7, 3) := by decide +kernel
theorem dJ9_min_7cf53_5 : decode cJ9_min_7cf53 5 = .ok (.iload_n 0, 1) := by decide +kernel
theorem dJ9_min_7cf53_6 : decode cJ9_min_7cf53 6 = .ok (.goto 4, 3) := by decide +kernel
theorem dJ9_min_7cf53_9 : decode cJ9_min_7cf53 9 = .ok (.iload_n 1, 1) := by decide +kernel
theorem dJ9_min_7cf53_10 : decode cJ9_min_7cf53 10 = .ok (.ireturn, 1) := by decide +kernel
theorem dL_law_0 : decode cL_law 0 = .ok (.new 7, 3) := by decide +kernel
theorem dL_law_3 : decode cL_law 3 = .ok (.dup, 1) := by decide +kernel
theorem dL_law_4 : decode cL_law 4 = .ok (.invokespecial 9, 3) := by decide +kernel
theorem dL_law_7 : decode cL_law 7 = .ok (.astore_n 1, 1) := by decide +kernel
theorem dL_law_8 : decode cL_law 8 = .ok (.new 10, 3) := by decide +kernel
theorem dL_law_11 : decode cL_law 11 = .ok (.dup, 1) := by decide +kernel
theorem dL_law_12 : decode cL_law 12 = .ok (.invokespecial 12, 3) := by decide +kernel
theorem dL_law_15 : decode cL_law 15 = .ok (.astore_n 2, 1) := by decide +kernel
theorem dL_law_16 : decode cL_law 16 = .ok (.iconst 0, 1) := by decide +kernel
theorem dL_law_17 : decode cL_law 17 = .ok (.istore_n 3, 1) := by decide +kernel
theorem dL_law_18 : decode cL_law 18 = .ok (.iload_n 3, 1) := by decide +kernel
theorem dL_law_19 : decode cL_law 19 = .ok (.aload_n 0, 1) := by decide +kernel
theorem dL_law_20 : decode cL_law 20 = .ok (.arraylength, 1) := by decide +kernel
theorem dL_law_21 : decode cL_law 21 = .ok (.iconst 4, 1) := by decide +kernel
theorem dL_law_22 : decode cL_law 22 = .ok (.isub, 1) := by decide +kernel
theorem dL_law_23 : decode cL_law 23 = .ok (.if_icmp .gt 1384, 3) := by decide +kernel
theorem dL_law_26 : decode cL_law 26 = .ok (.aload_n 0, 1) := by decide +kernel
theorem dL_law_27 : decode cL_law 27 = .ok (.iload_n 3, 1) := by decide +kernel
theorem dL_law_28 : decode cL_law 28 = .ok (.iaload, 1) := by decide +kernel
theorem dL_law_29 : decode cL_law 29 = .ok (.bipush 63, 2) := by decide +kernel
theorem dL_law_31 : decode cL_law 31 = .ok (.iand, 1) := by decide +kernel
theorem dL_law_32 : decode cL_law 32 = .ok (.tableswitch 1369 0 48 #[212, 245, 268, 281, 304, 317, 340, 363, 376, 399, 422, 445, 468, 501, 514, 527, 550, 593, 606, 619, 632, 655, 668, 681, 694, 707, 730, 753, 776, 809, 842, 875, 908, 941, 984, 1007, 1040, 1073, 1106, 1139, 1172, 1205, 1238, 1281, 1294, 1317, 1330, 1343, 1356], 212) := by decide +kernel
theorem dL_law_244 : decode cL_law 244 = .ok (.aload_n 1, 1) := by decide +kernel
theorem dL_law_245 : decode cL_law 245 = .ok (.aload_n 0, 1) := by decide +kernel
theorem dL_law_246 : decode cL_law 246 = .ok (.iload_n 3, 1) := by decide +kernel
theorem dL_law_247 : decode cL_law 247 = .ok (.iconst 1, 1) := by decide +kernel
theorem dL_law_248 : decode cL_law 248 = .ok (.iadd, 1) := by decide +kernel
theorem dL_law_249 : decode cL_law 249 = .ok (.iaload, 1) := by decide +kernel
theorem dL_law_250 : decode cL_law 250 = .ok (.aload_n 0, 1) := by decide +kernel
theorem dL_law_251 : decode cL_law 251 = .ok (.iload_n 3, 1) := by decide +kernel
theorem dL_law_252 : decode cL_law 252 = .ok (.iconst 2, 1) := by decide +kernel
theorem dL_law_253 : decode cL_law 253 = .ok (.iadd, 1) := by decide +kernel
theorem dL_law_254 : decode cL_law 254 = .ok (.iaload, 1) := by decide +kernel
theorem dL_law_255 : decode cL_law 255 = .ok (.invokevirtual 13, 3) := by decide +kernel
theorem dL_law_258 : decode cL_law 258 = .ok (.aload_n 2, 1) := by decide +kernel
theorem dL_law_259 : decode cL_law 259 = .ok (.aload_n 0, 1) := by decide +kernel
theorem dL_law_260 : decode cL_law 260 = .ok (.iload_n 3, 1) := by decide +kernel
theorem dL_law_261 : decode cL_law 261 = .ok (.iconst 1, 1) := by decide +kernel
theorem dL_law_262 : decode cL_law 262 = .ok (.iadd, 1) := by decide +kernel
theorem dL_law_263 : decode cL_law 263 = .ok (.iaload, 1) := by decide +kernel
theorem dL_law_264 : decode cL_law 264 = .ok (.aload_n 0, 1) := by decide +kernel
theorem dL_law_265 : decode cL_law 265 = .ok (.iload_n 3, 1) := by decide +kernel
theorem dL_law_266 : decode cL_law 266 = .ok (.iconst 2, 1) := by decide +kernel
theorem dL_law_267 : decode cL_law 267 = .ok (.iadd, 1) := by decide +kernel
theorem dL_law_268 : decode cL_law 268 = .ok (.iaload, 1) := by decide +kernel
theorem dL_law_269 : decode cL_law 269 = .ok (.invokevirtual 17, 3) := by decide +kernel
theorem dL_law_272 : decode cL_law 272 = .ok (.if_icmp .eq 1129, 3) := by decide +kernel
theorem dL_law_275 : decode cL_law 275 = .ok (.iconst 0, 1) := by decide +kernel
theorem dL_law_276 : decode cL_law 276 = .ok (.ireturn, 1) := by decide +kernel
theorem dL_law_277 : decode cL_law 277 = .ok (.aload_n 1, 1) := by decide +kernel
theorem dL_law_278 : decode cL_law 278 = .ok (.aload_n 0, 1) := by decide +kernel
theorem dL_law_279 : decode cL_law 279 = .ok (.iload_n 3, 1) := by decide +kernel
theorem dL_law_280 : decode cL_law 280 = .ok (.iconst 1, 1) := by decide +kernel
theorem dL_law_281 : decode cL_law 281 = .ok (.iadd, 1) := by decide +kernel
theorem dL_law_282 : decode cL_law 282 = .ok (.iaload, 1) := by decide +kernel
theorem dL_law_283 : decode cL_law 283 = .ok (.invokevirtual 18, 3) := by decide +kernel
theorem dL_law_286 : decode cL_law 286 = .ok (.aload_n 2, 1) := by decide +kernel
theorem dL_law_287 : decode cL_law 287 = .ok (.aload_n 0, 1) := by decide +kernel
theorem dL_law_288 : decode cL_law 288 = .ok (.iload_n 3, 1) := by decide +kernel
theorem dL_law_289 : decode cL_law 289 = .ok (.iconst 1, 1) := by decide +kernel
theorem dL_law_290 : decode cL_law 290 = .ok (.iadd, 1) := by decide +kernel
theorem dL_law_291 : decode cL_law 291 = .ok (.iaload, 1) := by decide +kernel
theorem dL_law_292 : decode cL_law 292 = .ok (.invokevirtual 22, 3) := by decide +kernel
theorem dL_law_295 : decode cL_law 295 = .ok (.if_icmp .eq 1106, 3) := by decide +kernel
theorem dL_law_298 : decode cL_law 298 = .ok (.iconst 0, 1) := by decide +kernel
theorem dL_law_299 : decode cL_law 299 = .ok (.ireturn, 1) := by decide +kernel
theorem dL_law_300 : decode cL_law 300 = .ok (.aload_n 1, 1) := by decide +kernel
theorem dL_law_301 : decode cL_law 301 = .ok (.invokevirtual 23, 3) := by decide +kernel
theorem dL_law_304 : decode cL_law 304 = .ok (.aload_n 2, 1) := by decide +kernel
theorem dL_law_305 : decode cL_law 305 = .ok (.invokevirtual 27, 3) := by decide +kernel
theorem dL_law_308 : decode cL_law 308 = .ok (.if_icmp .eq 1093, 3) := by decide +kernel
theorem dL_law_311 : decode cL_law 311 = .ok (.iconst 0, 1) := by decide +kernel
theorem dL_law_312 : decode cL_law 312 = .ok (.ireturn, 1) := by decide +kernel
theorem dL_law_313 : decode cL_law 313 = .ok (.aload_n 1, 1) := by decide +kernel
theorem dL_law_314 : decode cL_law 314 = .ok (.aload_n 0, 1) := by decide +kernel
theorem dL_law_315 : decode cL_law 315 = .ok (.iload_n 3, 1) := by decide +kernel
theorem dL_law_316 : decode cL_law 316 = .ok (.iconst 1, 1) := by decide +kernel
theorem dL_law_317 : decode cL_law 317 = .ok (.iadd, 1) := by decide +kernel
theorem dL_law_318 : decode cL_law 318 = .ok (.iaload, 1) := by decide +kernel
theorem dL_law_319 : decode cL_law 319 = .ok (.invokevirtual 28, 3) := by decide +kernel
theorem dL_law_322 : decode cL_law 322 = .ok (.aload_n 2, 1) := by decide +kernel
theorem dL_law_323 : decode cL_law 323 = .ok (.aload_n 0, 1) := by decide +kernel
theorem dL_law_324 : decode cL_law 324 = .ok (.iload_n 3, 1) := by decide +kernel
theorem dL_law_325 : decode cL_law 325 = .ok (.iconst 1, 1) := by decide +kernel
theorem dL_law_326 : decode cL_law 326 = .ok (.iadd, 1) := by decide +kernel
theorem dL_law_327 : decode cL_law 327 = .ok (.iaload, 1) := by decide +kernel
theorem dL_law_328 : decode cL_law 328 = .ok (.invokevirtual 31, 3) := by decide +kernel
theorem dL_law_331 : decode cL_law 331 = .ok (.if_icmp .eq 1070, 3) := by decide +kernel
theorem dL_law_334 : decode cL_law 334 = .ok (.iconst 0, 1) := by decide +kernel
theorem dL_law_335 : decode cL_law 335 = .ok (.ireturn, 1) := by decide +kernel
theorem dL_law_336 : decode cL_law 336 = .ok (.aload_n 1, 1) := by decide +kernel
theorem dL_law_337 : decode cL_law 337 = .ok (.invokevirtual 32, 3) := by decide +kernel
theorem dL_law_340 : decode cL_law 340 = .ok (.aload_n 2, 1) := by decide +kernel
theorem dL_law_341 : decode cL_law 341 = .ok (.invokevirtual 35, 3) := by decide +kernel
theorem dL_law_344 : decode cL_law 344 = .ok (.if_icmp .eq 1057, 3) := by decide +kernel
theorem dL_law_347 : decode cL_law 347 = .ok (.iconst 0, 1) := by decide +kernel
theorem dL_law_348 : decode cL_law 348 = .ok (.ireturn, 1) := by decide +kernel
theorem dL_law_349 : decode cL_law 349 = .ok (.aload_n 1, 1) := by decide +kernel
theorem dL_law_350 : decode cL_law 350 = .ok (.aload_n 0, 1) := by decide +kernel
theorem dL_law_351 : decode cL_law 351 = .ok (.iload_n 3, 1) := by decide +kernel
theorem dL_law_352 : decode cL_law 352 = .ok (.iconst 1, 1) := by decide +kernel
theorem dL_law_353 : decode cL_law 353 = .ok (.iadd, 1) := by decide +kernel
theorem dL_law_354 : decode cL_law 354 = .ok (.iaload, 1) := by decide +kernel
theorem dL_law_355 : decode cL_law 355 = .ok (.invokevirtual 36, 3) := by decide +kernel
theorem dL_law_358 : decode cL_law 358 = .ok (.aload_n 2, 1) := by decide +kernel
theorem dL_law_359 : decode cL_law 359 = .ok (.aload_n 0, 1) := by decide +kernel
theorem dL_law_360 : decode cL_law 360 = .ok (.iload_n 3, 1) := by decide +kernel
theorem dL_law_361 : decode cL_law 361 = .ok (.iconst 1, 1) := by decide +kernel
theorem dL_law_362 : decode cL_law 362 = .ok (.iadd, 1) := by decide +kernel
theorem dL_law_363 : decode cL_law 363 = .ok (.iaload, 1) := by decide +kernel
theorem dL_law_364 : decode cL_law 364 = .ok (.invokevirtual 39, 3) := by decide +kernel
theorem dL_law_367 : decode cL_law 367 = .ok (.if_icmp .eq 1034, 3) := by decide +kernel
theorem dL_law_370 : decode cL_law 370 = .ok (.iconst 0, 1) := by decide +kernel
theorem dL_law_371 : decode cL_law 371 = .ok (.ireturn, 1) := by decide +kernel
theorem dL_law_372 : decode cL_law 372 = .ok (.aload_n 1, 1) := by decide +kernel
theorem dL_law_373 : decode cL_law 373 = .ok (.aload_n 0, 1) := by decide +kernel
theorem dL_law_374 : decode cL_law 374 = .ok (.iload_n 3, 1) := by decide +kernel
theorem dL_law_375 : decode cL_law 375 = .ok (.iconst 1, 1) := by decide +kernel
theorem dL_law_376 : decode cL_law 376 = .ok (.iadd, 1) := by decide +kernel
theorem dL_law_377 : decode cL_law 377 = .ok (.iaload, 1) := by decide +kernel
theorem dL_law_378 : decode cL_law 378 = .ok (.invokevirtual 40, 3) := by decide +kernel
theorem dL_law_381 : decode cL_law 381 = .ok (.aload_n 2, 1) := by decide +kernel
theorem dL_law_382 : decode cL_law 382 = .ok (.aload_n 0, 1) := by decide +kernel
theorem dL_law_383 : decode cL_law 383 = .ok (.iload_n 3, 1) := by decide +kernel
theorem dL_law_384 : decode cL_law 384 = .ok (.iconst 1, 1) := by decide +kernel
theorem dL_law_385 : decode cL_law 385 = .ok (.iadd, 1) := by decide +kernel
theorem dL_law_386 : decode cL_law 386 = .ok (.iaload, 1) := by decide +kernel
theorem dL_law_387 : decode cL_law 387 = .ok (.invokevirtual 43, 3) := by decide +kernel
theorem dL_law_390 : decode cL_law 390 = .ok (.if_icmp .eq 1011, 3) := by decide +kernel
theorem dL_law_393 : decode cL_law 393 = .ok (.iconst 0, 1) := by decide +kernel
theorem dL_law_394 : decode cL_law 394 = .ok (.ireturn, 1) := by decide +kernel
theorem dL_law_395 : decode cL_law 395 = .ok (.aload_n 1, 1) := by decide +kernel
theorem dL_law_396 : decode cL_law 396 = .ok (.invokevirtual 44, 3) := by decide +kernel
theorem dL_law_399 : decode cL_law 399 = .ok (.aload_n 2, 1) := by decide +kernel
theorem dL_law_400 : decode cL_law 400 = .ok (.invokevirtual 47, 3) := by decide +kernel
theorem dL_law_403 : decode cL_law 403 = .ok (.if_icmp .eq 998, 3) := by decide +kernel
theorem dL_law_406 : decode cL_law 406 = .ok (.iconst 0, 1) := by decide +kernel
theorem dL_law_407 : decode cL_law 407 = .ok (.ireturn, 1) := by decide +kernel
theorem dL_law_408 : decode cL_law 408 = .ok (.aload_n 1, 1) := by decide +kernel
theorem dL_law_409 : decode cL_law 409 = .ok (.aload_n 0, 1) := by decide +kernel
theorem dL_law_410 : decode cL_law 410 = .ok (.iload_n 3, 1) := by decide +kernel
theorem dL_law_411 : decode cL_law 411 = .ok (.iconst 1, 1) := by decide +kernel
theorem dL_law_412 : decode cL_law 412 = .ok (.iadd, 1) := by decide +kernel
theorem dL_law_413 : decode cL_law 413 = .ok (.iaload, 1) := by decide +kernel
theorem dL_law_414 : decode cL_law 414 = .ok (.invokevirtual 48, 3) := by decide +kernel
theorem dL_law_417 : decode cL_law 417 = .ok (.aload_n 2, 1) := by decide +kernel
theorem dL_law_418 : decode cL_law 418 = .ok (.aload_n 0, 1) := by decide +kernel
theorem dL_law_419 : decode cL_law 419 = .ok (.iload_n 3, 1) := by decide +kernel
theorem dL_law_420 : decode cL_law 420 = .ok (.iconst 1, 1) := by decide +kernel
theorem dL_law_421 : decode cL_law 421 = .ok (.iadd, 1) := by decide +kernel
theorem dL_law_422 : decode cL_law 422 = .ok (.iaload, 1) := by decide +kernel
theorem dL_law_423 : decode cL_law 423 = .ok (.invokevirtual 51, 3) := by decide +kernel
theorem dL_law_426 : decode cL_law 426 = .ok (.if_icmp .eq 975, 3) := by decide +kernel
theorem dL_law_429 : decode cL_law 429 = .ok (.iconst 0, 1) := by decide +kernel
theorem dL_law_430 : decode cL_law 430 = .ok (.ireturn, 1) := by decide +kernel
theorem dL_law_431 : decode cL_law 431 = .ok (.aload_n 1, 1) := by decide +kernel
theorem dL_law_432 : decode cL_law 432 = .ok (.aload_n 0, 1) := by decide +kernel
theorem dL_law_433 : decode cL_law 433 = .ok (.iload_n 3, 1) := by decide +kernel
theorem dL_law_434 : decode cL_law 434 = .ok (.iconst 1, 1) := by decide +kernel
theorem dL_law_435 : decode cL_law 435 = .ok (.iadd, 1) := by decide +kernel
theorem dL_law_436 : decode cL_law 436 = .ok (.iaload, 1) := by decide +kernel
theorem dL_law_437 : decode cL_law 437 = .ok (.invokevirtual 52, 3) := by decide +kernel
theorem dL_law_440 : decode cL_law 440 = .ok (.aload_n 2, 1) := by decide +kernel
theorem dL_law_441 : decode cL_law 441 = .ok (.aload_n 0, 1) := by decide +kernel
theorem dL_law_442 : decode cL_law 442 = .ok (.iload_n 3, 1) := by decide +kernel
theorem dL_law_443 : decode cL_law 443 = .ok (.iconst 1, 1) := by decide +kernel
theorem dL_law_444 : decode cL_law 444 = .ok (.iadd, 1) := by decide +kernel
theorem dL_law_445 : decode cL_law 445 = .ok (.iaload, 1) := by decide +kernel
theorem dL_law_446 : decode cL_law 446 = .ok (.invokevirtual 55, 3) := by decide +kernel
theorem dL_law_449 : decode cL_law 449 = .ok (.if_icmp .eq 952, 3) := by decide +kernel
theorem dL_law_452 : decode cL_law 452 = .ok (.iconst 0, 1) := by decide +kernel
theorem dL_law_453 : decode cL_law 453 = .ok (.ireturn, 1) := by decide +kernel
theorem dL_law_454 : decode cL_law 454 = .ok (.aload_n 1, 1) := by decide +kernel
theorem dL_law_455 : decode cL_law 455 = .ok (.aload_n 0, 1) := by decide +kernel
theorem dL_law_456 : decode cL_law 456 = .ok (.iload_n 3, 1) := by decide +kernel
theorem dL_law_457 : decode cL_law 457 = .ok (.iconst 1, 1) := by decide +kernel
theorem dL_law_458 : decode cL_law 458 = .ok (.iadd, 1) := by decide +kernel
theorem dL_law_459 : decode cL_law 459 = .ok (.iaload, 1) := by decide +kernel
theorem dL_law_460 : decode cL_law 460 = .ok (.invokevirtual 56, 3) := by decide +kernel
theorem dL_law_463 : decode cL_law 463 = .ok (.aload_n 2, 1) := by decide +kernel
theorem dL_law_464 : decode cL_law 464 = .ok (.aload_n 0, 1) := by decide +kernel
theorem dL_law_465 : decode cL_law 465 = .ok (.iload_n 3, 1) := by decide +kernel
theorem dL_law_466 : decode cL_law 466 = .ok (.iconst 1, 1) := by decide +kernel
theorem dL_law_467 : decode cL_law 467 = .ok (.iadd, 1) := by decide +kernel
theorem dL_law_468 : decode cL_law 468 = .ok (.iaload, 1) := by decide +kernel
theorem dL_law_469 : decode cL_law 469 = .ok (.invokevirtual 59, 3) := by decide +kernel
theorem dL_law_472 : decode cL_law 472 = .ok (.if_icmp .eq 929, 3) := by decide +kernel
theorem dL_law_475 : decode cL_law 475 = .ok (.iconst 0, 1) := by decide +kernel
theorem dL_law_476 : decode cL_law 476 = .ok (.ireturn, 1) := by decide +kernel
theorem dL_law_477 : decode cL_law 477 = .ok (.aload_n 1, 1) := by decide +kernel
theorem dL_law_478 : decode cL_law 478 = .ok (.aload_n 0, 1) := by decide +kernel
theorem dL_law_479 : decode cL_law 479 = .ok (.iload_n 3, 1) := by decide +kernel
theorem dL_law_480 : decode cL_law 480 = .ok (.iconst 1, 1) := by decide +kernel
theorem dL_law_481 : decode cL_law 481 = .ok (.iadd, 1) := by decide +kernel
theorem dL_law_482 : decode cL_law 482 = .ok (.iaload, 1) := by decide +kernel
theorem dL_law_483 : decode cL_law 483 = .ok (.invokevirtual 60, 3) := by decide +kernel
theorem dL_law_486 : decode cL_law 486 = .ok (.aload_n 2, 1) := by decide +kernel
theorem dL_law_487 : decode cL_law 487 = .ok (.aload_n 0, 1) := by decide +kernel
theorem dL_law_488 : decode cL_law 488 = .ok (.iload_n 3, 1) := by decide +kernel
theorem dL_law_489 : decode cL_law 489 = .ok (.iconst 1, 1) := by decide +kernel
theorem dL_law_490 : decode cL_law 490 = .ok (.iadd, 1) := by decide +kernel
theorem dL_law_491 : decode cL_law 491 = .ok (.iaload, 1) := by decide +kernel
theorem dL_law_492 : decode cL_law 492 = .ok (.invokevirtual 63, 3) := by decide +kernel
theorem dL_law_495 : decode cL_law 495 = .ok (.if_icmp .eq 906, 3) := by decide +kernel
theorem dL_law_498 : decode cL_law 498 = .ok (.iconst 0, 1) := by decide +kernel
theorem dL_law_499 : decode cL_law 499 = .ok (.ireturn, 1) := by decide +kernel
theorem dL_law_500 : decode cL_law 500 = .ok (.aload_n 1, 1) := by decide +kernel
theorem dL_law_501 : decode cL_law 501 = .ok (.aload_n 0, 1) := by decide +kernel
theorem dL_law_502 : decode cL_law 502 = .ok (.iload_n 3, 1) := by decide +kernel
theorem dL_law_503 : decode cL_law 503 = .ok (.iconst 1, 1) := by decide +kernel
theorem dL_law_504 : decode cL_law 504 = .ok (.iadd, 1) := by decide +kernel
theorem dL_law_505 : decode cL_law 505 = .ok (.iaload, 1) := by decide +kernel
theorem dL_law_506 : decode cL_law 506 = .ok (.aload_n 0, 1) := by decide +kernel
theorem dL_law_507 : decode cL_law 507 = .ok (.iload_n 3, 1) := by decide +kernel
theorem dL_law_508 : decode cL_law 508 = .ok (.iconst 2, 1) := by decide +kernel
theorem dL_law_509 : decode cL_law 509 = .ok (.iadd, 1) := by decide +kernel
theorem dL_law_510 : decode cL_law 510 = .ok (.iaload, 1) := by decide +kernel
theorem dL_law_511 : decode cL_law 511 = .ok (.invokevirtual 64, 3) := by decide +kernel
theorem dL_law_514 : decode cL_law 514 = .ok (.aload_n 2, 1) := by decide +kernel
theorem dL_law_515 : decode cL_law 515 = .ok (.aload_n 0, 1) := by decide +kernel
theorem dL_law_516 : decode cL_law 516 = .ok (.iload_n 3, 1) := by decide +kernel
theorem dL_law_517 : decode cL_law 517 = .ok (.iconst 1, 1) := by decide +kernel
theorem dL_law_518 : decode cL_law 518 = .ok (.iadd, 1) := by decide +kernel
theorem dL_law_519 : decode cL_law 519 = .ok (.iaload, 1) := by decide +kernel
theorem dL_law_520 : decode cL_law 520 = .ok (.aload_n 0, 1) := by decide +kernel
theorem dL_law_521 : decode cL_law 521 = .ok (.iload_n 3, 1) := by decide +kernel
theorem dL_law_522 : decode cL_law 522 = .ok (.iconst 2, 1) := by decide +kernel
theorem dL_law_523 : decode cL_law 523 = .ok (.iadd, 1) := by decide +kernel
theorem dL_law_524 : decode cL_law 524 = .ok (.iaload, 1) := by decide +kernel
theorem dL_law_525 : decode cL_law 525 = .ok (.invokevirtual 67, 3) := by decide +kernel
theorem dL_law_528 : decode cL_law 528 = .ok (.if_icmp .eq 873, 3) := by decide +kernel
theorem dL_law_531 : decode cL_law 531 = .ok (.iconst 0, 1) := by decide +kernel
theorem dL_law_532 : decode cL_law 532 = .ok (.ireturn, 1) := by decide +kernel
theorem dL_law_533 : decode cL_law 533 = .ok (.aload_n 1, 1) := by decide +kernel
theorem dL_law_534 : decode cL_law 534 = .ok (.invokevirtual 68, 3) := by decide +kernel
theorem dL_law_537 : decode cL_law 537 = .ok (.aload_n 2, 1) := by decide +kernel
theorem dL_law_538 : decode cL_law 538 = .ok (.invokevirtual 71, 3) := by decide +kernel
theorem dL_law_541 : decode cL_law 541 = .ok (.if_icmp .eq 860, 3) := by decide +kernel
theorem dL_law_544 : decode cL_law 544 = .ok (.iconst 0, 1) := by decide +kernel
theorem dL_law_545 : decode cL_law 545 = .ok (.ireturn, 1) := by decide +kernel
theorem dL_law_546 : decode cL_law 546 = .ok (.aload_n 1, 1) := by decide +kernel
theorem dL_law_547 : decode cL_law 547 = .ok (.invokevirtual 72, 3) := by decide +kernel
theorem dL_law_550 : decode cL_law 550 = .ok (.aload_n 2, 1) := by decide +kernel
theorem dL_law_551 : decode cL_law 551 = .ok (.invokevirtual 75, 3) := by decide +kernel
theorem dL_law_554 : decode cL_law 554 = .ok (.if_icmp .eq 847, 3) := by decide +kernel
theorem dL_law_557 : decode cL_law 557 = .ok (.iconst 0, 1) := by decide +kernel
theorem dL_law_558 : decode cL_law 558 = .ok (.ireturn, 1) := by decide +kernel
theorem dL_law_559 : decode cL_law 559 = .ok (.aload_n 1, 1) := by decide +kernel
theorem dL_law_560 : decode cL_law 560 = .ok (.aload_n 0, 1) := by decide +kernel
theorem dL_law_561 : decode cL_law 561 = .ok (.iload_n 3, 1) := by decide +kernel
theorem dL_law_562 : decode cL_law 562 = .ok (.iconst 1, 1) := by decide +kernel
theorem dL_law_563 : decode cL_law 563 = .ok (.iadd, 1) := by decide +kernel
theorem dL_law_564 : decode cL_law 564 = .ok (.iaload, 1) := by decide +kernel
theorem dL_law_565 : decode cL_law 565 = .ok (.invokevirtual 76, 3) := by decide +kernel
theorem dL_law_568 : decode cL_law 568 = .ok (.aload_n 2, 1) := by decide +kernel
theorem dL_law_569 : decode cL_law 569 = .ok (.aload_n 0, 1) := by decide +kernel
theorem dL_law_570 : decode cL_law 570 = .ok (.iload_n 3, 1) := by decide +kernel
theorem dL_law_571 : decode cL_law 571 = .ok (.iconst 1, 1) := by decide +kernel
theorem dL_law_572 : decode cL_law 572 = .ok (.iadd, 1) := by decide +kernel
theorem dL_law_573 : decode cL_law 573 = .ok (.iaload, 1) := by decide +kernel
theorem dL_law_574 : decode cL_law 574 = .ok (.invokevirtual 79, 3) := by decide +kernel
theorem dL_law_577 : decode cL_law 577 = .ok (.if_icmp .eq 824, 3) := by decide +kernel
theorem dL_law_580 : decode cL_law 580 = .ok (.iconst 0, 1) := by decide +kernel
theorem dL_law_581 : decode cL_law 581 = .ok (.ireturn, 1) := by decide +kernel
theorem dL_law_582 : decode cL_law 582 = .ok (.aload_n 1, 1) := by decide +kernel
theorem dL_law_583 : decode cL_law 583 = .ok (.aload_n 0, 1) := by decide +kernel
theorem dL_law_584 : decode cL_law 584 = .ok (.iload_n 3, 1) := by decide +kernel
theorem dL_law_585 : decode cL_law 585 = .ok (.iconst 1, 1) := by decide +kernel
theorem dL_law_586 : decode cL_law 586 = .ok (.iadd, 1) := by decide +kernel
theorem dL_law_587 : decode cL_law 587 = .ok (.iaload, 1) := by decide +kernel
theorem dL_law_588 : decode cL_law 588 = .ok (.aload_n 0, 1) := by decide +kernel
theorem dL_law_589 : decode cL_law 589 = .ok (.iload_n 3, 1) := by decide +kernel
theorem dL_law_590 : decode cL_law 590 = .ok (.iconst 2, 1) := by decide +kernel
theorem dL_law_591 : decode cL_law 591 = .ok (.iadd, 1) := by decide +kernel
theorem dL_law_592 : decode cL_law 592 = .ok (.iaload, 1) := by decide +kernel
theorem dL_law_593 : decode cL_law 593 = .ok (.aload_n 0, 1) := by decide +kernel
theorem dL_law_594 : decode cL_law 594 = .ok (.iload_n 3, 1) := by decide +kernel
theorem dL_law_595 : decode cL_law 595 = .ok (.iconst 3, 1) := by decide +kernel
theorem dL_law_596 : decode cL_law 596 = .ok (.iadd, 1) := by decide +kernel
theorem dL_law_597 : decode cL_law 597 = .ok (.iaload, 1) := by decide +kernel
theorem dL_law_598 : decode cL_law 598 = .ok (.invokevirtual 80, 3) := by decide +kernel
theorem dL_law_601 : decode cL_law 601 = .ok (.aload_n 2, 1) := by decide +kernel
theorem dL_law_602 : decode cL_law 602 = .ok (.aload_n 0, 1) := by decide +kernel
theorem dL_law_603 : decode cL_law 603 = .ok (.iload_n 3, 1) := by decide +kernel
theorem dL_law_604 : decode cL_law 604 = .ok (.iconst 1, 1) := by decide +kernel
theorem dL_law_605 : decode cL_law 605 = .ok (.iadd, 1) := by decide +kernel
theorem dL_law_606 : decode cL_law 606 = .ok (.iaload, 1) := by decide +kernel
theorem dL_law_607 : decode cL_law 607 = .ok (.aload_n 0, 1) := by decide +kernel
theorem dL_law_608 : decode cL_law 608 = .ok (.iload_n 3, 1) := by decide +kernel
theorem dL_law_609 : decode cL_law 609 = .ok (.iconst 2, 1) := by decide +kernel
theorem dL_law_610 : decode cL_law 610 = .ok (.iadd, 1) := by decide +kernel
theorem dL_law_611 : decode cL_law 611 = .ok (.iaload, 1) := by decide +kernel
theorem dL_law_612 : decode cL_law 612 = .ok (.aload_n 0, 1) := by decide +kernel
theorem dL_law_613 : decode cL_law 613 = .ok (.iload_n 3, 1) := by decide +kernel
theorem dL_law_614 : decode cL_law 614 = .ok (.iconst 3, 1) := by decide +kernel
theorem dL_law_615 : decode cL_law 615 = .ok (.iadd, 1) := by decide +kernel
theorem dL_law_616 : decode cL_law 616 = .ok (.iaload, 1) := by decide +kernel
theorem dL_law_617 : decode cL_law 617 = .ok (.invokevirtual 84, 3) := by decide +kernel
theorem dL_law_620 : decode cL_law 620 = .ok (.if_icmp .eq 781, 3) := by decide +kernel
theorem dL_law_623 : decode cL_law 623 = .ok (.iconst 0, 1) := by decide +kernel
theorem dL_law_624 : decode cL_law 624 = .ok (.ireturn, 1) := by decide +kernel
theorem dL_law_625 : decode cL_law 625 = .ok (.aload_n 1, 1) := by decide +kernel
theorem dL_law_626 : decode cL_law 626 = .ok (.invokevirtual 85, 3) := by decide +kernel
theorem dL_law_629 : decode cL_law 629 = .ok (.aload_n 2, 1) := by decide +kernel
theorem dL_law_630 : decode cL_law 630 = .ok (.invokevirtual 88, 3) := by decide +kernel
theorem dL_law_633 : decode cL_law 633 = .ok (.if_icmp .eq 768, 3) := by decide +kernel
theorem dL_law_636 : decode cL_law 636 = .ok (.iconst 0, 1) := by decide +kernel
theorem dL_law_637 : decode cL_law 637 = .ok (.ireturn, 1) := by decide +kernel
theorem dL_law_638 : decode cL_law 638 = .ok (.aload_n 1, 1) := by decide +kernel
theorem dL_law_639 : decode cL_law 639 = .ok (.invokevirtual 89, 3) := by decide +kernel
theorem dL_law_642 : decode cL_law 642 = .ok (.aload_n 2, 1) := by decide +kernel
theorem dL_law_643 : decode cL_law 643 = .ok (.invokevirtual 92, 3) := by decide +kernel
theorem dL_law_646 : decode cL_law 646 = .ok (.if_icmp .eq 755, 3) := by decide +kernel
theorem dL_law_649 : decode cL_law 649 = .ok (.iconst 0, 1) := by decide +kernel
theorem dL_law_650 : decode cL_law 650 = .ok (.ireturn, 1) := by decide +kernel
theorem dL_law_651 : decode cL_law 651 = .ok (.aload_n 1, 1) := by decide +kernel
theorem dL_law_652 : decode cL_law 652 = .ok (.invokevirtual 93, 3) := by decide +kernel
theorem dL_law_655 : decode cL_law 655 = .ok (.aload_n 2, 1) := by decide +kernel
theorem dL_law_656 : decode cL_law 656 = .ok (.invokevirtual 96, 3) := by decide +kernel
theorem dL_law_659 : decode cL_law 659 = .ok (.if_icmp .eq 742, 3) := by decide +kernel
theorem dL_law_662 : decode cL_law 662 = .ok (.iconst 0, 1) := by decide +kernel
theorem dL_law_663 : decode cL_law 663 = .ok (.ireturn, 1) := by decide +kernel
theorem dL_law_664 : decode cL_law 664 = .ok (.aload_n 1, 1) := by decide +kernel
theorem dL_law_665 : decode cL_law 665 = .ok (.aload_n 0, 1) := by decide +kernel
theorem dL_law_666 : decode cL_law 666 = .ok (.iload_n 3, 1) := by decide +kernel
theorem dL_law_667 : decode cL_law 667 = .ok (.iconst 1, 1) := by decide +kernel
theorem dL_law_668 : decode cL_law 668 = .ok (.iadd, 1) := by decide +kernel
theorem dL_law_669 : decode cL_law 669 = .ok (.iaload, 1) := by decide +kernel
theorem dL_law_670 : decode cL_law 670 = .ok (.invokevirtual 97, 3) := by decide +kernel
theorem dL_law_673 : decode cL_law 673 = .ok (.aload_n 2, 1) := by decide +kernel
theorem dL_law_674 : decode cL_law 674 = .ok (.aload_n 0, 1) := by decide +kernel
theorem dL_law_675 : decode cL_law 675 = .ok (.iload_n 3, 1) := by decide +kernel
theorem dL_law_676 : decode cL_law 676 = .ok (.iconst 1, 1) := by decide +kernel
theorem dL_law_677 : decode cL_law 677 = .ok (.iadd, 1) := by decide +kernel
theorem dL_law_678 : decode cL_law 678 = .ok (.iaload, 1) := by decide +kernel
theorem dL_law_679 : decode cL_law 679 = .ok (.invokevirtual 100, 3) := by decide +kernel
theorem dL_law_682 : decode cL_law 682 = .ok (.if_icmp .eq 719, 3) := by decide +kernel
theorem dL_law_685 : decode cL_law 685 = .ok (.iconst 0, 1) := by decide +kernel
theorem dL_law_686 : decode cL_law 686 = .ok (.ireturn, 1) := by decide +kernel
theorem dL_law_687 : decode cL_law 687 = .ok (.aload_n 1, 1) := by decide +kernel
theorem dL_law_688 : decode cL_law 688 = .ok (.invokevirtual 101, 3) := by decide +kernel
theorem dL_law_691 : decode cL_law 691 = .ok (.aload_n 2, 1) := by decide +kernel
theorem dL_law_692 : decode cL_law 692 = .ok (.invokevirtual 104, 3) := by decide +kernel
theorem dL_law_695 : decode cL_law 695 = .ok (.if_icmp .eq 706, 3) := by decide +kernel
theorem dL_law_698 : decode cL_law 698 = .ok (.iconst 0, 1) := by decide +kernel
theorem dL_law_699 : decode cL_law 699 = .ok (.ireturn, 1) := by decide +kernel
theorem dL_law_700 : decode cL_law 700 = .ok (.aload_n 1, 1) := by decide +kernel
theorem dL_law_701 : decode cL_law 701 = .ok (.invokevirtual 105, 3) := by decide +kernel
theorem dL_law_704 : decode cL_law 704 = .ok (.aload_n 2, 1) := by decide +kernel
theorem dL_law_705 : decode cL_law 705 = .ok (.invokevirtual 108, 3) := by decide +kernel
theorem dL_law_708 : decode cL_law 708 = .ok (.if_icmp .eq 693, 3) := by decide +kernel
theorem dL_law_711 : decode cL_law 711 = .ok (.iconst 0, 1) := by decide +kernel
theorem dL_law_712 : decode cL_law 712 = .ok (.ireturn, 1) := by decide +kernel
theorem dL_law_713 : decode cL_law 713 = .ok (.aload_n 1, 1) := by decide +kernel
theorem dL_law_714 : decode cL_law 714 = .ok (.invokevirtual 109, 3) := by decide +kernel
theorem dL_law_717 : decode cL_law 717 = .ok (.aload_n 2, 1) := by decide +kernel
theorem dL_law_718 : decode cL_law 718 = .ok (.invokevirtual 112, 3) := by decide +kernel
theorem dL_law_721 : decode cL_law 721 = .ok (.if_icmp .eq 680, 3) := by decide +kernel
theorem dL_law_724 : decode cL_law 724 = .ok (.iconst 0, 1) := by decide +kernel
theorem dL_law_725 : decode cL_law 725 = .ok (.ireturn, 1) := by decide +kernel
theorem dL_law_726 : decode cL_law 726 = .ok (.aload_n 1, 1) := by decide +kernel
theorem dL_law_727 : decode cL_law 727 = .ok (.invokevirtual 113, 3) := by decide +kernel
theorem dL_law_730 : decode cL_law 730 = .ok (.aload_n 2, 1) := by decide +kernel
theorem dL_law_731 : decode cL_law 731 = .ok (.invokevirtual 116, 3) := by decide +kernel
theorem dL_law_734 : decode cL_law 734 = .ok (.if_icmp .eq 667, 3) := by decide +kernel
theorem dL_law_737 : decode cL_law 737 = .ok (.iconst 0, 1) := by decide +kernel
theorem dL_law_738 : decode cL_law 738 = .ok (.ireturn, 1) := by decide +kernel
theorem dL_law_739 : decode cL_law 739 = .ok (.aload_n 1, 1) := by decide +kernel
theorem dL_law_740 : decode cL_law 740 = .ok (.aload_n 0, 1) := by decide +kernel
theorem dL_law_741 : decode cL_law 741 = .ok (.iload_n 3, 1) := by decide +kernel
theorem dL_law_742 : decode cL_law 742 = .ok (.iconst 1, 1) := by decide +kernel
theorem dL_law_743 : decode cL_law 743 = .ok (.iadd, 1) := by decide +kernel
theorem dL_law_744 : decode cL_law 744 = .ok (.iaload, 1) := by decide +kernel
theorem dL_law_745 : decode cL_law 745 = .ok (.invokevirtual 117, 3) := by decide +kernel
theorem dL_law_748 : decode cL_law 748 = .ok (.aload_n 2, 1) := by decide +kernel
theorem dL_law_749 : decode cL_law 749 = .ok (.aload_n 0, 1) := by decide +kernel
theorem dL_law_750 : decode cL_law 750 = .ok (.iload_n 3, 1) := by decide +kernel
theorem dL_law_751 : decode cL_law 751 = .ok (.iconst 1, 1) := by decide +kernel
theorem dL_law_752 : decode cL_law 752 = .ok (.iadd, 1) := by decide +kernel
theorem dL_law_753 : decode cL_law 753 = .ok (.iaload, 1) := by decide +kernel
theorem dL_law_754 : decode cL_law 754 = .ok (.invokevirtual 120, 3) := by decide +kernel
theorem dL_law_757 : decode cL_law 757 = .ok (.if_icmp .eq 644, 3) := by decide +kernel
theorem dL_law_760 : decode cL_law 760 = .ok (.iconst 0, 1) := by decide +kernel
theorem dL_law_761 : decode cL_law 761 = .ok (.ireturn, 1) := by decide +kernel
theorem dL_law_762 : decode cL_law 762 = .ok (.aload_n 1, 1) := by decide +kernel
theorem dL_law_763 : decode cL_law 763 = .ok (.aload_n 0, 1) := by decide +kernel
theorem dL_law_764 : decode cL_law 764 = .ok (.iload_n 3, 1) := by decide +kernel
theorem dL_law_765 : decode cL_law 765 = .ok (.iconst 1, 1) := by decide +kernel
theorem dL_law_766 : decode cL_law 766 = .ok (.iadd, 1) := by decide +kernel
theorem dL_law_767 : decode cL_law 767 = .ok (.iaload, 1) := by decide +kernel
theorem dL_law_768 : decode cL_law 768 = .ok (.invokevirtual 121, 3) := by decide +kernel
theorem dL_law_771 : decode cL_law 771 = .ok (.aload_n 2, 1) := by decide +kernel
theorem dL_law_772 : decode cL_law 772 = .ok (.aload_n 0, 1) := by decide +kernel
theorem dL_law_773 : decode cL_law 773 = .ok (.iload_n 3, 1) := by decide +kernel
theorem dL_law_774 : decode cL_law 774 = .ok (.iconst 1, 1) := by decide +kernel
theorem dL_law_775 : decode cL_law 775 = .ok (.iadd, 1) := by decide +kernel
theorem dL_law_776 : decode cL_law 776 = .ok (.iaload, 1) := by decide +kernel
theorem dL_law_777 : decode cL_law 777 = .ok (.invokevirtual 124, 3) := by decide +kernel
theorem dL_law_780 : decode cL_law 780 = .ok (.if_icmp .eq 621, 3) := by decide +kernel
theorem dL_law_783 : decode cL_law 783 = .ok (.iconst 0, 1) := by decide +kernel
theorem dL_law_784 : decode cL_law 784 = .ok (.ireturn, 1) := by decide +kernel
theorem dL_law_785 : decode cL_law 785 = .ok (.aload_n 1, 1) := by decide +kernel
theorem dL_law_786 : decode cL_law 786 = .ok (.aload_n 0, 1) := by decide +kernel
theorem dL_law_787 : decode cL_law 787 = .ok (.iload_n 3, 1) := by decide +kernel
theorem dL_law_788 : decode cL_law 788 = .ok (.iconst 1, 1) := by decide +kernel
theorem dL_law_789 : decode cL_law 789 = .ok (.iadd, 1) := by decide +kernel
theorem dL_law_790 : decode cL_law 790 = .ok (.iaload, 1) := by decide +kernel
theorem dL_law_791 : decode cL_law 791 = .ok (.invokevirtual 125, 3) := by decide +kernel
theorem dL_law_794 : decode cL_law 794 = .ok (.aload_n 2, 1) := by decide +kernel
theorem dL_law_795 : decode cL_law 795 = .ok (.aload_n 0, 1) := by decide +kernel
theorem dL_law_796 : decode cL_law 796 = .ok (.iload_n 3, 1) := by decide +kernel
theorem dL_law_797 : decode cL_law 797 = .ok (.iconst 1, 1) := by decide +kernel
theorem dL_law_798 : decode cL_law 798 = .ok (.iadd, 1) := by decide +kernel
theorem dL_law_799 : decode cL_law 799 = .ok (.iaload, 1) := by decide +kernel
theorem dL_law_800 : decode cL_law 800 = .ok (.invokevirtual 128, 3) := by decide +kernel
theorem dL_law_803 : decode cL_law 803 = .ok (.if_icmp .eq 598, 3) := by decide +kernel
theorem dL_law_806 : decode cL_law 806 = .ok (.iconst 0, 1) := by decide +kernel
theorem dL_law_807 : decode cL_law 807 = .ok (.ireturn, 1) := by decide +kernel
theorem dL_law_808 : decode cL_law 808 = .ok (.aload_n 1, 1) := by decide +kernel
theorem dL_law_809 : decode cL_law 809 = .ok (.aload_n 0, 1) := by decide +kernel
theorem dL_law_810 : decode cL_law 810 = .ok (.iload_n 3, 1) := by decide +kernel
theorem dL_law_811 : decode cL_law 811 = .ok (.iconst 1, 1) := by decide +kernel
theorem dL_law_812 : decode cL_law 812 = .ok (.iadd, 1) := by decide +kernel
theorem dL_law_813 : decode cL_law 813 = .ok (.iaload, 1) := by decide +kernel
theorem dL_law_814 : decode cL_law 814 = .ok (.aload_n 0, 1) := by decide +kernel
theorem dL_law_815 : decode cL_law 815 = .ok (.iload_n 3, 1) := by decide +kernel
theorem dL_law_816 : decode cL_law 816 = .ok (.iconst 2, 1) := by decide +kernel
theorem dL_law_817 : decode cL_law 817 = .ok (.iadd, 1) := by decide +kernel
theorem dL_law_818 : decode cL_law 818 = .ok (.iaload, 1) := by decide +kernel
theorem dL_law_819 : decode cL_law 819 = .ok (.invokevirtual 129, 3) := by decide +kernel
theorem dL_law_822 : decode cL_law 822 = .ok (.aload_n 2, 1) := by decide +kernel
theorem dL_law_823 : decode cL_law 823 = .ok (.aload_n 0, 1) := by decide +kernel
theorem dL_law_824 : decode cL_law 824 = .ok (.iload_n 3, 1) := by decide +kernel
theorem dL_law_825 : decode cL_law 825 = .ok (.iconst 1, 1) := by decide +kernel
theorem dL_law_826 : decode cL_law 826 = .ok (.iadd, 1) := by decide +kernel
theorem dL_law_827 : decode cL_law 827 = .ok (.iaload, 1) := by decide +kernel
theorem dL_law_828 : decode cL_law 828 = .ok (.aload_n 0, 1) := by decide +kernel
theorem dL_law_829 : decode cL_law 829 = .ok (.iload_n 3, 1) := by decide +kernel
theorem dL_law_830 : decode cL_law 830 = .ok (.iconst 2, 1) := by decide +kernel
theorem dL_law_831 : decode cL_law 831 = .ok (.iadd, 1) := by decide +kernel
theorem dL_law_832 : decode cL_law 832 = .ok (.iaload, 1) := by decide +kernel
theorem dL_law_833 : decode cL_law 833 = .ok (.invokevirtual 132, 3) := by decide +kernel
theorem dL_law_836 : decode cL_law 836 = .ok (.if_icmp .eq 565, 3) := by decide +kernel
theorem dL_law_839 : decode cL_law 839 = .ok (.iconst 0, 1) := by decide +kernel
theorem dL_law_840 : decode cL_law 840 = .ok (.ireturn, 1) := by decide +kernel
theorem dL_law_841 : decode cL_law 841 = .ok (.aload_n 1, 1) := by decide +kernel
theorem dL_law_842 : decode cL_law 842 = .ok (.aload_n 0, 1) := by decide +kernel
theorem dL_law_843 : decode cL_law 843 = .ok (.iload_n 3, 1) := by decide +kernel
theorem dL_law_844 : decode cL_law 844 = .ok (.iconst 1, 1) := by decide +kernel
theorem dL_law_845 : decode cL_law 845 = .ok (.iadd, 1) := by decide +kernel
theorem dL_law_846 : decode cL_law 846 = .ok (.iaload, 1) := by decide +kernel
theorem dL_law_847 : decode cL_law 847 = .ok (.aload_n 0, 1) := by decide +kernel
theorem dL_law_848 : decode cL_law 848 = .ok (.iload_n 3, 1) := by decide +kernel
theorem dL_law_849 : decode cL_law 849 = .ok (.iconst 2, 1) := by decide +kernel
theorem dL_law_850 : decode cL_law 850 = .ok (.iadd, 1) := by decide +kernel
theorem dL_law_851 : decode cL_law 851 = .ok (.iaload, 1) := by decide +kernel
theorem dL_law_852 : decode cL_law 852 = .ok (.invokevirtual 133, 3) := by decide +kernel
theorem dL_law_855 : decode cL_law 855 = .ok (.aload_n 2, 1) := by decide +kernel
theorem dL_law_856 : decode cL_law 856 = .ok (.aload_n 0, 1) := by decide +kernel
theorem dL_law_857 : decode cL_law 857 = .ok (.iload_n 3, 1) := by decide +kernel
theorem dL_law_858 : decode cL_law 858 = .ok (.iconst 1, 1) := by decide +kernel
theorem dL_law_859 : decode cL_law 859 = .ok (.iadd, 1) := by decide +kernel
theorem dL_law_860 : decode cL_law 860 = .ok (.iaload, 1) := by decide +kernel
theorem dL_law_861 : decode cL_law 861 = .ok (.aload_n 0, 1) := by decide +kernel
theorem dL_law_862 : decode cL_law 862 = .ok (.iload_n 3, 1) := by decide +kernel
theorem dL_law_863 : decode cL_law 863 = .ok (.iconst 2, 1) := by decide +kernel
theorem dL_law_864 : decode cL_law 864 = .ok (.iadd, 1) := by decide +kernel
theorem dL_law_865 : decode cL_law 865 = .ok (.iaload, 1) := by decide +kernel
theorem dL_law_866 : decode cL_law 866 = .ok (.invokevirtual 136, 3) := by decide +kernel
theorem dL_law_869 : decode cL_law 869 = .ok (.if_icmp .eq 532, 3) := by decide +kernel
theorem dL_law_872 : decode cL_law 872 = .ok (.iconst 0, 1) := by decide +kernel
theorem dL_law_873 : decode cL_law 873 = .ok (.ireturn, 1) := by decide +kernel
theorem dL_law_874 : decode cL_law 874 = .ok (.aload_n 1, 1) := by decide +kernel
theorem dL_law_875 : decode cL_law 875 = .ok (.aload_n 0, 1) := by decide +kernel
theorem dL_law_876 : decode cL_law 876 = .ok (.iload_n 3, 1) := by decide +kernel
theorem dL_law_877 : decode cL_law 877 = .ok (.iconst 1, 1) := by decide +kernel
theorem dL_law_878 : decode cL_law 878 = .ok (.iadd, 1) := by decide +kernel
theorem dL_law_879 : decode cL_law 879 = .ok (.iaload, 1) := by decide +kernel
theorem dL_law_880 : decode cL_law 880 = .ok (.aload_n 0, 1) := by decide +kernel
theorem dL_law_881 : decode cL_law 881 = .ok (.iload_n 3, 1) := by decide +kernel
theorem dL_law_882 : decode cL_law 882 = .ok (.iconst 2, 1) := by decide +kernel
theorem dL_law_883 : decode cL_law 883 = .ok (.iadd, 1) := by decide +kernel
theorem dL_law_884 : decode cL_law 884 = .ok (.iaload, 1) := by decide +kernel
theorem dL_law_885 : decode cL_law 885 = .ok (.invokevirtual 137, 3) := by decide +kernel
theorem dL_law_888 : decode cL_law 888 = .ok (.aload_n 2, 1) := by decide +kernel
theorem dL_law_889 : decode cL_law 889 = .ok (.aload_n 0, 1) := by decide +kernel
theorem dL_law_890 : decode cL_law 890 = .ok (.iload_n 3, 1) := by decide +kernel
theorem dL_law_891 : decode cL_law 891 = .ok (.iconst 1, 1) := by decide +kernel
theorem dL_law_892 : decode cL_law 892 = .ok (.iadd, 1) := by decide +kernel
theorem dL_law_893 : decode cL_law 893 = .ok (.iaload, 1) := by decide +kernel
theorem dL_law_894 : decode cL_law 894 = .ok (.aload_n 0, 1) := by decide +kernel
theorem dL_law_895 : decode cL_law 895 = .ok (.iload_n 3, 1) := by decide +kernel
theorem dL_law_896 : decode cL_law 896 = .ok (.iconst 2, 1) := by decide +kernel
theorem dL_law_897 : decode cL_law 897 = .ok (.iadd, 1) := by decide +kernel
theorem dL_law_898 : decode cL_law 898 = .ok (.iaload, 1) := by decide +kernel
theorem dL_law_899 : decode cL_law 899 = .ok (.invokevirtual 140, 3) := by decide +kernel
theorem dL_law_902 : decode cL_law 902 = .ok (.if_icmp .eq 499, 3) := by decide +kernel
theorem dL_law_905 : decode cL_law 905 = .ok (.iconst 0, 1) := by decide +kernel
theorem dL_law_906 : decode cL_law 906 = .ok (.ireturn, 1) := by decide +kernel
theorem dL_law_907 : decode cL_law 907 = .ok (.aload_n 1, 1) := by decide +kernel
theorem dL_law_908 : decode cL_law 908 = .ok (.aload_n 0, 1) := by decide +kernel
theorem dL_law_909 : decode cL_law 909 = .ok (.iload_n 3, 1) := by decide +kernel
theorem dL_law_910 : decode cL_law 910 = .ok (.iconst 1, 1) := by decide +kernel
theorem dL_law_911 : decode cL_law 911 = .ok (.iadd, 1) := by decide +kernel
theorem dL_law_912 : decode cL_law 912 = .ok (.iaload, 1) := by decide +kernel
theorem dL_law_913 : decode cL_law 913 = .ok (.aload_n 0, 1) := by decide +kernel
theorem dL_law_914 : decode cL_law 914 = .ok (.iload_n 3, 1) := by decide +kernel
theorem dL_law_915 : decode cL_law 915 = .ok (.iconst 2, 1) := by decide +kernel
theorem dL_law_916 : decode cL_law 916 = .ok (.iadd, 1) := by decide +kernel
theorem dL_law_917 : decode cL_law 917 = .ok (.iaload, 1) := by decide +kernel
theorem dL_law_918 : decode cL_law 918 = .ok (.invokevirtual 141, 3) := by decide +kernel
theorem dL_law_921 : decode cL_law 921 = .ok (.aload_n 2, 1) := by decide +kernel
theorem dL_law_922 : decode cL_law 922 = .ok (.aload_n 0, 1) := by decide +kernel
theorem dL_law_923 : decode cL_law 923 = .ok (.iload_n 3, 1) := by decide +kernel
theorem dL_law_924 : decode cL_law 924 = .ok (.iconst 1, 1) := by decide +kernel
theorem dL_law_925 : decode cL_law 925 = .ok (.iadd, 1) := by decide +kernel
theorem dL_law_926 : decode cL_law 926 = .ok (.iaload, 1) := by decide +kernel
theorem dL_law_927 : decode cL_law 927 = .ok (.aload_n 0, 1) := by decide +kernel
theorem dL_law_928 : decode cL_law 928 = .ok (.iload_n 3, 1) := by decide +kernel
theorem dL_law_929 : decode cL_law 929 = .ok (.iconst 2, 1) := by decide +kernel
theorem dL_law_930 : decode cL_law 930 = .ok (.iadd, 1) := by decide +kernel
theorem dL_law_931 : decode cL_law 931 = .ok (.iaload, 1) := by decide +kernel
theorem dL_law_932 : decode cL_law 932 = .ok (.invokevirtual 144, 3) := by decide +kernel
theorem dL_law_935 : decode cL_law 935 = .ok (.if_icmp .eq 466, 3) := by decide +kernel
theorem dL_law_938 : decode cL_law 938 = .ok (.iconst 0, 1) := by decide +kernel
theorem dL_law_939 : decode cL_law 939 = .ok (.ireturn, 1) := by decide +kernel
theorem dL_law_940 : decode cL_law 940 = .ok (.aload_n 1, 1) := by decide +kernel
theorem dL_law_941 : decode cL_law 941 = .ok (.aload_n 0, 1) := by decide +kernel
theorem dL_law_942 : decode cL_law 942 = .ok (.iload_n 3, 1) := by decide +kernel
theorem dL_law_943 : decode cL_law 943 = .ok (.iconst 1, 1) := by decide +kernel
theorem dL_law_944 : decode cL_law 944 = .ok (.iadd, 1) := by decide +kernel
theorem dL_law_945 : decode cL_law 945 = .ok (.iaload, 1) := by decide +kernel
theorem dL_law_946 : decode cL_law 946 = .ok (.aload_n 0, 1) := by decide +kernel
theorem dL_law_947 : decode cL_law 947 = .ok (.iload_n 3, 1) := by decide +kernel
theorem dL_law_948 : decode cL_law 948 = .ok (.iconst 2, 1) := by decide +kernel
theorem dL_law_949 : decode cL_law 949 = .ok (.iadd, 1) := by decide +kernel
theorem dL_law_950 : decode cL_law 950 = .ok (.iaload, 1) := by decide +kernel
theorem dL_law_951 : decode cL_law 951 = .ok (.invokevirtual 145, 3) := by decide +kernel
theorem dL_law_954 : decode cL_law 954 = .ok (.aload_n 2, 1) := by decide +kernel
theorem dL_law_955 : decode cL_law 955 = .ok (.aload_n 0, 1) := by decide +kernel
theorem dL_law_956 : decode cL_law 956 = .ok (.iload_n 3, 1) := by decide +kernel
theorem dL_law_957 : decode cL_law 957 = .ok (.iconst 1, 1) := by decide +kernel
theorem dL_law_958 : decode cL_law 958 = .ok (.iadd, 1) := by decide +kernel
theorem dL_law_959 : decode cL_law 959 = .ok (.iaload, 1) := by decide +kernel
theorem dL_law_960 : decode cL_law 960 = .ok (.aload_n 0, 1) := by decide +kernel
theorem dL_law_961 : decode cL_law 961 = .ok (.iload_n 3, 1) := by decide +kernel
theorem dL_law_962 : decode cL_law 962 = .ok (.iconst 2, 1) := by decide +kernel
theorem dL_law_963 : decode cL_law 963 = .ok (.iadd, 1) := by decide +kernel
theorem dL_law_964 : decode cL_law 964 = .ok (.iaload, 1) := by decide +kernel
theorem dL_law_965 : decode cL_law 965 = .ok (.invokevirtual 148, 3) := by decide +kernel
theorem dL_law_968 : decode cL_law 968 = .ok (.if_icmp .eq 433, 3) := by decide +kernel
theorem dL_law_971 : decode cL_law 971 = .ok (.iconst 0, 1) := by decide +kernel
theorem dL_law_972 : decode cL_law 972 = .ok (.ireturn, 1) := by decide +kernel
theorem dL_law_973 : decode cL_law 973 = .ok (.aload_n 1, 1) := by decide +kernel
theorem dL_law_974 : decode cL_law 974 = .ok (.aload_n 0, 1) := by decide +kernel
theorem dL_law_975 : decode cL_law 975 = .ok (.iload_n 3, 1) := by decide +kernel
theorem dL_law_976 : decode cL_law 976 = .ok (.iconst 1, 1) := by decide +kernel
theorem dL_law_977 : decode cL_law 977 = .ok (.iadd, 1) := by decide +kernel
theorem dL_law_978 : decode cL_law 978 = .ok (.iaload, 1) := by decide +kernel
theorem dL_law_979 : decode cL_law 979 = .ok (.aload_n 0, 1) := by decide +kernel
theorem dL_law_980 : decode cL_law 980 = .ok (.iload_n 3, 1) := by decide +kernel
theorem dL_law_981 : decode cL_law 981 = .ok (.iconst 2, 1) := by decide +kernel
theorem dL_law_982 : decode cL_law 982 = .ok (.iadd, 1) := by decide +kernel
theorem dL_law_983 : decode cL_law 983 = .ok (.iaload, 1) := by decide +kernel
theorem dL_law_984 : decode cL_law 984 = .ok (.aload_n 0, 1) := by decide +kernel
theorem dL_law_985 : decode cL_law 985 = .ok (.iload_n 3, 1) := by decide +kernel
theorem dL_law_986 : decode cL_law 986 = .ok (.iconst 3, 1) := by decide +kernel
theorem dL_law_987 : decode cL_law 987 = .ok (.iadd, 1) := by decide +kernel
theorem dL_law_988 : decode cL_law 988 = .ok (.iaload, 1) := by decide +kernel
theorem dL_law_989 : decode cL_law 989 = .ok (.invokevirtual 149, 3) := by decide +kernel
theorem dL_law_992 : decode cL_law 992 = .ok (.aload_n 2, 1) := by decide +kernel
theorem dL_law_993 : decode cL_law 993 = .ok (.aload_n 0, 1) := by decide +kernel
theorem dL_law_994 : decode cL_law 994 = .ok (.iload_n 3, 1) := by decide +kernel
theorem dL_law_995 : decode cL_law 995 = .ok (.iconst 1, 1) := by decide +kernel
theorem dL_law_996 : decode cL_law 996 = .ok (.iadd, 1) := by decide +kernel
theorem dL_law_997 : decode cL_law 997 = .ok (.iaload, 1) := by decide +kernel
theorem dL_law_998 : decode cL_law 998 = .ok (.aload_n 0, 1) := by decide +kernel
theorem dL_law_999 : decode cL_law 999 = .ok (.iload_n 3, 1) := by decide +kernel
theorem dL_law_1000 : decode cL_law 1000 = .ok (.iconst 2, 1) := by decide +kernel
theorem dL_law_1001 : decode cL_law 1001 = .ok (.iadd, 1) := by decide +kernel
theorem dL_law_1002 : decode cL_law 1002 = .ok (.iaload, 1) := by decide +kernel
theorem dL_law_1003 : decode cL_law 1003 = .ok (.aload_n 0, 1) := by decide +kernel
theorem dL_law_1004 : decode cL_law 1004 = .ok (.iload_n 3, 1) := by decide +kernel
theorem dL_law_1005 : decode cL_law 1005 = .ok (.iconst 3, 1) := by decide +kernel
theorem dL_law_1006 : decode cL_law 1006 = .ok (.iadd, 1) := by decide +kernel
theorem dL_law_1007 : decode cL_law 1007 = .ok (.iaload, 1) := by decide +kernel
theorem dL_law_1008 : decode cL_law 1008 = .ok (.invokevirtual 152, 3) := by decide +kernel
theorem dL_law_1011 : decode cL_law 1011 = .ok (.if_icmp .eq 390, 3) := by decide +kernel
theorem dL_law_1014 : decode cL_law 1014 = .ok (.iconst 0, 1) := by decide +kernel
theorem dL_law_1015 : decode cL_law 1015 = .ok (.ireturn, 1) := by decide +kernel
theorem dL_law_1016 : decode cL_law 1016 = .ok (.aload_n 1, 1) := by decide +kernel
theorem dL_law_1017 : decode cL_law 1017 = .ok (.aload_n 0, 1) := by decide +kernel
theorem dL_law_1018 : decode cL_law 1018 = .ok (.iload_n 3, 1) := by decide +kernel
theorem dL_law_1019 : decode cL_law 1019 = .ok (.iconst 1, 1) := by decide +kernel
theorem dL_law_1020 : decode cL_law 1020 = .ok (.iadd, 1) := by decide +kernel
theorem dL_law_1021 : decode cL_law 1021 = .ok (.iaload, 1) := by decide +kernel
theorem dL_law_1022 : decode cL_law 1022 = .ok (.invokevirtual 153, 3) := by decide +kernel
theorem dL_law_1025 : decode cL_law 1025 = .ok (.aload_n 2, 1) := by decide +kernel
theorem dL_law_1026 : decode cL_law 1026 = .ok (.aload_n 0, 1) := by decide +kernel
theorem dL_law_1027 : decode cL_law 1027 = .ok (.iload_n 3, 1) := by decide +kernel
theorem dL_law_1028 : decode cL_law 1028 = .ok (.iconst 1, 1) := by decide +kernel
theorem dL_law_1029 : decode cL_law 1029 = .ok (.iadd, 1) := by decide +kernel
theorem dL_law_1030 : decode cL_law 1030 = .ok (.iaload, 1) := by decide +kernel
theorem dL_law_1031 : decode cL_law 1031 = .ok (.invokevirtual 156, 3) := by decide +kernel
theorem dL_law_1034 : decode cL_law 1034 = .ok (.if_icmp .eq 367, 3) := by decide +kernel
theorem dL_law_1037 : decode cL_law 1037 = .ok (.iconst 0, 1) := by decide +kernel
theorem dL_law_1038 : decode cL_law 1038 = .ok (.ireturn, 1) := by decide +kernel
theorem dL_law_1039 : decode cL_law 1039 = .ok (.aload_n 1, 1) := by decide +kernel
theorem dL_law_1040 : decode cL_law 1040 = .ok (.aload_n 0, 1) := by decide +kernel
theorem dL_law_1041 : decode cL_law 1041 = .ok (.iload_n 3, 1) := by decide +kernel
theorem dL_law_1042 : decode cL_law 1042 = .ok (.iconst 1, 1) := by decide +kernel
theorem dL_law_1043 : decode cL_law 1043 = .ok (.iadd, 1) := by decide +kernel
theorem dL_law_1044 : decode cL_law 1044 = .ok (.iaload, 1) := by decide +kernel
theorem dL_law_1045 : decode cL_law 1045 = .ok (.aload_n 0, 1) := by decide +kernel
theorem dL_law_1046 : decode cL_law 1046 = .ok (.iload_n 3, 1) := by decide +kernel
theorem dL_law_1047 : decode cL_law 1047 = .ok (.iconst 2, 1) := by decide +kernel
theorem dL_law_1048 : decode cL_law 1048 = .ok (.iadd, 1) := by decide +kernel
theorem dL_law_1049 : decode cL_law 1049 = .ok (.iaload, 1) := by decide +kernel
theorem dL_law_1050 : decode cL_law 1050 = .ok (.invokevirtual 157, 3) := by decide +kernel
theorem dL_law_1053 : decode cL_law 1053 = .ok (.aload_n 2, 1) := by decide +kernel
theorem dL_law_1054 : decode cL_law 1054 = .ok (.aload_n 0, 1) := by decide +kernel
theorem dL_law_1055 : decode cL_law 1055 = .ok (.iload_n 3, 1) := by decide +kernel
theorem dL_law_1056 : decode cL_law 1056 = .ok (.iconst 1, 1) := by decide +kernel
theorem dL_law_1057 : decode cL_law 1057 = .ok (.iadd, 1) := by decide +kernel
theorem dL_law_1058 : decode cL_law 1058 = .ok (.iaload, 1) := by decide +kernel
theorem dL_law_1059 : decode cL_law 1059 = .ok (.aload_n 0, 1) := by decide +kernel
theorem dL_law_1060 : decode cL_law 1060 = .ok (.iload_n 3, 1) := by decide +kernel
theorem dL_law_1061 : decode cL_law 1061 = .ok (.iconst 2, 1) := by decide +kernel
theorem dL_law_1062 : decode cL_law 1062 = .ok (.iadd, 1) := by decide +kernel
theorem dL_law_1063 : decode cL_law 1063 = .ok (.iaload, 1) := by decide +kernel
theorem dL_law_1064 : decode cL_law 1064 = .ok (.invokevirtual 160, 3) := by decide +kernel
theorem dL_law_1067 : decode cL_law 1067 = .ok (.if_icmp .eq 334, 3) := by decide +kernel
theorem dL_law_1070 : decode cL_law 1070 = .ok (.iconst 0, 1) := by decide +kernel
theorem dL_law_1071 : decode cL_law 1071 = .ok (.ireturn, 1) := by decide +kernel
theorem dL_law_1072 : decode cL_law 1072 = .ok (.aload_n 1, 1) := by decide +kernel
theorem dL_law_1073 : decode cL_law 1073 = .ok (.aload_n 0, 1) := by decide +kernel
theorem dL_law_1074 : decode cL_law 1074 = .ok (.iload_n 3, 1) := by decide +kernel
theorem dL_law_1075 : decode cL_law 1075 = .ok (.iconst 1, 1) := by decide +kernel
theorem dL_law_1076 : decode cL_law 1076 = .ok (.iadd, 1) := by decide +kernel
theorem dL_law_1077 : decode cL_law 1077 = .ok (.iaload, 1) := by decide +kernel
theorem dL_law_1078 : decode cL_law 1078 = .ok (.aload_n 0, 1) := by decide +kernel
theorem dL_law_1079 : decode cL_law 1079 = .ok (.iload_n 3, 1) := by decide +kernel
theorem dL_law_1080 : decode cL_law 1080 = .ok (.iconst 2, 1) := by decide +kernel
theorem dL_law_1081 : decode cL_law 1081 = .ok (.iadd, 1) := by decide +kernel
theorem dL_law_1082 : decode cL_law 1082 = .ok (.iaload, 1) := by decide +kernel
theorem dL_law_1083 : decode cL_law 1083 = .ok (.invokevirtual 161, 3) := by decide +kernel
theorem dL_law_1086 : decode cL_law 1086 = .ok (.aload_n 2, 1) := by decide +kernel
theorem dL_law_1087 : decode cL_law 1087 = .ok (.aload_n 0, 1) := by decide +kernel
theorem dL_law_1088 : decode cL_law 1088 = .ok (.iload_n 3, 1) := by decide +kernel
theorem dL_law_1089 : decode cL_law 1089 = .ok (.iconst 1, 1) := by decide +kernel
theorem dL_law_1090 : decode cL_law 1090 = .ok (.iadd, 1) := by decide +kernel
theorem dL_law_1091 : decode cL_law 1091 = .ok (.iaload, 1) := by decide +kernel
theorem dL_law_1092 : decode cL_law 1092 = .ok (.aload_n 0, 1) := by decide +kernel
theorem dL_law_1093 : decode cL_law 1093 = .ok (.iload_n 3, 1) := by decide +kernel
theorem dL_law_1094 : decode cL_law 1094 = .ok (.iconst 2, 1) := by decide +kernel
theorem dL_law_1095 : decode cL_law 1095 = .ok (.iadd, 1) := by decide +kernel
theorem dL_law_1096 : decode cL_law 1096 = .ok (.iaload, 1) := by decide +kernel
theorem dL_law_1097 : decode cL_law 1097 = .ok (.invokevirtual 164, 3) := by decide +kernel
theorem dL_law_1100 : decode cL_law 1100 = .ok (.if_icmp .eq 301, 3) := by decide +kernel
theorem dL_law_1103 : decode cL_law 1103 = .ok (.iconst 0, 1) := by decide +kernel
theorem dL_law_1104 : decode cL_law 1104 = .ok (.ireturn, 1) := by decide +kernel
theorem dL_law_1105 : decode cL_law 1105 = .ok (.aload_n 1, 1) := by decide +kernel
theorem dL_law_1106 : decode cL_law 1106 = .ok (.aload_n 0, 1) := by decide +kernel
theorem dL_law_1107 : decode cL_law 1107 = .ok (.iload_n 3, 1) := by decide +kernel
theorem dL_law_1108 : decode cL_law 1108 = .ok (.iconst 1, 1) := by decide +kernel
theorem dL_law_1109 : decode cL_law 1109 = .ok (.iadd, 1) := by decide +kernel
theorem dL_law_1110 : decode cL_law 1110 = .ok (.iaload, 1) := by decide +kernel
theorem dL_law_1111 : decode cL_law 1111 = .ok (.aload_n 0, 1) := by decide +kernel
theorem dL_law_1112 : decode cL_law 1112 = .ok (.iload_n 3, 1) := by decide +kernel
theorem dL_law_1113 : decode cL_law 1113 = .ok (.iconst 2, 1) := by decide +kernel
theorem dL_law_1114 : decode cL_law 1114 = .ok (.iadd, 1) := by decide +kernel
theorem dL_law_1115 : decode cL_law 1115 = .ok (.iaload, 1) := by decide +kernel
theorem dL_law_1116 : decode cL_law 1116 = .ok (.invokevirtual 165, 3) := by decide +kernel
theorem dL_law_1119 : decode cL_law 1119 = .ok (.aload_n 2, 1) := by decide +kernel
theorem dL_law_1120 : decode cL_law 1120 = .ok (.aload_n 0, 1) := by decide +kernel
theorem dL_law_1121 : decode cL_law 1121 = .ok (.iload_n 3, 1) := by decide +kernel
theorem dL_law_1122 : decode cL_law 1122 = .ok (.iconst 1, 1) := by decide +kernel
theorem dL_law_1123 : decode cL_law 1123 = .ok (.iadd, 1) := by decide +kernel
theorem dL_law_1124 : decode cL_law 1124 = .ok (.iaload, 1) := by decide +kernel
theorem dL_law_1125 : decode cL_law 1125 = .ok (.aload_n 0, 1) := by decide +kernel
theorem dL_law_1126 : decode cL_law 1126 = .ok (.iload_n 3, 1) := by decide +kernel
theorem dL_law_1127 : decode cL_law 1127 = .ok (.iconst 2, 1) := by decide +kernel
theorem dL_law_1128 : decode cL_law 1128 = .ok (.iadd, 1) := by decide +kernel
theorem dL_law_1129 : decode cL_law 1129 = .ok (.iaload, 1) := by decide +kernel
theorem dL_law_1130 : decode cL_law 1130 = .ok (.invokevirtual 168, 3) := by decide +kernel
theorem dL_law_1133 : decode cL_law 1133 = .ok (.if_icmp .eq 268, 3) := by decide +kernel
theorem dL_law_1136 : decode cL_law 1136 = .ok (.iconst 0, 1) := by decide +kernel
theorem dL_law_1137 : decode cL_law 1137 = .ok (.ireturn, 1) := by decide +kernel
theorem dL_law_1138 : decode cL_law 1138 = .ok (.aload_n 1, 1) := by decide +kernel
theorem dL_law_1139 : decode cL_law 1139 = .ok (.aload_n 0, 1) := by decide +kernel
theorem dL_law_1140 : decode cL_law 1140 = .ok (.iload_n 3, 1) := by decide +kernel
theorem dL_law_1141 : decode cL_law 1141 = .ok (.iconst 1, 1) := by decide +kernel
theorem dL_law_1142 : decode cL_law 1142 = .ok (.iadd, 1) := by decide +kernel
theorem dL_law_1143 : decode cL_law 1143 = .ok (.iaload, 1) := by decide +kernel
theorem dL_law_1144 : decode cL_law 1144 = .ok (.aload_n 0, 1) := by decide +kernel
theorem dL_law_1145 : decode cL_law 1145 = .ok (.iload_n 3, 1) := by decide +kernel
theorem dL_law_1146 : decode cL_law 1146 = .ok (.iconst 2, 1) := by decide +kernel
theorem dL_law_1147 : decode cL_law 1147 = .ok (.iadd, 1) := by decide +kernel
theorem dL_law_1148 : decode cL_law 1148 = .ok (.iaload, 1) := by decide +kernel
theorem dL_law_1149 : decode cL_law 1149 = .ok (.invokevirtual 169, 3) := by decide +kernel
theorem dL_law_1152 : decode cL_law 1152 = .ok (.aload_n 2, 1) := by decide +kernel
theorem dL_law_1153 : decode cL_law 1153 = .ok (.aload_n 0, 1) := by decide +kernel
theorem dL_law_1154 : decode cL_law 1154 = .ok (.iload_n 3, 1) := by decide +kernel
theorem dL_law_1155 : decode cL_law 1155 = .ok (.iconst 1, 1) := by decide +kernel
theorem dL_law_1156 : decode cL_law 1156 = .ok (.iadd, 1) := by decide +kernel
theorem dL_law_1157 : decode cL_law 1157 = .ok (.iaload, 1) := by decide +kernel
theorem dL_law_1158 : decode cL_law 1158 = .ok (.aload_n 0, 1) := by decide +kernel
theorem dL_law_1159 : decode cL_law 1159 = .ok (.iload_n 3, 1) := by decide +kernel
theorem dL_law_1160 : decode cL_law 1160 = .ok (.iconst 2, 1) := by decide +kernel
theorem dL_law_1161 : decode cL_law 1161 = .ok (.iadd, 1) := by decide +kernel
theorem dL_law_1162 : decode cL_law 1162 = .ok (.iaload, 1) := by decide +kernel
theorem dL_law_1163 : decode cL_law 1163 = .ok (.invokevirtual 172, 3) := by decide +kernel
theorem dL_law_1166 : decode cL_law 1166 = .ok (.if_icmp .eq 235, 3) := by decide +kernel
theorem dL_law_1169 : decode cL_law 1169 = .ok (.iconst 0, 1) := by decide +kernel
theorem dL_law_1170 : decode cL_law 1170 = .ok (.ireturn, 1) := by decide +kernel
theorem dL_law_1171 : decode cL_law 1171 = .ok (.aload_n 1, 1) := by decide +kernel
theorem dL_law_1172 : decode cL_law 1172 = .ok (.aload_n 0, 1) := by decide +kernel
theorem dL_law_1173 : decode cL_law 1173 = .ok (.iload_n 3, 1) := by decide +kernel
theorem dL_law_1174 : decode cL_law 1174 = .ok (.iconst 1, 1) := by decide +kernel
theorem dL_law_1175 : decode cL_law 1175 = .ok (.iadd, 1) := by decide +kernel
theorem dL_law_1176 : decode cL_law 1176 = .ok (.iaload, 1) := by decide +kernel
theorem dL_law_1177 : decode cL_law 1177 = .ok (.aload_n 0, 1) := by decide +kernel
theorem dL_law_1178 : decode cL_law 1178 = .ok (.iload_n 3, 1) := by decide +kernel
theorem dL_law_1179 : decode cL_law 1179 = .ok (.iconst 2, 1) := by decide +kernel
theorem dL_law_1180 : decode cL_law 1180 = .ok (.iadd, 1) := by decide +kernel
theorem dL_law_1181 : decode cL_law 1181 = .ok (.iaload, 1) := by decide +kernel
theorem dL_law_1182 : decode cL_law 1182 = .ok (.invokevirtual 173, 3) := by decide +kernel
theorem dL_law_1185 : decode cL_law 1185 = .ok (.aload_n 2, 1) := by decide +kernel
theorem dL_law_1186 : decode cL_law 1186 = .ok (.aload_n 0, 1) := by decide +kernel
theorem dL_law_1187 : decode cL_law 1187 = .ok (.iload_n 3, 1) := by decide +kernel
theorem dL_law_1188 : decode cL_law 1188 = .ok (.iconst 1, 1) := by decide +kernel
theorem dL_law_1189 : decode cL_law 1189 = .ok (.iadd, 1) := by decide +kernel
theorem dL_law_1190 : decode cL_law 1190 = .ok (.iaload, 1) := by decide +kernel
theorem dL_law_1191 : decode cL_law 1191 = .ok (.aload_n 0, 1) := by decide +kernel
theorem dL_law_1192 : decode cL_law 1192 = .ok (.iload_n 3, 1) := by decide +kernel
theorem dL_law_1193 : decode cL_law 1193 = .ok (.iconst 2, 1) := by decide +kernel
theorem dL_law_1194 : decode cL_law 1194 = .ok (.iadd, 1) := by decide +kernel
theorem dL_law_1195 : decode cL_law 1195 = .ok (.iaload, 1) := by decide +kernel
theorem dL_law_1196 : decode cL_law 1196 = .ok (.invokevirtual 176, 3) := by decide +kernel
theorem dL_law_1199 : decode cL_law 1199 = .ok (.if_icmp .eq 202, 3) := by decide +kernel
theorem dL_law_1202 : decode cL_law 1202 = .ok (.iconst 0, 1) := by decide +kernel
theorem dL_law_1203 : decode cL_law 1203 = .ok (.ireturn, 1) := by decide +kernel
theorem dL_law_1204 : decode cL_law 1204 = .ok (.aload_n 1, 1) := by decide +kernel
theorem dL_law_1205 : decode cL_law 1205 = .ok (.aload_n 0, 1) := by decide +kernel
theorem dL_law_1206 : decode cL_law 1206 = .ok (.iload_n 3, 1) := by decide +kernel
theorem dL_law_1207 : decode cL_law 1207 = .ok (.iconst 1, 1) := by decide +kernel
theorem dL_law_1208 : decode cL_law 1208 = .ok (.iadd, 1) := by decide +kernel
theorem dL_law_1209 : decode cL_law 1209 = .ok (.iaload, 1) := by decide +kernel
theorem dL_law_1210 : decode cL_law 1210 = .ok (.aload_n 0, 1) := by decide +kernel
theorem dL_law_1211 : decode cL_law 1211 = .ok (.iload_n 3, 1) := by decide +kernel
theorem dL_law_1212 : decode cL_law 1212 = .ok (.iconst 2, 1) := by decide +kernel
theorem dL_law_1213 : decode cL_law 1213 = .ok (.iadd, 1) := by decide +kernel
theorem dL_law_1214 : decode cL_law 1214 = .ok (.iaload, 1) := by decide +kernel
theorem dL_law_1215 : decode cL_law 1215 = .ok (.invokevirtual 177, 3) := by decide +kernel
theorem dL_law_1218 : decode cL_law 1218 = .ok (.aload_n 2, 1) := by decide +kernel
theorem dL_law_1219 : decode cL_law 1219 = .ok (.aload_n 0, 1) := by decide +kernel
theorem dL_law_1220 : decode cL_law 1220 = .ok (.iload_n 3, 1) := by decide +kernel
theorem dL_law_1221 : decode cL_law 1221 = .ok (.iconst 1, 1) := by decide +kernel
theorem dL_law_1222 : decode cL_law 1222 = .ok (.iadd, 1) := by decide +kernel
theorem dL_law_1223 : decode cL_law 1223 = .ok (.iaload, 1) := by decide +kernel
theorem dL_law_1224 : decode cL_law 1224 = .ok (.aload_n 0, 1) := by decide +kernel
theorem dL_law_1225 : decode cL_law 1225 = .ok (.iload_n 3, 1) := by decide +kernel
theorem dL_law_1226 : decode cL_law 1226 = .ok (.iconst 2, 1) := by decide +kernel
theorem dL_law_1227 : decode cL_law 1227 = .ok (.iadd, 1) := by decide +kernel
theorem dL_law_1228 : decode cL_law 1228 = .ok (.iaload, 1) := by decide +kernel
theorem dL_law_1229 : decode cL_law 1229 = .ok (.invokevirtual 180, 3) := by decide +kernel
theorem dL_law_1232 : decode cL_law 1232 = .ok (.if_icmp .eq 169, 3) := by decide +kernel
theorem dL_law_1235 : decode cL_law 1235 = .ok (.iconst 0, 1) := by decide +kernel
theorem dL_law_1236 : decode cL_law 1236 = .ok (.ireturn, 1) := by decide +kernel
theorem dL_law_1237 : decode cL_law 1237 = .ok (.aload_n 1, 1) := by decide +kernel
theorem dL_law_1238 : decode cL_law 1238 = .ok (.aload_n 0, 1) := by decide +kernel
theorem dL_law_1239 : decode cL_law 1239 = .ok (.iload_n 3, 1) := by decide +kernel
theorem dL_law_1240 : decode cL_law 1240 = .ok (.iconst 1, 1) := by decide +kernel
theorem dL_law_1241 : decode cL_law 1241 = .ok (.iadd, 1) := by decide +kernel
theorem dL_law_1242 : decode cL_law 1242 = .ok (.iaload, 1) := by decide +kernel
theorem dL_law_1243 : decode cL_law 1243 = .ok (.aload_n 0, 1) := by decide +kernel
theorem dL_law_1244 : decode cL_law 1244 = .ok (.iload_n 3, 1) := by decide +kernel
theorem dL_law_1245 : decode cL_law 1245 = .ok (.iconst 2, 1) := by decide +kernel
theorem dL_law_1246 : decode cL_law 1246 = .ok (.iadd, 1) := by decide +kernel
theorem dL_law_1247 : decode cL_law 1247 = .ok (.iaload, 1) := by decide +kernel
theorem dL_law_1248 : decode cL_law 1248 = .ok (.invokevirtual 181, 3) := by decide +kernel
theorem dL_law_1251 : decode cL_law 1251 = .ok (.aload_n 2, 1) := by decide +kernel
theorem dL_law_1252 : decode cL_law 1252 = .ok (.aload_n 0, 1) := by decide +kernel
theorem dL_law_1253 : decode cL_law 1253 = .ok (.iload_n 3, 1) := by decide +kernel
theorem dL_law_1254 : decode cL_law 1254 = .ok (.iconst 1, 1) := by decide +kernel
theorem dL_law_1255 : decode cL_law 1255 = .ok (.iadd, 1) := by decide +kernel
theorem dL_law_1256 : decode cL_law 1256 = .ok (.iaload, 1) := by decide +kernel
theorem dL_law_1257 : decode cL_law 1257 = .ok (.aload_n 0, 1) := by decide +kernel
theorem dL_law_1258 : decode cL_law 1258 = .ok (.iload_n 3, 1) := by decide +kernel
theorem dL_law_1259 : decode cL_law 1259 = .ok (.iconst 2, 1) := by decide +kernel
theorem dL_law_1260 : decode cL_law 1260 = .ok (.iadd, 1) := by decide +kernel
theorem dL_law_1261 : decode cL_law 1261 = .ok (.iaload, 1) := by decide +kernel
theorem dL_law_1262 : decode cL_law 1262 = .ok (.invokevirtual 184, 3) := by decide +kernel
theorem dL_law_1265 : decode cL_law 1265 = .ok (.if_icmp .eq 136, 3) := by decide +kernel
theorem dL_law_1268 : decode cL_law 1268 = .ok (.iconst 0, 1) := by decide +kernel
theorem dL_law_1269 : decode cL_law 1269 = .ok (.ireturn, 1) := by decide +kernel
theorem dL_law_1270 : decode cL_law 1270 = .ok (.aload_n 1, 1) := by decide +kernel
theorem dL_law_1271 : decode cL_law 1271 = .ok (.aload_n 0, 1) := by decide +kernel
theorem dL_law_1272 : decode cL_law 1272 = .ok (.iload_n 3, 1) := by decide +kernel
theorem dL_law_1273 : decode cL_law 1273 = .ok (.iconst 1, 1) := by decide +kernel
theorem dL_law_1274 : decode cL_law 1274 = .ok (.iadd, 1) := by decide +kernel
theorem dL_law_1275 : decode cL_law 1275 = .ok (.iaload, 1) := by decide +kernel
theorem dL_law_1276 : decode cL_law 1276 = .ok (.aload_n 0, 1) := by decide +kernel
theorem dL_law_1277 : decode cL_law 1277 = .ok (.iload_n 3, 1) := by decide +kernel
theorem dL_law_1278 : decode cL_law 1278 = .ok (.iconst 2, 1) := by decide +kernel
theorem dL_law_1279 : decode cL_law 1279 = .ok (.iadd, 1) := by decide +kernel
theorem dL_law_1280 : decode cL_law 1280 = .ok (.iaload, 1) := by decide +kernel
theorem dL_law_1281 : decode cL_law 1281 = .ok (.aload_n 0, 1) := by decide +kernel
theorem dL_law_1282 : decode cL_law 1282 = .ok (.iload_n 3, 1) := by decide +kernel
theorem dL_law_1283 : decode cL_law 1283 = .ok (.iconst 3, 1) := by decide +kernel
theorem dL_law_1284 : decode cL_law 1284 = .ok (.iadd, 1) := by decide +kernel
theorem dL_law_1285 : decode cL_law 1285 = .ok (.iaload, 1) := by decide +kernel
theorem dL_law_1286 : decode cL_law 1286 = .ok (.invokevirtual 185, 3) := by decide +kernel
theorem dL_law_1289 : decode cL_law 1289 = .ok (.aload_n 2, 1) := by decide +kernel
theorem dL_law_1290 : decode cL_law 1290 = .ok (.aload_n 0, 1) := by decide +kernel
theorem dL_law_1291 : decode cL_law 1291 = .ok (.iload_n 3, 1) := by decide +kernel
theorem dL_law_1292 : decode cL_law 1292 = .ok (.iconst 1, 1) := by decide +kernel
theorem dL_law_1293 : decode cL_law 1293 = .ok (.iadd, 1) := by decide +kernel
theorem dL_law_1294 : decode cL_law 1294 = .ok (.iaload, 1) := by decide +kernel
theorem dL_law_1295 : decode cL_law 1295 = .ok (.aload_n 0, 1) := by decide +kernel
theorem dL_law_1296 : decode cL_law 1296 = .ok (.iload_n 3, 1) := by decide +kernel
theorem dL_law_1297 : decode cL_law 1297 = .ok (.iconst 2, 1) := by decide +kernel
theorem dL_law_1298 : decode cL_law 1298 = .ok (.iadd, 1) := by decide +kernel
theorem dL_law_1299 : decode cL_law 1299 = .ok (.iaload, 1) := by decide +kernel
theorem dL_law_1300 : decode cL_law 1300 = .ok (.aload_n 0, 1) := by decide +kernel
theorem dL_law_1301 : decode cL_law 1301 = .ok (.iload_n 3, 1) := by decide +kernel
theorem dL_law_1302 : decode cL_law 1302 = .ok (.iconst 3, 1) := by decide +kernel
theorem dL_law_1303 : decode cL_law 1303 = .ok (.iadd, 1) := by decide +kernel
theorem dL_law_1304 : decode cL_law 1304 = .ok (.iaload, 1) := by decide +kernel
theorem dL_law_1305 : decode cL_law 1305 = .ok (.invokevirtual 188, 3) := by decide +kernel
theorem dL_law_1308 : decode cL_law 1308 = .ok (.if_icmp .eq 93, 3) := by decide +kernel
theorem dL_law_1311 : decode cL_law 1311 = .ok (.iconst 0, 1) := by decide +kernel
theorem dL_law_1312 : decode cL_law 1312 = .ok (.ireturn, 1) := by decide +kernel
theorem dL_law_1313 : decode cL_law 1313 = .ok (.aload_n 1, 1) := by decide +kernel
theorem dL_law_1314 : decode cL_law 1314 = .ok (.invokevirtual 189, 3) := by decide +kernel
theorem dL_law_1317 : decode cL_law 1317 = .ok (.aload_n 2, 1) := by decide +kernel
theorem dL_law_1318 : decode cL_law 1318 = .ok (.invokevirtual 192, 3) := by decide +kernel
theorem dL_law_1321 : decode cL_law 1321 = .ok (.if_icmp .eq 80, 3) := by decide +kernel
theorem dL_law_1324 : decode cL_law 1324 = .ok (.iconst 0, 1) := by decide +kernel
theorem dL_law_1325 : decode cL_law 1325 = .ok (.ireturn, 1) := by decide +kernel
theorem dL_law_1326 : decode cL_law 1326 = .ok (.aload_n 1, 1) := by decide +kernel
theorem dL_law_1327 : decode cL_law 1327 = .ok (.aload_n 0, 1) := by decide +kernel
theorem dL_law_1328 : decode cL_law 1328 = .ok (.iload_n 3, 1) := by decide +kernel
theorem dL_law_1329 : decode cL_law 1329 = .ok (.iconst 1, 1) := by decide +kernel
theorem dL_law_1330 : decode cL_law 1330 = .ok (.iadd, 1) := by decide +kernel
theorem dL_law_1331 : decode cL_law 1331 = .ok (.iaload, 1) := by decide +kernel
theorem dL_law_1332 : decode cL_law 1332 = .ok (.invokevirtual 193, 3) := by decide +kernel
theorem dL_law_1335 : decode cL_law 1335 = .ok (.aload_n 2, 1) := by decide +kernel
theorem dL_law_1336 : decode cL_law 1336 = .ok (.aload_n 0, 1) := by decide +kernel
theorem dL_law_1337 : decode cL_law 1337 = .ok (.iload_n 3, 1) := by decide +kernel
theorem dL_law_1338 : decode cL_law 1338 = .ok (.iconst 1, 1) := by decide +kernel
theorem dL_law_1339 : decode cL_law 1339 = .ok (.iadd, 1) := by decide +kernel
theorem dL_law_1340 : decode cL_law 1340 = .ok (.iaload, 1) := by decide +kernel
theorem dL_law_1341 : decode cL_law 1341 = .ok (.invokevirtual 196, 3) := by decide +kernel
theorem dL_law_1344 : decode cL_law 1344 = .ok (.if_icmp .eq 57, 3) := by decide +kernel
theorem dL_law_1347 : decode cL_law 1347 = .ok (.iconst 0, 1) := by decide +kernel
theorem dL_law_1348 : decode cL_law 1348 = .ok (.ireturn, 1) := by decide +kernel
theorem dL_law_1349 : decode cL_law 1349 = .ok (.aload_n 1, 1) := by decide +kernel
theorem dL_law_1350 : decode cL_law 1350 = .ok (.invokevirtual 197, 3) := by decide +kernel
theorem dL_law_1353 : decode cL_law 1353 = .ok (.aload_n 2, 1) := by decide +kernel
theorem dL_law_1354 : decode cL_law 1354 = .ok (.invokevirtual 200, 3) := by decide +kernel
theorem dL_law_1357 : decode cL_law 1357 = .ok (.if_icmp .eq 44, 3) := by decide +kernel
theorem dL_law_1360 : decode cL_law 1360 = .ok (.iconst 0, 1) := by decide +kernel
theorem dL_law_1361 : decode cL_law 1361 = .ok (.ireturn, 1) := by decide +kernel
theorem dL_law_1362 : decode cL_law 1362 = .ok (.aload_n 1, 1) := by decide +kernel
theorem dL_law_1363 : decode cL_law 1363 = .ok (.invokevirtual 201, 3) := by decide +kernel
theorem dL_law_1366 : decode cL_law 1366 = .ok (.aload_n 2, 1) := by decide +kernel
theorem dL_law_1367 : decode cL_law 1367 = .ok (.invokevirtual 204, 3) := by decide +kernel
theorem dL_law_1370 : decode cL_law 1370 = .ok (.if_icmp .eq 31, 3) := by decide +kernel
theorem dL_law_1373 : decode cL_law 1373 = .ok (.iconst 0, 1) := by decide +kernel
theorem dL_law_1374 : decode cL_law 1374 = .ok (.ireturn, 1) := by decide +kernel
theorem dL_law_1375 : decode cL_law 1375 = .ok (.aload_n 1, 1) := by decide +kernel
theorem dL_law_1376 : decode cL_law 1376 = .ok (.invokevirtual 205, 3) := by decide +kernel
theorem dL_law_1379 : decode cL_law 1379 = .ok (.aload_n 2, 1) := by decide +kernel
theorem dL_law_1380 : decode cL_law 1380 = .ok (.invokevirtual 208, 3) := by decide +kernel
theorem dL_law_1383 : decode cL_law 1383 = .ok (.if_icmp .eq 18, 3) := by decide +kernel
theorem dL_law_1386 : decode cL_law 1386 = .ok (.iconst 0, 1) := by decide +kernel
theorem dL_law_1387 : decode cL_law 1387 = .ok (.ireturn, 1) := by decide +kernel
theorem dL_law_1388 : decode cL_law 1388 = .ok (.aload_n 1, 1) := by decide +kernel
theorem dL_law_1389 : decode cL_law 1389 = .ok (.invokevirtual 209, 3) := by decide +kernel
theorem dL_law_1392 : decode cL_law 1392 = .ok (.aload_n 2, 1) := by decide +kernel
theorem dL_law_1393 : decode cL_law 1393 = .ok (.invokevirtual 212, 3) := by decide +kernel
theorem dL_law_1396 : decode cL_law 1396 = .ok (.if_icmp .eq 5, 3) := by decide +kernel
theorem dL_law_1399 : decode cL_law 1399 = .ok (.iconst 0, 1) := by decide +kernel
theorem dL_law_1400 : decode cL_law 1400 = .ok (.ireturn, 1) := by decide +kernel
theorem dL_law_1401 : decode cL_law 1401 = .ok (.iinc 3 4, 3) := by decide +kernel
theorem dL_law_1404 : decode cL_law 1404 = .ok (.goto (-1386), 3) := by decide +kernel
theorem dL_law_1407 : decode cL_law 1407 = .ok (.iconst 1, 1) := by decide +kernel
theorem dL_law_1408 : decode cL_law 1408 = .ok (.ireturn, 1) := by decide +kernel
