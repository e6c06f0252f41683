theorem dX0_init_0 : decode cX0_init 0 = .ok (.aload_n 0, 1) := by decide +kernel
theorem dX0_init_1 : decode cX0_init 1 = .ok (.invokespecial 3, 3) := by decide +kernel
theorem dX0_init_4 : decode cX0_init 4 = .ok (.aload_n 0, 1) := by decide +kernel
theorem dX0_init_5 : decode cX0_init 5 = .ok (.aload_n 1, 1) := by decide +kernel
theorem dX0_init_6 : decode cX0_init 6 = .ok (.putfield 9, 3) := by decide +kernel
theorem dX0_init_9 : decode cX0_init 9 = .ok (.aload_n 0, 1) := by decide +kernel
theorem dX0_init_10 : decode cX0_init 10 = .ok (.bipush 64, 2) := by decide +kernel
theorem dX0_init_12 : decode cX0_init 12 = .ok (.newarray .int, 2) := by decide +kernel
theorem dX0_init_14 : decode cX0_init 14 = .ok (.putfield 15, 3) := by decide +kernel
theorem dX0_init_17 : decode cX0_init 17 = .ok (.aload_n 0, 1) := by decide +kernel
theorem dX0_init_18 : decode cX0_init 18 = .ok (.bipush 64, 2) := by decide +kernel
theorem dX0_init_20 : decode cX0_init 20 = .ok (.newarray .int, 2) := by decide +kernel
theorem dX0_init_22 : decode cX0_init 22 = .ok (.putfield 19, 3) := by decide +kernel
theorem dX0_init_25 : decode cX0_init 25 = .ok (.aload_n 0, 1) := by decide +kernel
theorem dX0_init_26 : decode cX0_init 26 = .ok (.bipush 64, 2) := by decide +kernel
theorem dX0_init_28 : decode cX0_init 28 = .ok (.newarray .long, 2) := by decide +kernel
theorem dX0_init_30 : decode cX0_init 30 = .ok (.putfield 22, 3) := by decide +kernel
theorem dX0_init_33 : decode cX0_init 33 = .ok (.aload_n 0, 1) := by decide +kernel
theorem dX0_init_34 : decode cX0_init 34 = .ok (.bipush 64, 2) := by decide +kernel
theorem dX0_init_36 : decode cX0_init 36 = .ok (.newarray .long, 2) := by decide +kernel
theorem dX0_init_38 : decode cX0_init 38 = .ok (.putfield 26, 3) := by decide +kernel
theorem dX0_init_41 : decode cX0_init 41 = .ok (.aload_n 0, 1) := by decide +kernel
theorem dX0_init_42 : decode cX0_init 42 = .ok (.sipush 4096, 3) := by decide +kernel
theorem dX0_init_45 : decode cX0_init 45 = .ok (.newarray .int, 2) := by decide +kernel
theorem dX0_init_47 : decode cX0_init 47 = .ok (.putfield 29, 3) := by decide +kernel
theorem dX0_init_50 : decode cX0_init 50 = .ok (.aload_n 0, 1) := by decide +kernel
theorem dX0_init_51 : decode cX0_init 51 = .ok (.sipush 4096, 3) := by decide +kernel
theorem dX0_init_54 : decode cX0_init 54 = .ok (.newarray .int, 2) := by decide +kernel
theorem dX0_init_56 : decode cX0_init 56 = .ok (.putfield 32, 3) := by decide +kernel
theorem dX0_init_59 : decode cX0_init 59 = .ok (.aload_n 0, 1) := by decide +kernel
theorem dX0_init_60 : decode cX0_init 60 = .ok (.bipush 64, 2) := by decide +kernel
theorem dX0_init_62 : decode cX0_init 62 = .ok (.newarray .long, 2) := by decide +kernel
theorem dX0_init_64 : decode cX0_init 64 = .ok (.putfield 35, 3) := by decide +kernel
theorem dX0_init_67 : decode cX0_init 67 = .ok (.aload_n 0, 1) := by decide +kernel
theorem dX0_init_68 : decode cX0_init 68 = .ok (.bipush 64, 2) := by decide +kernel
theorem dX0_init_70 : decode cX0_init 70 = .ok (.newarray .long, 2) := by decide +kernel
theorem dX0_init_72 : decode cX0_init 72 = .ok (.putfield 38, 3) := by decide +kernel
theorem dX0_init_75 : decode cX0_init 75 = .ok (.return_, 1) := by decide +kernel
theorem dX0_build_0 : decode cX0_build 0 = .ok (.aload_n 0, 1) := by decide +kernel
theorem dX0_build_1 : decode cX0_build 1 = .ok (.aload_n 0, 1) := by decide +kernel
theorem dX0_build_2 : decode cX0_build 2 = .ok (.getfield 9, 3) := by decide +kernel
theorem dX0_build_5 : decode cX0_build 5 = .ok (.getfield 41, 3) := by decide +kernel
theorem dX0_build_8 : decode cX0_build 8 = .ok (.putfield 47, 3) := by decide +kernel
theorem dX0_build_11 : decode cX0_build 11 = .ok (.aload_n 0, 1) := by decide +kernel
theorem dX0_build_12 : decode cX0_build 12 = .ok (.invokevirtual 48, 3) := by decide +kernel
theorem dX0_build_15 : decode cX0_build 15 = .ok (.istore_n 1, 1) := by decide +kernel
theorem dX0_build_16 : decode cX0_build 16 = .ok (.aload_n 0, 1) := by decide +kernel
theorem dX0_build_17 : decode cX0_build 17 = .ok (.getfield 9, 3) := by decide +kernel
theorem dX0_build_20 : decode cX0_build 20 = .ok (.invokevirtual 52, 3) := by decide +kernel
theorem dX0_build_23 : decode cX0_build 23 = .ok (.lstore_n 2, 1) := by decide +kernel
theorem dX0_build_24 : decode cX0_build 24 = .ok (.iconst 0, 1) := by decide +kernel
theorem dX0_build_25 : decode cX0_build 25 = .ok (.istore 4, 2) := by decide +kernel
theorem dX0_build_27 : decode cX0_build 27 = .ok (.iload 4, 2) := by decide +kernel
theorem dX0_build_29 : decode cX0_build 29 = .ok (.aload_n 0, 1) := by decide +kernel
theorem dX0_build_30 : decode cX0_build 30 = .ok (.getfield 47, 3) := by decide +kernel
theorem dX0_build_33 : decode cX0_build 33 = .ok (.if_icmp .ge 68, 3) := by decide +kernel
theorem dX0_build_36 : decode cX0_build 36 = .ok (.aload_n 0, 1) := by decide +kernel
theorem dX0_build_37 : decode cX0_build 37 = .ok (.lload_n 2, 1) := by decide +kernel
theorem dX0_build_38 : decode cX0_build 38 = .ok (.invokevirtual 56, 3) := by decide +kernel
theorem dX0_build_41 : decode cX0_build 41 = .ok (.istore 5, 2) := by decide +kernel
theorem dX0_build_43 : decode cX0_build 43 = .ok (.aload_n 0, 1) := by decide +kernel
theorem dX0_build_44 : decode cX0_build 44 = .ok (.getfield 15, 3) := by decide +kernel
theorem dX0_build_47 : decode cX0_build 47 = .ok (.iload 5, 2) := by decide +kernel
theorem dX0_build_49 : decode cX0_build 49 = .ok (.iload 4, 2) := by decide +kernel
theorem dX0_build_51 : decode cX0_build 51 = .ok (.iastore, 1) := by decide +kernel
theorem dX0_build_52 : decode cX0_build 52 = .ok (.aload_n 0, 1) := by decide +kernel
theorem dX0_build_53 : decode cX0_build 53 = .ok (.getfield 19, 3) := by decide +kernel
theorem dX0_build_56 : decode cX0_build 56 = .ok (.iload 4, 2) := by decide +kernel
theorem dX0_build_58 : decode cX0_build 58 = .ok (.iload 5, 2) := by decide +kernel
theorem dX0_build_60 : decode cX0_build 60 = .ok (.iastore, 1) := by decide +kernel
theorem dX0_build_61 : decode cX0_build 61 = .ok (.lload_n 2, 1) := by decide +kernel
theorem dX0_build_62 : decode cX0_build 62 = .ok (.iload 5, 2) := by decide +kernel
theorem dX0_build_64 : decode cX0_build 64 = .ok (.invokestatic 60, 3) := by decide +kernel
theorem dX0_build_67 : decode cX0_build 67 = .ok (.ldc2_w 64, 3) := by decide +kernel
theorem dX0_build_70 : decode cX0_build 70 = .ok (.lxor, 1) := by decide +kernel
theorem dX0_build_71 : decode cX0_build 71 = .ok (.land, 1) := by decide +kernel
theorem dX0_build_72 : decode cX0_build 72 = .ok (.lstore_n 2, 1) := by decide +kernel
theorem dX0_build_73 : decode cX0_build 73 = .ok (.aload_n 0, 1) := by decide +kernel
theorem dX0_build_74 : decode cX0_build 74 = .ok (.aload_n 0, 1) := by decide +kernel
theorem dX0_build_75 : decode cX0_build 75 = .ok (.getfield 26, 3) := by decide +kernel
theorem dX0_build_78 : decode cX0_build 78 = .ok (.iload 5, 2) := by decide +kernel
theorem dX0_build_80 : decode cX0_build 80 = .ok (.laload, 1) := by decide +kernel
theorem dX0_build_81 : decode cX0_build 81 = .ok (.lload_n 2, 1) := by decide +kernel
theorem dX0_build_82 : decode cX0_build 82 = .ok (.land, 1) := by decide +kernel
theorem dX0_build_83 : decode cX0_build 83 = .ok (.aload_n 0, 1) := by decide +kernel
theorem dX0_build_84 : decode cX0_build 84 = .ok (.getfield 22, 3) := by decide +kernel
theorem dX0_build_87 : decode cX0_build 87 = .ok (.iload 5, 2) := by decide +kernel
theorem dX0_build_89 : decode cX0_build 89 = .ok (.laload, 1) := by decide +kernel
theorem dX0_build_90 : decode cX0_build 90 = .ok (.lload_n 2, 1) := by decide +kernel
theorem dX0_build_91 : decode cX0_build 91 = .ok (.land, 1) := by decide +kernel
theorem dX0_build_92 : decode cX0_build 92 = .ok (.invokevirtual 66, 3) := by decide +kernel
theorem dX0_build_95 : decode cX0_build 95 = .ok (.iinc 4 1, 3) := by decide +kernel
theorem dX0_build_98 : decode cX0_build 98 = .ok (.goto (-71), 3) := by decide +kernel
theorem dX0_build_101 : decode cX0_build 101 = .ok (.aload_n 0, 1) := by decide +kernel
theorem dX0_build_102 : decode cX0_build 102 = .ok (.iconst 0, 1) := by decide +kernel
theorem dX0_build_103 : decode cX0_build 103 = .ok (.putfield 70, 3) := by decide +kernel
theorem dX0_build_106 : decode cX0_build 106 = .ok (.iconst 0, 1) := by decide +kernel
theorem dX0_build_107 : decode cX0_build 107 = .ok (.istore 4, 2) := by decide +kernel
theorem dX0_build_109 : decode cX0_build 109 = .ok (.iload 4, 2) := by decide +kernel
theorem dX0_build_111 : decode cX0_build 111 = .ok (.aload_n 0, 1) := by decide +kernel
theorem dX0_build_112 : decode cX0_build 112 = .ok (.getfield 47, 3) := by decide +kernel
theorem dX0_build_115 : decode cX0_build 115 = .ok (.if_icmp .ge 28, 3) := by decide +kernel
theorem dX0_build_118 : decode cX0_build 118 = .ok (.aload_n 0, 1) := by decide +kernel
theorem dX0_build_119 : decode cX0_build 119 = .ok (.dup, 1) := by decide +kernel
theorem dX0_build_120 : decode cX0_build 120 = .ok (.getfield 70, 3) := by decide +kernel
theorem dX0_build_123 : decode cX0_build 123 = .ok (.aload_n 0, 1) := by decide +kernel
theorem dX0_build_124 : decode cX0_build 124 = .ok (.getfield 22, 3) := by decide +kernel
theorem dX0_build_127 : decode cX0_build 127 = .ok (.iload 4, 2) := by decide +kernel
theorem dX0_build_129 : decode cX0_build 129 = .ok (.laload, 1) := by decide +kernel
theorem dX0_build_130 : decode cX0_build 130 = .ok (.invokestatic 73, 3) := by decide +kernel
theorem dX0_build_133 : decode cX0_build 133 = .ok (.iadd, 1) := by decide +kernel
theorem dX0_build_134 : decode cX0_build 134 = .ok (.putfield 70, 3) := by decide +kernel
theorem dX0_build_137 : decode cX0_build 137 = .ok (.iinc 4 1, 3) := by decide +kernel
theorem dX0_build_140 : decode cX0_build 140 = .ok (.goto (-31), 3) := by decide +kernel
theorem dX0_build_143 : decode cX0_build 143 = .ok (.aload_n 0, 1) := by decide +kernel
theorem dX0_build_144 : decode cX0_build 144 = .ok (.aload_n 0, 1) := by decide +kernel
theorem dX0_build_145 : decode cX0_build 145 = .ok (.getfield 70, 3) := by decide +kernel
theorem dX0_build_148 : decode cX0_build 148 = .ok (.iload_n 1, 1) := by decide +kernel
theorem dX0_build_149 : decode cX0_build 149 = .ok (.isub, 1) := by decide +kernel
theorem dX0_build_150 : decode cX0_build 150 = .ok (.putfield 78, 3) := by decide +kernel
theorem dX0_build_153 : decode cX0_build 153 = .ok (.aload_n 0, 1) := by decide +kernel
theorem dX0_build_154 : decode cX0_build 154 = .ok (.getfield 29, 3) := by decide +kernel
theorem dX0_build_157 : decode cX0_build 157 = .ok (.ldc 81, 2) := by decide +kernel
theorem dX0_build_159 : decode cX0_build 159 = .ok (.invokestatic 82, 3) := by decide +kernel
theorem dX0_build_162 : decode cX0_build 162 = .ok (.aload_n 0, 1) := by decide +kernel
theorem dX0_build_163 : decode cX0_build 163 = .ok (.getfield 32, 3) := by decide +kernel
theorem dX0_build_166 : decode cX0_build 166 = .ok (.ldc 81, 2) := by decide +kernel
theorem dX0_build_168 : decode cX0_build 168 = .ok (.invokestatic 82, 3) := by decide +kernel
theorem dX0_build_171 : decode cX0_build 171 = .ok (.aload_n 0, 1) := by decide +kernel
theorem dX0_build_172 : decode cX0_build 172 = .ok (.aload_n 0, 1) := by decide +kernel
theorem dX0_build_173 : decode cX0_build 173 = .ok (.getfield 9, 3) := by decide +kernel
theorem dX0_build_176 : decode cX0_build 176 = .ok (.invokevirtual 52, 3) := by decide +kernel
theorem dX0_build_179 : decode cX0_build 179 = .ok (.aload_n 0, 1) := by decide +kernel
theorem dX0_build_180 : decode cX0_build 180 = .ok (.getfield 9, 3) := by decide +kernel
theorem dX0_build_183 : decode cX0_build 183 = .ok (.invokevirtual 52, 3) := by decide +kernel
theorem dX0_build_186 : decode cX0_build 186 = .ok (.invokevirtual 88, 3) := by decide +kernel
theorem dX0_build_189 : decode cX0_build 189 = .ok (.aload_n 0, 1) := by decide +kernel
theorem dX0_build_190 : decode cX0_build 190 = .ok (.invokevirtual 91, 3) := by decide +kernel
theorem dX0_build_193 : decode cX0_build 193 = .ok (.pop, 1) := by decide +kernel
theorem dX0_build_194 : decode cX0_build 194 = .ok (.aload_n 0, 1) := by decide +kernel
theorem dX0_build_195 : decode cX0_build 195 = .ok (.iconst 1, 1) := by decide +kernel
theorem dX0_build_196 : decode cX0_build 196 = .ok (.putfield 94, 3) := by decide +kernel
theorem dX0_build_199 : decode cX0_build 199 = .ok (.return_, 1) := by decide +kernel
theorem dX0_linkTurns_0 : decode cX0_linkTurns 0 = .ok (.iconst 0, 1) := by decide +kernel
theorem dX0_linkTurns_1 : decode cX0_linkTurns 1 = .ok (.istore_n 1, 1) := by decide +kernel
theorem dX0_linkTurns_2 : decode cX0_linkTurns 2 = .ok (.iconst 0, 1) := by decide +kernel
theorem dX0_linkTurns_3 : decode cX0_linkTurns 3 = .ok (.istore_n 2, 1) := by decide +kernel
theorem dX0_linkTurns_4 : decode cX0_linkTurns 4 = .ok (.iload_n 2, 1) := by decide +kernel
theorem dX0_linkTurns_5 : decode cX0_linkTurns 5 = .ok (.aload_n 0, 1) := by decide +kernel
theorem dX0_linkTurns_6 : decode cX0_linkTurns 6 = .ok (.getfield 47, 3) := by decide +kernel
theorem dX0_linkTurns_9 : decode cX0_linkTurns 9 = .ok (.if_icmp .ge 49, 3) := by decide +kernel
theorem dX0_linkTurns_12 : decode cX0_linkTurns 12 = .ok (.aload_n 0, 1) := by decide +kernel
theorem dX0_linkTurns_13 : decode cX0_linkTurns 13 = .ok (.getfield 22, 3) := by decide +kernel
theorem dX0_linkTurns_16 : decode cX0_linkTurns 16 = .ok (.iload_n 2, 1) := by decide +kernel
theorem dX0_linkTurns_17 : decode cX0_linkTurns 17 = .ok (.aload_n 0, 1) := by decide +kernel
theorem dX0_linkTurns_18 : decode cX0_linkTurns 18 = .ok (.getfield 9, 3) := by decide +kernel
theorem dX0_linkTurns_21 : decode cX0_linkTurns 21 = .ok (.iload_n 2, 1) := by decide +kernel
theorem dX0_linkTurns_22 : decode cX0_linkTurns 22 = .ok (.invokevirtual 98, 3) := by decide +kernel
theorem dX0_linkTurns_25 : decode cX0_linkTurns 25 = .ok (.lastore, 1) := by decide +kernel
theorem dX0_linkTurns_26 : decode cX0_linkTurns 26 = .ok (.aload_n 0, 1) := by decide +kernel
theorem dX0_linkTurns_27 : decode cX0_linkTurns 27 = .ok (.getfield 26, 3) := by decide +kernel
theorem dX0_linkTurns_30 : decode cX0_linkTurns 30 = .ok (.iload_n 2, 1) := by decide +kernel
theorem dX0_linkTurns_31 : decode cX0_linkTurns 31 = .ok (.aload_n 0, 1) := by decide +kernel
theorem dX0_linkTurns_32 : decode cX0_linkTurns 32 = .ok (.getfield 9, 3) := by decide +kernel
theorem dX0_linkTurns_35 : decode cX0_linkTurns 35 = .ok (.iload_n 2, 1) := by decide +kernel
theorem dX0_linkTurns_36 : decode cX0_linkTurns 36 = .ok (.invokevirtual 101, 3) := by decide +kernel
theorem dX0_linkTurns_39 : decode cX0_linkTurns 39 = .ok (.lastore, 1) := by decide +kernel
theorem dX0_linkTurns_40 : decode cX0_linkTurns 40 = .ok (.iload_n 1, 1) := by decide +kernel
theorem dX0_linkTurns_41 : decode cX0_linkTurns 41 = .ok (.aload_n 0, 1) := by decide +kernel
theorem dX0_linkTurns_42 : decode cX0_linkTurns 42 = .ok (.getfield 22, 3) := by decide +kernel
theorem dX0_linkTurns_45 : decode cX0_linkTurns 45 = .ok (.iload_n 2, 1) := by decide +kernel
theorem dX0_linkTurns_46 : decode cX0_linkTurns 46 = .ok (.laload, 1) := by decide +kernel
theorem dX0_linkTurns_47 : decode cX0_linkTurns 47 = .ok (.invokestatic 73, 3) := by decide +kernel
theorem dX0_linkTurns_50 : decode cX0_linkTurns 50 = .ok (.iadd, 1) := by decide +kernel
theorem dX0_linkTurns_51 : decode cX0_linkTurns 51 = .ok (.istore_n 1, 1) := by decide +kernel
theorem dX0_linkTurns_52 : decode cX0_linkTurns 52 = .ok (.iinc 2 1, 3) := by decide +kernel
theorem dX0_linkTurns_55 : decode cX0_linkTurns 55 = .ok (.goto (-51), 3) := by decide +kernel
theorem dX0_linkTurns_58 : decode cX0_linkTurns 58 = .ok (.iload_n 1, 1) := by decide +kernel
theorem dX0_linkTurns_59 : decode cX0_linkTurns 59 = .ok (.ireturn, 1) := by decide +kernel
theorem dX0_cheapest_0 : decode cX0_cheapest 0 = .ok (.iconst 0, 1) := by decide +kernel
theorem dX0_cheapest_1 : decode cX0_cheapest 1 = .ok (.istore_n 3, 1) := by decide +kernel
theorem dX0_cheapest_2 : decode cX0_cheapest 2 = .ok (.ldc 81, 2) := by decide +kernel
theorem dX0_cheapest_4 : decode cX0_cheapest 4 = .ok (.istore 4, 2) := by decide +kernel
theorem dX0_cheapest_6 : decode cX0_cheapest 6 = .ok (.iconst 0, 1) := by decide +kernel
theorem dX0_cheapest_7 : decode cX0_cheapest 7 = .ok (.istore 5, 2) := by decide +kernel
theorem dX0_cheapest_9 : decode cX0_cheapest 9 = .ok (.iload 5, 2) := by decide +kernel
theorem dX0_cheapest_11 : decode cX0_cheapest 11 = .ok (.aload_n 0, 1) := by decide +kernel
theorem dX0_cheapest_12 : decode cX0_cheapest 12 = .ok (.getfield 47, 3) := by decide +kernel
theorem dX0_cheapest_15 : decode cX0_cheapest 15 = .ok (.if_icmp .ge 66, 3) := by decide +kernel
theorem dX0_cheapest_18 : decode cX0_cheapest 18 = .ok (.lload_n 1, 1) := by decide +kernel
theorem dX0_cheapest_19 : decode cX0_cheapest 19 = .ok (.iload 5, 2) := by decide +kernel
theorem dX0_cheapest_21 : decode cX0_cheapest 21 = .ok (.invokestatic 104, 3) := by decide +kernel
theorem dX0_cheapest_24 : decode cX0_cheapest 24 = .ok (.ifCond .eq 51, 3) := by decide +kernel
theorem dX0_cheapest_27 : decode cX0_cheapest 27 = .ok (.aload_n 0, 1) := by decide +kernel
theorem dX0_cheapest_28 : decode cX0_cheapest 28 = .ok (.getfield 26, 3) := by decide +kernel
theorem dX0_cheapest_31 : decode cX0_cheapest 31 = .ok (.iload 5, 2) := by decide +kernel
theorem dX0_cheapest_33 : decode cX0_cheapest 33 = .ok (.laload, 1) := by decide +kernel
theorem dX0_cheapest_34 : decode cX0_cheapest 34 = .ok (.lload_n 1, 1) := by decide +kernel
theorem dX0_cheapest_35 : decode cX0_cheapest 35 = .ok (.land, 1) := by decide +kernel
theorem dX0_cheapest_36 : decode cX0_cheapest 36 = .ok (.invokestatic 73, 3) := by decide +kernel
theorem dX0_cheapest_39 : decode cX0_cheapest 39 = .ok (.istore 6, 2) := by decide +kernel
theorem dX0_cheapest_41 : decode cX0_cheapest 41 = .ok (.aload_n 0, 1) := by decide +kernel
theorem dX0_cheapest_42 : decode cX0_cheapest 42 = .ok (.getfield 22, 3) := by decide +kernel
theorem dX0_cheapest_45 : decode cX0_cheapest 45 = .ok (.iload 5, 2) := by decide +kernel
theorem dX0_cheapest_47 : decode cX0_cheapest 47 = .ok (.laload, 1) := by decide +kernel
theorem dX0_cheapest_48 : decode cX0_cheapest 48 = .ok (.lload_n 1, 1) := by decide +kernel
theorem dX0_cheapest_49 : decode cX0_cheapest 49 = .ok (.land, 1) := by decide +kernel
theorem dX0_cheapest_50 : decode cX0_cheapest 50 = .ok (.invokestatic 73, 3) := by decide +kernel
theorem dX0_cheapest_53 : decode cX0_cheapest 53 = .ok (.istore 7, 2) := by decide +kernel
theorem dX0_cheapest_55 : decode cX0_cheapest 55 = .ok (.iload 6, 2) := by decide +kernel
theorem dX0_cheapest_57 : decode cX0_cheapest 57 = .ok (.iload 7, 2) := by decide +kernel
theorem dX0_cheapest_59 : decode cX0_cheapest 59 = .ok (.imul, 1) := by decide +kernel
theorem dX0_cheapest_60 : decode cX0_cheapest 60 = .ok (.iload 4, 2) := by decide +kernel
theorem dX0_cheapest_62 : decode cX0_cheapest 62 = .ok (.if_icmp .ge 13, 3) := by decide +kernel
theorem dX0_cheapest_65 : decode cX0_cheapest 65 = .ok (.iload 5, 2) := by decide +kernel
theorem dX0_cheapest_67 : decode cX0_cheapest 67 = .ok (.istore_n 3, 1) := by decide +kernel
theorem dX0_cheapest_68 : decode cX0_cheapest 68 = .ok (.iload 6, 2) := by decide +kernel
theorem dX0_cheapest_70 : decode cX0_cheapest 70 = .ok (.iload 7, 2) := by decide +kernel
theorem dX0_cheapest_72 : decode cX0_cheapest 72 = .ok (.imul, 1) := by decide +kernel
theorem dX0_cheapest_73 : decode cX0_cheapest 73 = .ok (.istore 4, 2) := by decide +kernel
theorem dX0_cheapest_75 : decode cX0_cheapest 75 = .ok (.iinc 5 1, 3) := by decide +kernel
theorem dX0_cheapest_78 : decode cX0_cheapest 78 = .ok (.goto (-69), 3) := by decide +kernel
theorem dX0_cheapest_81 : decode cX0_cheapest 81 = .ok (.iload_n 3, 1) := by decide +kernel
theorem dX0_cheapest_82 : decode cX0_cheapest 82 = .ok (.ireturn, 1) := by decide +kernel
theorem dX0_bridge_0 : decode cX0_bridge 0 = .ok (.iconst 0, 1) := by decide +kernel
theorem dX0_bridge_1 : decode cX0_bridge 1 = .ok (.istore 5, 2) := by decide +kernel
theorem dX0_bridge_3 : decode cX0_bridge 3 = .ok (.iload 5, 2) := by decide +kernel
theorem dX0_bridge_5 : decode cX0_bridge 5 = .ok (.aload_n 0, 1) := by decide +kernel
theorem dX0_bridge_6 : decode cX0_bridge 6 = .ok (.getfield 47, 3) := by decide +kernel
theorem dX0_bridge_9 : decode cX0_bridge 9 = .ok (.if_icmp .ge 69, 3) := by decide +kernel
theorem dX0_bridge_12 : decode cX0_bridge 12 = .ok (.lload_n 1, 1) := by decide +kernel
theorem dX0_bridge_13 : decode cX0_bridge 13 = .ok (.iload 5, 2) := by decide +kernel
theorem dX0_bridge_15 : decode cX0_bridge 15 = .ok (.invokestatic 104, 3) := by decide +kernel
theorem dX0_bridge_18 : decode cX0_bridge 18 = .ok (.ifCond .eq 24, 3) := by decide +kernel
theorem dX0_bridge_21 : decode cX0_bridge 21 = .ok (.aload_n 0, 1) := by decide +kernel
theorem dX0_bridge_22 : decode cX0_bridge 22 = .ok (.getfield 22, 3) := by decide +kernel
theorem dX0_bridge_25 : decode cX0_bridge 25 = .ok (.iload 5, 2) := by decide +kernel
theorem dX0_bridge_27 : decode cX0_bridge 27 = .ok (.dup2, 1) := by decide +kernel
theorem dX0_bridge_28 : decode cX0_bridge 28 = .ok (.laload, 1) := by decide +kernel
theorem dX0_bridge_29 : decode cX0_bridge 29 = .ok (.lload_n 3, 1) := by decide +kernel
theorem dX0_bridge_30 : decode cX0_bridge 30 = .ok (.iload 5, 2) := by decide +kernel
theorem dX0_bridge_32 : decode cX0_bridge 32 = .ok (.invokestatic 60, 3) := by decide +kernel
theorem dX0_bridge_35 : decode cX0_bridge 35 = .ok (.ldc2_w 64, 3) := by decide +kernel
theorem dX0_bridge_38 : decode cX0_bridge 38 = .ok (.lxor, 1) := by decide +kernel
theorem dX0_bridge_39 : decode cX0_bridge 39 = .ok (.land, 1) := by decide +kernel
theorem dX0_bridge_40 : decode cX0_bridge 40 = .ok (.lor, 1) := by decide +kernel
theorem dX0_bridge_41 : decode cX0_bridge 41 = .ok (.lastore, 1) := by decide +kernel
theorem dX0_bridge_42 : decode cX0_bridge 42 = .ok (.lload_n 3, 1) := by decide +kernel
theorem dX0_bridge_43 : decode cX0_bridge 43 = .ok (.iload 5, 2) := by decide +kernel
theorem dX0_bridge_45 : decode cX0_bridge 45 = .ok (.invokestatic 104, 3) := by decide +kernel
theorem dX0_bridge_48 : decode cX0_bridge 48 = .ok (.ifCond .eq 24, 3) := by decide +kernel
theorem dX0_bridge_51 : decode cX0_bridge 51 = .ok (.aload_n 0, 1) := by decide +kernel
theorem dX0_bridge_52 : decode cX0_bridge 52 = .ok (.getfield 26, 3) := by decide +kernel
theorem dX0_bridge_55 : decode cX0_bridge 55 = .ok (.iload 5, 2) := by decide +kernel
theorem dX0_bridge_57 : decode cX0_bridge 57 = .ok (.dup2, 1) := by decide +kernel
theorem dX0_bridge_58 : decode cX0_bridge 58 = .ok (.laload, 1) := by decide +kernel
theorem dX0_bridge_59 : decode cX0_bridge 59 = .ok (.lload_n 1, 1) := by decide +kernel
theorem dX0_bridge_60 : decode cX0_bridge 60 = .ok (.iload 5, 2) := by decide +kernel
theorem dX0_bridge_62 : decode cX0_bridge 62 = .ok (.invokestatic 60, 3) := by decide +kernel
theorem dX0_bridge_65 : decode cX0_bridge 65 = .ok (.ldc2_w 64, 3) := by decide +kernel
theorem dX0_bridge_68 : decode cX0_bridge 68 = .ok (.lxor, 1) := by decide +kernel
theorem dX0_bridge_69 : decode cX0_bridge 69 = .ok (.land, 1) := by decide +kernel
theorem dX0_bridge_70 : decode cX0_bridge 70 = .ok (.lor, 1) := by decide +kernel
theorem dX0_bridge_71 : decode cX0_bridge 71 = .ok (.lastore, 1) := by decide +kernel
theorem dX0_bridge_72 : decode cX0_bridge 72 = .ok (.iinc 5 1, 3) := by decide +kernel
theorem dX0_bridge_75 : decode cX0_bridge 75 = .ok (.goto (-72), 3) := by decide +kernel
theorem dX0_bridge_78 : decode cX0_bridge 78 = .ok (.return_, 1) := by decide +kernel
theorem dX0_renewRoad_0 : decode cX0_renewRoad 0 = .ok (.aload_n 0, 1) := by decide +kernel
theorem dX0_renewRoad_1 : decode cX0_renewRoad 1 = .ok (.getfield 94, 3) := by decide +kernel
theorem dX0_renewRoad_4 : decode cX0_renewRoad 4 = .ok (.ifCond .ne 5, 3) := by decide +kernel
theorem dX0_renewRoad_7 : decode cX0_renewRoad 7 = .ok (.iconst 0, 1) := by decide +kernel
theorem dX0_renewRoad_8 : decode cX0_renewRoad 8 = .ok (.ireturn, 1) := by decide +kernel
theorem dX0_renewRoad_9 : decode cX0_renewRoad 9 = .ok (.aload_n 0, 1) := by decide +kernel
theorem dX0_renewRoad_10 : decode cX0_renewRoad 10 = .ok (.aload_n 0, 1) := by decide +kernel
theorem dX0_renewRoad_11 : decode cX0_renewRoad 11 = .ok (.getfield 9, 3) := by decide +kernel
theorem dX0_renewRoad_14 : decode cX0_renewRoad 14 = .ok (.iload_n 1, 1) := by decide +kernel
theorem dX0_renewRoad_15 : decode cX0_renewRoad 15 = .ok (.invokevirtual 101, 3) := by decide +kernel
theorem dX0_renewRoad_18 : decode cX0_renewRoad 18 = .ok (.iload_n 1, 1) := by decide +kernel
theorem dX0_renewRoad_19 : decode cX0_renewRoad 19 = .ok (.invokestatic 60, 3) := by decide +kernel
theorem dX0_renewRoad_22 : decode cX0_renewRoad 22 = .ok (.invokevirtual 88, 3) := by decide +kernel
theorem dX0_renewRoad_25 : decode cX0_renewRoad 25 = .ok (.aload_n 0, 1) := by decide +kernel
theorem dX0_renewRoad_26 : decode cX0_renewRoad 26 = .ok (.iload_n 1, 1) := by decide +kernel
theorem dX0_renewRoad_27 : decode cX0_renewRoad 27 = .ok (.invokestatic 60, 3) := by decide +kernel
theorem dX0_renewRoad_30 : decode cX0_renewRoad 30 = .ok (.aload_n 0, 1) := by decide +kernel
theorem dX0_renewRoad_31 : decode cX0_renewRoad 31 = .ok (.getfield 9, 3) := by decide +kernel
theorem dX0_renewRoad_34 : decode cX0_renewRoad 34 = .ok (.iload_n 1, 1) := by decide +kernel
theorem dX0_renewRoad_35 : decode cX0_renewRoad 35 = .ok (.invokevirtual 98, 3) := by decide +kernel
theorem dX0_renewRoad_38 : decode cX0_renewRoad 38 = .ok (.invokevirtual 88, 3) := by decide +kernel
theorem dX0_renewRoad_41 : decode cX0_renewRoad 41 = .ok (.aload_n 0, 1) := by decide +kernel
theorem dX0_renewRoad_42 : decode cX0_renewRoad 42 = .ok (.invokevirtual 91, 3) := by decide +kernel
theorem dX0_renewRoad_45 : decode cX0_renewRoad 45 = .ok (.ireturn, 1) := by decide +kernel
theorem dX0_renewTurn_0 : decode cX0_renewTurn 0 = .ok (.aload_n 0, 1) := by decide +kernel
theorem dX0_renewTurn_1 : decode cX0_renewTurn 1 = .ok (.getfield 94, 3) := by decide +kernel
theorem dX0_renewTurn_4 : decode cX0_renewTurn 4 = .ok (.ifCond .ne 5, 3) := by decide +kernel
theorem dX0_renewTurn_7 : decode cX0_renewTurn 7 = .ok (.iconst 0, 1) := by decide +kernel
theorem dX0_renewTurn_8 : decode cX0_renewTurn 8 = .ok (.ireturn, 1) := by decide +kernel
theorem dX0_renewTurn_9 : decode cX0_renewTurn 9 = .ok (.aload_n 0, 1) := by decide +kernel
theorem dX0_renewTurn_10 : decode cX0_renewTurn 10 = .ok (.iload_n 1, 1) := by decide +kernel
theorem dX0_renewTurn_11 : decode cX0_renewTurn 11 = .ok (.invokestatic 60, 3) := by decide +kernel
theorem dX0_renewTurn_14 : decode cX0_renewTurn 14 = .ok (.iload_n 2, 1) := by decide +kernel
theorem dX0_renewTurn_15 : decode cX0_renewTurn 15 = .ok (.invokestatic 60, 3) := by decide +kernel
theorem dX0_renewTurn_18 : decode cX0_renewTurn 18 = .ok (.invokevirtual 88, 3) := by decide +kernel
theorem dX0_renewTurn_21 : decode cX0_renewTurn 21 = .ok (.aload_n 0, 1) := by decide +kernel
theorem dX0_renewTurn_22 : decode cX0_renewTurn 22 = .ok (.invokevirtual 91, 3) := by decide +kernel
theorem dX0_renewTurn_25 : decode cX0_renewTurn 25 = .ok (.ireturn, 1) := by decide +kernel
theorem dX0_renewAll_0 : decode cX0_renewAll 0 = .ok (.aload_n 0, 1) := by decide +kernel
theorem dX0_renewAll_1 : decode cX0_renewAll 1 = .ok (.getfield 94, 3) := by decide +kernel
theorem dX0_renewAll_4 : decode cX0_renewAll 4 = .ok (.ifCond .ne 5, 3) := by decide +kernel
theorem dX0_renewAll_7 : decode cX0_renewAll 7 = .ok (.iconst 0, 1) := by decide +kernel
theorem dX0_renewAll_8 : decode cX0_renewAll 8 = .ok (.ireturn, 1) := by decide +kernel
theorem dX0_renewAll_9 : decode cX0_renewAll 9 = .ok (.aload_n 0, 1) := by decide +kernel
theorem dX0_renewAll_10 : decode cX0_renewAll 10 = .ok (.aload_n 0, 1) := by decide +kernel
theorem dX0_renewAll_11 : decode cX0_renewAll 11 = .ok (.getfield 9, 3) := by decide +kernel
theorem dX0_renewAll_14 : decode cX0_renewAll 14 = .ok (.invokevirtual 52, 3) := by decide +kernel
theorem dX0_renewAll_17 : decode cX0_renewAll 17 = .ok (.aload_n 0, 1) := by decide +kernel
theorem dX0_renewAll_18 : decode cX0_renewAll 18 = .ok (.getfield 9, 3) := by decide +kernel
theorem dX0_renewAll_21 : decode cX0_renewAll 21 = .ok (.invokevirtual 52, 3) := by decide +kernel
theorem dX0_renewAll_24 : decode cX0_renewAll 24 = .ok (.invokevirtual 88, 3) := by decide +kernel
theorem dX0_renewAll_27 : decode cX0_renewAll 27 = .ok (.aload_n 0, 1) := by decide +kernel
theorem dX0_renewAll_28 : decode cX0_renewAll 28 = .ok (.invokevirtual 91, 3) := by decide +kernel
theorem dX0_renewAll_31 : decode cX0_renewAll 31 = .ok (.ireturn, 1) := by decide +kernel
theorem dX0_renewSteps_0 : decode cX0_renewSteps 0 = .ok (.iconst 0, 1) := by decide +kernel
theorem dX0_renewSteps_1 : decode cX0_renewSteps 1 = .ok (.istore 5, 2) := by decide +kernel
theorem dX0_renewSteps_3 : decode cX0_renewSteps 3 = .ok (.iload 5, 2) := by decide +kernel
theorem dX0_renewSteps_5 : decode cX0_renewSteps 5 = .ok (.aload_n 0, 1) := by decide +kernel
theorem dX0_renewSteps_6 : decode cX0_renewSteps 6 = .ok (.getfield 47, 3) := by decide +kernel
theorem dX0_renewSteps_9 : decode cX0_renewSteps 9 = .ok (.if_icmp .ge 35, 3) := by decide +kernel
theorem dX0_renewSteps_12 : decode cX0_renewSteps 12 = .ok (.lload_n 1, 1) := by decide +kernel
theorem dX0_renewSteps_13 : decode cX0_renewSteps 13 = .ok (.iload 5, 2) := by decide +kernel
theorem dX0_renewSteps_15 : decode cX0_renewSteps 15 = .ok (.invokestatic 104, 3) := by decide +kernel
theorem dX0_renewSteps_18 : decode cX0_renewSteps 18 = .ok (.ifCond .eq 20, 3) := by decide +kernel
theorem dX0_renewSteps_21 : decode cX0_renewSteps 21 = .ok (.aload_n 0, 1) := by decide +kernel
theorem dX0_renewSteps_22 : decode cX0_renewSteps 22 = .ok (.iload 5, 2) := by decide +kernel
theorem dX0_renewSteps_24 : decode cX0_renewSteps 24 = .ok (.aload_n 0, 1) := by decide +kernel
theorem dX0_renewSteps_25 : decode cX0_renewSteps 25 = .ok (.getfield 9, 3) := by decide +kernel
theorem dX0_renewSteps_28 : decode cX0_renewSteps 28 = .ok (.iload 5, 2) := by decide +kernel
theorem dX0_renewSteps_30 : decode cX0_renewSteps 30 = .ok (.invokevirtual 98, 3) := by decide +kernel
theorem dX0_renewSteps_33 : decode cX0_renewSteps 33 = .ok (.lload_n 3, 1) := by decide +kernel
theorem dX0_renewSteps_34 : decode cX0_renewSteps 34 = .ok (.land, 1) := by decide +kernel
theorem dX0_renewSteps_35 : decode cX0_renewSteps 35 = .ok (.invokevirtual 108, 3) := by decide +kernel
theorem dX0_renewSteps_38 : decode cX0_renewSteps 38 = .ok (.iinc 5 1, 3) := by decide +kernel
theorem dX0_renewSteps_41 : decode cX0_renewSteps 41 = .ok (.goto (-38), 3) := by decide +kernel
theorem dX0_renewSteps_44 : decode cX0_renewSteps 44 = .ok (.return_, 1) := by decide +kernel
theorem dX0_renewStepsFrom_0 : decode cX0_renewStepsFrom 0 = .ok (.iconst 0, 1) := by decide +kernel
theorem dX0_renewStepsFrom_1 : decode cX0_renewStepsFrom 1 = .ok (.istore 4, 2) := by decide +kernel
theorem dX0_renewStepsFrom_3 : decode cX0_renewStepsFrom 3 = .ok (.iload 4, 2) := by decide +kernel
theorem dX0_renewStepsFrom_5 : decode cX0_renewStepsFrom 5 = .ok (.aload_n 0, 1) := by decide +kernel
theorem dX0_renewStepsFrom_6 : decode cX0_renewStepsFrom 6 = .ok (.getfield 47, 3) := by decide +kernel
theorem dX0_renewStepsFrom_9 : decode cX0_renewStepsFrom 9 = .ok (.if_icmp .ge 66, 3) := by decide +kernel
theorem dX0_renewStepsFrom_12 : decode cX0_renewStepsFrom 12 = .ok (.lload_n 2, 1) := by decide +kernel
theorem dX0_renewStepsFrom_13 : decode cX0_renewStepsFrom 13 = .ok (.iload 4, 2) := by decide +kernel
theorem dX0_renewStepsFrom_15 : decode cX0_renewStepsFrom 15 = .ok (.invokestatic 104, 3) := by decide +kernel
theorem dX0_renewStepsFrom_18 : decode cX0_renewStepsFrom 18 = .ok (.ifCond .eq 51, 3) := by decide +kernel
theorem dX0_renewStepsFrom_21 : decode cX0_renewStepsFrom 21 = .ok (.aload_n 0, 1) := by decide +kernel
theorem dX0_renewStepsFrom_22 : decode cX0_renewStepsFrom 22 = .ok (.getfield 9, 3) := by decide +kernel
theorem dX0_renewStepsFrom_25 : decode cX0_renewStepsFrom 25 = .ok (.iload_n 1, 1) := by decide +kernel
theorem dX0_renewStepsFrom_26 : decode cX0_renewStepsFrom 26 = .ok (.iload 4, 2) := by decide +kernel
theorem dX0_renewStepsFrom_28 : decode cX0_renewStepsFrom 28 = .ok (.invokevirtual 112, 3) := by decide +kernel
theorem dX0_renewStepsFrom_31 : decode cX0_renewStepsFrom 31 = .ok (.istore 5, 2) := by decide +kernel
theorem dX0_renewStepsFrom_33 : decode cX0_renewStepsFrom 33 = .ok (.iload 5, 2) := by decide +kernel
theorem dX0_renewStepsFrom_35 : decode cX0_renewStepsFrom 35 = .ok (.aload_n 0, 1) := by decide +kernel
theorem dX0_renewStepsFrom_36 : decode cX0_renewStepsFrom 36 = .ok (.getfield 32, 3) := by decide +kernel
theorem dX0_renewStepsFrom_39 : decode cX0_renewStepsFrom 39 = .ok (.iload_n 1, 1) := by decide +kernel
theorem dX0_renewStepsFrom_40 : decode cX0_renewStepsFrom 40 = .ok (.iload 4, 2) := by decide +kernel
theorem dX0_renewStepsFrom_42 : decode cX0_renewStepsFrom 42 = .ok (.invokestatic 116, 3) := by decide +kernel
theorem dX0_renewStepsFrom_45 : decode cX0_renewStepsFrom 45 = .ok (.iaload, 1) := by decide +kernel
theorem dX0_renewStepsFrom_46 : decode cX0_renewStepsFrom 46 = .ok (.if_icmp .eq 23, 3) := by decide +kernel
theorem dX0_renewStepsFrom_49 : decode cX0_renewStepsFrom 49 = .ok (.aload_n 0, 1) := by decide +kernel
theorem dX0_renewStepsFrom_50 : decode cX0_renewStepsFrom 50 = .ok (.getfield 32, 3) := by decide +kernel
theorem dX0_renewStepsFrom_53 : decode cX0_renewStepsFrom 53 = .ok (.iload_n 1, 1) := by decide +kernel
theorem dX0_renewStepsFrom_54 : decode cX0_renewStepsFrom 54 = .ok (.iload 4, 2) := by decide +kernel
theorem dX0_renewStepsFrom_56 : decode cX0_renewStepsFrom 56 = .ok (.invokestatic 116, 3) := by decide +kernel
theorem dX0_renewStepsFrom_59 : decode cX0_renewStepsFrom 59 = .ok (.iload 5, 2) := by decide +kernel
theorem dX0_renewStepsFrom_61 : decode cX0_renewStepsFrom 61 = .ok (.iastore, 1) := by decide +kernel
theorem dX0_renewStepsFrom_62 : decode cX0_renewStepsFrom 62 = .ok (.aload_n 0, 1) := by decide +kernel
theorem dX0_renewStepsFrom_63 : decode cX0_renewStepsFrom 63 = .ok (.iload_n 1, 1) := by decide +kernel
theorem dX0_renewStepsFrom_64 : decode cX0_renewStepsFrom 64 = .ok (.iload 4, 2) := by decide +kernel
theorem dX0_renewStepsFrom_66 : decode cX0_renewStepsFrom 66 = .ok (.invokevirtual 119, 3) := by decide +kernel
theorem dX0_renewStepsFrom_69 : decode cX0_renewStepsFrom 69 = .ok (.iinc 4 1, 3) := by decide +kernel
theorem dX0_renewStepsFrom_72 : decode cX0_renewStepsFrom 72 = .ok (.goto (-69), 3) := by decide +kernel
theorem dX0_renewStepsFrom_75 : decode cX0_renewStepsFrom 75 = .ok (.return_, 1) := by decide +kernel
theorem dX0_markArc_0 : decode cX0_markArc 0 = .ok (.aload_n 0, 1) := by decide +kernel
theorem dX0_markArc_1 : decode cX0_markArc 1 = .ok (.getfield 15, 3) := by decide +kernel
theorem dX0_markArc_4 : decode cX0_markArc 4 = .ok (.iload_n 1, 1) := by decide +kernel
theorem dX0_markArc_5 : decode cX0_markArc 5 = .ok (.iaload, 1) := by decide +kernel
theorem dX0_markArc_6 : decode cX0_markArc 6 = .ok (.aload_n 0, 1) := by decide +kernel
theorem dX0_markArc_7 : decode cX0_markArc 7 = .ok (.getfield 15, 3) := by decide +kernel
theorem dX0_markArc_10 : decode cX0_markArc 10 = .ok (.iload_n 2, 1) := by decide +kernel
theorem dX0_markArc_11 : decode cX0_markArc 11 = .ok (.iaload, 1) := by decide +kernel
theorem dX0_markArc_12 : decode cX0_markArc 12 = .ok (.if_icmp .ge 19, 3) := by decide +kernel
theorem dX0_markArc_15 : decode cX0_markArc 15 = .ok (.aload_n 0, 1) := by decide +kernel
theorem dX0_markArc_16 : decode cX0_markArc 16 = .ok (.getfield 35, 3) := by decide +kernel
theorem dX0_markArc_19 : decode cX0_markArc 19 = .ok (.iload_n 1, 1) := by decide +kernel
theorem dX0_markArc_20 : decode cX0_markArc 20 = .ok (.dup2, 1) := by decide +kernel
theorem dX0_markArc_21 : decode cX0_markArc 21 = .ok (.laload, 1) := by decide +kernel
theorem dX0_markArc_22 : decode cX0_markArc 22 = .ok (.iload_n 2, 1) := by decide +kernel
theorem dX0_markArc_23 : decode cX0_markArc 23 = .ok (.invokestatic 60, 3) := by decide +kernel
theorem dX0_markArc_26 : decode cX0_markArc 26 = .ok (.lor, 1) := by decide +kernel
theorem dX0_markArc_27 : decode cX0_markArc 27 = .ok (.lastore, 1) := by decide +kernel
theorem dX0_markArc_28 : decode cX0_markArc 28 = .ok (.goto 16, 3) := by decide +kernel
theorem dX0_markArc_31 : decode cX0_markArc 31 = .ok (.aload_n 0, 1) := by decide +kernel
theorem dX0_markArc_32 : decode cX0_markArc 32 = .ok (.getfield 38, 3) := by decide +kernel
theorem dX0_markArc_35 : decode cX0_markArc 35 = .ok (.iload_n 2, 1) := by decide +kernel
theorem dX0_markArc_36 : decode cX0_markArc 36 = .ok (.dup2, 1) := by decide +kernel
theorem dX0_markArc_37 : decode cX0_markArc 37 = .ok (.laload, 1) := by decide +kernel
theorem dX0_markArc_38 : decode cX0_markArc 38 = .ok (.iload_n 1, 1) := by decide +kernel
theorem dX0_markArc_39 : decode cX0_markArc 39 = .ok (.invokestatic 60, 3) := by decide +kernel
theorem dX0_markArc_42 : decode cX0_markArc 42 = .ok (.lor, 1) := by decide +kernel
theorem dX0_markArc_43 : decode cX0_markArc 43 = .ok (.lastore, 1) := by decide +kernel
theorem dX0_markArc_44 : decode cX0_markArc 44 = .ok (.return_, 1) := by decide +kernel
theorem dX0_settle_0 : decode cX0_settle 0 = .ok (.iconst 0, 1) := by decide +kernel
theorem dX0_settle_1 : decode cX0_settle 1 = .ok (.istore_n 1, 1) := by decide +kernel
theorem dX0_settle_2 : decode cX0_settle 2 = .ok (.iconst 0, 1) := by decide +kernel
theorem dX0_settle_3 : decode cX0_settle 3 = .ok (.istore_n 2, 1) := by decide +kernel
theorem dX0_settle_4 : decode cX0_settle 4 = .ok (.iload_n 2, 1) := by decide +kernel
theorem dX0_settle_5 : decode cX0_settle 5 = .ok (.aload_n 0, 1) := by decide +kernel
theorem dX0_settle_6 : decode cX0_settle 6 = .ok (.getfield 47, 3) := by decide +kernel
theorem dX0_settle_9 : decode cX0_settle 9 = .ok (.if_icmp .ge 132, 3) := by decide +kernel
theorem dX0_settle_12 : decode cX0_settle 12 = .ok (.aload_n 0, 1) := by decide +kernel
theorem dX0_settle_13 : decode cX0_settle 13 = .ok (.getfield 19, 3) := by decide +kernel
theorem dX0_settle_16 : decode cX0_settle 16 = .ok (.iload_n 2, 1) := by decide +kernel
theorem dX0_settle_17 : decode cX0_settle 17 = .ok (.iaload, 1) := by decide +kernel
theorem dX0_settle_18 : decode cX0_settle 18 = .ok (.istore_n 3, 1) := by decide +kernel
theorem dX0_settle_19 : decode cX0_settle 19 = .ok (.aload_n 0, 1) := by decide +kernel
theorem dX0_settle_20 : decode cX0_settle 20 = .ok (.getfield 35, 3) := by decide +kernel
theorem dX0_settle_23 : decode cX0_settle 23 = .ok (.iload_n 3, 1) := by decide +kernel
theorem dX0_settle_24 : decode cX0_settle 24 = .ok (.laload, 1) := by decide +kernel
theorem dX0_settle_25 : decode cX0_settle 25 = .ok (.lconst 0, 1) := by decide +kernel
theorem dX0_settle_26 : decode cX0_settle 26 = .ok (.lcmp, 1) := by decide +kernel
theorem dX0_settle_27 : decode cX0_settle 27 = .ok (.ifCond .ne 17, 3) := by decide +kernel
theorem dX0_settle_30 : decode cX0_settle 30 = .ok (.aload_n 0, 1) := by decide +kernel
theorem dX0_settle_31 : decode cX0_settle 31 = .ok (.getfield 38, 3) := by decide +kernel
theorem dX0_settle_34 : decode cX0_settle 34 = .ok (.iload_n 3, 1) := by decide +kernel
theorem dX0_settle_35 : decode cX0_settle 35 = .ok (.laload, 1) := by decide +kernel
theorem dX0_settle_36 : decode cX0_settle 36 = .ok (.lconst 0, 1) := by decide +kernel
theorem dX0_settle_37 : decode cX0_settle 37 = .ok (.lcmp, 1) := by decide +kernel
theorem dX0_settle_38 : decode cX0_settle 38 = .ok (.ifCond .ne 6, 3) := by decide +kernel
theorem dX0_settle_41 : decode cX0_settle 41 = .ok (.goto 94, 3) := by decide +kernel
theorem dX0_settle_44 : decode cX0_settle 44 = .ok (.iload_n 2, 1) := by decide +kernel
theorem dX0_settle_45 : decode cX0_settle 45 = .ok (.iconst 1, 1) := by decide +kernel
theorem dX0_settle_46 : decode cX0_settle 46 = .ok (.iadd, 1) := by decide +kernel
theorem dX0_settle_47 : decode cX0_settle 47 = .ok (.istore 4, 2) := by decide +kernel
theorem dX0_settle_49 : decode cX0_settle 49 = .ok (.iload 4, 2) := by decide +kernel
theorem dX0_settle_51 : decode cX0_settle 51 = .ok (.aload_n 0, 1) := by decide +kernel
theorem dX0_settle_52 : decode cX0_settle 52 = .ok (.getfield 47, 3) := by decide +kernel
theorem dX0_settle_55 : decode cX0_settle 55 = .ok (.if_icmp .ge 66, 3) := by decide +kernel
theorem dX0_settle_58 : decode cX0_settle 58 = .ok (.aload_n 0, 1) := by decide +kernel
theorem dX0_settle_59 : decode cX0_settle 59 = .ok (.getfield 19, 3) := by decide +kernel
theorem dX0_settle_62 : decode cX0_settle 62 = .ok (.iload 4, 2) := by decide +kernel
theorem dX0_settle_64 : decode cX0_settle 64 = .ok (.iaload, 1) := by decide +kernel
theorem dX0_settle_65 : decode cX0_settle 65 = .ok (.istore 5, 2) := by decide +kernel
theorem dX0_settle_67 : decode cX0_settle 67 = .ok (.aload_n 0, 1) := by decide +kernel
theorem dX0_settle_68 : decode cX0_settle 68 = .ok (.getfield 35, 3) := by decide +kernel
theorem dX0_settle_71 : decode cX0_settle 71 = .ok (.iload_n 3, 1) := by decide +kernel
theorem dX0_settle_72 : decode cX0_settle 72 = .ok (.laload, 1) := by decide +kernel
theorem dX0_settle_73 : decode cX0_settle 73 = .ok (.iload 5, 2) := by decide +kernel
theorem dX0_settle_75 : decode cX0_settle 75 = .ok (.invokestatic 104, 3) := by decide +kernel
theorem dX0_settle_78 : decode cX0_settle 78 = .ok (.ifCond .eq 13, 3) := by decide +kernel
theorem dX0_settle_81 : decode cX0_settle 81 = .ok (.iload_n 1, 1) := by decide +kernel
theorem dX0_settle_82 : decode cX0_settle 82 = .ok (.aload_n 0, 1) := by decide +kernel
theorem dX0_settle_83 : decode cX0_settle 83 = .ok (.iload_n 3, 1) := by decide +kernel
theorem dX0_settle_84 : decode cX0_settle 84 = .ok (.iload 5, 2) := by decide +kernel
theorem dX0_settle_86 : decode cX0_settle 86 = .ok (.invokevirtual 123, 3) := by decide +kernel
theorem dX0_settle_89 : decode cX0_settle 89 = .ok (.iadd, 1) := by decide +kernel
theorem dX0_settle_90 : decode cX0_settle 90 = .ok (.istore_n 1, 1) := by decide +kernel
theorem dX0_settle_91 : decode cX0_settle 91 = .ok (.aload_n 0, 1) := by decide +kernel
theorem dX0_settle_92 : decode cX0_settle 92 = .ok (.getfield 38, 3) := by decide +kernel
theorem dX0_settle_95 : decode cX0_settle 95 = .ok (.iload_n 3, 1) := by decide +kernel
theorem dX0_settle_96 : decode cX0_settle 96 = .ok (.laload, 1) := by decide +kernel
theorem dX0_settle_97 : decode cX0_settle 97 = .ok (.iload 5, 2) := by decide +kernel
theorem dX0_settle_99 : decode cX0_settle 99 = .ok (.invokestatic 104, 3) := by decide +kernel
theorem dX0_settle_102 : decode cX0_settle 102 = .ok (.ifCond .eq 13, 3) := by decide +kernel
theorem dX0_settle_105 : decode cX0_settle 105 = .ok (.iload_n 1, 1) := by decide +kernel
theorem dX0_settle_106 : decode cX0_settle 106 = .ok (.aload_n 0, 1) := by decide +kernel
theorem dX0_settle_107 : decode cX0_settle 107 = .ok (.iload 5, 2) := by decide +kernel
theorem dX0_settle_109 : decode cX0_settle 109 = .ok (.iload_n 3, 1) := by decide +kernel
theorem dX0_settle_110 : decode cX0_settle 110 = .ok (.invokevirtual 123, 3) := by decide +kernel
theorem dX0_settle_113 : decode cX0_settle 113 = .ok (.iadd, 1) := by decide +kernel
theorem dX0_settle_114 : decode cX0_settle 114 = .ok (.istore_n 1, 1) := by decide +kernel
theorem dX0_settle_115 : decode cX0_settle 115 = .ok (.iinc 4 1, 3) := by decide +kernel
theorem dX0_settle_118 : decode cX0_settle 118 = .ok (.goto (-69), 3) := by decide +kernel
theorem dX0_settle_121 : decode cX0_settle 121 = .ok (.aload_n 0, 1) := by decide +kernel
theorem dX0_settle_122 : decode cX0_settle 122 = .ok (.getfield 35, 3) := by decide +kernel
theorem dX0_settle_125 : decode cX0_settle 125 = .ok (.iload_n 3, 1) := by decide +kernel
theorem dX0_settle_126 : decode cX0_settle 126 = .ok (.lconst 0, 1) := by decide +kernel
theorem dX0_settle_127 : decode cX0_settle 127 = .ok (.lastore, 1) := by decide +kernel
theorem dX0_settle_128 : decode cX0_settle 128 = .ok (.aload_n 0, 1) := by decide +kernel
theorem dX0_settle_129 : decode cX0_settle 129 = .ok (.getfield 38, 3) := by decide +kernel
theorem dX0_settle_132 : decode cX0_settle 132 = .ok (.iload_n 3, 1) := by decide +kernel
theorem dX0_settle_133 : decode cX0_settle 133 = .ok (.lconst 0, 1) := by decide +kernel
theorem dX0_settle_134 : decode cX0_settle 134 = .ok (.lastore, 1) := by decide +kernel
theorem dX0_settle_135 : decode cX0_settle 135 = .ok (.iinc 2 1, 3) := by decide +kernel
theorem dX0_settle_138 : decode cX0_settle 138 = .ok (.goto (-134), 3) := by decide +kernel
theorem dX0_settle_141 : decode cX0_settle 141 = .ok (.iload_n 1, 1) := by decide +kernel
theorem dX0_settle_142 : decode cX0_settle 142 = .ok (.ireturn, 1) := by decide +kernel
theorem dX0_settleArc_0 : decode cX0_settleArc 0 = .ok (.aload_n 0, 1) := by decide +kernel
theorem dX0_settleArc_1 : decode cX0_settleArc 1 = .ok (.getfield 29, 3) := by decide +kernel
theorem dX0_settleArc_4 : decode cX0_settleArc 4 = .ok (.iload_n 1, 1) := by decide +kernel
theorem dX0_settleArc_5 : decode cX0_settleArc 5 = .ok (.iload_n 2, 1) := by decide +kernel
theorem dX0_settleArc_6 : decode cX0_settleArc 6 = .ok (.invokestatic 116, 3) := by decide +kernel
theorem dX0_settleArc_9 : decode cX0_settleArc 9 = .ok (.iaload, 1) := by decide +kernel
theorem dX0_settleArc_10 : decode cX0_settleArc 10 = .ok (.istore_n 3, 1) := by decide +kernel
theorem dX0_settleArc_11 : decode cX0_settleArc 11 = .ok (.aload_n 0, 1) := by decide +kernel
theorem dX0_settleArc_12 : decode cX0_settleArc 12 = .ok (.iload_n 1, 1) := by decide +kernel
theorem dX0_settleArc_13 : decode cX0_settleArc 13 = .ok (.iload_n 2, 1) := by decide +kernel
theorem dX0_settleArc_14 : decode cX0_settleArc 14 = .ok (.invokevirtual 126, 3) := by decide +kernel
theorem dX0_settleArc_17 : decode cX0_settleArc 17 = .ok (.istore 4, 2) := by decide +kernel
theorem dX0_settleArc_19 : decode cX0_settleArc 19 = .ok (.iload 4, 2) := by decide +kernel
theorem dX0_settleArc_21 : decode cX0_settleArc 21 = .ok (.iload_n 3, 1) := by decide +kernel
theorem dX0_settleArc_22 : decode cX0_settleArc 22 = .ok (.if_icmp .eq 21, 3) := by decide +kernel
theorem dX0_settleArc_25 : decode cX0_settleArc 25 = .ok (.aload_n 0, 1) := by decide +kernel
theorem dX0_settleArc_26 : decode cX0_settleArc 26 = .ok (.getfield 29, 3) := by decide +kernel
theorem dX0_settleArc_29 : decode cX0_settleArc 29 = .ok (.iload_n 1, 1) := by decide +kernel
theorem dX0_settleArc_30 : decode cX0_settleArc 30 = .ok (.iload_n 2, 1) := by decide +kernel
theorem dX0_settleArc_31 : decode cX0_settleArc 31 = .ok (.invokestatic 116, 3) := by decide +kernel
theorem dX0_settleArc_34 : decode cX0_settleArc 34 = .ok (.iload 4, 2) := by decide +kernel
theorem dX0_settleArc_36 : decode cX0_settleArc 36 = .ok (.iastore, 1) := by decide +kernel
theorem dX0_settleArc_37 : decode cX0_settleArc 37 = .ok (.aload_n 0, 1) := by decide +kernel
theorem dX0_settleArc_38 : decode cX0_settleArc 38 = .ok (.iload_n 1, 1) := by decide +kernel
theorem dX0_settleArc_39 : decode cX0_settleArc 39 = .ok (.iload_n 2, 1) := by decide +kernel
theorem dX0_settleArc_40 : decode cX0_settleArc 40 = .ok (.invokevirtual 129, 3) := by decide +kernel
theorem dX0_settleArc_43 : decode cX0_settleArc 43 = .ok (.iload 4, 2) := by decide +kernel
theorem dX0_settleArc_45 : decode cX0_settleArc 45 = .ok (.invokestatic 132, 3) := by decide +kernel
theorem dX0_settleArc_48 : decode cX0_settleArc 48 = .ok (.iload_n 3, 1) := by decide +kernel
theorem dX0_settleArc_49 : decode cX0_settleArc 49 = .ok (.invokestatic 132, 3) := by decide +kernel
theorem dX0_settleArc_52 : decode cX0_settleArc 52 = .ok (.if_icmp .ne 7, 3) := by decide +kernel
theorem dX0_settleArc_55 : decode cX0_settleArc 55 = .ok (.iconst 0, 1) := by decide +kernel
theorem dX0_settleArc_56 : decode cX0_settleArc 56 = .ok (.goto 4, 3) := by decide +kernel
theorem dX0_settleArc_59 : decode cX0_settleArc 59 = .ok (.iconst 1, 1) := by decide +kernel
theorem dX0_settleArc_60 : decode cX0_settleArc 60 = .ok (.ireturn, 1) := by decide +kernel
theorem dX0_computeArc_0 : decode cX0_computeArc 0 = .ok (.aload_n 0, 1) := by decide +kernel
theorem dX0_computeArc_1 : decode cX0_computeArc 1 = .ok (.getfield 32, 3) := by decide +kernel
theorem dX0_computeArc_4 : decode cX0_computeArc 4 = .ok (.iload_n 1, 1) := by decide +kernel
theorem dX0_computeArc_5 : decode cX0_computeArc 5 = .ok (.iload_n 2, 1) := by decide +kernel
theorem dX0_computeArc_6 : decode cX0_computeArc 6 = .ok (.invokestatic 116, 3) := by decide +kernel
theorem dX0_computeArc_9 : decode cX0_computeArc 9 = .ok (.iaload, 1) := by decide +kernel
theorem dX0_computeArc_10 : decode cX0_computeArc 10 = .ok (.istore_n 3, 1) := by decide +kernel
theorem dX0_computeArc_11 : decode cX0_computeArc 11 = .ok (.aload_n 0, 1) := by decide +kernel
theorem dX0_computeArc_12 : decode cX0_computeArc 12 = .ok (.getfield 22, 3) := by decide +kernel
theorem dX0_computeArc_15 : decode cX0_computeArc 15 = .ok (.iload_n 1, 1) := by decide +kernel
theorem dX0_computeArc_16 : decode cX0_computeArc 16 = .ok (.laload, 1) := by decide +kernel
theorem dX0_computeArc_17 : decode cX0_computeArc 17 = .ok (.aload_n 0, 1) := by decide +kernel
theorem dX0_computeArc_18 : decode cX0_computeArc 18 = .ok (.getfield 26, 3) := by decide +kernel
theorem dX0_computeArc_21 : decode cX0_computeArc 21 = .ok (.iload_n 2, 1) := by decide +kernel
theorem dX0_computeArc_22 : decode cX0_computeArc 22 = .ok (.laload, 1) := by decide +kernel
theorem dX0_computeArc_23 : decode cX0_computeArc 23 = .ok (.land, 1) := by decide +kernel
theorem dX0_computeArc_24 : decode cX0_computeArc 24 = .ok (.lstore 4, 2) := by decide +kernel
theorem dX0_computeArc_26 : decode cX0_computeArc 26 = .ok (.aload_n 0, 1) := by decide +kernel
theorem dX0_computeArc_27 : decode cX0_computeArc 27 = .ok (.getfield 15, 3) := by decide +kernel
theorem dX0_computeArc_30 : decode cX0_computeArc 30 = .ok (.iload_n 1, 1) := by decide +kernel
theorem dX0_computeArc_31 : decode cX0_computeArc 31 = .ok (.iaload, 1) := by decide +kernel
theorem dX0_computeArc_32 : decode cX0_computeArc 32 = .ok (.aload_n 0, 1) := by decide +kernel
theorem dX0_computeArc_33 : decode cX0_computeArc 33 = .ok (.getfield 15, 3) := by decide +kernel
theorem dX0_computeArc_36 : decode cX0_computeArc 36 = .ok (.iload_n 2, 1) := by decide +kernel
theorem dX0_computeArc_37 : decode cX0_computeArc 37 = .ok (.iaload, 1) := by decide +kernel
theorem dX0_computeArc_38 : decode cX0_computeArc 38 = .ok (.invokestatic 136, 3) := by decide +kernel
theorem dX0_computeArc_41 : decode cX0_computeArc 41 = .ok (.istore 6, 2) := by decide +kernel
theorem dX0_computeArc_43 : decode cX0_computeArc 43 = .ok (.iconst 0, 1) := by decide +kernel
theorem dX0_computeArc_44 : decode cX0_computeArc 44 = .ok (.istore 7, 2) := by decide +kernel
theorem dX0_computeArc_46 : decode cX0_computeArc 46 = .ok (.iload 7, 2) := by decide +kernel
theorem dX0_computeArc_48 : decode cX0_computeArc 48 = .ok (.iload 6, 2) := by decide +kernel
theorem dX0_computeArc_50 : decode cX0_computeArc 50 = .ok (.if_icmp .ge 60, 3) := by decide +kernel
theorem dX0_computeArc_53 : decode cX0_computeArc 53 = .ok (.aload_n 0, 1) := by decide +kernel
theorem dX0_computeArc_54 : decode cX0_computeArc 54 = .ok (.getfield 19, 3) := by decide +kernel
theorem dX0_computeArc_57 : decode cX0_computeArc 57 = .ok (.iload 7, 2) := by decide +kernel
theorem dX0_computeArc_59 : decode cX0_computeArc 59 = .ok (.iaload, 1) := by decide +kernel
theorem dX0_computeArc_60 : decode cX0_computeArc 60 = .ok (.istore 8, 2) := by decide +kernel
theorem dX0_computeArc_62 : decode cX0_computeArc 62 = .ok (.lload 4, 2) := by decide +kernel
theorem dX0_computeArc_64 : decode cX0_computeArc 64 = .ok (.iload 8, 2) := by decide +kernel
theorem dX0_computeArc_66 : decode cX0_computeArc 66 = .ok (.invokestatic 104, 3) := by decide +kernel
theorem dX0_computeArc_69 : decode cX0_computeArc 69 = .ok (.ifCond .eq 35, 3) := by decide +kernel
theorem dX0_computeArc_72 : decode cX0_computeArc 72 = .ok (.aload_n 0, 1) := by decide +kernel
theorem dX0_computeArc_73 : decode cX0_computeArc 73 = .ok (.getfield 29, 3) := by decide +kernel
theorem dX0_computeArc_76 : decode cX0_computeArc 76 = .ok (.iload_n 1, 1) := by decide +kernel
theorem dX0_computeArc_77 : decode cX0_computeArc 77 = .ok (.iload 8, 2) := by decide +kernel
theorem dX0_computeArc_79 : decode cX0_computeArc 79 = .ok (.invokestatic 116, 3) := by decide +kernel
theorem dX0_computeArc_82 : decode cX0_computeArc 82 = .ok (.iaload, 1) := by decide +kernel
theorem dX0_computeArc_83 : decode cX0_computeArc 83 = .ok (.aload_n 0, 1) := by decide +kernel
theorem dX0_computeArc_84 : decode cX0_computeArc 84 = .ok (.getfield 29, 3) := by decide +kernel
theorem dX0_computeArc_87 : decode cX0_computeArc 87 = .ok (.iload 8, 2) := by decide +kernel
theorem dX0_computeArc_89 : decode cX0_computeArc 89 = .ok (.iload_n 2, 1) := by decide +kernel
theorem dX0_computeArc_90 : decode cX0_computeArc 90 = .ok (.invokestatic 116, 3) := by decide +kernel
theorem dX0_computeArc_93 : decode cX0_computeArc 93 = .ok (.iaload, 1) := by decide +kernel
theorem dX0_computeArc_94 : decode cX0_computeArc 94 = .ok (.iadd, 1) := by decide +kernel
theorem dX0_computeArc_95 : decode cX0_computeArc 95 = .ok (.istore 9, 2) := by decide +kernel
theorem dX0_computeArc_97 : decode cX0_computeArc 97 = .ok (.iload_n 3, 1) := by decide +kernel
theorem dX0_computeArc_98 : decode cX0_computeArc 98 = .ok (.iload 9, 2) := by decide +kernel
theorem dX0_computeArc_100 : decode cX0_computeArc 100 = .ok (.invokestatic 136, 3) := by decide +kernel
theorem dX0_computeArc_103 : decode cX0_computeArc 103 = .ok (.istore_n 3, 1) := by decide +kernel
theorem dX0_computeArc_104 : decode cX0_computeArc 104 = .ok (.iinc 7 1, 3) := by decide +kernel
theorem dX0_computeArc_107 : decode cX0_computeArc 107 = .ok (.goto (-61), 3) := by decide +kernel
theorem dX0_computeArc_110 : decode cX0_computeArc 110 = .ok (.iload_n 3, 1) := by decide +kernel
theorem dX0_computeArc_111 : decode cX0_computeArc 111 = .ok (.ireturn, 1) := by decide +kernel
theorem dX0_markAbove_0 : decode cX0_markAbove 0 = .ok (.aload_n 0, 1) := by decide +kernel
theorem dX0_markAbove_1 : decode cX0_markAbove 1 = .ok (.getfield 15, 3) := by decide +kernel
theorem dX0_markAbove_4 : decode cX0_markAbove 4 = .ok (.iload_n 1, 1) := by decide +kernel
theorem dX0_markAbove_5 : decode cX0_markAbove 5 = .ok (.iaload, 1) := by decide +kernel
theorem dX0_markAbove_6 : decode cX0_markAbove 6 = .ok (.aload_n 0, 1) := by decide +kernel
theorem dX0_markAbove_7 : decode cX0_markAbove 7 = .ok (.getfield 15, 3) := by decide +kernel
theorem dX0_markAbove_10 : decode cX0_markAbove 10 = .ok (.iload_n 2, 1) := by decide +kernel
theorem dX0_markAbove_11 : decode cX0_markAbove 11 = .ok (.iaload, 1) := by decide +kernel
theorem dX0_markAbove_12 : decode cX0_markAbove 12 = .ok (.if_icmp .ge 64, 3) := by decide +kernel
theorem dX0_markAbove_15 : decode cX0_markAbove 15 = .ok (.aload_n 0, 1) := by decide +kernel
theorem dX0_markAbove_16 : decode cX0_markAbove 16 = .ok (.getfield 15, 3) := by decide +kernel
theorem dX0_markAbove_19 : decode cX0_markAbove 19 = .ok (.iload_n 1, 1) := by decide +kernel
theorem dX0_markAbove_20 : decode cX0_markAbove 20 = .ok (.iaload, 1) := by decide +kernel
theorem dX0_markAbove_21 : decode cX0_markAbove 21 = .ok (.iconst 1, 1) := by decide +kernel
theorem dX0_markAbove_22 : decode cX0_markAbove 22 = .ok (.iadd, 1) := by decide +kernel
theorem dX0_markAbove_23 : decode cX0_markAbove 23 = .ok (.istore_n 3, 1) := by decide +kernel
theorem dX0_markAbove_24 : decode cX0_markAbove 24 = .ok (.iload_n 3, 1) := by decide +kernel
theorem dX0_markAbove_25 : decode cX0_markAbove 25 = .ok (.aload_n 0, 1) := by decide +kernel
theorem dX0_markAbove_26 : decode cX0_markAbove 26 = .ok (.getfield 47, 3) := by decide +kernel
theorem dX0_markAbove_29 : decode cX0_markAbove 29 = .ok (.if_icmp .ge 44, 3) := by decide +kernel
theorem dX0_markAbove_32 : decode cX0_markAbove 32 = .ok (.aload_n 0, 1) := by decide +kernel
theorem dX0_markAbove_33 : decode cX0_markAbove 33 = .ok (.getfield 19, 3) := by decide +kernel
theorem dX0_markAbove_36 : decode cX0_markAbove 36 = .ok (.iload_n 3, 1) := by decide +kernel
theorem dX0_markAbove_37 : decode cX0_markAbove 37 = .ok (.iaload, 1) := by decide +kernel
theorem dX0_markAbove_38 : decode cX0_markAbove 38 = .ok (.istore 4, 2) := by decide +kernel
theorem dX0_markAbove_40 : decode cX0_markAbove 40 = .ok (.iload 4, 2) := by decide +kernel
theorem dX0_markAbove_42 : decode cX0_markAbove 42 = .ok (.iload_n 2, 1) := by decide +kernel
theorem dX0_markAbove_43 : decode cX0_markAbove 43 = .ok (.if_icmp .eq 24, 3) := by decide +kernel
theorem dX0_markAbove_46 : decode cX0_markAbove 46 = .ok (.aload_n 0, 1) := by decide +kernel
theorem dX0_markAbove_47 : decode cX0_markAbove 47 = .ok (.getfield 26, 3) := by decide +kernel
theorem dX0_markAbove_50 : decode cX0_markAbove 50 = .ok (.iload_n 1, 1) := by decide +kernel
theorem dX0_markAbove_51 : decode cX0_markAbove 51 = .ok (.laload, 1) := by decide +kernel
theorem dX0_markAbove_52 : decode cX0_markAbove 52 = .ok (.iload 4, 2) := by decide +kernel
theorem dX0_markAbove_54 : decode cX0_markAbove 54 = .ok (.invokestatic 104, 3) := by decide +kernel
theorem dX0_markAbove_57 : decode cX0_markAbove 57 = .ok (.ifCond .eq 10, 3) := by decide +kernel
theorem dX0_markAbove_60 : decode cX0_markAbove 60 = .ok (.aload_n 0, 1) := by decide +kernel
theorem dX0_markAbove_61 : decode cX0_markAbove 61 = .ok (.iload 4, 2) := by decide +kernel
theorem dX0_markAbove_63 : decode cX0_markAbove 63 = .ok (.iload_n 2, 1) := by decide +kernel
theorem dX0_markAbove_64 : decode cX0_markAbove 64 = .ok (.invokevirtual 119, 3) := by decide +kernel
theorem dX0_markAbove_67 : decode cX0_markAbove 67 = .ok (.iinc 3 1, 3) := by decide +kernel
theorem dX0_markAbove_70 : decode cX0_markAbove 70 = .ok (.goto (-46), 3) := by decide +kernel
theorem dX0_markAbove_73 : decode cX0_markAbove 73 = .ok (.goto 61, 3) := by decide +kernel
theorem dX0_markAbove_76 : decode cX0_markAbove 76 = .ok (.aload_n 0, 1) := by decide +kernel
theorem dX0_markAbove_77 : decode cX0_markAbove 77 = .ok (.getfield 15, 3) := by decide +kernel
theorem dX0_markAbove_80 : decode cX0_markAbove 80 = .ok (.iload_n 2, 1) := by decide +kernel
theorem dX0_markAbove_81 : decode cX0_markAbove 81 = .ok (.iaload, 1) := by decide +kernel
theorem dX0_markAbove_82 : decode cX0_markAbove 82 = .ok (.iconst 1, 1) := by decide +kernel
theorem dX0_markAbove_83 : decode cX0_markAbove 83 = .ok (.iadd, 1) := by decide +kernel
theorem dX0_markAbove_84 : decode cX0_markAbove 84 = .ok (.istore_n 3, 1) := by decide +kernel
theorem dX0_markAbove_85 : decode cX0_markAbove 85 = .ok (.iload_n 3, 1) := by decide +kernel
theorem dX0_markAbove_86 : decode cX0_markAbove 86 = .ok (.aload_n 0, 1) := by decide +kernel
theorem dX0_markAbove_87 : decode cX0_markAbove 87 = .ok (.getfield 47, 3) := by decide +kernel
theorem dX0_markAbove_90 : decode cX0_markAbove 90 = .ok (.if_icmp .ge 44, 3) := by decide +kernel
theorem dX0_markAbove_93 : decode cX0_markAbove 93 = .ok (.aload_n 0, 1) := by decide +kernel
theorem dX0_markAbove_94 : decode cX0_markAbove 94 = .ok (.getfield 19, 3) := by decide +kernel
theorem dX0_markAbove_97 : decode cX0_markAbove 97 = .ok (.iload_n 3, 1) := by decide +kernel
theorem dX0_markAbove_98 : decode cX0_markAbove 98 = .ok (.iaload, 1) := by decide +kernel
theorem dX0_markAbove_99 : decode cX0_markAbove 99 = .ok (.istore 4, 2) := by decide +kernel
theorem dX0_markAbove_101 : decode cX0_markAbove 101 = .ok (.iload 4, 2) := by decide +kernel
theorem dX0_markAbove_103 : decode cX0_markAbove 103 = .ok (.iload_n 1, 1) := by decide +kernel
theorem dX0_markAbove_104 : decode cX0_markAbove 104 = .ok (.if_icmp .eq 24, 3) := by decide +kernel
theorem dX0_markAbove_107 : decode cX0_markAbove 107 = .ok (.aload_n 0, 1) := by decide +kernel
theorem dX0_markAbove_108 : decode cX0_markAbove 108 = .ok (.getfield 22, 3) := by decide +kernel
theorem dX0_markAbove_111 : decode cX0_markAbove 111 = .ok (.iload_n 2, 1) := by decide +kernel
theorem dX0_markAbove_112 : decode cX0_markAbove 112 = .ok (.laload, 1) := by decide +kernel
theorem dX0_markAbove_113 : decode cX0_markAbove 113 = .ok (.iload 4, 2) := by decide +kernel
theorem dX0_markAbove_115 : decode cX0_markAbove 115 = .ok (.invokestatic 104, 3) := by decide +kernel
theorem dX0_markAbove_118 : decode cX0_markAbove 118 = .ok (.ifCond .eq 10, 3) := by decide +kernel
theorem dX0_markAbove_121 : decode cX0_markAbove 121 = .ok (.aload_n 0, 1) := by decide +kernel
theorem dX0_markAbove_122 : decode cX0_markAbove 122 = .ok (.iload_n 1, 1) := by decide +kernel
theorem dX0_markAbove_123 : decode cX0_markAbove 123 = .ok (.iload 4, 2) := by decide +kernel
theorem dX0_markAbove_125 : decode cX0_markAbove 125 = .ok (.invokevirtual 119, 3) := by decide +kernel
theorem dX0_markAbove_128 : decode cX0_markAbove 128 = .ok (.iinc 3 1, 3) := by decide +kernel
theorem dX0_markAbove_131 : decode cX0_markAbove 131 = .ok (.goto (-46), 3) := by decide +kernel
theorem dX0_markAbove_134 : decode cX0_markAbove 134 = .ok (.return_, 1) := by decide +kernel
theorem dX0_spreadForward_0 : decode cX0_spreadForward 0 = .ok (.iconst 0, 1) := by decide +kernel
theorem dX0_spreadForward_1 : decode cX0_spreadForward 1 = .ok (.istore_n 2, 1) := by decide +kernel
theorem dX0_spreadForward_2 : decode cX0_spreadForward 2 = .ok (.iload_n 2, 1) := by decide +kernel
theorem dX0_spreadForward_3 : decode cX0_spreadForward 3 = .ok (.aload_n 0, 1) := by decide +kernel
theorem dX0_spreadForward_4 : decode cX0_spreadForward 4 = .ok (.getfield 47, 3) := by decide +kernel
theorem dX0_spreadForward_7 : decode cX0_spreadForward 7 = .ok (.if_icmp .ge 27, 3) := by decide +kernel
theorem dX0_spreadForward_10 : decode cX0_spreadForward 10 = .ok (.aload_n 0, 1) := by decide +kernel
theorem dX0_spreadForward_11 : decode cX0_spreadForward 11 = .ok (.aload_n 1, 1) := by decide +kernel
theorem dX0_spreadForward_12 : decode cX0_spreadForward 12 = .ok (.aload_n 0, 1) := by decide +kernel
theorem dX0_spreadForward_13 : decode cX0_spreadForward 13 = .ok (.getfield 19, 3) := by decide +kernel
theorem dX0_spreadForward_16 : decode cX0_spreadForward 16 = .ok (.iload_n 2, 1) := by decide +kernel
theorem dX0_spreadForward_17 : decode cX0_spreadForward 17 = .ok (.iaload, 1) := by decide +kernel
theorem dX0_spreadForward_18 : decode cX0_spreadForward 18 = .ok (.iload_n 2, 1) := by decide +kernel
theorem dX0_spreadForward_19 : decode cX0_spreadForward 19 = .ok (.iconst 1, 1) := by decide +kernel
theorem dX0_spreadForward_20 : decode cX0_spreadForward 20 = .ok (.iadd, 1) := by decide +kernel
theorem dX0_spreadForward_21 : decode cX0_spreadForward 21 = .ok (.aload_n 0, 1) := by decide +kernel
theorem dX0_spreadForward_22 : decode cX0_spreadForward 22 = .ok (.getfield 47, 3) := by decide +kernel
theorem dX0_spreadForward_25 : decode cX0_spreadForward 25 = .ok (.invokevirtual 141, 3) := by decide +kernel
theorem dX0_spreadForward_28 : decode cX0_spreadForward 28 = .ok (.iinc 2 1, 3) := by decide +kernel
theorem dX0_spreadForward_31 : decode cX0_spreadForward 31 = .ok (.goto (-29), 3) := by decide +kernel
theorem dX0_spreadForward_34 : decode cX0_spreadForward 34 = .ok (.aload_n 0, 1) := by decide +kernel
theorem dX0_spreadForward_35 : decode cX0_spreadForward 35 = .ok (.getfield 47, 3) := by decide +kernel
theorem dX0_spreadForward_38 : decode cX0_spreadForward 38 = .ok (.iconst 1, 1) := by decide +kernel
theorem dX0_spreadForward_39 : decode cX0_spreadForward 39 = .ok (.isub, 1) := by decide +kernel
theorem dX0_spreadForward_40 : decode cX0_spreadForward 40 = .ok (.istore_n 2, 1) := by decide +kernel
theorem dX0_spreadForward_41 : decode cX0_spreadForward 41 = .ok (.iload_n 2, 1) := by decide +kernel
theorem dX0_spreadForward_42 : decode cX0_spreadForward 42 = .ok (.ifCond .lt 22, 3) := by decide +kernel
theorem dX0_spreadForward_45 : decode cX0_spreadForward 45 = .ok (.aload_n 0, 1) := by decide +kernel
theorem dX0_spreadForward_46 : decode cX0_spreadForward 46 = .ok (.aload_n 1, 1) := by decide +kernel
theorem dX0_spreadForward_47 : decode cX0_spreadForward 47 = .ok (.aload_n 0, 1) := by decide +kernel
theorem dX0_spreadForward_48 : decode cX0_spreadForward 48 = .ok (.getfield 19, 3) := by decide +kernel
theorem dX0_spreadForward_51 : decode cX0_spreadForward 51 = .ok (.iload_n 2, 1) := by decide +kernel
theorem dX0_spreadForward_52 : decode cX0_spreadForward 52 = .ok (.iaload, 1) := by decide +kernel
theorem dX0_spreadForward_53 : decode cX0_spreadForward 53 = .ok (.iconst 0, 1) := by decide +kernel
theorem dX0_spreadForward_54 : decode cX0_spreadForward 54 = .ok (.iload_n 2, 1) := by decide +kernel
theorem dX0_spreadForward_55 : decode cX0_spreadForward 55 = .ok (.invokevirtual 141, 3) := by decide +kernel
theorem dX0_spreadForward_58 : decode cX0_spreadForward 58 = .ok (.iinc 2 (-1), 3) := by decide +kernel
theorem dX0_spreadForward_61 : decode cX0_spreadForward 61 = .ok (.goto (-20), 3) := by decide +kernel
theorem dX0_spreadForward_64 : decode cX0_spreadForward 64 = .ok (.return_, 1) := by decide +kernel
theorem dX0_passOn_0 : decode cX0_passOn 0 = .ok (.aload_n 1, 1) := by decide +kernel
theorem dX0_passOn_1 : decode cX0_passOn 1 = .ok (.iload_n 2, 1) := by decide +kernel
theorem dX0_passOn_2 : decode cX0_passOn 2 = .ok (.iaload, 1) := by decide +kernel
theorem dX0_passOn_3 : decode cX0_passOn 3 = .ok (.ldc 81, 2) := by decide +kernel
theorem dX0_passOn_5 : decode cX0_passOn 5 = .ok (.if_icmp .lt 4, 3) := by decide +kernel
theorem dX0_passOn_8 : decode cX0_passOn 8 = .ok (.return_, 1) := by decide +kernel
theorem dX0_passOn_9 : decode cX0_passOn 9 = .ok (.iload_n 3, 1) := by decide +kernel
theorem dX0_passOn_10 : decode cX0_passOn 10 = .ok (.istore 5, 2) := by decide +kernel
theorem dX0_passOn_12 : decode cX0_passOn 12 = .ok (.iload 5, 2) := by decide +kernel
theorem dX0_passOn_14 : decode cX0_passOn 14 = .ok (.iload 4, 2) := by decide +kernel
theorem dX0_passOn_16 : decode cX0_passOn 16 = .ok (.if_icmp .ge 58, 3) := by decide +kernel
theorem dX0_passOn_19 : decode cX0_passOn 19 = .ok (.aload_n 0, 1) := by decide +kernel
theorem dX0_passOn_20 : decode cX0_passOn 20 = .ok (.getfield 19, 3) := by decide +kernel
theorem dX0_passOn_23 : decode cX0_passOn 23 = .ok (.iload 5, 2) := by decide +kernel
theorem dX0_passOn_25 : decode cX0_passOn 25 = .ok (.iaload, 1) := by decide +kernel
theorem dX0_passOn_26 : decode cX0_passOn 26 = .ok (.istore 6, 2) := by decide +kernel
theorem dX0_passOn_28 : decode cX0_passOn 28 = .ok (.aload_n 0, 1) := by decide +kernel
theorem dX0_passOn_29 : decode cX0_passOn 29 = .ok (.getfield 22, 3) := by decide +kernel
theorem dX0_passOn_32 : decode cX0_passOn 32 = .ok (.iload_n 2, 1) := by decide +kernel
theorem dX0_passOn_33 : decode cX0_passOn 33 = .ok (.laload, 1) := by decide +kernel
theorem dX0_passOn_34 : decode cX0_passOn 34 = .ok (.iload 6, 2) := by decide +kernel
theorem dX0_passOn_36 : decode cX0_passOn 36 = .ok (.invokestatic 104, 3) := by decide +kernel
theorem dX0_passOn_39 : decode cX0_passOn 39 = .ok (.ifCond .eq 29, 3) := by decide +kernel
theorem dX0_passOn_42 : decode cX0_passOn 42 = .ok (.aload_n 1, 1) := by decide +kernel
theorem dX0_passOn_43 : decode cX0_passOn 43 = .ok (.iload 6, 2) := by decide +kernel
theorem dX0_passOn_45 : decode cX0_passOn 45 = .ok (.aload_n 1, 1) := by decide +kernel
theorem dX0_passOn_46 : decode cX0_passOn 46 = .ok (.iload 6, 2) := by decide +kernel
theorem dX0_passOn_48 : decode cX0_passOn 48 = .ok (.iaload, 1) := by decide +kernel
theorem dX0_passOn_49 : decode cX0_passOn 49 = .ok (.aload_n 1, 1) := by decide +kernel
theorem dX0_passOn_50 : decode cX0_passOn 50 = .ok (.iload_n 2, 1) := by decide +kernel
theorem dX0_passOn_51 : decode cX0_passOn 51 = .ok (.iaload, 1) := by decide +kernel
theorem dX0_passOn_52 : decode cX0_passOn 52 = .ok (.aload_n 0, 1) := by decide +kernel
theorem dX0_passOn_53 : decode cX0_passOn 53 = .ok (.getfield 29, 3) := by decide +kernel
theorem dX0_passOn_56 : decode cX0_passOn 56 = .ok (.iload_n 2, 1) := by decide +kernel
theorem dX0_passOn_57 : decode cX0_passOn 57 = .ok (.iload 6, 2) := by decide +kernel
theorem dX0_passOn_59 : decode cX0_passOn 59 = .ok (.invokestatic 116, 3) := by decide +kernel
theorem dX0_passOn_62 : decode cX0_passOn 62 = .ok (.iaload, 1) := by decide +kernel
theorem dX0_passOn_63 : decode cX0_passOn 63 = .ok (.iadd, 1) := by decide +kernel
theorem dX0_passOn_64 : decode cX0_passOn 64 = .ok (.invokestatic 136, 3) := by decide +kernel
theorem dX0_passOn_67 : decode cX0_passOn 67 = .ok (.iastore, 1) := by decide +kernel
theorem dX0_passOn_68 : decode cX0_passOn 68 = .ok (.iinc 5 1, 3) := by decide +kernel
theorem dX0_passOn_71 : decode cX0_passOn 71 = .ok (.goto (-59), 3) := by decide +kernel
theorem dX0_passOn_74 : decode cX0_passOn 74 = .ok (.return_, 1) := by decide +kernel
theorem dX1_init_0 : decode cX1_init 0 = .ok (.aload_n 0, 1) := by decide +kernel
theorem dX1_init_1 : decode cX1_init 1 = .ok (.invokespecial 3, 3) := by decide +kernel
theorem dX1_init_4 : decode cX1_init 4 = .ok (.aload_n 0, 1) := by decide +kernel
theorem dX1_init_5 : decode cX1_init 5 = .ok (.bipush 8, 2) := by decide +kernel
theorem dX1_init_7 : decode cX1_init 7 = .ok (.newarray .int, 2) := by decide +kernel
theorem dX1_init_9 : decode cX1_init 9 = .ok (.putfield 9, 3) := by decide +kernel
theorem dX1_init_12 : decode cX1_init 12 = .ok (.aload_n 0, 1) := by decide +kernel
theorem dX1_init_13 : decode cX1_init 13 = .ok (.sipush 512, 3) := by decide +kernel
theorem dX1_init_16 : decode cX1_init 16 = .ok (.newarray .int, 2) := by decide +kernel
theorem dX1_init_18 : decode cX1_init 18 = .ok (.putfield 15, 3) := by decide +kernel
theorem dX1_init_21 : decode cX1_init 21 = .ok (.aload_n 0, 1) := by decide +kernel
theorem dX1_init_22 : decode cX1_init 22 = .ok (.ldc 18, 2) := by decide +kernel
theorem dX1_init_24 : decode cX1_init 24 = .ok (.newarray .int, 2) := by decide +kernel
theorem dX1_init_26 : decode cX1_init 26 = .ok (.putfield 19, 3) := by decide +kernel
theorem dX1_init_29 : decode cX1_init 29 = .ok (.aload_n 0, 1) := by decide +kernel
theorem dX1_init_30 : decode cX1_init 30 = .ok (.bipush 8, 2) := by decide +kernel
theorem dX1_init_32 : decode cX1_init 32 = .ok (.newarray .long, 2) := by decide +kernel
theorem dX1_init_34 : decode cX1_init 34 = .ok (.putfield 22, 3) := by decide +kernel
theorem dX1_init_37 : decode cX1_init 37 = .ok (.aload_n 0, 1) := by decide +kernel
theorem dX1_init_38 : decode cX1_init 38 = .ok (.bipush 8, 2) := by decide +kernel
theorem dX1_init_40 : decode cX1_init 40 = .ok (.newarray .int, 2) := by decide +kernel
theorem dX1_init_42 : decode cX1_init 42 = .ok (.putfield 26, 3) := by decide +kernel
theorem dX1_init_45 : decode cX1_init 45 = .ok (.return_, 1) := by decide +kernel
theorem dX2_init_0 : decode cX2_init 0 = .ok (.aload_n 0, 1) := by decide +kernel
theorem dX2_init_1 : decode cX2_init 1 = .ok (.invokespecial 3, 3) := by decide +kernel
theorem dX2_init_4 : decode cX2_init 4 = .ok (.aload_n 0, 1) := by decide +kernel
theorem dX2_init_5 : decode cX2_init 5 = .ok (.bipush 64, 2) := by decide +kernel
theorem dX2_init_7 : decode cX2_init 7 = .ok (.newarray .int, 2) := by decide +kernel
theorem dX2_init_9 : decode cX2_init 9 = .ok (.putfield 9, 3) := by decide +kernel
theorem dX2_init_12 : decode cX2_init 12 = .ok (.aload_n 0, 1) := by decide +kernel
theorem dX2_init_13 : decode cX2_init 13 = .ok (.bipush 64, 2) := by decide +kernel
theorem dX2_init_15 : decode cX2_init 15 = .ok (.newarray .int, 2) := by decide +kernel
theorem dX2_init_17 : decode cX2_init 17 = .ok (.putfield 15, 3) := by decide +kernel
theorem dX2_init_20 : decode cX2_init 20 = .ok (.aload_n 0, 1) := by decide +kernel
theorem dX2_init_21 : decode cX2_init 21 = .ok (.bipush 64, 2) := by decide +kernel
theorem dX2_init_23 : decode cX2_init 23 = .ok (.newarray .int, 2) := by decide +kernel
theorem dX2_init_25 : decode cX2_init 25 = .ok (.putfield 18, 3) := by decide +kernel
theorem dX2_init_28 : decode cX2_init 28 = .ok (.aload_n 0, 1) := by decide +kernel
theorem dX2_init_29 : decode cX2_init 29 = .ok (.sipush 4096, 3) := by decide +kernel
theorem dX2_init_32 : decode cX2_init 32 = .ok (.newarray .int, 2) := by decide +kernel
theorem dX2_init_34 : decode cX2_init 34 = .ok (.putfield 21, 3) := by decide +kernel
theorem dX2_init_37 : decode cX2_init 37 = .ok (.aload_n 0, 1) := by decide +kernel
theorem dX2_init_38 : decode cX2_init 38 = .ok (.getfield 21, 3) := by decide +kernel
theorem dX2_init_41 : decode cX2_init 41 = .ok (.bipush (-2), 2) := by decide +kernel
theorem dX2_init_43 : decode cX2_init 43 = .ok (.invokestatic 24, 3) := by decide +kernel
theorem dX2_init_46 : decode cX2_init 46 = .ok (.aload_n 0, 1) := by decide +kernel
theorem dX2_init_47 : decode cX2_init 47 = .ok (.bipush 32, 2) := by decide +kernel
theorem dX2_init_49 : decode cX2_init 49 = .ok (.newarray .long, 2) := by decide +kernel
theorem dX2_init_51 : decode cX2_init 51 = .ok (.putfield 30, 3) := by decide +kernel
theorem dX2_init_54 : decode cX2_init 54 = .ok (.aload_n 0, 1) := by decide +kernel
theorem dX2_init_55 : decode cX2_init 55 = .ok (.bipush 32, 2) := by decide +kernel
theorem dX2_init_57 : decode cX2_init 57 = .ok (.newarray .long, 2) := by decide +kernel
theorem dX2_init_59 : decode cX2_init 59 = .ok (.putfield 34, 3) := by decide +kernel
theorem dX2_init_62 : decode cX2_init 62 = .ok (.aload_n 0, 1) := by decide +kernel
theorem dX2_init_63 : decode cX2_init 63 = .ok (.bipush 100, 2) := by decide +kernel
theorem dX2_init_65 : decode cX2_init 65 = .ok (.putfield 37, 3) := by decide +kernel
theorem dX2_init_68 : decode cX2_init 68 = .ok (.return_, 1) := by decide +kernel
theorem dX2_append_0 : decode cX2_append 0 = .ok (.aload_n 0, 1) := by decide +kernel
theorem dX2_append_1 : decode cX2_append 1 = .ok (.getfield 41, 3) := by decide +kernel
theorem dX2_append_4 : decode cX2_append 4 = .ok (.istore 4, 2) := by decide +kernel
theorem dX2_append_6 : decode cX2_append 6 = .ok (.aload_n 0, 1) := by decide +kernel
theorem dX2_append_7 : decode cX2_append 7 = .ok (.getfield 9, 3) := by decide +kernel
theorem dX2_append_10 : decode cX2_append 10 = .ok (.iload 4, 2) := by decide +kernel
theorem dX2_append_12 : decode cX2_append 12 = .ok (.iload_n 1, 1) := by decide +kernel
theorem dX2_append_13 : decode cX2_append 13 = .ok (.iastore, 1) := by decide +kernel
theorem dX2_append_14 : decode cX2_append 14 = .ok (.aload_n 0, 1) := by decide +kernel
theorem dX2_append_15 : decode cX2_append 15 = .ok (.getfield 15, 3) := by decide +kernel
theorem dX2_append_18 : decode cX2_append 18 = .ok (.iload 4, 2) := by decide +kernel
theorem dX2_append_20 : decode cX2_append 20 = .ok (.iload_n 2, 1) := by decide +kernel
theorem dX2_append_21 : decode cX2_append 21 = .ok (.iastore, 1) := by decide +kernel
theorem dX2_append_22 : decode cX2_append 22 = .ok (.aload_n 0, 1) := by decide +kernel
theorem dX2_append_23 : decode cX2_append 23 = .ok (.getfield 18, 3) := by decide +kernel
theorem dX2_append_26 : decode cX2_append 26 = .ok (.iload 4, 2) := by decide +kernel
theorem dX2_append_28 : decode cX2_append 28 = .ok (.iload_n 3, 1) := by decide +kernel
theorem dX2_append_29 : decode cX2_append 29 = .ok (.iastore, 1) := by decide +kernel
theorem dX2_append_30 : decode cX2_append 30 = .ok (.aload_n 0, 1) := by decide +kernel
theorem dX2_append_31 : decode cX2_append 31 = .ok (.getfield 30, 3) := by decide +kernel
theorem dX2_append_34 : decode cX2_append 34 = .ok (.iload_n 1, 1) := by decide +kernel
theorem dX2_append_35 : decode cX2_append 35 = .ok (.dup2, 1) := by decide +kernel
theorem dX2_append_36 : decode cX2_append 36 = .ok (.laload, 1) := by decide +kernel
theorem dX2_append_37 : decode cX2_append 37 = .ok (.iload 4, 2) := by decide +kernel
theorem dX2_append_39 : decode cX2_append 39 = .ok (.invokestatic 44, 3) := by decide +kernel
theorem dX2_append_42 : decode cX2_append 42 = .ok (.lor, 1) := by decide +kernel
theorem dX2_append_43 : decode cX2_append 43 = .ok (.lastore, 1) := by decide +kernel
theorem dX2_append_44 : decode cX2_append 44 = .ok (.aload_n 0, 1) := by decide +kernel
theorem dX2_append_45 : decode cX2_append 45 = .ok (.getfield 34, 3) := by decide +kernel
theorem dX2_append_48 : decode cX2_append 48 = .ok (.iload_n 2, 1) := by decide +kernel
theorem dX2_append_49 : decode cX2_append 49 = .ok (.dup2, 1) := by decide +kernel
theorem dX2_append_50 : decode cX2_append 50 = .ok (.laload, 1) := by decide +kernel
theorem dX2_append_51 : decode cX2_append 51 = .ok (.iload 4, 2) := by decide +kernel
theorem dX2_append_53 : decode cX2_append 53 = .ok (.invokestatic 44, 3) := by decide +kernel
theorem dX2_append_56 : decode cX2_append 56 = .ok (.lor, 1) := by decide +kernel
theorem dX2_append_57 : decode cX2_append 57 = .ok (.lastore, 1) := by decide +kernel
theorem dX2_append_58 : decode cX2_append 58 = .ok (.aload_n 0, 1) := by decide +kernel
theorem dX2_append_59 : decode cX2_append 59 = .ok (.dup, 1) := by decide +kernel
theorem dX2_append_60 : decode cX2_append 60 = .ok (.getfield 48, 3) := by decide +kernel
theorem dX2_append_63 : decode cX2_append 63 = .ok (.iload 4, 2) := by decide +kernel
theorem dX2_append_65 : decode cX2_append 65 = .ok (.invokestatic 44, 3) := by decide +kernel
theorem dX2_append_68 : decode cX2_append 68 = .ok (.lor, 1) := by decide +kernel
theorem dX2_append_69 : decode cX2_append 69 = .ok (.putfield 48, 3) := by decide +kernel
theorem dX2_append_72 : decode cX2_append 72 = .ok (.aload_n 0, 1) := by decide +kernel
theorem dX2_append_73 : decode cX2_append 73 = .ok (.dup, 1) := by decide +kernel
theorem dX2_append_74 : decode cX2_append 74 = .ok (.getfield 41, 3) := by decide +kernel
theorem dX2_append_77 : decode cX2_append 77 = .ok (.iconst 1, 1) := by decide +kernel
theorem dX2_append_78 : decode cX2_append 78 = .ok (.iadd, 1) := by decide +kernel
theorem dX2_append_79 : decode cX2_append 79 = .ok (.putfield 41, 3) := by decide +kernel
theorem dX2_append_82 : decode cX2_append 82 = .ok (.iload 4, 2) := by decide +kernel
theorem dX2_append_84 : decode cX2_append 84 = .ok (.ireturn, 1) := by decide +kernel
theorem dX2_openOrClose_0 : decode cX2_openOrClose 0 = .ok (.aload_n 0, 1) := by decide +kernel
theorem dX2_openOrClose_1 : decode cX2_openOrClose 1 = .ok (.getfield 48, 3) := by decide +kernel
theorem dX2_openOrClose_4 : decode cX2_openOrClose 4 = .ok (.iload_n 1, 1) := by decide +kernel
theorem dX2_openOrClose_5 : decode cX2_openOrClose 5 = .ok (.invokestatic 44, 3) := by decide +kernel
theorem dX2_openOrClose_8 : decode cX2_openOrClose 8 = .ok (.ldc2_w 52, 3) := by decide +kernel
theorem dX2_openOrClose_11 : decode cX2_openOrClose 11 = .ok (.lxor, 1) := by decide +kernel
theorem dX2_openOrClose_12 : decode cX2_openOrClose 12 = .ok (.land, 1) := by decide +kernel
theorem dX2_openOrClose_13 : decode cX2_openOrClose 13 = .ok (.lstore_n 3, 1) := by decide +kernel
theorem dX2_openOrClose_14 : decode cX2_openOrClose 14 = .ok (.aload_n 0, 1) := by decide +kernel
theorem dX2_openOrClose_15 : decode cX2_openOrClose 15 = .ok (.iload_n 2, 1) := by decide +kernel
theorem dX2_openOrClose_16 : decode cX2_openOrClose 16 = .ok (.ifCond .eq 12, 3) := by decide +kernel
theorem dX2_openOrClose_19 : decode cX2_openOrClose 19 = .ok (.lload_n 3, 1) := by decide +kernel
theorem dX2_openOrClose_20 : decode cX2_openOrClose 20 = .ok (.iload_n 1, 1) := by decide +kernel
theorem dX2_openOrClose_21 : decode cX2_openOrClose 21 = .ok (.invokestatic 44, 3) := by decide +kernel
theorem dX2_openOrClose_24 : decode cX2_openOrClose 24 = .ok (.lor, 1) := by decide +kernel
theorem dX2_openOrClose_25 : decode cX2_openOrClose 25 = .ok (.goto 4, 3) := by decide +kernel
theorem dX2_openOrClose_28 : decode cX2_openOrClose 28 = .ok (.lload_n 3, 1) := by decide +kernel
theorem dX2_openOrClose_29 : decode cX2_openOrClose 29 = .ok (.putfield 48, 3) := by decide +kernel
theorem dX2_openOrClose_32 : decode cX2_openOrClose 32 = .ok (.return_, 1) := by decide +kernel
theorem dX2_allRoads_0 : decode cX2_allRoads 0 = .ok (.aload_n 0, 1) := by decide +kernel
theorem dX2_allRoads_1 : decode cX2_allRoads 1 = .ok (.getfield 41, 3) := by decide +kernel
theorem dX2_allRoads_4 : decode cX2_allRoads 4 = .ok (.bipush 64, 2) := by decide +kernel
theorem dX2_allRoads_6 : decode cX2_allRoads 6 = .ok (.if_icmp .lt 9, 3) := by decide +kernel
theorem dX2_allRoads_9 : decode cX2_allRoads 9 = .ok (.ldc2_w 52, 3) := by decide +kernel
theorem dX2_allRoads_12 : decode cX2_allRoads 12 = .ok (.goto 12, 3) := by decide +kernel
theorem dX2_allRoads_15 : decode cX2_allRoads 15 = .ok (.aload_n 0, 1) := by decide +kernel
theorem dX2_allRoads_16 : decode cX2_allRoads 16 = .ok (.getfield 41, 3) := by decide +kernel
theorem dX2_allRoads_19 : decode cX2_allRoads 19 = .ok (.invokestatic 44, 3) := by decide +kernel
theorem dX2_allRoads_22 : decode cX2_allRoads 22 = .ok (.lconst 1, 1) := by decide +kernel
theorem dX2_allRoads_23 : decode cX2_allRoads 23 = .ok (.lsub, 1) := by decide +kernel
theorem dX2_allRoads_24 : decode cX2_allRoads 24 = .ok (.lreturn, 1) := by decide +kernel
theorem dX2_followersOf_0 : decode cX2_followersOf 0 = .ok (.aload_n 0, 1) := by decide +kernel
theorem dX2_followersOf_1 : decode cX2_followersOf 1 = .ok (.getfield 30, 3) := by decide +kernel
theorem dX2_followersOf_4 : decode cX2_followersOf 4 = .ok (.aload_n 0, 1) := by decide +kernel
theorem dX2_followersOf_5 : decode cX2_followersOf 5 = .ok (.getfield 15, 3) := by decide +kernel
theorem dX2_followersOf_8 : decode cX2_followersOf 8 = .ok (.iload_n 1, 1) := by decide +kernel
theorem dX2_followersOf_9 : decode cX2_followersOf 9 = .ok (.iaload, 1) := by decide +kernel
theorem dX2_followersOf_10 : decode cX2_followersOf 10 = .ok (.laload, 1) := by decide +kernel
theorem dX2_followersOf_11 : decode cX2_followersOf 11 = .ok (.lreturn, 1) := by decide +kernel
theorem dX2_forerunnersOf_0 : decode cX2_forerunnersOf 0 = .ok (.aload_n 0, 1) := by decide +kernel
theorem dX2_forerunnersOf_1 : decode cX2_forerunnersOf 1 = .ok (.getfield 34, 3) := by decide +kernel
theorem dX2_forerunnersOf_4 : decode cX2_forerunnersOf 4 = .ok (.aload_n 0, 1) := by decide +kernel
theorem dX2_forerunnersOf_5 : decode cX2_forerunnersOf 5 = .ok (.getfield 9, 3) := by decide +kernel
theorem dX2_forerunnersOf_8 : decode cX2_forerunnersOf 8 = .ok (.iload_n 1, 1) := by decide +kernel
theorem dX2_forerunnersOf_9 : decode cX2_forerunnersOf 9 = .ok (.iaload, 1) := by decide +kernel
theorem dX2_forerunnersOf_10 : decode cX2_forerunnersOf 10 = .ok (.laload, 1) := by decide +kernel
theorem dX2_forerunnersOf_11 : decode cX2_forerunnersOf 11 = .ok (.lreturn, 1) := by decide +kernel
theorem dX2_penaltyOf_0 : decode cX2_penaltyOf 0 = .ok (.aload_n 0, 1) := by decide +kernel
theorem dX2_penaltyOf_1 : decode cX2_penaltyOf 1 = .ok (.getfield 21, 3) := by decide +kernel
theorem dX2_penaltyOf_4 : decode cX2_penaltyOf 4 = .ok (.iload_n 1, 1) := by decide +kernel
theorem dX2_penaltyOf_5 : decode cX2_penaltyOf 5 = .ok (.iload_n 2, 1) := by decide +kernel
theorem dX2_penaltyOf_6 : decode cX2_penaltyOf 6 = .ok (.invokestatic 54, 3) := by decide +kernel
theorem dX2_penaltyOf_9 : decode cX2_penaltyOf 9 = .ok (.iaload, 1) := by decide +kernel
theorem dX2_penaltyOf_10 : decode cX2_penaltyOf 10 = .ok (.istore_n 3, 1) := by decide +kernel
theorem dX2_penaltyOf_11 : decode cX2_penaltyOf 11 = .ok (.iload_n 3, 1) := by decide +kernel
theorem dX2_penaltyOf_12 : decode cX2_penaltyOf 12 = .ok (.bipush (-2), 2) := by decide +kernel
theorem dX2_penaltyOf_14 : decode cX2_penaltyOf 14 = .ok (.if_icmp .eq 5, 3) := by decide +kernel
theorem dX2_penaltyOf_17 : decode cX2_penaltyOf 17 = .ok (.iload_n 3, 1) := by decide +kernel
theorem dX2_penaltyOf_18 : decode cX2_penaltyOf 18 = .ok (.ireturn, 1) := by decide +kernel
theorem dX2_penaltyOf_19 : decode cX2_penaltyOf 19 = .ok (.aload_n 0, 1) := by decide +kernel
theorem dX2_penaltyOf_20 : decode cX2_penaltyOf 20 = .ok (.getfield 15, 3) := by decide +kernel
theorem dX2_penaltyOf_23 : decode cX2_penaltyOf 23 = .ok (.iload_n 2, 1) := by decide +kernel
theorem dX2_penaltyOf_24 : decode cX2_penaltyOf 24 = .ok (.iaload, 1) := by decide +kernel
theorem dX2_penaltyOf_25 : decode cX2_penaltyOf 25 = .ok (.aload_n 0, 1) := by decide +kernel
theorem dX2_penaltyOf_26 : decode cX2_penaltyOf 26 = .ok (.getfield 9, 3) := by decide +kernel
theorem dX2_penaltyOf_29 : decode cX2_penaltyOf 29 = .ok (.iload_n 1, 1) := by decide +kernel
theorem dX2_penaltyOf_30 : decode cX2_penaltyOf 30 = .ok (.iaload, 1) := by decide +kernel
theorem dX2_penaltyOf_31 : decode cX2_penaltyOf 31 = .ok (.if_icmp .ne 10, 3) := by decide +kernel
theorem dX2_penaltyOf_34 : decode cX2_penaltyOf 34 = .ok (.aload_n 0, 1) := by decide +kernel
theorem dX2_penaltyOf_35 : decode cX2_penaltyOf 35 = .ok (.getfield 37, 3) := by decide +kernel
theorem dX2_penaltyOf_38 : decode cX2_penaltyOf 38 = .ok (.goto 4, 3) := by decide +kernel
theorem dX2_penaltyOf_41 : decode cX2_penaltyOf 41 = .ok (.iconst 0, 1) := by decide +kernel
theorem dX2_penaltyOf_42 : decode cX2_penaltyOf 42 = .ok (.ireturn, 1) := by decide +kernel
theorem dX2_roadLength_0 : decode cX2_roadLength 0 = .ok (.aload_n 0, 1) := by decide +kernel
theorem dX2_roadLength_1 : decode cX2_roadLength 1 = .ok (.getfield 18, 3) := by decide +kernel
theorem dX2_roadLength_4 : decode cX2_roadLength 4 = .ok (.iload_n 1, 1) := by decide +kernel
theorem dX2_roadLength_5 : decode cX2_roadLength 5 = .ok (.iaload, 1) := by decide +kernel
theorem dX2_roadLength_6 : decode cX2_roadLength 6 = .ok (.bipush 7, 2) := by decide +kernel
theorem dX2_roadLength_8 : decode cX2_roadLength 8 = .ok (.ishl, 1) := by decide +kernel
theorem dX2_roadLength_9 : decode cX2_roadLength 9 = .ok (.iconst 1, 1) := by decide +kernel
theorem dX2_roadLength_10 : decode cX2_roadLength 10 = .ok (.iadd, 1) := by decide +kernel
theorem dX2_roadLength_11 : decode cX2_roadLength 11 = .ok (.ireturn, 1) := by decide +kernel
theorem dX2_stepLength_0 : decode cX2_stepLength 0 = .ok (.aload_n 0, 1) := by decide +kernel
theorem dX2_stepLength_1 : decode cX2_stepLength 1 = .ok (.iload_n 1, 1) := by decide +kernel
theorem dX2_stepLength_2 : decode cX2_stepLength 2 = .ok (.iload_n 2, 1) := by decide +kernel
theorem dX2_stepLength_3 : decode cX2_stepLength 3 = .ok (.invokevirtual 58, 3) := by decide +kernel
theorem dX2_stepLength_6 : decode cX2_stepLength 6 = .ok (.istore_n 3, 1) := by decide +kernel
theorem dX2_stepLength_7 : decode cX2_stepLength 7 = .ok (.iload_n 3, 1) := by decide +kernel
theorem dX2_stepLength_8 : decode cX2_stepLength 8 = .ok (.iconst (-1), 1) := by decide +kernel
theorem dX2_stepLength_9 : decode cX2_stepLength 9 = .ok (.if_icmp .eq 25, 3) := by decide +kernel
theorem dX2_stepLength_12 : decode cX2_stepLength 12 = .ok (.aload_n 0, 1) := by decide +kernel
theorem dX2_stepLength_13 : decode cX2_stepLength 13 = .ok (.getfield 48, 3) := by decide +kernel
theorem dX2_stepLength_16 : decode cX2_stepLength 16 = .ok (.iload_n 1, 1) := by decide +kernel
theorem dX2_stepLength_17 : decode cX2_stepLength 17 = .ok (.invokestatic 61, 3) := by decide +kernel
theorem dX2_stepLength_20 : decode cX2_stepLength 20 = .ok (.ifCond .eq 14, 3) := by decide +kernel
theorem dX2_stepLength_23 : decode cX2_stepLength 23 = .ok (.aload_n 0, 1) := by decide +kernel
theorem dX2_stepLength_24 : decode cX2_stepLength 24 = .ok (.getfield 48, 3) := by decide +kernel
theorem dX2_stepLength_27 : decode cX2_stepLength 27 = .ok (.iload_n 2, 1) := by decide +kernel
theorem dX2_stepLength_28 : decode cX2_stepLength 28 = .ok (.invokestatic 61, 3) := by decide +kernel
theorem dX2_stepLength_31 : decode cX2_stepLength 31 = .ok (.ifCond .ne 6, 3) := by decide +kernel
theorem dX2_stepLength_34 : decode cX2_stepLength 34 = .ok (.ldc 65, 2) := by decide +kernel
theorem dX2_stepLength_36 : decode cX2_stepLength 36 = .ok (.ireturn, 1) := by decide +kernel
theorem dX2_stepLength_37 : decode cX2_stepLength 37 = .ok (.iload_n 3, 1) := by decide +kernel
theorem dX2_stepLength_38 : decode cX2_stepLength 38 = .ok (.bipush 7, 2) := by decide +kernel
theorem dX2_stepLength_40 : decode cX2_stepLength 40 = .ok (.ishl, 1) := by decide +kernel
theorem dX2_stepLength_41 : decode cX2_stepLength 41 = .ok (.aload_n 0, 1) := by decide +kernel
theorem dX2_stepLength_42 : decode cX2_stepLength 42 = .ok (.iload_n 2, 1) := by decide +kernel
theorem dX2_stepLength_43 : decode cX2_stepLength 43 = .ok (.invokevirtual 66, 3) := by decide +kernel
theorem dX2_stepLength_46 : decode cX2_stepLength 46 = .ok (.iadd, 1) := by decide +kernel
theorem dX2_stepLength_47 : decode cX2_stepLength 47 = .ok (.ireturn, 1) := by decide +kernel
theorem dX3_init_0 : decode cX3_init 0 = .ok (.aload_n 0, 1) := by decide +kernel
theorem dX3_init_1 : decode cX3_init 1 = .ok (.invokespecial 3, 3) := by decide +kernel
theorem dX3_init_4 : decode cX3_init 4 = .ok (.aload_n 0, 1) := by decide +kernel
theorem dX3_init_5 : decode cX3_init 5 = .ok (.new 9, 3) := by decide +kernel
theorem dX3_init_8 : decode cX3_init 8 = .ok (.dup, 1) := by decide +kernel
theorem dX3_init_9 : decode cX3_init 9 = .ok (.invokespecial 11, 3) := by decide +kernel
theorem dX3_init_12 : decode cX3_init 12 = .ok (.putfield 12, 3) := by decide +kernel
theorem dX3_init_15 : decode cX3_init 15 = .ok (.aload_n 0, 1) := by decide +kernel
theorem dX3_init_16 : decode cX3_init 16 = .ok (.new 16, 3) := by decide +kernel
theorem dX3_init_19 : decode cX3_init 19 = .ok (.dup, 1) := by decide +kernel
theorem dX3_init_20 : decode cX3_init 20 = .ok (.aload_n 0, 1) := by decide +kernel
theorem dX3_init_21 : decode cX3_init 21 = .ok (.getfield 12, 3) := by decide +kernel
theorem dX3_init_24 : decode cX3_init 24 = .ok (.invokespecial 18, 3) := by decide +kernel
theorem dX3_init_27 : decode cX3_init 27 = .ok (.putfield 21, 3) := by decide +kernel
theorem dX3_init_30 : decode cX3_init 30 = .ok (.aload_n 0, 1) := by decide +kernel
theorem dX3_init_31 : decode cX3_init 31 = .ok (.new 25, 3) := by decide +kernel
theorem dX3_init_34 : decode cX3_init 34 = .ok (.dup, 1) := by decide +kernel
theorem dX3_init_35 : decode cX3_init 35 = .ok (.invokespecial 27, 3) := by decide +kernel
theorem dX3_init_38 : decode cX3_init 38 = .ok (.putfield 28, 3) := by decide +kernel
theorem dX3_init_41 : decode cX3_init 41 = .ok (.aload_n 0, 1) := by decide +kernel
theorem dX3_init_42 : decode cX3_init 42 = .ok (.sipush 128, 3) := by decide +kernel
theorem dX3_init_45 : decode cX3_init 45 = .ok (.newarray .boolean, 2) := by decide +kernel
theorem dX3_init_47 : decode cX3_init 47 = .ok (.putfield 32, 3) := by decide +kernel
theorem dX3_init_50 : decode cX3_init 50 = .ok (.aload_n 0, 1) := by decide +kernel
theorem dX3_init_51 : decode cX3_init 51 = .ok (.bipush 64, 2) := by decide +kernel
theorem dX3_init_53 : decode cX3_init 53 = .ok (.newarray .int, 2) := by decide +kernel
theorem dX3_init_55 : decode cX3_init 55 = .ok (.putfield 36, 3) := by decide +kernel
theorem dX3_init_58 : decode cX3_init 58 = .ok (.aload_n 0, 1) := by decide +kernel
theorem dX3_init_59 : decode cX3_init 59 = .ok (.bipush 32, 2) := by decide +kernel
theorem dX3_init_61 : decode cX3_init 61 = .ok (.newarray .int, 2) := by decide +kernel
theorem dX3_init_63 : decode cX3_init 63 = .ok (.putfield 40, 3) := by decide +kernel
theorem dX3_init_66 : decode cX3_init 66 = .ok (.aload_n 0, 1) := by decide +kernel
theorem dX3_init_67 : decode cX3_init 67 = .ok (.bipush 64, 2) := by decide +kernel
theorem dX3_init_69 : decode cX3_init 69 = .ok (.newarray .int, 2) := by decide +kernel
theorem dX3_init_71 : decode cX3_init 71 = .ok (.putfield 43, 3) := by decide +kernel
theorem dX3_init_74 : decode cX3_init 74 = .ok (.aload_n 0, 1) := by decide +kernel
theorem dX3_init_75 : decode cX3_init 75 = .ok (.bipush 32, 2) := by decide +kernel
theorem dX3_init_77 : decode cX3_init 77 = .ok (.newarray .int, 2) := by decide +kernel
theorem dX3_init_79 : decode cX3_init 79 = .ok (.putfield 46, 3) := by decide +kernel
theorem dX3_init_82 : decode cX3_init 82 = .ok (.aload_n 0, 1) := by decide +kernel
theorem dX3_init_83 : decode cX3_init 83 = .ok (.bipush 32, 2) := by decide +kernel
theorem dX3_init_85 : decode cX3_init 85 = .ok (.newarray .int, 2) := by decide +kernel
theorem dX3_init_87 : decode cX3_init 87 = .ok (.putfield 49, 3) := by decide +kernel
theorem dX3_init_90 : decode cX3_init 90 = .ok (.return_, 1) := by decide +kernel
theorem dX3_addJunction_0 : decode cX3_addJunction 0 = .ok (.aload_n 0, 1) := by decide +kernel
theorem dX3_addJunction_1 : decode cX3_addJunction 1 = .ok (.getfield 12, 3) := by decide +kernel
theorem dX3_addJunction_4 : decode cX3_addJunction 4 = .ok (.getfield 52, 3) := by decide +kernel
theorem dX3_addJunction_7 : decode cX3_addJunction 7 = .ok (.bipush 32, 2) := by decide +kernel
theorem dX3_addJunction_9 : decode cX3_addJunction 9 = .ok (.if_icmp .lt 13, 3) := by decide +kernel
theorem dX3_addJunction_12 : decode cX3_addJunction 12 = .ok (.new 56, 3) := by decide +kernel
theorem dX3_addJunction_15 : decode cX3_addJunction 15 = .ok (.dup, 1) := by decide +kernel
theorem dX3_addJunction_16 : decode cX3_addJunction 16 = .ok (.ldc 58, 2) := by decide +kernel
theorem dX3_addJunction_18 : decode cX3_addJunction 18 = .ok (.invokespecial 60, 3) := by decide +kernel
theorem dX3_addJunction_21 : decode cX3_addJunction 21 = .ok (.athrow, 1) := by decide +kernel
theorem dX3_addJunction_22 : decode cX3_addJunction 22 = .ok (.aload_n 0, 1) := by decide +kernel
theorem dX3_addJunction_23 : decode cX3_addJunction 23 = .ok (.getfield 12, 3) := by decide +kernel
theorem dX3_addJunction_26 : decode cX3_addJunction 26 = .ok (.dup, 1) := by decide +kernel
theorem dX3_addJunction_27 : decode cX3_addJunction 27 = .ok (.getfield 52, 3) := by decide +kernel
theorem dX3_addJunction_30 : decode cX3_addJunction 30 = .ok (.iconst 1, 1) := by decide +kernel
theorem dX3_addJunction_31 : decode cX3_addJunction 31 = .ok (.iadd, 1) := by decide +kernel
theorem dX3_addJunction_32 : decode cX3_addJunction 32 = .ok (.putfield 52, 3) := by decide +kernel
theorem dX3_addJunction_35 : decode cX3_addJunction 35 = .ok (.aload_n 0, 1) := by decide +kernel
theorem dX3_addJunction_36 : decode cX3_addJunction 36 = .ok (.getfield 12, 3) := by decide +kernel
theorem dX3_addJunction_39 : decode cX3_addJunction 39 = .ok (.getfield 52, 3) := by decide +kernel
theorem dX3_addJunction_42 : decode cX3_addJunction 42 = .ok (.iconst 1, 1) := by decide +kernel
theorem dX3_addJunction_43 : decode cX3_addJunction 43 = .ok (.isub, 1) := by decide +kernel
theorem dX3_addJunction_44 : decode cX3_addJunction 44 = .ok (.ireturn, 1) := by decide +kernel
theorem dX3_addRoad_0 : decode cX3_addRoad 0 = .ok (.aload_n 0, 1) := by decide +kernel
theorem dX3_addRoad_1 : decode cX3_addRoad 1 = .ok (.iload_n 1, 1) := by decide +kernel
theorem dX3_addRoad_2 : decode cX3_addRoad 2 = .ok (.invokevirtual 63, 3) := by decide +kernel
theorem dX3_addRoad_5 : decode cX3_addRoad 5 = .ok (.aload_n 0, 1) := by decide +kernel
theorem dX3_addRoad_6 : decode cX3_addRoad 6 = .ok (.iload_n 2, 1) := by decide +kernel
theorem dX3_addRoad_7 : decode cX3_addRoad 7 = .ok (.invokevirtual 63, 3) := by decide +kernel
theorem dX3_addRoad_10 : decode cX3_addRoad 10 = .ok (.iload_n 1, 1) := by decide +kernel
theorem dX3_addRoad_11 : decode cX3_addRoad 11 = .ok (.iload_n 2, 1) := by decide +kernel
theorem dX3_addRoad_12 : decode cX3_addRoad 12 = .ok (.if_icmp .ne 13, 3) := by decide +kernel
theorem dX3_addRoad_15 : decode cX3_addRoad 15 = .ok (.new 67, 3) := by decide +kernel
theorem dX3_addRoad_18 : decode cX3_addRoad 18 = .ok (.dup, 1) := by decide +kernel
theorem dX3_addRoad_19 : decode cX3_addRoad 19 = .ok (.ldc 69, 2) := by decide +kernel
theorem dX3_addRoad_21 : decode cX3_addRoad 21 = .ok (.invokespecial 71, 3) := by decide +kernel
theorem dX3_addRoad_24 : decode cX3_addRoad 24 = .ok (.athrow, 1) := by decide +kernel
theorem dX3_addRoad_25 : decode cX3_addRoad 25 = .ok (.aload_n 0, 1) := by decide +kernel
theorem dX3_addRoad_26 : decode cX3_addRoad 26 = .ok (.iload_n 3, 1) := by decide +kernel
theorem dX3_addRoad_27 : decode cX3_addRoad 27 = .ok (.invokevirtual 72, 3) := by decide +kernel
theorem dX3_addRoad_30 : decode cX3_addRoad 30 = .ok (.aload_n 0, 1) := by decide +kernel
theorem dX3_addRoad_31 : decode cX3_addRoad 31 = .ok (.getfield 12, 3) := by decide +kernel
theorem dX3_addRoad_34 : decode cX3_addRoad 34 = .ok (.getfield 75, 3) := by decide +kernel
theorem dX3_addRoad_37 : decode cX3_addRoad 37 = .ok (.bipush 64, 2) := by decide +kernel
theorem dX3_addRoad_39 : decode cX3_addRoad 39 = .ok (.if_icmp .lt 13, 3) := by decide +kernel
theorem dX3_addRoad_42 : decode cX3_addRoad 42 = .ok (.new 56, 3) := by decide +kernel
theorem dX3_addRoad_45 : decode cX3_addRoad 45 = .ok (.dup, 1) := by decide +kernel
theorem dX3_addRoad_46 : decode cX3_addRoad 46 = .ok (.ldc 78, 2) := by decide +kernel
theorem dX3_addRoad_48 : decode cX3_addRoad 48 = .ok (.invokespecial 60, 3) := by decide +kernel
theorem dX3_addRoad_51 : decode cX3_addRoad 51 = .ok (.athrow, 1) := by decide +kernel
theorem dX3_addRoad_52 : decode cX3_addRoad 52 = .ok (.aload_n 0, 1) := by decide +kernel
theorem dX3_addRoad_53 : decode cX3_addRoad 53 = .ok (.getfield 21, 3) := by decide +kernel
theorem dX3_addRoad_56 : decode cX3_addRoad 56 = .ok (.iconst 0, 1) := by decide +kernel
theorem dX3_addRoad_57 : decode cX3_addRoad 57 = .ok (.putfield 80, 3) := by decide +kernel
theorem dX3_addRoad_60 : decode cX3_addRoad 60 = .ok (.aload_n 0, 1) := by decide +kernel
theorem dX3_addRoad_61 : decode cX3_addRoad 61 = .ok (.getfield 12, 3) := by decide +kernel
theorem dX3_addRoad_64 : decode cX3_addRoad 64 = .ok (.iload_n 1, 1) := by decide +kernel
theorem dX3_addRoad_65 : decode cX3_addRoad 65 = .ok (.iload_n 2, 1) := by decide +kernel
theorem dX3_addRoad_66 : decode cX3_addRoad 66 = .ok (.iload_n 3, 1) := by decide +kernel
theorem dX3_addRoad_67 : decode cX3_addRoad 67 = .ok (.invokevirtual 84, 3) := by decide +kernel
theorem dX3_addRoad_70 : decode cX3_addRoad 70 = .ok (.ireturn, 1) := by decide +kernel
theorem dX3_setWeight_0 : decode cX3_setWeight 0 = .ok (.aload_n 0, 1) := by decide +kernel
theorem dX3_setWeight_1 : decode cX3_setWeight 1 = .ok (.iload_n 1, 1) := by decide +kernel
theorem dX3_setWeight_2 : decode cX3_setWeight 2 = .ok (.invokevirtual 88, 3) := by decide +kernel
theorem dX3_setWeight_5 : decode cX3_setWeight 5 = .ok (.aload_n 0, 1) := by decide +kernel
theorem dX3_setWeight_6 : decode cX3_setWeight 6 = .ok (.iload_n 2, 1) := by decide +kernel
theorem dX3_setWeight_7 : decode cX3_setWeight 7 = .ok (.invokevirtual 72, 3) := by decide +kernel
theorem dX3_setWeight_10 : decode cX3_setWeight 10 = .ok (.aload_n 0, 1) := by decide +kernel
theorem dX3_setWeight_11 : decode cX3_setWeight 11 = .ok (.getfield 12, 3) := by decide +kernel
theorem dX3_setWeight_14 : decode cX3_setWeight 14 = .ok (.getfield 91, 3) := by decide +kernel
theorem dX3_setWeight_17 : decode cX3_setWeight 17 = .ok (.iload_n 1, 1) := by decide +kernel
theorem dX3_setWeight_18 : decode cX3_setWeight 18 = .ok (.iload_n 2, 1) := by decide +kernel
theorem dX3_setWeight_19 : decode cX3_setWeight 19 = .ok (.iastore, 1) := by decide +kernel
theorem dX3_setWeight_20 : decode cX3_setWeight 20 = .ok (.aload_n 0, 1) := by decide +kernel
theorem dX3_setWeight_21 : decode cX3_setWeight 21 = .ok (.getfield 21, 3) := by decide +kernel
theorem dX3_setWeight_24 : decode cX3_setWeight 24 = .ok (.iload_n 1, 1) := by decide +kernel
theorem dX3_setWeight_25 : decode cX3_setWeight 25 = .ok (.invokevirtual 94, 3) := by decide +kernel
theorem dX3_setWeight_28 : decode cX3_setWeight 28 = .ok (.ireturn, 1) := by decide +kernel
theorem dX3_setOpen_0 : decode cX3_setOpen 0 = .ok (.aload_n 0, 1) := by decide +kernel
theorem dX3_setOpen_1 : decode cX3_setOpen 1 = .ok (.iload_n 1, 1) := by decide +kernel
theorem dX3_setOpen_2 : decode cX3_setOpen 2 = .ok (.invokevirtual 88, 3) := by decide +kernel
theorem dX3_setOpen_5 : decode cX3_setOpen 5 = .ok (.aload_n 0, 1) := by decide +kernel
theorem dX3_setOpen_6 : decode cX3_setOpen 6 = .ok (.getfield 12, 3) := by decide +kernel
theorem dX3_setOpen_9 : decode cX3_setOpen 9 = .ok (.iload_n 1, 1) := by decide +kernel
theorem dX3_setOpen_10 : decode cX3_setOpen 10 = .ok (.iload_n 2, 1) := by decide +kernel
theorem dX3_setOpen_11 : decode cX3_setOpen 11 = .ok (.invokevirtual 98, 3) := by decide +kernel
theorem dX3_setOpen_14 : decode cX3_setOpen 14 = .ok (.aload_n 0, 1) := by decide +kernel
theorem dX3_setOpen_15 : decode cX3_setOpen 15 = .ok (.getfield 21, 3) := by decide +kernel
theorem dX3_setOpen_18 : decode cX3_setOpen 18 = .ok (.iload_n 1, 1) := by decide +kernel
theorem dX3_setOpen_19 : decode cX3_setOpen 19 = .ok (.invokevirtual 94, 3) := by decide +kernel
theorem dX3_setOpen_22 : decode cX3_setOpen 22 = .ok (.ireturn, 1) := by decide +kernel
theorem dX3_setTurn_0 : decode cX3_setTurn 0 = .ok (.aload_n 0, 1) := by decide +kernel
theorem dX3_setTurn_1 : decode cX3_setTurn 1 = .ok (.iload_n 1, 1) := by decide +kernel
theorem dX3_setTurn_2 : decode cX3_setTurn 2 = .ok (.iload_n 2, 1) := by decide +kernel
theorem dX3_setTurn_3 : decode cX3_setTurn 3 = .ok (.invokevirtual 102, 3) := by decide +kernel
theorem dX3_setTurn_6 : decode cX3_setTurn 6 = .ok (.iload_n 3, 1) := by decide +kernel
theorem dX3_setTurn_7 : decode cX3_setTurn 7 = .ok (.bipush (-2), 2) := by decide +kernel
theorem dX3_setTurn_9 : decode cX3_setTurn 9 = .ok (.if_icmp .lt 10, 3) := by decide +kernel
theorem dX3_setTurn_12 : decode cX3_setTurn 12 = .ok (.iload_n 3, 1) := by decide +kernel
theorem dX3_setTurn_13 : decode cX3_setTurn 13 = .ok (.sipush 1000, 3) := by decide +kernel
theorem dX3_setTurn_16 : decode cX3_setTurn 16 = .ok (.if_icmp .le 13, 3) := by decide +kernel
theorem dX3_setTurn_19 : decode cX3_setTurn 19 = .ok (.new 67, 3) := by decide +kernel
theorem dX3_setTurn_22 : decode cX3_setTurn 22 = .ok (.dup, 1) := by decide +kernel
theorem dX3_setTurn_23 : decode cX3_setTurn 23 = .ok (.ldc 106, 2) := by decide +kernel
theorem dX3_setTurn_25 : decode cX3_setTurn 25 = .ok (.invokespecial 71, 3) := by decide +kernel
theorem dX3_setTurn_28 : decode cX3_setTurn 28 = .ok (.athrow, 1) := by decide +kernel
theorem dX3_setTurn_29 : decode cX3_setTurn 29 = .ok (.aload_n 0, 1) := by decide +kernel
theorem dX3_setTurn_30 : decode cX3_setTurn 30 = .ok (.getfield 12, 3) := by decide +kernel
theorem dX3_setTurn_33 : decode cX3_setTurn 33 = .ok (.getfield 108, 3) := by decide +kernel
theorem dX3_setTurn_36 : decode cX3_setTurn 36 = .ok (.iload_n 1, 1) := by decide +kernel
theorem dX3_setTurn_37 : decode cX3_setTurn 37 = .ok (.iload_n 2, 1) := by decide +kernel
theorem dX3_setTurn_38 : decode cX3_setTurn 38 = .ok (.invokestatic 111, 3) := by decide +kernel
theorem dX3_setTurn_41 : decode cX3_setTurn 41 = .ok (.iload_n 3, 1) := by decide +kernel
theorem dX3_setTurn_42 : decode cX3_setTurn 42 = .ok (.iastore, 1) := by decide +kernel
theorem dX3_setTurn_43 : decode cX3_setTurn 43 = .ok (.aload_n 0, 1) := by decide +kernel
theorem dX3_setTurn_44 : decode cX3_setTurn 44 = .ok (.getfield 21, 3) := by decide +kernel
theorem dX3_setTurn_47 : decode cX3_setTurn 47 = .ok (.iload_n 1, 1) := by decide +kernel
theorem dX3_setTurn_48 : decode cX3_setTurn 48 = .ok (.iload_n 2, 1) := by decide +kernel
theorem dX3_setTurn_49 : decode cX3_setTurn 49 = .ok (.invokevirtual 115, 3) := by decide +kernel
theorem dX3_setTurn_52 : decode cX3_setTurn 52 = .ok (.ireturn, 1) := by decide +kernel
theorem dX3_setUTurn_0 : decode cX3_setUTurn 0 = .ok (.iload_n 1, 1) := by decide +kernel
theorem dX3_setUTurn_1 : decode cX3_setUTurn 1 = .ok (.iconst (-1), 1) := by decide +kernel
theorem dX3_setUTurn_2 : decode cX3_setUTurn 2 = .ok (.if_icmp .lt 10, 3) := by decide +kernel
theorem dX3_setUTurn_5 : decode cX3_setUTurn 5 = .ok (.iload_n 1, 1) := by decide +kernel
theorem dX3_setUTurn_6 : decode cX3_setUTurn 6 = .ok (.sipush 1000, 3) := by decide +kernel
theorem dX3_setUTurn_9 : decode cX3_setUTurn 9 = .ok (.if_icmp .le 13, 3) := by decide +kernel
theorem dX3_setUTurn_12 : decode cX3_setUTurn 12 = .ok (.new 67, 3) := by decide +kernel
theorem dX3_setUTurn_15 : decode cX3_setUTurn 15 = .ok (.dup, 1) := by decide +kernel
theorem dX3_setUTurn_16 : decode cX3_setUTurn 16 = .ok (.ldc 118, 2) := by decide +kernel
theorem dX3_setUTurn_18 : decode cX3_setUTurn 18 = .ok (.invokespecial 71, 3) := by decide +kernel
theorem dX3_setUTurn_21 : decode cX3_setUTurn 21 = .ok (.athrow, 1) := by decide +kernel
theorem dX3_setUTurn_22 : decode cX3_setUTurn 22 = .ok (.aload_n 0, 1) := by decide +kernel
theorem dX3_setUTurn_23 : decode cX3_setUTurn 23 = .ok (.getfield 12, 3) := by decide +kernel
theorem dX3_setUTurn_26 : decode cX3_setUTurn 26 = .ok (.iload_n 1, 1) := by decide +kernel
theorem dX3_setUTurn_27 : decode cX3_setUTurn 27 = .ok (.putfield 120, 3) := by decide +kernel
theorem dX3_setUTurn_30 : decode cX3_setUTurn 30 = .ok (.aload_n 0, 1) := by decide +kernel
theorem dX3_setUTurn_31 : decode cX3_setUTurn 31 = .ok (.getfield 21, 3) := by decide +kernel
theorem dX3_setUTurn_34 : decode cX3_setUTurn 34 = .ok (.invokevirtual 123, 3) := by decide +kernel
theorem dX3_setUTurn_37 : decode cX3_setUTurn 37 = .ok (.ireturn, 1) := by decide +kernel
theorem dX3_prepare_0 : decode cX3_prepare 0 = .ok (.aload_n 0, 1) := by decide +kernel
theorem dX3_prepare_1 : decode cX3_prepare 1 = .ok (.getfield 12, 3) := by decide +kernel
theorem dX3_prepare_4 : decode cX3_prepare 4 = .ok (.getfield 75, 3) := by decide +kernel
theorem dX3_prepare_7 : decode cX3_prepare 7 = .ok (.ifCond .ne 13, 3) := by decide +kernel
theorem dX3_prepare_10 : decode cX3_prepare 10 = .ok (.new 56, 3) := by decide +kernel
theorem dX3_prepare_13 : decode cX3_prepare 13 = .ok (.dup, 1) := by decide +kernel
theorem dX3_prepare_14 : decode cX3_prepare 14 = .ok (.ldc 138, 2) := by decide +kernel
theorem dX3_prepare_16 : decode cX3_prepare 16 = .ok (.invokespecial 60, 3) := by decide +kernel
theorem dX3_prepare_19 : decode cX3_prepare 19 = .ok (.athrow, 1) := by decide +kernel
theorem dX3_prepare_20 : decode cX3_prepare 20 = .ok (.aload_n 0, 1) := by decide +kernel
theorem dX3_prepare_21 : decode cX3_prepare 21 = .ok (.getfield 21, 3) := by decide +kernel
theorem dX3_prepare_24 : decode cX3_prepare 24 = .ok (.getfield 80, 3) := by decide +kernel
theorem dX3_prepare_27 : decode cX3_prepare 27 = .ok (.ifCond .ne 10, 3) := by decide +kernel
theorem dX3_prepare_30 : decode cX3_prepare 30 = .ok (.aload_n 0, 1) := by decide +kernel
theorem dX3_prepare_31 : decode cX3_prepare 31 = .ok (.getfield 21, 3) := by decide +kernel
theorem dX3_prepare_34 : decode cX3_prepare 34 = .ok (.invokevirtual 140, 3) := by decide +kernel
theorem dX3_prepare_37 : decode cX3_prepare 37 = .ok (.aload_n 0, 1) := by decide +kernel
theorem dX3_prepare_38 : decode cX3_prepare 38 = .ok (.getfield 21, 3) := by decide +kernel
theorem dX3_prepare_41 : decode cX3_prepare 41 = .ok (.getfield 143, 3) := by decide +kernel
theorem dX3_prepare_44 : decode cX3_prepare 44 = .ok (.ireturn, 1) := by decide +kernel
theorem dX3_hasArc_0 : decode cX3_hasArc 0 = .ok (.aload_n 0, 1) := by decide +kernel
theorem dX3_hasArc_1 : decode cX3_hasArc 1 = .ok (.invokevirtual 146, 3) := by decide +kernel
theorem dX3_hasArc_4 : decode cX3_hasArc 4 = .ok (.aload_n 0, 1) := by decide +kernel
theorem dX3_hasArc_5 : decode cX3_hasArc 5 = .ok (.iload_n 1, 1) := by decide +kernel
theorem dX3_hasArc_6 : decode cX3_hasArc 6 = .ok (.invokevirtual 88, 3) := by decide +kernel
theorem dX3_hasArc_9 : decode cX3_hasArc 9 = .ok (.aload_n 0, 1) := by decide +kernel
theorem dX3_hasArc_10 : decode cX3_hasArc 10 = .ok (.iload_n 2, 1) := by decide +kernel
theorem dX3_hasArc_11 : decode cX3_hasArc 11 = .ok (.invokevirtual 88, 3) := by decide +kernel
theorem dX3_hasArc_14 : decode cX3_hasArc 14 = .ok (.aload_n 0, 1) := by decide +kernel
theorem dX3_hasArc_15 : decode cX3_hasArc 15 = .ok (.getfield 21, 3) := by decide +kernel
theorem dX3_hasArc_18 : decode cX3_hasArc 18 = .ok (.getfield 155, 3) := by decide +kernel
theorem dX3_hasArc_21 : decode cX3_hasArc 21 = .ok (.iload_n 1, 1) := by decide +kernel
theorem dX3_hasArc_22 : decode cX3_hasArc 22 = .ok (.laload, 1) := by decide +kernel
theorem dX3_hasArc_23 : decode cX3_hasArc 23 = .ok (.iload_n 2, 1) := by decide +kernel
theorem dX3_hasArc_24 : decode cX3_hasArc 24 = .ok (.invokestatic 131, 3) := by decide +kernel
theorem dX3_hasArc_27 : decode cX3_hasArc 27 = .ok (.ireturn, 1) := by decide +kernel
theorem dX3_arcCost_0 : decode cX3_arcCost 0 = .ok (.aload_n 0, 1) := by decide +kernel
theorem dX3_arcCost_1 : decode cX3_arcCost 1 = .ok (.invokevirtual 146, 3) := by decide +kernel
theorem dX3_arcCost_4 : decode cX3_arcCost 4 = .ok (.aload_n 0, 1) := by decide +kernel
theorem dX3_arcCost_5 : decode cX3_arcCost 5 = .ok (.iload_n 1, 1) := by decide +kernel
theorem dX3_arcCost_6 : decode cX3_arcCost 6 = .ok (.invokevirtual 88, 3) := by decide +kernel
theorem dX3_arcCost_9 : decode cX3_arcCost 9 = .ok (.aload_n 0, 1) := by decide +kernel
theorem dX3_arcCost_10 : decode cX3_arcCost 10 = .ok (.iload_n 2, 1) := by decide +kernel
theorem dX3_arcCost_11 : decode cX3_arcCost 11 = .ok (.invokevirtual 88, 3) := by decide +kernel
theorem dX3_arcCost_14 : decode cX3_arcCost 14 = .ok (.aload_n 0, 1) := by decide +kernel
theorem dX3_arcCost_15 : decode cX3_arcCost 15 = .ok (.getfield 21, 3) := by decide +kernel
theorem dX3_arcCost_18 : decode cX3_arcCost 18 = .ok (.getfield 155, 3) := by decide +kernel
theorem dX3_arcCost_21 : decode cX3_arcCost 21 = .ok (.iload_n 1, 1) := by decide +kernel
theorem dX3_arcCost_22 : decode cX3_arcCost 22 = .ok (.laload, 1) := by decide +kernel
theorem dX3_arcCost_23 : decode cX3_arcCost 23 = .ok (.iload_n 2, 1) := by decide +kernel
theorem dX3_arcCost_24 : decode cX3_arcCost 24 = .ok (.invokestatic 131, 3) := by decide +kernel
theorem dX3_arcCost_27 : decode cX3_arcCost 27 = .ok (.ifCond .ne 13, 3) := by decide +kernel
theorem dX3_arcCost_30 : decode cX3_arcCost 30 = .ok (.new 159, 3) := by decide +kernel
theorem dX3_arcCost_33 : decode cX3_arcCost 33 = .ok (.dup, 1) := by decide +kernel
theorem dX3_arcCost_34 : decode cX3_arcCost 34 = .ok (.ldc 161, 2) := by decide +kernel
theorem dX3_arcCost_36 : decode cX3_arcCost 36 = .ok (.invokespecial 163, 3) := by decide +kernel
theorem dX3_arcCost_39 : decode cX3_arcCost 39 = .ok (.athrow, 1) := by decide +kernel
theorem dX3_arcCost_40 : decode cX3_arcCost 40 = .ok (.aload_n 0, 1) := by decide +kernel
theorem dX3_arcCost_41 : decode cX3_arcCost 41 = .ok (.getfield 21, 3) := by decide +kernel
theorem dX3_arcCost_44 : decode cX3_arcCost 44 = .ok (.getfield 164, 3) := by decide +kernel
theorem dX3_arcCost_47 : decode cX3_arcCost 47 = .ok (.iload_n 1, 1) := by decide +kernel
theorem dX3_arcCost_48 : decode cX3_arcCost 48 = .ok (.iload_n 2, 1) := by decide +kernel
theorem dX3_arcCost_49 : decode cX3_arcCost 49 = .ok (.invokestatic 111, 3) := by decide +kernel
theorem dX3_arcCost_52 : decode cX3_arcCost 52 = .ok (.iaload, 1) := by decide +kernel
theorem dX3_arcCost_53 : decode cX3_arcCost 53 = .ok (.invokestatic 165, 3) := by decide +kernel
theorem dX3_arcCost_56 : decode cX3_arcCost 56 = .ok (.ireturn, 1) := by decide +kernel
theorem dX3_distance_0 : decode cX3_distance 0 = .ok (.aload_n 0, 1) := by decide +kernel
theorem dX3_distance_1 : decode cX3_distance 1 = .ok (.invokevirtual 146, 3) := by decide +kernel
theorem dX3_distance_4 : decode cX3_distance 4 = .ok (.aload_n 0, 1) := by decide +kernel
theorem dX3_distance_5 : decode cX3_distance 5 = .ok (.iload_n 1, 1) := by decide +kernel
theorem dX3_distance_6 : decode cX3_distance 6 = .ok (.invokevirtual 63, 3) := by decide +kernel
theorem dX3_distance_9 : decode cX3_distance 9 = .ok (.aload_n 0, 1) := by decide +kernel
theorem dX3_distance_10 : decode cX3_distance 10 = .ok (.iload_n 2, 1) := by decide +kernel
theorem dX3_distance_11 : decode cX3_distance 11 = .ok (.invokevirtual 63, 3) := by decide +kernel
theorem dX3_distance_14 : decode cX3_distance 14 = .ok (.aload_n 0, 1) := by decide +kernel
theorem dX3_distance_15 : decode cX3_distance 15 = .ok (.iload_n 1, 1) := by decide +kernel
theorem dX3_distance_16 : decode cX3_distance 16 = .ok (.iload_n 2, 1) := by decide +kernel
theorem dX3_distance_17 : decode cX3_distance 17 = .ok (.invokevirtual 168, 3) := by decide +kernel
theorem dX3_distance_20 : decode cX3_distance 20 = .ok (.ireturn, 1) := by decide +kernel
theorem dX3_requireJunction_0 : decode cX3_requireJunction 0 = .ok (.iload_n 1, 1) := by decide +kernel
theorem dX3_requireJunction_1 : decode cX3_requireJunction 1 = .ok (.ifCond .lt 14, 3) := by decide +kernel
theorem dX3_requireJunction_4 : decode cX3_requireJunction 4 = .ok (.iload_n 1, 1) := by decide +kernel
theorem dX3_requireJunction_5 : decode cX3_requireJunction 5 = .ok (.aload_n 0, 1) := by decide +kernel
theorem dX3_requireJunction_6 : decode cX3_requireJunction 6 = .ok (.getfield 12, 3) := by decide +kernel
theorem dX3_requireJunction_9 : decode cX3_requireJunction 9 = .ok (.getfield 52, 3) := by decide +kernel
theorem dX3_requireJunction_12 : decode cX3_requireJunction 12 = .ok (.if_icmp .lt 13, 3) := by decide +kernel
theorem dX3_requireJunction_15 : decode cX3_requireJunction 15 = .ok (.new 204, 3) := by decide +kernel
theorem dX3_requireJunction_18 : decode cX3_requireJunction 18 = .ok (.dup, 1) := by decide +kernel
theorem dX3_requireJunction_19 : decode cX3_requireJunction 19 = .ok (.ldc 251, 2) := by decide +kernel
theorem dX3_requireJunction_21 : decode cX3_requireJunction 21 = .ok (.invokespecial 208, 3) := by decide +kernel
theorem dX3_requireJunction_24 : decode cX3_requireJunction 24 = .ok (.athrow, 1) := by decide +kernel
theorem dX3_requireJunction_25 : decode cX3_requireJunction 25 = .ok (.return_, 1) := by decide +kernel
theorem dX3_requireRoad_0 : decode cX3_requireRoad 0 = .ok (.iload_n 1, 1) := by decide +kernel
theorem dX3_requireRoad_1 : decode cX3_requireRoad 1 = .ok (.ifCond .lt 14, 3) := by decide +kernel
theorem dX3_requireRoad_4 : decode cX3_requireRoad 4 = .ok (.iload_n 1, 1) := by decide +kernel
theorem dX3_requireRoad_5 : decode cX3_requireRoad 5 = .ok (.aload_n 0, 1) := by decide +kernel
theorem dX3_requireRoad_6 : decode cX3_requireRoad 6 = .ok (.getfield 12, 3) := by decide +kernel
theorem dX3_requireRoad_9 : decode cX3_requireRoad 9 = .ok (.getfield 75, 3) := by decide +kernel
theorem dX3_requireRoad_12 : decode cX3_requireRoad 12 = .ok (.if_icmp .lt 13, 3) := by decide +kernel
theorem dX3_requireRoad_15 : decode cX3_requireRoad 15 = .ok (.new 204, 3) := by decide +kernel
theorem dX3_requireRoad_18 : decode cX3_requireRoad 18 = .ok (.dup, 1) := by decide +kernel
theorem dX3_requireRoad_19 : decode cX3_requireRoad 19 = .ok (.ldc 253, 2) := by decide +kernel
theorem dX3_requireRoad_21 : decode cX3_requireRoad 21 = .ok (.invokespecial 208, 3) := by decide +kernel
theorem dX3_requireRoad_24 : decode cX3_requireRoad 24 = .ok (.athrow, 1) := by decide +kernel
theorem dX3_requireRoad_25 : decode cX3_requireRoad 25 = .ok (.return_, 1) := by decide +kernel
theorem dX3_requireTurn_0 : decode cX3_requireTurn 0 = .ok (.aload_n 0, 1) := by decide +kernel
theorem dX3_requireTurn_1 : decode cX3_requireTurn 1 = .ok (.iload_n 1, 1) := by decide +kernel
theorem dX3_requireTurn_2 : decode cX3_requireTurn 2 = .ok (.invokevirtual 88, 3) := by decide +kernel
theorem dX3_requireTurn_5 : decode cX3_requireTurn 5 = .ok (.aload_n 0, 1) := by decide +kernel
theorem dX3_requireTurn_6 : decode cX3_requireTurn 6 = .ok (.iload_n 2, 1) := by decide +kernel
theorem dX3_requireTurn_7 : decode cX3_requireTurn 7 = .ok (.invokevirtual 88, 3) := by decide +kernel
theorem dX3_requireTurn_10 : decode cX3_requireTurn 10 = .ok (.aload_n 0, 1) := by decide +kernel
theorem dX3_requireTurn_11 : decode cX3_requireTurn 11 = .ok (.getfield 12, 3) := by decide +kernel
theorem dX3_requireTurn_14 : decode cX3_requireTurn 14 = .ok (.getfield 255, 3) := by decide +kernel
theorem dX3_requireTurn_17 : decode cX3_requireTurn 17 = .ok (.iload_n 1, 1) := by decide +kernel
theorem dX3_requireTurn_18 : decode cX3_requireTurn 18 = .ok (.iaload, 1) := by decide +kernel
theorem dX3_requireTurn_19 : decode cX3_requireTurn 19 = .ok (.aload_n 0, 1) := by decide +kernel
theorem dX3_requireTurn_20 : decode cX3_requireTurn 20 = .ok (.getfield 12, 3) := by decide +kernel
theorem dX3_requireTurn_23 : decode cX3_requireTurn 23 = .ok (.getfield 258, 3) := by decide +kernel
theorem dX3_requireTurn_26 : decode cX3_requireTurn 26 = .ok (.iload_n 2, 1) := by decide +kernel
theorem dX3_requireTurn_27 : decode cX3_requireTurn 27 = .ok (.iaload, 1) := by decide +kernel
theorem dX3_requireTurn_28 : decode cX3_requireTurn 28 = .ok (.if_icmp .eq 14, 3) := by decide +kernel
theorem dX3_requireTurn_31 : decode cX3_requireTurn 31 = .ok (.new 67, 3) := by decide +kernel
theorem dX3_requireTurn_34 : decode cX3_requireTurn 34 = .ok (.dup, 1) := by decide +kernel
theorem dX3_requireTurn_35 : decode cX3_requireTurn 35 = .ok (.ldc_w 261, 3) := by decide +kernel
theorem dX3_requireTurn_38 : decode cX3_requireTurn 38 = .ok (.invokespecial 71, 3) := by decide +kernel
theorem dX3_requireTurn_41 : decode cX3_requireTurn 41 = .ok (.athrow, 1) := by decide +kernel
theorem dX3_requireTurn_42 : decode cX3_requireTurn 42 = .ok (.return_, 1) := by decide +kernel
theorem dX3_requireWeight_0 : decode cX3_requireWeight 0 = .ok (.iload_n 1, 1) := by decide +kernel
theorem dX3_requireWeight_1 : decode cX3_requireWeight 1 = .ok (.iconst 1, 1) := by decide +kernel
theorem dX3_requireWeight_2 : decode cX3_requireWeight 2 = .ok (.if_icmp .lt 10, 3) := by decide +kernel
theorem dX3_requireWeight_5 : decode cX3_requireWeight 5 = .ok (.iload_n 1, 1) := by decide +kernel
theorem dX3_requireWeight_6 : decode cX3_requireWeight 6 = .ok (.sipush 10000, 3) := by decide +kernel
theorem dX3_requireWeight_9 : decode cX3_requireWeight 9 = .ok (.if_icmp .le 14, 3) := by decide +kernel
theorem dX3_requireWeight_12 : decode cX3_requireWeight 12 = .ok (.new 67, 3) := by decide +kernel
theorem dX3_requireWeight_15 : decode cX3_requireWeight 15 = .ok (.dup, 1) := by decide +kernel
theorem dX3_requireWeight_16 : decode cX3_requireWeight 16 = .ok (.ldc_w 265, 3) := by decide +kernel
theorem dX3_requireWeight_19 : decode cX3_requireWeight 19 = .ok (.invokespecial 71, 3) := by decide +kernel
theorem dX3_requireWeight_22 : decode cX3_requireWeight 22 = .ok (.athrow, 1) := by decide +kernel
theorem dX3_requireWeight_23 : decode cX3_requireWeight 23 = .ok (.return_, 1) := by decide +kernel
theorem dX3_requireHierarchy_0 : decode cX3_requireHierarchy 0 = .ok (.aload_n 0, 1) := by decide +kernel
theorem dX3_requireHierarchy_1 : decode cX3_requireHierarchy 1 = .ok (.getfield 21, 3) := by decide +kernel
theorem dX3_requireHierarchy_4 : decode cX3_requireHierarchy 4 = .ok (.getfield 80, 3) := by decide +kernel
theorem dX3_requireHierarchy_7 : decode cX3_requireHierarchy 7 = .ok (.ifCond .ne 14, 3) := by decide +kernel
theorem dX3_requireHierarchy_10 : decode cX3_requireHierarchy 10 = .ok (.new 56, 3) := by decide +kernel
theorem dX3_requireHierarchy_13 : decode cX3_requireHierarchy 13 = .ok (.dup, 1) := by decide +kernel
theorem dX3_requireHierarchy_14 : decode cX3_requireHierarchy 14 = .ok (.ldc_w 267, 3) := by decide +kernel
theorem dX3_requireHierarchy_17 : decode cX3_requireHierarchy 17 = .ok (.invokespecial 60, 3) := by decide +kernel
theorem dX3_requireHierarchy_20 : decode cX3_requireHierarchy 20 = .ok (.athrow, 1) := by decide +kernel
theorem dX3_requireHierarchy_21 : decode cX3_requireHierarchy 21 = .ok (.return_, 1) := by decide +kernel
theorem dX3_searchFrom_0 : decode cX3_searchFrom 0 = .ok (.aload_n 0, 1) := by decide +kernel
theorem dX3_searchFrom_1 : decode cX3_searchFrom 1 = .ok (.getfield 36, 3) := by decide +kernel
theorem dX3_searchFrom_4 : decode cX3_searchFrom 4 = .ok (.ldc 171, 2) := by decide +kernel
theorem dX3_searchFrom_6 : decode cX3_searchFrom 6 = .ok (.invokestatic 172, 3) := by decide +kernel
theorem dX3_searchFrom_9 : decode cX3_searchFrom 9 = .ok (.aload_n 0, 1) := by decide +kernel
theorem dX3_searchFrom_10 : decode cX3_searchFrom 10 = .ok (.getfield 12, 3) := by decide +kernel
theorem dX3_searchFrom_13 : decode cX3_searchFrom 13 = .ok (.getfield 269, 3) := by decide +kernel
theorem dX3_searchFrom_16 : decode cX3_searchFrom 16 = .ok (.iload_n 1, 1) := by decide +kernel
theorem dX3_searchFrom_17 : decode cX3_searchFrom 17 = .ok (.laload, 1) := by decide +kernel
theorem dX3_searchFrom_18 : decode cX3_searchFrom 18 = .ok (.aload_n 0, 1) := by decide +kernel
theorem dX3_searchFrom_19 : decode cX3_searchFrom 19 = .ok (.getfield 12, 3) := by decide +kernel
theorem dX3_searchFrom_22 : decode cX3_searchFrom 22 = .ok (.getfield 127, 3) := by decide +kernel
theorem dX3_searchFrom_25 : decode cX3_searchFrom 25 = .ok (.land, 1) := by decide +kernel
theorem dX3_searchFrom_26 : decode cX3_searchFrom 26 = .ok (.lstore_n 2, 1) := by decide +kernel
theorem dX3_searchFrom_27 : decode cX3_searchFrom 27 = .ok (.iconst 0, 1) := by decide +kernel
theorem dX3_searchFrom_28 : decode cX3_searchFrom 28 = .ok (.istore 4, 2) := by decide +kernel
theorem dX3_searchFrom_30 : decode cX3_searchFrom 30 = .ok (.iload 4, 2) := by decide +kernel
theorem dX3_searchFrom_32 : decode cX3_searchFrom 32 = .ok (.aload_n 0, 1) := by decide +kernel
theorem dX3_searchFrom_33 : decode cX3_searchFrom 33 = .ok (.getfield 12, 3) := by decide +kernel
theorem dX3_searchFrom_36 : decode cX3_searchFrom 36 = .ok (.getfield 75, 3) := by decide +kernel
theorem dX3_searchFrom_39 : decode cX3_searchFrom 39 = .ok (.if_icmp .ge 34, 3) := by decide +kernel
theorem dX3_searchFrom_42 : decode cX3_searchFrom 42 = .ok (.lload_n 2, 1) := by decide +kernel
theorem dX3_searchFrom_43 : decode cX3_searchFrom 43 = .ok (.iload 4, 2) := by decide +kernel
theorem dX3_searchFrom_45 : decode cX3_searchFrom 45 = .ok (.invokestatic 131, 3) := by decide +kernel
theorem dX3_searchFrom_48 : decode cX3_searchFrom 48 = .ok (.ifCond .eq 19, 3) := by decide +kernel
theorem dX3_searchFrom_51 : decode cX3_searchFrom 51 = .ok (.aload_n 0, 1) := by decide +kernel
theorem dX3_searchFrom_52 : decode cX3_searchFrom 52 = .ok (.getfield 36, 3) := by decide +kernel
theorem dX3_searchFrom_55 : decode cX3_searchFrom 55 = .ok (.iload 4, 2) := by decide +kernel
theorem dX3_searchFrom_57 : decode cX3_searchFrom 57 = .ok (.aload_n 0, 1) := by decide +kernel
theorem dX3_searchFrom_58 : decode cX3_searchFrom 58 = .ok (.getfield 12, 3) := by decide +kernel
theorem dX3_searchFrom_61 : decode cX3_searchFrom 61 = .ok (.iload 4, 2) := by decide +kernel
theorem dX3_searchFrom_63 : decode cX3_searchFrom 63 = .ok (.invokevirtual 198, 3) := by decide +kernel
theorem dX3_searchFrom_66 : decode cX3_searchFrom 66 = .ok (.iastore, 1) := by decide +kernel
theorem dX3_searchFrom_67 : decode cX3_searchFrom 67 = .ok (.iinc 4 1, 3) := by decide +kernel
theorem dX3_searchFrom_70 : decode cX3_searchFrom 70 = .ok (.goto (-40), 3) := by decide +kernel
theorem dX3_searchFrom_73 : decode cX3_searchFrom 73 = .ok (.aload_n 0, 1) := by decide +kernel
theorem dX3_searchFrom_74 : decode cX3_searchFrom 74 = .ok (.invokevirtual 178, 3) := by decide +kernel
theorem dX3_searchFrom_77 : decode cX3_searchFrom 77 = .ok (.aload_n 0, 1) := by decide +kernel
theorem dX3_searchFrom_78 : decode cX3_searchFrom 78 = .ok (.getfield 40, 3) := by decide +kernel
theorem dX3_searchFrom_81 : decode cX3_searchFrom 81 = .ok (.iload_n 1, 1) := by decide +kernel
theorem dX3_searchFrom_82 : decode cX3_searchFrom 82 = .ok (.iconst 0, 1) := by decide +kernel
theorem dX3_searchFrom_83 : decode cX3_searchFrom 83 = .ok (.iastore, 1) := by decide +kernel
theorem dX3_searchFrom_84 : decode cX3_searchFrom 84 = .ok (.return_, 1) := by decide +kernel
theorem dX3_spreadToJunctions_0 : decode cX3_spreadToJunctions 0 = .ok (.aload_n 0, 1) := by decide +kernel
theorem dX3_spreadToJunctions_1 : decode cX3_spreadToJunctions 1 = .ok (.getfield 21, 3) := by decide +kernel
theorem dX3_spreadToJunctions_4 : decode cX3_spreadToJunctions 4 = .ok (.aload_n 0, 1) := by decide +kernel
theorem dX3_spreadToJunctions_5 : decode cX3_spreadToJunctions 5 = .ok (.getfield 36, 3) := by decide +kernel
theorem dX3_spreadToJunctions_8 : decode cX3_spreadToJunctions 8 = .ok (.invokevirtual 272, 3) := by decide +kernel
theorem dX3_spreadToJunctions_11 : decode cX3_spreadToJunctions 11 = .ok (.aload_n 0, 1) := by decide +kernel
theorem dX3_spreadToJunctions_12 : decode cX3_spreadToJunctions 12 = .ok (.getfield 40, 3) := by decide +kernel
theorem dX3_spreadToJunctions_15 : decode cX3_spreadToJunctions 15 = .ok (.ldc 171, 2) := by decide +kernel
theorem dX3_spreadToJunctions_17 : decode cX3_spreadToJunctions 17 = .ok (.invokestatic 172, 3) := by decide +kernel
theorem dX3_spreadToJunctions_20 : decode cX3_spreadToJunctions 20 = .ok (.iconst 0, 1) := by decide +kernel
theorem dX3_spreadToJunctions_21 : decode cX3_spreadToJunctions 21 = .ok (.istore_n 1, 1) := by decide +kernel
theorem dX3_spreadToJunctions_22 : decode cX3_spreadToJunctions 22 = .ok (.iload_n 1, 1) := by decide +kernel
theorem dX3_spreadToJunctions_23 : decode cX3_spreadToJunctions 23 = .ok (.aload_n 0, 1) := by decide +kernel
theorem dX3_spreadToJunctions_24 : decode cX3_spreadToJunctions 24 = .ok (.getfield 12, 3) := by decide +kernel
theorem dX3_spreadToJunctions_27 : decode cX3_spreadToJunctions 27 = .ok (.getfield 75, 3) := by decide +kernel
theorem dX3_spreadToJunctions_30 : decode cX3_spreadToJunctions 30 = .ok (.if_icmp .ge 40, 3) := by decide +kernel
theorem dX3_spreadToJunctions_33 : decode cX3_spreadToJunctions 33 = .ok (.aload_n 0, 1) := by decide +kernel
theorem dX3_spreadToJunctions_34 : decode cX3_spreadToJunctions 34 = .ok (.getfield 12, 3) := by decide +kernel
theorem dX3_spreadToJunctions_37 : decode cX3_spreadToJunctions 37 = .ok (.getfield 255, 3) := by decide +kernel
theorem dX3_spreadToJunctions_40 : decode cX3_spreadToJunctions 40 = .ok (.iload_n 1, 1) := by decide +kernel
theorem dX3_spreadToJunctions_41 : decode cX3_spreadToJunctions 41 = .ok (.iaload, 1) := by decide +kernel
theorem dX3_spreadToJunctions_42 : decode cX3_spreadToJunctions 42 = .ok (.istore_n 2, 1) := by decide +kernel
theorem dX3_spreadToJunctions_43 : decode cX3_spreadToJunctions 43 = .ok (.aload_n 0, 1) := by decide +kernel
theorem dX3_spreadToJunctions_44 : decode cX3_spreadToJunctions 44 = .ok (.getfield 40, 3) := by decide +kernel
theorem dX3_spreadToJunctions_47 : decode cX3_spreadToJunctions 47 = .ok (.iload_n 2, 1) := by decide +kernel
theorem dX3_spreadToJunctions_48 : decode cX3_spreadToJunctions 48 = .ok (.aload_n 0, 1) := by decide +kernel
theorem dX3_spreadToJunctions_49 : decode cX3_spreadToJunctions 49 = .ok (.getfield 40, 3) := by decide +kernel
theorem dX3_spreadToJunctions_52 : decode cX3_spreadToJunctions 52 = .ok (.iload_n 2, 1) := by decide +kernel
theorem dX3_spreadToJunctions_53 : decode cX3_spreadToJunctions 53 = .ok (.iaload, 1) := by decide +kernel
theorem dX3_spreadToJunctions_54 : decode cX3_spreadToJunctions 54 = .ok (.aload_n 0, 1) := by decide +kernel
theorem dX3_spreadToJunctions_55 : decode cX3_spreadToJunctions 55 = .ok (.getfield 36, 3) := by decide +kernel
theorem dX3_spreadToJunctions_58 : decode cX3_spreadToJunctions 58 = .ok (.iload_n 1, 1) := by decide +kernel
theorem dX3_spreadToJunctions_59 : decode cX3_spreadToJunctions 59 = .ok (.iaload, 1) := by decide +kernel
theorem dX3_spreadToJunctions_60 : decode cX3_spreadToJunctions 60 = .ok (.invokestatic 276, 3) := by decide +kernel
theorem dX3_spreadToJunctions_63 : decode cX3_spreadToJunctions 63 = .ok (.iastore, 1) := by decide +kernel
theorem dX3_spreadToJunctions_64 : decode cX3_spreadToJunctions 64 = .ok (.iinc 1 1, 3) := by decide +kernel
theorem dX3_spreadToJunctions_67 : decode cX3_spreadToJunctions 67 = .ok (.goto (-45), 3) := by decide +kernel
theorem dX3_spreadToJunctions_70 : decode cX3_spreadToJunctions 70 = .ok (.return_, 1) := by decide +kernel
theorem dX3_foundCost_0 : decode cX3_foundCost 0 = .ok (.aload_n 0, 1) := by decide +kernel
theorem dX3_foundCost_1 : decode cX3_foundCost 1 = .ok (.getfield 40, 3) := by decide +kernel
theorem dX3_foundCost_4 : decode cX3_foundCost 4 = .ok (.iload_n 1, 1) := by decide +kernel
theorem dX3_foundCost_5 : decode cX3_foundCost 5 = .ok (.iaload, 1) := by decide +kernel
theorem dX3_foundCost_6 : decode cX3_foundCost 6 = .ok (.invokestatic 165, 3) := by decide +kernel
theorem dX3_foundCost_9 : decode cX3_foundCost 9 = .ok (.ireturn, 1) := by decide +kernel
theorem dX3_costBetween_0 : decode cX3_costBetween 0 = .ok (.aload_n 0, 1) := by decide +kernel
theorem dX3_costBetween_1 : decode cX3_costBetween 1 = .ok (.iload_n 1, 1) := by decide +kernel
theorem dX3_costBetween_2 : decode cX3_costBetween 2 = .ok (.invokevirtual 211, 3) := by decide +kernel
theorem dX3_costBetween_5 : decode cX3_costBetween 5 = .ok (.aload_n 0, 1) := by decide +kernel
theorem dX3_costBetween_6 : decode cX3_costBetween 6 = .ok (.iload_n 2, 1) := by decide +kernel
theorem dX3_costBetween_7 : decode cX3_costBetween 7 = .ok (.invokevirtual 181, 3) := by decide +kernel
theorem dX3_costBetween_10 : decode cX3_costBetween 10 = .ok (.ireturn, 1) := by decide +kernel
theorem dX3_costOf_0 : decode cX3_costOf 0 = .ok (.iload_n 0, 1) := by decide +kernel
theorem dX3_costOf_1 : decode cX3_costOf 1 = .ok (.ldc 171, 2) := by decide +kernel
theorem dX3_costOf_3 : decode cX3_costOf 3 = .ok (.if_icmp .lt 7, 3) := by decide +kernel
theorem dX3_costOf_6 : decode cX3_costOf 6 = .ok (.iconst (-1), 1) := by decide +kernel
theorem dX3_costOf_7 : decode cX3_costOf 7 = .ok (.goto 7, 3) := by decide +kernel
theorem dX3_costOf_10 : decode cX3_costOf 10 = .ok (.iload_n 0, 1) := by decide +kernel
theorem dX3_costOf_11 : decode cX3_costOf 11 = .ok (.bipush 7, 2) := by decide +kernel
theorem dX3_costOf_13 : decode cX3_costOf 13 = .ok (.ishr, 1) := by decide +kernel
theorem dX3_costOf_14 : decode cX3_costOf 14 = .ok (.ireturn, 1) := by decide +kernel
theorem dX3_pair_0 : decode cX3_pair 0 = .ok (.iload_n 0, 1) := by decide +kernel
theorem dX3_pair_1 : decode cX3_pair 1 = .ok (.bipush 64, 2) := by decide +kernel
theorem dX3_pair_3 : decode cX3_pair 3 = .ok (.imul, 1) := by decide +kernel
theorem dX3_pair_4 : decode cX3_pair 4 = .ok (.iload_n 1, 1) := by decide +kernel
theorem dX3_pair_5 : decode cX3_pair 5 = .ok (.iadd, 1) := by decide +kernel
theorem dX3_pair_6 : decode cX3_pair 6 = .ok (.ireturn, 1) := by decide +kernel
theorem dX3_only_0 : decode cX3_only 0 = .ok (.lconst 1, 1) := by decide +kernel
theorem dX3_only_1 : decode cX3_only 1 = .ok (.iload_n 0, 1) := by decide +kernel
theorem dX3_only_2 : decode cX3_only 2 = .ok (.lshl, 1) := by decide +kernel
theorem dX3_only_3 : decode cX3_only 3 = .ok (.lreturn, 1) := by decide +kernel
theorem dX3_has_0 : decode cX3_has 0 = .ok (.lload_n 0, 1) := by decide +kernel
theorem dX3_has_1 : decode cX3_has 1 = .ok (.iload_n 2, 1) := by decide +kernel
theorem dX3_has_2 : decode cX3_has 2 = .ok (.lshr, 1) := by decide +kernel
theorem dX3_has_3 : decode cX3_has 3 = .ok (.lconst 1, 1) := by decide +kernel
theorem dX3_has_4 : decode cX3_has 4 = .ok (.land, 1) := by decide +kernel
theorem dX3_has_5 : decode cX3_has 5 = .ok (.lconst 0, 1) := by decide +kernel
theorem dX3_has_6 : decode cX3_has 6 = .ok (.lcmp, 1) := by decide +kernel
theorem dX3_has_7 : decode cX3_has 7 = .ok (.ifCond .eq 7, 3) := by decide +kernel
theorem dX3_has_10 : decode cX3_has 10 = .ok (.iconst 1, 1) := by decide +kernel
theorem dX3_has_11 : decode cX3_has 11 = .ok (.goto 4, 3) := by decide +kernel
theorem dX3_has_14 : decode cX3_has 14 = .ok (.iconst 0, 1) := by decide +kernel
theorem dX3_has_15 : decode cX3_has 15 = .ok (.ireturn, 1) := by decide +kernel
theorem dJ13_bitCount_95d88_0 : decode cJ13_bitCount_95d88 0 = .ok (.lload_n 0, 1) := by decide +kernel
theorem dJ13_bitCount_95d88_1 : decode cJ13_bitCount_95d88 1 = .ok (.lload_n 0, 1) := by decide +kernel
theorem dJ13_bitCount_95d88_2 : decode cJ13_bitCount_95d88 2 = .ok (.iconst 1, 1) := by decide +kernel
theorem dJ13_bitCount_95d88_3 : decode cJ13_bitCount_95d88 3 = .ok (.lushr, 1) := by decide +kernel
theorem dJ13_bitCount_95d88_4 : decode cJ13_bitCount_95d88 4 = .ok (.ldc2_w 314, 3) := by decide +kernel
theorem dJ13_bitCount_95d88_7 : decode cJ13_bitCount_95d88 7 = .ok (.land, 1) := by decide +kernel
theorem dJ13_bitCount_95d88_8 : decode cJ13_bitCount_95d88 8 = .ok (.lsub, 1) := by decide +kernel
theorem dJ13_bitCount_95d88_9 : decode cJ13_bitCount_95d88 9 = .ok (.lstore_n 0, 1) := by decide +kernel
theorem dJ13_bitCount_95d88_10 : decode cJ13_bitCount_95d88 10 = .ok (.lload_n 0, 1) := by decide +kernel
theorem dJ13_bitCount_95d88_11 : decode cJ13_bitCount_95d88 11 = .ok (.ldc2_w 316, 3) := by decide +kernel
theorem dJ13_bitCount_95d88_14 : decode cJ13_bitCount_95d88 14 = .ok (.land, 1) := by decide +kernel
theorem dJ13_bitCount_95d88_15 : decode cJ13_bitCount_95d88 15 = .ok (.lload_n 0, 1) := by decide +kernel
theorem dJ13_bitCount_95d88_16 : decode cJ13_bitCount_95d88 16 = .ok (.iconst 2, 1) := by decide +kernel
theorem dJ13_bitCount_95d88_17 : decode cJ13_bitCount_95d88 17 = .ok (.lushr, 1) := by decide +kernel
theorem dJ13_bitCount_95d88_18 : decode cJ13_bitCount_95d88 18 = .ok (.ldc2_w 316, 3) := by decide +kernel
theorem dJ13_bitCount_95d88_21 : decode cJ13_bitCount_95d88 21 = .ok (.land, 1) := by decide +kernel
theorem dJ13_bitCount_95d88_22 : decode cJ13_bitCount_95d88 22 = .ok (.ladd, 1) := by decide +kernel
theorem dJ13_bitCount_95d88_23 : decode cJ13_bitCount_95d88 23 = .ok (.lstore_n 0, 1) := by decide +kernel
theorem dJ13_bitCount_95d88_24 : decode cJ13_bitCount_95d88 24 = .ok (.lload_n 0, 1) := by decide +kernel
theorem dJ13_bitCount_95d88_25 : decode cJ13_bitCount_95d88 25 = .ok (.lload_n 0, 1) := by decide +kernel
theorem dJ13_bitCount_95d88_26 : decode cJ13_bitCount_95d88 26 = .ok (.iconst 4, 1) := by decide +kernel
theorem dJ13_bitCount_95d88_27 : decode cJ13_bitCount_95d88 27 = .ok (.lushr, 1) := by decide +kernel
theorem dJ13_bitCount_95d88_28 : decode cJ13_bitCount_95d88 28 = .ok (.ladd, 1) := by decide +kernel
theorem dJ13_bitCount_95d88_29 : decode cJ13_bitCount_95d88 29 = .ok (.ldc2_w 318, 3) := by decide +kernel
theorem dJ13_bitCount_95d88_32 : decode cJ13_bitCount_95d88 32 = .ok (.land, 1) := by decide +kernel
theorem dJ13_bitCount_95d88_33 : decode cJ13_bitCount_95d88 33 = .ok (.lstore_n 0, 1) := by decide +kernel
theorem dJ13_bitCount_95d88_34 : decode cJ13_bitCount_95d88 34 = .ok (.lload_n 0, 1) := by decide +kernel
theorem dJ13_bitCount_95d88_35 : decode cJ13_bitCount_95d88 35 = .ok (.lload_n 0, 1) := by decide +kernel
theorem dJ13_bitCount_95d88_36 : decode cJ13_bitCount_95d88 36 = .ok (.bipush 8, 2) := by decide +kernel
theorem dJ13_bitCount_95d88_38 : decode cJ13_bitCount_95d88 38 = .ok (.lushr, 1) := by decide +kernel
theorem dJ13_bitCount_95d88_39 : decode cJ13_bitCount_95d88 39 = .ok (.ladd, 1) := by decide +kernel
theorem dJ13_bitCount_95d88_40 : decode cJ13_bitCount_95d88 40 = .ok (.lstore_n 0, 1) := by decide +kernel
theorem dJ13_bitCount_95d88_41 : decode cJ13_bitCount_95d88 41 = .ok (.lload_n 0, 1) := by decide +kernel
theorem dJ13_bitCount_95d88_42 : decode cJ13_bitCount_95d88 42 = .ok (.lload_n 0, 1) := by decide +kernel
theorem dJ13_bitCount_95d88_43 : decode cJ13_bitCount_95d88 43 = .ok (.bipush 16, 2) := by decide +kernel
theorem dJ13_bitCount_95d88_45 : decode cJ13_bitCount_95d88 45 = .ok (.lushr, 1) := by decide +kernel
theorem dJ13_bitCount_95d88_46 : decode cJ13_bitCount_95d88 46 = .ok (.ladd, 1) := by decide +kernel
theorem dJ13_bitCount_95d88_47 : decode cJ13_bitCount_95d88 47 = .ok (.lstore_n 0, 1) := by decide +kernel
theorem dJ13_bitCount_95d88_48 : decode cJ13_bitCount_95d88 48 = .ok (.lload_n 0, 1) := by decide +kernel
theorem dJ13_bitCount_95d88_49 : decode cJ13_bitCount_95d88 49 = .ok (.lload_n 0, 1) := by decide +kernel
theorem dJ13_bitCount_95d88_50 : decode cJ13_bitCount_95d88 50 = .ok (.bipush 32, 2) := by decide +kernel
theorem dJ13_bitCount_95d88_52 : decode cJ13_bitCount_95d88 52 = .ok (.lushr, 1) := by decide +kernel
theorem dJ13_bitCount_95d88_53 : decode cJ13_bitCount_95d88 53 = .ok (.ladd, 1) := by decide +kernel
theorem dJ13_bitCount_95d88_54 : decode cJ13_bitCount_95d88 54 = .ok (.lstore_n 0, 1) := by decide +kernel
theorem dJ13_bitCount_95d88_55 : decode cJ13_bitCount_95d88 55 = .ok (.lload_n 0, 1) := by decide +kernel
theorem dJ13_bitCount_95d88_56 : decode cJ13_bitCount_95d88 56 = .ok (.l2i, 1) := by decide +kernel
theorem dJ13_bitCount_95d88_57 : decode cJ13_bitCount_95d88 57 = .ok (.bipush 127, 2) := by decide +kernel
theorem dJ13_bitCount_95d88_59 : decode cJ13_bitCount_95d88 59 = .ok (.iand, 1) := by decide +kernel
theorem dJ13_bitCount_95d88_60 : decode cJ13_bitCount_95d88 60 = .ok (.ireturn, 1) := by decide +kernel
theorem dJ9_min_7cf53_0 : decode cJ9_min_7cf53 0 = .ok (.iload_n 0, 1) := by decide +kernel
theorem dJ9_min_7cf53_1 : decode cJ9_min_7cf53 1 = .ok (.iload_n 1, 1) := by decide +kernel
theorem dJ9_min_7cf53_2 : decode cJ9_min_7cf53 2 = .ok (.if_icmp .gt 7, 3) := by decide +kernel
theorem dJ9_min_7cf53_5 : decode cJ9_min_7cf53 5 = .ok (.iload_n 0, 1) := by decide +kernel
theorem dJ9_min_7cf53_6 : decode cJ9_min_7cf53 6 = .ok (.goto 4, 3) := by decide +kernel
theorem dJ9_min_7cf53_9 : decode cJ9_min_7cf53 9 = .ok (.iload_n 1, 1) := by decide +kernel
theorem dJ9_min_7cf53_10 : decode cJ9_min_7cf53 10 = .ok (.ireturn, 1) := by decide +kernel
theorem dJ7_fill_53178_0 : decode cJ7_fill_53178 0 = .ok (.iconst 0, 1) := by decide +kernel
theorem dJ7_fill_53178_1 : decode cJ7_fill_53178 1 = .ok (.istore_n 2, 1) := by decide +kernel
theorem dJ7_fill_53178_2 : decode cJ7_fill_53178 2 = .ok (.aload_n 0, 1) := by decide +kernel
theorem dJ7_fill_53178_3 : decode cJ7_fill_53178 3 = .ok (.arraylength, 1) := by decide +kernel
theorem dJ7_fill_53178_4 : decode cJ7_fill_53178 4 = .ok (.istore_n 3, 1) := by decide +kernel
theorem dJ7_fill_53178_5 : decode cJ7_fill_53178 5 = .ok (.iload_n 2, 1) := by decide +kernel
theorem dJ7_fill_53178_6 : decode cJ7_fill_53178 6 = .ok (.iload_n 3, 1) := by decide +kernel
theorem dJ7_fill_53178_7 : decode cJ7_fill_53178 7 = .ok (.if_icmp .ge 13, 3) := by decide +kernel
theorem dJ7_fill_53178_10 : decode cJ7_fill_53178 10 = .ok (.aload_n 0, 1) := by decide +kernel
theorem dJ7_fill_53178_11 : decode cJ7_fill_53178 11 = .ok (.iload_n 2, 1) := by decide +kernel
theorem dJ7_fill_53178_12 : decode cJ7_fill_53178 12 = .ok (.iload_n 1, 1) := by decide +kernel
theorem dJ7_fill_53178_13 : decode cJ7_fill_53178 13 = .ok (.iastore, 1) := by decide +kernel
theorem dJ7_fill_53178_14 : decode cJ7_fill_53178 14 = .ok (.iinc 2 1, 3) := by decide +kernel
theorem dJ7_fill_53178_17 : decode cJ7_fill_53178 17 = .ok (.goto (-12), 3) := by decide +kernel
theorem dJ7_fill_53178_20 : decode cJ7_fill_53178 20 = .ok (.return_, 1) := by decide +kernel
theorem dL_below_0 : decode cL_below 0 = .ok (.iload_n 0, 1) := by decide +kernel
theorem dL_below_1 : decode cL_below 1 = .ok (.ldc 7, 2) := by decide +kernel
theorem dL_below_3 : decode cL_below 3 = .ok (.iand, 1) := by decide +kernel
theorem dL_below_4 : decode cL_below 4 = .ok (.iload_n 1, 1) := by decide +kernel
theorem dL_below_5 : decode cL_below 5 = .ok (.irem, 1) := by decide +kernel
theorem dL_below_6 : decode cL_below 6 = .ok (.ireturn, 1) := by decide +kernel
theorem dL_cell_0 : decode cL_cell 0 = .ok (.iload_n 1, 1) := by decide +kernel
theorem dL_cell_1 : decode cL_cell 1 = .ok (.aload_n 0, 1) := by decide +kernel
theorem dL_cell_2 : decode cL_cell 2 = .ok (.arraylength, 1) := by decide +kernel
theorem dL_cell_3 : decode cL_cell 3 = .ok (.if_icmp .ge 9, 3) := by decide +kernel
theorem dL_cell_6 : decode cL_cell 6 = .ok (.aload_n 0, 1) := by decide +kernel
theorem dL_cell_7 : decode cL_cell 7 = .ok (.iload_n 1, 1) := by decide +kernel
theorem dL_cell_8 : decode cL_cell 8 = .ok (.iaload, 1) := by decide +kernel
theorem dL_cell_9 : decode cL_cell 9 = .ok (.goto 9, 3) := by decide +kernel
theorem dL_cell_12 : decode cL_cell 12 = .ok (.ldc 8, 2) := by decide +kernel
theorem dL_cell_14 : decode cL_cell 14 = .ok (.iload_n 1, 1) := by decide +kernel
theorem dL_cell_15 : decode cL_cell 15 = .ok (.iconst 3, 1) := by decide +kernel
theorem dL_cell_16 : decode cL_cell 16 = .ok (.iadd, 1) := by decide +kernel
theorem dL_cell_17 : decode cL_cell 17 = .ok (.imul, 1) := by decide +kernel
theorem dL_cell_18 : decode cL_cell 18 = .ok (.ireturn, 1) := by decide +kernel
theorem dL_build_0 : decode cL_build 0 = .ok (.iconst 0, 1) := by decide +kernel
theorem dL_build_1 : decode cL_build 1 = .ok (.istore 5, 2) := by decide +kernel
theorem dL_build_3 : decode cL_build 3 = .ok (.iload 5, 2) := by decide +kernel
theorem dL_build_5 : decode cL_build 5 = .ok (.iconst 5, 1) := by decide +kernel
theorem dL_build_6 : decode cL_build 6 = .ok (.if_icmp .ge 20, 3) := by decide +kernel
theorem dL_build_9 : decode cL_build 9 = .ok (.aload_n 0, 1) := by decide +kernel
theorem dL_build_10 : decode cL_build 10 = .ok (.invokevirtual 9, 3) := by decide +kernel
theorem dL_build_13 : decode cL_build 13 = .ok (.iload 5, 2) := by decide +kernel
theorem dL_build_15 : decode cL_build 15 = .ok (.if_icmp .eq 5, 3) := by decide +kernel
theorem dL_build_18 : decode cL_build 18 = .ok (.iconst 0, 1) := by decide +kernel
theorem dL_build_19 : decode cL_build 19 = .ok (.ireturn, 1) := by decide +kernel
theorem dL_build_20 : decode cL_build 20 = .ok (.iinc 5 1, 3) := by decide +kernel
theorem dL_build_23 : decode cL_build 23 = .ok (.goto (-20), 3) := by decide +kernel
theorem dL_build_26 : decode cL_build 26 = .ok (.iconst 0, 1) := by decide +kernel
theorem dL_build_27 : decode cL_build 27 = .ok (.istore 5, 2) := by decide +kernel
theorem dL_build_29 : decode cL_build 29 = .ok (.iload 5, 2) := by decide +kernel
theorem dL_build_31 : decode cL_build 31 = .ok (.bipush 9, 2) := by decide +kernel
theorem dL_build_33 : decode cL_build 33 = .ok (.if_icmp .ge 115, 3) := by decide +kernel
theorem dL_build_36 : decode cL_build 36 = .ok (.aload_n 1, 1) := by decide +kernel
theorem dL_build_37 : decode cL_build 37 = .ok (.iload 5, 2) := by decide +kernel
theorem dL_build_39 : decode cL_build 39 = .ok (.invokestatic 15, 3) := by decide +kernel
theorem dL_build_42 : decode cL_build 42 = .ok (.istore 6, 2) := by decide +kernel
theorem dL_build_44 : decode cL_build 44 = .ok (.aload_n 2, 1) := by decide +kernel
theorem dL_build_45 : decode cL_build 45 = .ok (.iload 5, 2) := by decide +kernel
theorem dL_build_47 : decode cL_build 47 = .ok (.iload 5, 2) := by decide +kernel
theorem dL_build_49 : decode cL_build 49 = .ok (.iconst 5, 1) := by decide +kernel
theorem dL_build_50 : decode cL_build 50 = .ok (.if_icmp .ge 8, 3) := by decide +kernel
theorem dL_build_53 : decode cL_build 53 = .ok (.iload 5, 2) := by decide +kernel
theorem dL_build_55 : decode cL_build 55 = .ok (.goto 9, 3) := by decide +kernel
theorem dL_build_58 : decode cL_build 58 = .ok (.iload 6, 2) := by decide +kernel
theorem dL_build_60 : decode cL_build 60 = .ok (.iconst 5, 1) := by decide +kernel
theorem dL_build_61 : decode cL_build 61 = .ok (.invokestatic 21, 3) := by decide +kernel
theorem dL_build_64 : decode cL_build 64 = .ok (.iastore, 1) := by decide +kernel
theorem dL_build_65 : decode cL_build 65 = .ok (.aload_n 3, 1) := by decide +kernel
theorem dL_build_66 : decode cL_build 66 = .ok (.iload 5, 2) := by decide +kernel
theorem dL_build_68 : decode cL_build 68 = .ok (.iload 5, 2) := by decide +kernel
theorem dL_build_70 : decode cL_build 70 = .ok (.iconst 5, 1) := by decide +kernel
theorem dL_build_71 : decode cL_build 71 = .ok (.if_icmp .ge 12, 3) := by decide +kernel
theorem dL_build_74 : decode cL_build 74 = .ok (.iload 5, 2) := by decide +kernel
theorem dL_build_76 : decode cL_build 76 = .ok (.iconst 1, 1) := by decide +kernel
theorem dL_build_77 : decode cL_build 77 = .ok (.iadd, 1) := by decide +kernel
theorem dL_build_78 : decode cL_build 78 = .ok (.iconst 5, 1) := by decide +kernel
theorem dL_build_79 : decode cL_build 79 = .ok (.irem, 1) := by decide +kernel
theorem dL_build_80 : decode cL_build 80 = .ok (.goto 20, 3) := by decide +kernel
theorem dL_build_83 : decode cL_build 83 = .ok (.aload_n 2, 1) := by decide +kernel
theorem dL_build_84 : decode cL_build 84 = .ok (.iload 5, 2) := by decide +kernel
theorem dL_build_86 : decode cL_build 86 = .ok (.iaload, 1) := by decide +kernel
theorem dL_build_87 : decode cL_build 87 = .ok (.iconst 1, 1) := by decide +kernel
theorem dL_build_88 : decode cL_build 88 = .ok (.iadd, 1) := by decide +kernel
theorem dL_build_89 : decode cL_build 89 = .ok (.iload 6, 2) := by decide +kernel
theorem dL_build_91 : decode cL_build 91 = .ok (.iconst 4, 1) := by decide +kernel
theorem dL_build_92 : decode cL_build 92 = .ok (.ishr, 1) := by decide +kernel
theorem dL_build_93 : decode cL_build 93 = .ok (.iconst 4, 1) := by decide +kernel
theorem dL_build_94 : decode cL_build 94 = .ok (.invokestatic 21, 3) := by decide +kernel
theorem dL_build_97 : decode cL_build 97 = .ok (.iadd, 1) := by decide +kernel
theorem dL_build_98 : decode cL_build 98 = .ok (.iconst 5, 1) := by decide +kernel
theorem dL_build_99 : decode cL_build 99 = .ok (.irem, 1) := by decide +kernel
theorem dL_build_100 : decode cL_build 100 = .ok (.iastore, 1) := by decide +kernel
theorem dL_build_101 : decode cL_build 101 = .ok (.aload 4, 2) := by decide +kernel
theorem dL_build_103 : decode cL_build 103 = .ok (.iload 5, 2) := by decide +kernel
theorem dL_build_105 : decode cL_build 105 = .ok (.iconst 1, 1) := by decide +kernel
theorem dL_build_106 : decode cL_build 106 = .ok (.iload 6, 2) := by decide +kernel
theorem dL_build_108 : decode cL_build 108 = .ok (.bipush 8, 2) := by decide +kernel
theorem dL_build_110 : decode cL_build 110 = .ok (.ishr, 1) := by decide +kernel
theorem dL_build_111 : decode cL_build 111 = .ok (.bipush 6, 2) := by decide +kernel
theorem dL_build_113 : decode cL_build 113 = .ok (.invokestatic 21, 3) := by decide +kernel
theorem dL_build_116 : decode cL_build 116 = .ok (.iadd, 1) := by decide +kernel
theorem dL_build_117 : decode cL_build 117 = .ok (.iastore, 1) := by decide +kernel
theorem dL_build_118 : decode cL_build 118 = .ok (.aload_n 0, 1) := by decide +kernel
theorem dL_build_119 : decode cL_build 119 = .ok (.aload_n 2, 1) := by decide +kernel
theorem dL_build_120 : decode cL_build 120 = .ok (.iload 5, 2) := by decide +kernel
theorem dL_build_122 : decode cL_build 122 = .ok (.iaload, 1) := by decide +kernel
theorem dL_build_123 : decode cL_build 123 = .ok (.aload_n 3, 1) := by decide +kernel
theorem dL_build_124 : decode cL_build 124 = .ok (.iload 5, 2) := by decide +kernel
theorem dL_build_126 : decode cL_build 126 = .ok (.iaload, 1) := by decide +kernel
theorem dL_build_127 : decode cL_build 127 = .ok (.aload 4, 2) := by decide +kernel
theorem dL_build_129 : decode cL_build 129 = .ok (.iload 5, 2) := by decide +kernel
theorem dL_build_131 : decode cL_build 131 = .ok (.iaload, 1) := by decide +kernel
theorem dL_build_132 : decode cL_build 132 = .ok (.invokevirtual 25, 3) := by decide +kernel
theorem dL_build_135 : decode cL_build 135 = .ok (.iload 5, 2) := by decide +kernel
theorem dL_build_137 : decode cL_build 137 = .ok (.if_icmp .eq 5, 3) := by decide +kernel
theorem dL_build_140 : decode cL_build 140 = .ok (.iconst 0, 1) := by decide +kernel
theorem dL_build_141 : decode cL_build 141 = .ok (.ireturn, 1) := by decide +kernel
theorem dL_build_142 : decode cL_build 142 = .ok (.iinc 5 1, 3) := by decide +kernel
theorem dL_build_145 : decode cL_build 145 = .ok (.goto (-116), 3) := by decide +kernel
theorem dL_build_148 : decode cL_build 148 = .ok (.iconst 1, 1) := by decide +kernel
theorem dL_build_149 : decode cL_build 149 = .ok (.ireturn, 1) := by decide +kernel
theorem dL_penalty_0 : decode cL_penalty 0 = .ok (.aload_n 2, 1) := by decide +kernel
theorem dL_penalty_1 : decode cL_penalty 1 = .ok (.bipush 9, 2) := by decide +kernel
theorem dL_penalty_3 : decode cL_penalty 3 = .ok (.iload 4, 2) := by decide +kernel
theorem dL_penalty_5 : decode cL_penalty 5 = .ok (.imul, 1) := by decide +kernel
theorem dL_penalty_6 : decode cL_penalty 6 = .ok (.iload 5, 2) := by decide +kernel
theorem dL_penalty_8 : decode cL_penalty 8 = .ok (.iadd, 1) := by decide +kernel
theorem dL_penalty_9 : decode cL_penalty 9 = .ok (.iaload, 1) := by decide +kernel
theorem dL_penalty_10 : decode cL_penalty 10 = .ok (.istore 6, 2) := by decide +kernel
theorem dL_penalty_12 : decode cL_penalty 12 = .ok (.iload 6, 2) := by decide +kernel
theorem dL_penalty_14 : decode cL_penalty 14 = .ok (.bipush (-2), 2) := by decide +kernel
theorem dL_penalty_16 : decode cL_penalty 16 = .ok (.if_icmp .eq 8, 3) := by decide +kernel
theorem dL_penalty_19 : decode cL_penalty 19 = .ok (.iload 6, 2) := by decide +kernel
theorem dL_penalty_21 : decode cL_penalty 21 = .ok (.goto 19, 3) := by decide +kernel
theorem dL_penalty_24 : decode cL_penalty 24 = .ok (.aload_n 1, 1) := by decide +kernel
theorem dL_penalty_25 : decode cL_penalty 25 = .ok (.iload 5, 2) := by decide +kernel
theorem dL_penalty_27 : decode cL_penalty 27 = .ok (.iaload, 1) := by decide +kernel
theorem dL_penalty_28 : decode cL_penalty 28 = .ok (.aload_n 0, 1) := by decide +kernel
theorem dL_penalty_29 : decode cL_penalty 29 = .ok (.iload 4, 2) := by decide +kernel
theorem dL_penalty_31 : decode cL_penalty 31 = .ok (.iaload, 1) := by decide +kernel
theorem dL_penalty_32 : decode cL_penalty 32 = .ok (.if_icmp .ne 7, 3) := by decide +kernel
theorem dL_penalty_35 : decode cL_penalty 35 = .ok (.iload_n 3, 1) := by decide +kernel
theorem dL_penalty_36 : decode cL_penalty 36 = .ok (.goto 4, 3) := by decide +kernel
theorem dL_penalty_39 : decode cL_penalty 39 = .ok (.iconst 0, 1) := by decide +kernel
theorem dL_penalty_40 : decode cL_penalty 40 = .ok (.ireturn, 1) := by decide +kernel
theorem dL_find_0 : decode cL_find 0 = .ok (.iconst 0, 1) := by decide +kernel
theorem dL_find_1 : decode cL_find 1 = .ok (.istore 8, 2) := by decide +kernel
theorem dL_find_3 : decode cL_find 3 = .ok (.iload 8, 2) := by decide +kernel
theorem dL_find_5 : decode cL_find 5 = .ok (.bipush 9, 2) := by decide +kernel
theorem dL_find_7 : decode cL_find 7 = .ok (.if_icmp .ge 39, 3) := by decide +kernel
theorem dL_find_10 : decode cL_find 10 = .ok (.aload 7, 2) := by decide +kernel
theorem dL_find_12 : decode cL_find 12 = .ok (.iload 8, 2) := by decide +kernel
theorem dL_find_14 : decode cL_find 14 = .ok (.aload_n 3, 1) := by decide +kernel
theorem dL_find_15 : decode cL_find 15 = .ok (.iload 8, 2) := by decide +kernel
theorem dL_find_17 : decode cL_find 17 = .ok (.baload, 1) := by decide +kernel
theorem dL_find_18 : decode cL_find 18 = .ok (.ifCond .eq 19, 3) := by decide +kernel
theorem dL_find_21 : decode cL_find 21 = .ok (.aload_n 1, 1) := by decide +kernel
theorem dL_find_22 : decode cL_find 22 = .ok (.iload 8, 2) := by decide +kernel
theorem dL_find_24 : decode cL_find 24 = .ok (.iaload, 1) := by decide +kernel
theorem dL_find_25 : decode cL_find 25 = .ok (.iload 6, 2) := by decide +kernel
theorem dL_find_27 : decode cL_find 27 = .ok (.if_icmp .ne 10, 3) := by decide +kernel
theorem dL_find_30 : decode cL_find 30 = .ok (.aload_n 2, 1) := by decide +kernel
theorem dL_find_31 : decode cL_find 31 = .ok (.iload 8, 2) := by decide +kernel
theorem dL_find_33 : decode cL_find 33 = .ok (.iaload, 1) := by decide +kernel
theorem dL_find_34 : decode cL_find 34 = .ok (.goto 5, 3) := by decide +kernel
theorem dL_find_37 : decode cL_find 37 = .ok (.ldc 29, 2) := by decide +kernel
theorem dL_find_39 : decode cL_find 39 = .ok (.iastore, 1) := by decide +kernel
theorem dL_find_40 : decode cL_find 40 = .ok (.iinc 8 1, 3) := by decide +kernel
theorem dL_find_43 : decode cL_find 43 = .ok (.goto (-40), 3) := by decide +kernel
theorem dL_find_46 : decode cL_find 46 = .ok (.iconst 0, 1) := by decide +kernel
theorem dL_find_47 : decode cL_find 47 = .ok (.istore 8, 2) := by decide +kernel
theorem dL_find_49 : decode cL_find 49 = .ok (.iload 8, 2) := by decide +kernel
theorem dL_find_51 : decode cL_find 51 = .ok (.bipush 9, 2) := by decide +kernel
theorem dL_find_53 : decode cL_find 53 = .ok (.if_icmp .ge 115, 3) := by decide +kernel
theorem dL_find_56 : decode cL_find 56 = .ok (.iconst 0, 1) := by decide +kernel
theorem dL_find_57 : decode cL_find 57 = .ok (.istore 9, 2) := by decide +kernel
theorem dL_find_59 : decode cL_find 59 = .ok (.iload 9, 2) := by decide +kernel
theorem dL_find_61 : decode cL_find 61 = .ok (.bipush 9, 2) := by decide +kernel
theorem dL_find_63 : decode cL_find 63 = .ok (.if_icmp .ge 99, 3) := by decide +kernel
theorem dL_find_66 : decode cL_find 66 = .ok (.iconst 0, 1) := by decide +kernel
theorem dL_find_67 : decode cL_find 67 = .ok (.istore 10, 2) := by decide +kernel
theorem dL_find_69 : decode cL_find 69 = .ok (.iload 10, 2) := by decide +kernel
theorem dL_find_71 : decode cL_find 71 = .ok (.bipush 9, 2) := by decide +kernel
theorem dL_find_73 : decode cL_find 73 = .ok (.if_icmp .ge 83, 3) := by decide +kernel
theorem dL_find_76 : decode cL_find 76 = .ok (.aload_n 3, 1) := by decide +kernel
theorem dL_find_77 : decode cL_find 77 = .ok (.iload 9, 2) := by decide +kernel
theorem dL_find_79 : decode cL_find 79 = .ok (.baload, 1) := by decide +kernel
theorem dL_find_80 : decode cL_find 80 = .ok (.ifCond .eq 70, 3) := by decide +kernel
theorem dL_find_83 : decode cL_find 83 = .ok (.aload_n 1, 1) := by decide +kernel
theorem dL_find_84 : decode cL_find 84 = .ok (.iload 9, 2) := by decide +kernel
theorem dL_find_86 : decode cL_find 86 = .ok (.iaload, 1) := by decide +kernel
theorem dL_find_87 : decode cL_find 87 = .ok (.aload_n 0, 1) := by decide +kernel
theorem dL_find_88 : decode cL_find 88 = .ok (.iload 10, 2) := by decide +kernel
theorem dL_find_90 : decode cL_find 90 = .ok (.iaload, 1) := by decide +kernel
theorem dL_find_91 : decode cL_find 91 = .ok (.if_icmp .ne 59, 3) := by decide +kernel
theorem dL_find_94 : decode cL_find 94 = .ok (.aload_n 0, 1) := by decide +kernel
theorem dL_find_95 : decode cL_find 95 = .ok (.aload_n 1, 1) := by decide +kernel
theorem dL_find_96 : decode cL_find 96 = .ok (.aload 4, 2) := by decide +kernel
theorem dL_find_98 : decode cL_find 98 = .ok (.iload 5, 2) := by decide +kernel
theorem dL_find_100 : decode cL_find 100 = .ok (.iload 9, 2) := by decide +kernel
theorem dL_find_102 : decode cL_find 102 = .ok (.iload 10, 2) := by decide +kernel
theorem dL_find_104 : decode cL_find 104 = .ok (.invokestatic 30, 3) := by decide +kernel
theorem dL_find_107 : decode cL_find 107 = .ok (.ifCond .ge 6, 3) := by decide +kernel
theorem dL_find_110 : decode cL_find 110 = .ok (.goto 40, 3) := by decide +kernel
theorem dL_find_113 : decode cL_find 113 = .ok (.aload 7, 2) := by decide +kernel
theorem dL_find_115 : decode cL_find 115 = .ok (.iload 9, 2) := by decide +kernel
theorem dL_find_117 : decode cL_find 117 = .ok (.aload 7, 2) := by decide +kernel
theorem dL_find_119 : decode cL_find 119 = .ok (.iload 9, 2) := by decide +kernel
theorem dL_find_121 : decode cL_find 121 = .ok (.iaload, 1) := by decide +kernel
theorem dL_find_122 : decode cL_find 122 = .ok (.aload_n 2, 1) := by decide +kernel
theorem dL_find_123 : decode cL_find 123 = .ok (.iload 9, 2) := by decide +kernel
theorem dL_find_125 : decode cL_find 125 = .ok (.iaload, 1) := by decide +kernel
theorem dL_find_126 : decode cL_find 126 = .ok (.aload_n 0, 1) := by decide +kernel
theorem dL_find_127 : decode cL_find 127 = .ok (.aload_n 1, 1) := by decide +kernel
theorem dL_find_128 : decode cL_find 128 = .ok (.aload 4, 2) := by decide +kernel
theorem dL_find_130 : decode cL_find 130 = .ok (.iload 5, 2) := by decide +kernel
theorem dL_find_132 : decode cL_find 132 = .ok (.iload 9, 2) := by decide +kernel
theorem dL_find_134 : decode cL_find 134 = .ok (.iload 10, 2) := by decide +kernel
theorem dL_find_136 : decode cL_find 136 = .ok (.invokestatic 30, 3) := by decide +kernel
theorem dL_find_139 : decode cL_find 139 = .ok (.iadd, 1) := by decide +kernel
theorem dL_find_140 : decode cL_find 140 = .ok (.aload 7, 2) := by decide +kernel
theorem dL_find_142 : decode cL_find 142 = .ok (.iload 10, 2) := by decide +kernel
theorem dL_find_144 : decode cL_find 144 = .ok (.iaload, 1) := by decide +kernel
theorem dL_find_145 : decode cL_find 145 = .ok (.iadd, 1) := by decide +kernel
theorem dL_find_146 : decode cL_find 146 = .ok (.invokestatic 34, 3) := by decide +kernel
theorem dL_find_149 : decode cL_find 149 = .ok (.iastore, 1) := by decide +kernel
theorem dL_find_150 : decode cL_find 150 = .ok (.iinc 10 1, 3) := by decide +kernel
theorem dL_find_153 : decode cL_find 153 = .ok (.goto (-84), 3) := by decide +kernel
theorem dL_find_156 : decode cL_find 156 = .ok (.iinc 9 1, 3) := by decide +kernel
theorem dL_find_159 : decode cL_find 159 = .ok (.goto (-100), 3) := by decide +kernel
theorem dL_find_162 : decode cL_find 162 = .ok (.iinc 8 1, 3) := by decide +kernel
theorem dL_find_165 : decode cL_find 165 = .ok (.goto (-116), 3) := by decide +kernel
theorem dL_find_168 : decode cL_find 168 = .ok (.return_, 1) := by decide +kernel
theorem dL_distance_0 : decode cL_distance 0 = .ok (.iload_n 2, 1) := by decide +kernel
theorem dL_distance_1 : decode cL_distance 1 = .ok (.iload_n 3, 1) := by decide +kernel
theorem dL_distance_2 : decode cL_distance 2 = .ok (.if_icmp .ne 7, 3) := by decide +kernel
theorem dL_distance_5 : decode cL_distance 5 = .ok (.iconst 0, 1) := by decide +kernel
theorem dL_distance_6 : decode cL_distance 6 = .ok (.goto 5, 3) := by decide +kernel
theorem dL_distance_9 : decode cL_distance 9 = .ok (.ldc 29, 2) := by decide +kernel
theorem dL_distance_11 : decode cL_distance 11 = .ok (.istore 4, 2) := by decide +kernel
theorem dL_distance_13 : decode cL_distance 13 = .ok (.iconst 0, 1) := by decide +kernel
theorem dL_distance_14 : decode cL_distance 14 = .ok (.istore 5, 2) := by decide +kernel
theorem dL_distance_16 : decode cL_distance 16 = .ok (.iload 5, 2) := by decide +kernel
theorem dL_distance_18 : decode cL_distance 18 = .ok (.bipush 9, 2) := by decide +kernel
theorem dL_distance_20 : decode cL_distance 20 = .ok (.if_icmp .ge 28, 3) := by decide +kernel
theorem dL_distance_23 : decode cL_distance 23 = .ok (.aload_n 0, 1) := by decide +kernel
theorem dL_distance_24 : decode cL_distance 24 = .ok (.iload 5, 2) := by decide +kernel
theorem dL_distance_26 : decode cL_distance 26 = .ok (.iaload, 1) := by decide +kernel
theorem dL_distance_27 : decode cL_distance 27 = .ok (.iload_n 2, 1) := by decide +kernel
theorem dL_distance_28 : decode cL_distance 28 = .ok (.if_icmp .ne 14, 3) := by decide +kernel
theorem dL_distance_31 : decode cL_distance 31 = .ok (.iload 4, 2) := by decide +kernel
theorem dL_distance_33 : decode cL_distance 33 = .ok (.aload_n 1, 1) := by decide +kernel
theorem dL_distance_34 : decode cL_distance 34 = .ok (.iload 5, 2) := by decide +kernel
theorem dL_distance_36 : decode cL_distance 36 = .ok (.iaload, 1) := by decide +kernel
theorem dL_distance_37 : decode cL_distance 37 = .ok (.invokestatic 34, 3) := by decide +kernel
theorem dL_distance_40 : decode cL_distance 40 = .ok (.istore 4, 2) := by decide +kernel
theorem dL_distance_42 : decode cL_distance 42 = .ok (.iinc 5 1, 3) := by decide +kernel
theorem dL_distance_45 : decode cL_distance 45 = .ok (.goto (-29), 3) := by decide +kernel
theorem dL_distance_48 : decode cL_distance 48 = .ok (.iload 4, 2) := by decide +kernel
theorem dL_distance_50 : decode cL_distance 50 = .ok (.ldc 29, 2) := by decide +kernel
theorem dL_distance_52 : decode cL_distance 52 = .ok (.if_icmp .lt 7, 3) := by decide +kernel
theorem dL_distance_55 : decode cL_distance 55 = .ok (.iconst (-1), 1) := by decide +kernel
theorem dL_distance_56 : decode cL_distance 56 = .ok (.goto 5, 3) := by decide +kernel
theorem dL_distance_59 : decode cL_distance 59 = .ok (.iload 4, 2) := by decide +kernel
theorem dL_distance_61 : decode cL_distance 61 = .ok (.ireturn, 1) := by decide +kernel
theorem dL_change_0 : decode cL_change 0 = .ok (.iload_n 1, 1) := by decide +kernel
theorem dL_change_1 : decode cL_change 1 = .ok (.iconst 3, 1) := by decide +kernel
theorem dL_change_2 : decode cL_change 2 = .ok (.ishr, 1) := by decide +kernel
theorem dL_change_3 : decode cL_change 3 = .ok (.bipush 9, 2) := by decide +kernel
theorem dL_change_5 : decode cL_change 5 = .ok (.invokestatic 21, 3) := by decide +kernel
theorem dL_change_8 : decode cL_change 8 = .ok (.istore 8, 2) := by decide +kernel
theorem dL_change_10 : decode cL_change 10 = .ok (.iload_n 1, 1) := by decide +kernel
theorem dL_change_11 : decode cL_change 11 = .ok (.bipush 10, 2) := by decide +kernel
theorem dL_change_13 : decode cL_change 13 = .ok (.ishr, 1) := by decide +kernel
theorem dL_change_14 : decode cL_change 14 = .ok (.bipush 9, 2) := by decide +kernel
theorem dL_change_16 : decode cL_change 16 = .ok (.invokestatic 21, 3) := by decide +kernel
theorem dL_change_19 : decode cL_change 19 = .ok (.istore 9, 2) := by decide +kernel
theorem dL_change_21 : decode cL_change 21 = .ok (.iload_n 1, 1) := by decide +kernel
theorem dL_change_22 : decode cL_change 22 = .ok (.bipush 16, 2) := by decide +kernel
theorem dL_change_24 : decode cL_change 24 = .ok (.ishr, 1) := by decide +kernel
theorem dL_change_25 : decode cL_change 25 = .ok (.bipush 8, 2) := by decide +kernel
theorem dL_change_27 : decode cL_change 27 = .ok (.invokestatic 21, 3) := by decide +kernel
theorem dL_change_30 : decode cL_change 30 = .ok (.istore 10, 2) := by decide +kernel
theorem dL_change_32 : decode cL_change 32 = .ok (.iload_n 1, 1) := by decide +kernel
theorem dL_change_33 : decode cL_change 33 = .ok (.bipush 7, 2) := by decide +kernel
theorem dL_change_35 : decode cL_change 35 = .ok (.iand, 1) := by decide +kernel
theorem dL_change_36 : decode cL_change 36 = .ok (.iconst 3, 1) := by decide +kernel
theorem dL_change_37 : decode cL_change 37 = .ok (.if_icmp .ge 23, 3) := by decide +kernel
theorem dL_change_40 : decode cL_change 40 = .ok (.aload 4, 2) := by decide +kernel
theorem dL_change_42 : decode cL_change 42 = .ok (.iload 8, 2) := by decide +kernel
theorem dL_change_44 : decode cL_change 44 = .ok (.iconst 1, 1) := by decide +kernel
theorem dL_change_45 : decode cL_change 45 = .ok (.iload 10, 2) := by decide +kernel
theorem dL_change_47 : decode cL_change 47 = .ok (.iadd, 1) := by decide +kernel
theorem dL_change_48 : decode cL_change 48 = .ok (.iastore, 1) := by decide +kernel
theorem dL_change_49 : decode cL_change 49 = .ok (.aload_n 0, 1) := by decide +kernel
theorem dL_change_50 : decode cL_change 50 = .ok (.iload 8, 2) := by decide +kernel
theorem dL_change_52 : decode cL_change 52 = .ok (.iconst 1, 1) := by decide +kernel
theorem dL_change_53 : decode cL_change 53 = .ok (.iload 10, 2) := by decide +kernel
theorem dL_change_55 : decode cL_change 55 = .ok (.iadd, 1) := by decide +kernel
theorem dL_change_56 : decode cL_change 56 = .ok (.invokevirtual 39, 3) := by decide +kernel
theorem dL_change_59 : decode cL_change 59 = .ok (.ireturn, 1) := by decide +kernel
theorem dL_change_60 : decode cL_change 60 = .ok (.iload_n 1, 1) := by decide +kernel
theorem dL_change_61 : decode cL_change 61 = .ok (.bipush 7, 2) := by decide +kernel
theorem dL_change_63 : decode cL_change 63 = .ok (.iand, 1) := by decide +kernel
theorem dL_change_64 : decode cL_change 64 = .ok (.iconst 5, 1) := by decide +kernel
theorem dL_change_65 : decode cL_change 65 = .ok (.if_icmp .ge 37, 3) := by decide +kernel
theorem dL_change_68 : decode cL_change 68 = .ok (.aload 5, 2) := by decide +kernel
theorem dL_change_70 : decode cL_change 70 = .ok (.iload 8, 2) := by decide +kernel
theorem dL_change_72 : decode cL_change 72 = .ok (.iload 10, 2) := by decide +kernel
theorem dL_change_74 : decode cL_change 74 = .ok (.iconst 2, 1) := by decide +kernel
theorem dL_change_75 : decode cL_change 75 = .ok (.if_icmp .le 7, 3) := by decide +kernel
theorem dL_change_78 : decode cL_change 78 = .ok (.iconst 1, 1) := by decide +kernel
theorem dL_change_79 : decode cL_change 79 = .ok (.goto 4, 3) := by decide +kernel
theorem dL_change_82 : decode cL_change 82 = .ok (.iconst 0, 1) := by decide +kernel
theorem dL_change_83 : decode cL_change 83 = .ok (.bastore, 1) := by decide +kernel
theorem dL_change_84 : decode cL_change 84 = .ok (.aload_n 0, 1) := by decide +kernel
theorem dL_change_85 : decode cL_change 85 = .ok (.iload 8, 2) := by decide +kernel
theorem dL_change_87 : decode cL_change 87 = .ok (.iload 10, 2) := by decide +kernel
theorem dL_change_89 : decode cL_change 89 = .ok (.iconst 2, 1) := by decide +kernel
theorem dL_change_90 : decode cL_change 90 = .ok (.if_icmp .le 7, 3) := by decide +kernel
theorem dL_change_93 : decode cL_change 93 = .ok (.iconst 1, 1) := by decide +kernel
theorem dL_change_94 : decode cL_change 94 = .ok (.goto 4, 3) := by decide +kernel
theorem dL_change_97 : decode cL_change 97 = .ok (.iconst 0, 1) := by decide +kernel
theorem dL_change_98 : decode cL_change 98 = .ok (.invokevirtual 42, 3) := by decide +kernel
theorem dL_change_101 : decode cL_change 101 = .ok (.ireturn, 1) := by decide +kernel
theorem dL_change_102 : decode cL_change 102 = .ok (.iload_n 1, 1) := by decide +kernel
theorem dL_change_103 : decode cL_change 103 = .ok (.bipush 7, 2) := by decide +kernel
theorem dL_change_105 : decode cL_change 105 = .ok (.iand, 1) := by decide +kernel
theorem dL_change_106 : decode cL_change 106 = .ok (.bipush 7, 2) := by decide +kernel
theorem dL_change_108 : decode cL_change 108 = .ok (.if_icmp .ge 42, 3) := by decide +kernel
theorem dL_change_111 : decode cL_change 111 = .ok (.aload_n 3, 1) := by decide +kernel
theorem dL_change_112 : decode cL_change 112 = .ok (.iload 8, 2) := by decide +kernel
theorem dL_change_114 : decode cL_change 114 = .ok (.iaload, 1) := by decide +kernel
theorem dL_change_115 : decode cL_change 115 = .ok (.aload_n 2, 1) := by decide +kernel
theorem dL_change_116 : decode cL_change 116 = .ok (.iload 9, 2) := by decide +kernel
theorem dL_change_118 : decode cL_change 118 = .ok (.iaload, 1) := by decide +kernel
theorem dL_change_119 : decode cL_change 119 = .ok (.if_icmp .ne 31, 3) := by decide +kernel
theorem dL_change_122 : decode cL_change 122 = .ok (.aload 6, 2) := by decide +kernel
theorem dL_change_124 : decode cL_change 124 = .ok (.bipush 9, 2) := by decide +kernel
theorem dL_change_126 : decode cL_change 126 = .ok (.iload 8, 2) := by decide +kernel
theorem dL_change_128 : decode cL_change 128 = .ok (.imul, 1) := by decide +kernel
theorem dL_change_129 : decode cL_change 129 = .ok (.iload 9, 2) := by decide +kernel
theorem dL_change_131 : decode cL_change 131 = .ok (.iadd, 1) := by decide +kernel
theorem dL_change_132 : decode cL_change 132 = .ok (.iload 10, 2) := by decide +kernel
theorem dL_change_134 : decode cL_change 134 = .ok (.iconst 2, 1) := by decide +kernel
theorem dL_change_135 : decode cL_change 135 = .ok (.isub, 1) := by decide +kernel
theorem dL_change_136 : decode cL_change 136 = .ok (.iastore, 1) := by decide +kernel
theorem dL_change_137 : decode cL_change 137 = .ok (.aload_n 0, 1) := by decide +kernel
theorem dL_change_138 : decode cL_change 138 = .ok (.iload 8, 2) := by decide +kernel
theorem dL_change_140 : decode cL_change 140 = .ok (.iload 9, 2) := by decide +kernel
theorem dL_change_142 : decode cL_change 142 = .ok (.iload 10, 2) := by decide +kernel
theorem dL_change_144 : decode cL_change 144 = .ok (.iconst 2, 1) := by decide +kernel
theorem dL_change_145 : decode cL_change 145 = .ok (.isub, 1) := by decide +kernel
theorem dL_change_146 : decode cL_change 146 = .ok (.invokevirtual 46, 3) := by decide +kernel
theorem dL_change_149 : decode cL_change 149 = .ok (.ireturn, 1) := by decide +kernel
theorem dL_change_150 : decode cL_change 150 = .ok (.aload 7, 2) := by decide +kernel
theorem dL_change_152 : decode cL_change 152 = .ok (.iconst 0, 1) := by decide +kernel
theorem dL_change_153 : decode cL_change 153 = .ok (.iload 10, 2) := by decide +kernel
theorem dL_change_155 : decode cL_change 155 = .ok (.iconst 1, 1) := by decide +kernel
theorem dL_change_156 : decode cL_change 156 = .ok (.isub, 1) := by decide +kernel
theorem dL_change_157 : decode cL_change 157 = .ok (.iastore, 1) := by decide +kernel
theorem dL_change_158 : decode cL_change 158 = .ok (.aload_n 0, 1) := by decide +kernel
theorem dL_change_159 : decode cL_change 159 = .ok (.iload 10, 2) := by decide +kernel
theorem dL_change_161 : decode cL_change 161 = .ok (.iconst 1, 1) := by decide +kernel
theorem dL_change_162 : decode cL_change 162 = .ok (.isub, 1) := by decide +kernel
theorem dL_change_163 : decode cL_change 163 = .ok (.invokevirtual 49, 3) := by decide +kernel
theorem dL_change_166 : decode cL_change 166 = .ok (.ireturn, 1) := by decide +kernel
theorem dL_read_0 : decode cL_read 0 = .ok (.iconst 0, 1) := by decide +kernel
theorem dL_read_1 : decode cL_read 1 = .ok (.istore_n 2, 1) := by decide +kernel
theorem dL_read_2 : decode cL_read 2 = .ok (.iload_n 2, 1) := by decide +kernel
theorem dL_read_3 : decode cL_read 3 = .ok (.bipush 9, 2) := by decide +kernel
theorem dL_read_5 : decode cL_read 5 = .ok (.if_icmp .ge 51, 3) := by decide +kernel
theorem dL_read_8 : decode cL_read 8 = .ok (.iconst 0, 1) := by decide +kernel
theorem dL_read_9 : decode cL_read 9 = .ok (.istore_n 3, 1) := by decide +kernel
theorem dL_read_10 : decode cL_read 10 = .ok (.iload_n 3, 1) := by decide +kernel
theorem dL_read_11 : decode cL_read 11 = .ok (.bipush 9, 2) := by decide +kernel
theorem dL_read_13 : decode cL_read 13 = .ok (.if_icmp .ge 37, 3) := by decide +kernel
theorem dL_read_16 : decode cL_read 16 = .ok (.aload_n 1, 1) := by decide +kernel
theorem dL_read_17 : decode cL_read 17 = .ok (.bipush 9, 2) := by decide +kernel
theorem dL_read_19 : decode cL_read 19 = .ok (.iload_n 2, 1) := by decide +kernel
theorem dL_read_20 : decode cL_read 20 = .ok (.imul, 1) := by decide +kernel
theorem dL_read_21 : decode cL_read 21 = .ok (.iload_n 3, 1) := by decide +kernel
theorem dL_read_22 : decode cL_read 22 = .ok (.iadd, 1) := by decide +kernel
theorem dL_read_23 : decode cL_read 23 = .ok (.aload_n 0, 1) := by decide +kernel
theorem dL_read_24 : decode cL_read 24 = .ok (.iload_n 2, 1) := by decide +kernel
theorem dL_read_25 : decode cL_read 25 = .ok (.iload_n 3, 1) := by decide +kernel
theorem dL_read_26 : decode cL_read 26 = .ok (.invokevirtual 53, 3) := by decide +kernel
theorem dL_read_29 : decode cL_read 29 = .ok (.ifCond .eq 12, 3) := by decide +kernel
theorem dL_read_32 : decode cL_read 32 = .ok (.aload_n 0, 1) := by decide +kernel
theorem dL_read_33 : decode cL_read 33 = .ok (.iload_n 2, 1) := by decide +kernel
theorem dL_read_34 : decode cL_read 34 = .ok (.iload_n 3, 1) := by decide +kernel
theorem dL_read_35 : decode cL_read 35 = .ok (.invokevirtual 57, 3) := by decide +kernel
theorem dL_read_38 : decode cL_read 38 = .ok (.goto 5, 3) := by decide +kernel
theorem dL_read_41 : decode cL_read 41 = .ok (.bipush (-2), 2) := by decide +kernel
theorem dL_read_43 : decode cL_read 43 = .ok (.iastore, 1) := by decide +kernel
theorem dL_read_44 : decode cL_read 44 = .ok (.iinc 3 1, 3) := by decide +kernel
theorem dL_read_47 : decode cL_read 47 = .ok (.goto (-37), 3) := by decide +kernel
theorem dL_read_50 : decode cL_read 50 = .ok (.iinc 2 1, 3) := by decide +kernel
theorem dL_read_53 : decode cL_read 53 = .ok (.goto (-51), 3) := by decide +kernel
theorem dL_read_56 : decode cL_read 56 = .ok (.return_, 1) := by decide +kernel
theorem dL_unlike_0 : decode cL_unlike 0 = .ok (.iconst 0, 1) := by decide +kernel
theorem dL_unlike_1 : decode cL_unlike 1 = .ok (.istore_n 2, 1) := by decide +kernel
theorem dL_unlike_2 : decode cL_unlike 2 = .ok (.iconst 0, 1) := by decide +kernel
theorem dL_unlike_3 : decode cL_unlike 3 = .ok (.istore_n 3, 1) := by decide +kernel
theorem dL_unlike_4 : decode cL_unlike 4 = .ok (.iload_n 3, 1) := by decide +kernel
theorem dL_unlike_5 : decode cL_unlike 5 = .ok (.bipush 81, 2) := by decide +kernel
theorem dL_unlike_7 : decode cL_unlike 7 = .ok (.if_icmp .ge 26, 3) := by decide +kernel
theorem dL_unlike_10 : decode cL_unlike 10 = .ok (.iload_n 2, 1) := by decide +kernel
theorem dL_unlike_11 : decode cL_unlike 11 = .ok (.aload_n 0, 1) := by decide +kernel
theorem dL_unlike_12 : decode cL_unlike 12 = .ok (.iload_n 3, 1) := by decide +kernel
theorem dL_unlike_13 : decode cL_unlike 13 = .ok (.iaload, 1) := by decide +kernel
theorem dL_unlike_14 : decode cL_unlike 14 = .ok (.aload_n 1, 1) := by decide +kernel
theorem dL_unlike_15 : decode cL_unlike 15 = .ok (.iload_n 3, 1) := by decide +kernel
theorem dL_unlike_16 : decode cL_unlike 16 = .ok (.iaload, 1) := by decide +kernel
theorem dL_unlike_17 : decode cL_unlike 17 = .ok (.if_icmp .ne 7, 3) := by decide +kernel
theorem dL_unlike_20 : decode cL_unlike 20 = .ok (.iconst 0, 1) := by decide +kernel
theorem dL_unlike_21 : decode cL_unlike 21 = .ok (.goto 4, 3) := by decide +kernel
theorem dL_unlike_24 : decode cL_unlike 24 = .ok (.iconst 1, 1) := by decide +kernel
theorem dL_unlike_25 : decode cL_unlike 25 = .ok (.iadd, 1) := by decide +kernel
theorem dL_unlike_26 : decode cL_unlike 26 = .ok (.istore_n 2, 1) := by decide +kernel
theorem dL_unlike_27 : decode cL_unlike 27 = .ok (.iinc 3 1, 3) := by decide +kernel
theorem dL_unlike_30 : decode cL_unlike 30 = .ok (.goto (-26), 3) := by decide +kernel
theorem dL_unlike_33 : decode cL_unlike 33 = .ok (.iload_n 2, 1) := by decide +kernel
theorem dL_unlike_34 : decode cL_unlike 34 = .ok (.ireturn, 1) := by decide +kernel
