theorem dX0_init_0 : decode cX0_init 0 = .ok (.aload_n 0, 1) := by decide +kernel
theorem dX0_init_1 : decode cX0_init 1 = .ok (.invokespecial 3, 3) := by decide +kernel
theorem dX0_init_4 : decode cX0_init 4 = .ok (.aload_n 0, 1) := by decide +kernel
theorem dX0_init_5 : decode cX0_init 5 = .ok (.aload_n 1, 1) := by decide +kernel
theorem dX0_init_6 : decode cX0_init 6 = .ok (.putfield 9, 3) := by decide +kernel
theorem dX0_init_9 : decode cX0_init 9 = .ok (.aload_n 0, 1) := by decide +kernel
theorem dX0_init_10 : decode cX0_init 10 = .ok (.bipush 64, 2) := by decide +kernel
theorem dX0_init_12 : decode cX0_init 12 = .ok (.newarray .int, 2) := by decide +kernel
theorem dX0_init_14 : decode cX0_init 14 = .ok (.putfield 15, 3) := by decide +kernel
theorem dX0_init_17 : decode cX0_init 17 = .ok (.aload_n 0, 1) := by decide +kernel
theorem dX0_init_18 : decode cX0_init 18 = .ok (.bipush 64, 2) := by decide +kernel
theorem dX0_init_20 : decode cX0_init 20 = .ok (.newarray .int, 2) := by decide +kernel
theorem dX0_init_22 : decode cX0_init 22 = .ok (.putfield 19, 3) := by decide +kernel
theorem dX0_init_25 : decode cX0_init 25 = .ok (.aload_n 0, 1) := by decide +kernel
theorem dX0_init_26 : decode cX0_init 26 = .ok (.bipush 64, 2) := by decide +kernel
theorem dX0_init_28 : decode cX0_init 28 = .ok (.newarray .long, 2) := by decide +kernel
theorem dX0_init_30 : decode cX0_init 30 = .ok (.putfield 22, 3) := by decide +kernel
theorem dX0_init_33 : decode cX0_init 33 = .ok (.aload_n 0, 1) := by decide +kernel
theorem dX0_init_34 : decode cX0_init 34 = .ok (.bipush 64, 2) := by decide +kernel
theorem dX0_init_36 : decode cX0_init 36 = .ok (.newarray .long, 2) := by decide +kernel
theorem dX0_init_38 : decode cX0_init 38 = .ok (.putfield 26, 3) := by decide +kernel
theorem dX0_init_41 : decode cX0_init 41 = .ok (.aload_n 0, 1) := by decide +kernel
theorem dX0_init_42 : decode cX0_init 42 = .ok (.sipush 4096, 3) := by decide +kernel
theorem dX0_init_45 : decode cX0_init 45 = .ok (.newarray .int, 2) := by decide +kernel
theorem dX0_init_47 : decode cX0_init 47 = .ok (.putfield 29, 3) := by decide +kernel
theorem dX0_init_50 : decode cX0_init 50 = .ok (.aload_n 0, 1) := by decide +kernel
theorem dX0_init_51 : decode cX0_init 51 = .ok (.sipush 4096, 3) := by decide +kernel
theorem dX0_init_54 : decode cX0_init 54 = .ok (.newarray .int, 2) := by decide +kernel
theorem dX0_init_56 : decode cX0_init 56 = .ok (.putfield 32, 3) := by decide +kernel
theorem dX0_init_59 : decode cX0_init 59 = .ok (.aload_n 0, 1) := by decide +kernel
theorem dX0_init_60 : decode cX0_init 60 = .ok (.bipush 64, 2) := by decide +kernel
theorem dX0_init_62 : decode cX0_init 62 = .ok (.newarray .long, 2) := by decide +kernel
theorem dX0_init_64 : decode cX0_init 64 = .ok (.putfield 35, 3) := by decide +kernel
theorem dX0_init_67 : decode cX0_init 67 = .ok (.aload_n 0, 1) := by decide +kernel
theorem dX0_init_68 : decode cX0_init 68 = .ok (.bipush 64, 2) := by decide +kernel
theorem dX0_init_70 : decode cX0_init 70 = .ok (.newarray .long, 2) := by decide +kernel
theorem dX0_init_72 : decode cX0_init 72 = .ok (.putfield 38, 3) := by decide +kernel
theorem dX0_init_75 : decode cX0_init 75 = .ok (.return_, 1) := by decide +kernel
theorem dX0_build_0 : decode cX0_build 0 = .ok (.aload_n 0, 1) := by decide +kernel
theorem dX0_build_1 : decode cX0_build 1 = .ok (.aload_n 0, 1) := by decide +kernel
theorem dX0_build_2 : decode cX0_build 2 = .ok (.getfield 9, 3) := by decide +kernel
theorem dX0_build_5 : decode cX0_build 5 = .ok (.getfield 41, 3) := by decide +kernel
theorem dX0_build_8 : decode cX0_build 8 = .ok (.putfield 47, 3) := by decide +kernel
theorem dX0_build_11 : decode cX0_build 11 = .ok (.aload_n 0, 1) := by decide +kernel
theorem dX0_build_12 : decode cX0_build 12 = .ok (.invokevirtual 48, 3) := by decide +kernel
theorem dX0_build_15 : decode cX0_build 15 = .ok (.istore_n 1, 1) := by decide +kernel
theorem dX0_build_16 : decode cX0_build 16 = .ok (.aload_n 0, 1) := by decide +kernel
theorem dX0_build_17 : decode cX0_build 17 = .ok (.getfield 9, 3) := by decide +kernel
theorem dX0_build_20 : decode cX0_build 20 = .ok (.invokevirtual 52, 3) := by decide +kernel
theorem dX0_build_23 : decode cX0_build 23 = .ok (.lstore_n 2, 1) := by decide +kernel
theorem dX0_build_24 : decode cX0_build 24 = .ok (.iconst 0, 1) := by decide +kernel
theorem dX0_build_25 : decode cX0_build 25 = .ok (.istore 4, 2) := by decide +kernel
theorem dX0_build_27 : decode cX0_build 27 = .ok (.iload 4, 2) := by decide +kernel
theorem dX0_build_29 : decode cX0_build 29 = .ok (.aload_n 0, 1) := by decide +kernel
theorem dX0_build_30 : decode cX0_build 30 = .ok (.getfield 47, 3) := by decide +kernel
theorem dX0_build_33 : decode cX0_build 33 = .ok (.if_icmp .ge 68, 3) := by decide +kernel
theorem dX0_build_36 : decode cX0_build 36 = .ok (.aload_n 0, 1) := by decide +kernel
theorem dX0_build_37 : decode cX0_build 37 = .ok (.lload_n 2, 1) := by decide +kernel
theorem dX0_build_38 : decode cX0_build 38 = .ok (.invokevirtual 56, 3) := by decide +kernel
theorem dX0_build_41 : decode cX0_build 41 = .ok (.istore 5, 2) := by decide +kernel
theorem dX0_build_43 : decode cX0_build 43 = .ok (.aload_n 0, 1) := by decide +kernel
theorem dX0_build_44 : decode cX0_build 44 = .ok (.getfield 15, 3) := by decide +kernel
theorem dX0_build_47 : decode cX0_build 47 = .ok (.iload 5, 2) := by decide +kernel
theorem dX0_build_49 : decode cX0_build 49 = .ok (.iload 4, 2) := by decide +kernel
theorem dX0_build_51 : decode cX0_build 51 = .ok (.iastore, 1) := by decide +kernel
theorem dX0_build_52 : decode cX0_build 52 = .ok (.aload_n 0, 1) := by decide +kernel
theorem dX0_build_53 : decode cX0_build 53 = .ok (.getfield 19, 3) := by decide +kernel
theorem dX0_build_56 : decode cX0_build 56 = .ok (.iload 4, 2) := by decide +kernel
theorem dX0_build_58 : decode cX0_build 58 = .ok (.iload 5, 2) := by decide +kernel
theorem dX0_build_60 : decode cX0_build 60 = .ok (.iastore, 1) := by decide +kernel
theorem dX0_build_61 : decode cX0_build 61 = .ok (.lload_n 2, 1) := by decide +kernel
theorem dX0_build_62 : decode cX0_build 62 = .ok (.iload 5, 2) := by decide +kernel
theorem dX0_build_64 : decode cX0_build 64 = .ok (.invokestatic 60, 3) := by decide +kernel
theorem dX0_build_67 : decode cX0_build 67 = .ok (.ldc2_w 64, 3) := by decide +kernel
theorem dX0_build_70 : decode cX0_build 70 = .ok (.lxor, 1) := by decide +kernel
theorem dX0_build_71 : decode cX0_build 71 = .ok (.land, 1) := by decide +kernel
theorem dX0_build_72 : decode cX0_build 72 = .ok (.lstore_n 2, 1) := by decide +kernel
theorem dX0_build_73 : decode cX0_build 73 = .ok (.aload_n 0, 1) := by decide +kernel
theorem dX0_build_74 : decode cX0_build 74 = .ok (.aload_n 0, 1) := by decide +kernel
theorem dX0_build_75 : decode cX0_build 75 = .ok (.getfield 26, 3) := by decide +kernel
theorem dX0_build_78 : decode cX0_build 78 = .ok (.iload 5, 2) := by decide +kernel
theorem dX0_build_80 : decode cX0_build 80 = .ok (.laload, 1) := by decide +kernel
theorem dX0_build_81 : decode cX0_build 81 = .ok (.lload_n 2, 1) := by decide +kernel
theorem dX0_build_82 : decode cX0_build 82 = .ok (.land, 1) := by decide +kernel
theorem dX0_build_83 : decode cX0_build 83 = .ok (.aload_n 0, 1) := by decide +kernel
theorem dX0_build_84 : decode cX0_build 84 = .ok (.getfield 22, 3) := by decide +kernel
theorem dX0_build_87 : decode cX0_build 87 = .ok (.iload 5, 2) := by decide +kernel
theorem dX0_build_89 : decode cX0_build 89 = .ok (.laload, 1) := by decide +kernel
theorem dX0_build_90 : decode cX0_build 90 = .ok (.lload_n 2, 1) := by decide +kernel
theorem dX0_build_91 : decode cX0_build 91 = .ok (.land, 1) := by decide +kernel
theorem dX0_build_92 : decode cX0_build 92 = .ok (.invokevirtual 66, 3) := by decide +kernel
theorem dX0_build_95 : decode cX0_build 95 = .ok (.iinc 4 1, 3) := by decide +kernel
theorem dX0_build_98 : decode cX0_build 98 = .ok (.goto (-71), 3) := by decide +kernel
theorem dX0_build_101 : decode cX0_build 101 = .ok (.aload_n 0, 1) := by decide +kernel
theorem dX0_build_102 : decode cX0_build 102 = .ok (.iconst 0, 1) := by decide +kernel
theorem dX0_build_103 : decode cX0_build 103 = .ok (.putfield 70, 3) := by decide +kernel
theorem dX0_build_106 : decode cX0_build 106 = .ok (.iconst 0, 1) := by decide +kernel
theorem dX0_build_107 : decode cX0_build 107 = .ok (.istore 4, 2) := by decide +kernel
theorem dX0_build_109 : decode cX0_build 109 = .ok (.iload 4, 2) := by decide +kernel
theorem dX0_build_111 : decode cX0_build 111 = .ok (.aload_n 0, 1) := by decide +kernel
theorem dX0_build_112 : decode cX0_build 112 = .ok (.getfield 47, 3) := by decide +kernel
theorem dX0_build_115 : decode cX0_build 115 = .ok (.if_icmp .ge 28, 3) := by decide +kernel
theorem dX0_build_118 : decode cX0_build 118 = .ok (.aload_n 0, 1) := by decide +kernel
theorem dX0_build_119 : decode cX0_build 119 = .ok (.dup, 1) := by decide +kernel
theorem dX0_build_120 : decode cX0_build 120 = .ok (.getfield 70, 3) := by decide +kernel
theorem dX0_build_123 : decode cX0_build 123 = .ok (.aload_n 0, 1) := by decide +kernel
theorem dX0_build_124 : decode cX0_build 124 = .ok (.getfield 22, 3) := by decide +kernel
theorem dX0_build_127 : decode cX0_build 127 = .ok (.iload 4, 2) := by decide +kernel
theorem dX0_build_129 : decode cX0_build 129 = .ok (.laload, 1) := by decide +kernel
theorem dX0_build_130 : decode cX0_build 130 = .ok (.invokestatic 73, 3) := by decide +kernel
theorem dX0_build_133 : decode cX0_build 133 = .ok (.iadd, 1) := by decide +kernel
theorem dX0_build_134 : decode cX0_build 134 = .ok (.putfield 70, 3) := by decide +kernel
theorem dX0_build_137 : decode cX0_build 137 = .ok (.iinc 4 1, 3) := by decide +kernel
theorem dX0_build_140 : decode cX0_build 140 = .ok (.goto (-31), 3) := by decide +kernel
theorem dX0_build_143 : decode cX0_build 143 = .ok (.aload_n 0, 1) := by decide +kernel
theorem dX0_build_144 : decode cX0_build 144 = .ok (.aload_n 0, 1) := by decide +kernel
theorem dX0_build_145 : decode cX0_build 145 = .ok (.getfield 70, 3) := by decide +kernel
theorem dX0_build_148 : decode cX0_build 148 = .ok (.iload_n 1, 1) := by decide +kernel
theorem dX0_build_149 : decode cX0_build 149 = .ok (.isub, 1) := by decide +kernel
theorem dX0_build_150 : decode cX0_build 150 = .ok (.putfield 78, 3) := by decide +kernel
theorem dX0_build_153 : decode cX0_build 153 = .ok (.aload_n 0, 1) := by decide +kernel
theorem dX0_build_154 : decode cX0_build 154 = .ok (.getfield 29, 3) := by decide +kernel
theorem dX0_build_157 : decode cX0_build 157 = .ok (.ldc 81, 2) := by decide +kernel
theorem dX0_build_159 : decode cX0_build 159 = .ok (.invokestatic 82, 3) := by decide +kernel
theorem dX0_build_162 : decode cX0_build 162 = .ok (.aload_n 0, 1) := by decide +kernel
theorem dX0_build_163 : decode cX0_build 163 = .ok (.getfield 32, 3) := by decide +kernel
theorem dX0_build_166 : decode cX0_build 166 = .ok (.ldc 81, 2) := by decide +kernel
theorem dX0_build_168 : decode cX0_build 168 = .ok (.invokestatic 82, 3) := by decide +kernel
theorem dX0_build_171 : decode cX0_build 171 = .ok (.aload_n 0, 1) := by decide +kernel
theorem dX0_build_172 : decode cX0_build 172 = .ok (.aload_n 0, 1) := by decide +kernel
theorem dX0_build_173 : decode cX0_build 173 = .ok (.getfield 9, 3) := by decide +kernel
theorem dX0_build_176 : decode cX0_build 176 = .ok (.invokevirtual 52, 3) := by decide +kernel
theorem dX0_build_179 : decode cX0_build 179 = .ok (.aload_n 0, 1) := by decide +kernel
theorem dX0_build_180 : decode cX0_build 180 = .ok (.getfield 9, 3) := by decide +kernel
theorem dX0_build_183 : decode cX0_build 183 = .ok (.invokevirtual 52, 3) := by decide +kernel
theorem dX0_build_186 : decode cX0_build 186 = .ok (.invokevirtual 88, 3) := by decide +kernel
theorem dX0_build_189 : decode cX0_build 189 = .ok (.aload_n 0, 1) := by decide +kernel
theorem dX0_build_190 : decode cX0_build 190 = .ok (.invokevirtual 91, 3) := by decide +kernel
theorem dX0_build_193 : decode cX0_build 193 = .ok (.pop, 1) := by decide +kernel
theorem dX0_build_194 : decode cX0_build 194 = .ok (.aload_n 0, 1) := by decide +kernel
theorem dX0_build_195 : decode cX0_build 195 = .ok (.iconst 1, 1) := by decide +kernel
theorem dX0_build_196 : decode cX0_build 196 = .ok (.putfield 94, 3) := by decide +kernel
theorem dX0_build_199 : decode cX0_build 199 = .ok (.return_, 1) := by decide +kernel
theorem dX0_linkTurns_0 : decode cX0_linkTurns 0 = .ok (.iconst 0, 1) := by decide +kernel
theorem dX0_linkTurns_1 : decode cX0_linkTurns 1 = .ok (.istore_n 1, 1) := by decide +kernel
theorem dX0_linkTurns_2 : decode cX0_linkTurns 2 = .ok (.iconst 0, 1) := by decide +kernel
theorem dX0_linkTurns_3 : decode cX0_linkTurns 3 = .ok (.istore_n 2, 1) := by decide +kernel
theorem dX0_linkTurns_4 : decode cX0_linkTurns 4 = .ok (.iload_n 2, 1) := by decide +kernel
theorem dX0_linkTurns_5 : decode cX0_linkTurns 5 = .ok (.aload_n 0, 1) := by decide +kernel
theorem dX0_linkTurns_6 : decode cX0_linkTurns 6 = .ok (.getfield 47, 3) := by decide +kernel
theorem dX0_linkTurns_9 : decode cX0_linkTurns 9 = .ok (.if_icmp .ge 49, 3) := by decide +kernel
theorem dX0_linkTurns_12 : decode cX0_linkTurns 12 = .ok (.aload_n 0, 1) := by decide +kernel
theorem dX0_linkTurns_13 : decode cX0_linkTurns 13 = .ok (.getfield 22, 3) := by decide +kernel
theorem dX0_linkTurns_16 : decode cX0_linkTurns 16 = .ok (.iload_n 2, 1) := by decide +kernel
theorem dX0_linkTurns_17 : decode cX0_linkTurns 17 = .ok (.aload_n 0, 1) := by decide +kernel
theorem dX0_linkTurns_18 : decode cX0_linkTurns 18 = .ok (.getfield 9, 3) := by decide +kernel
theorem dX0_linkTurns_21 : decode cX0_linkTurns 21 = .ok (.iload_n 2, 1) := by decide +kernel
theorem dX0_linkTurns_22 : decode cX0_linkTurns 22 = .ok (.invokevirtual 98, 3) := by decide +kernel
theorem dX0_linkTurns_25 : decode cX0_linkTurns 25 = .ok (.lastore, 1) := by decide +kernel
theorem dX0_linkTurns_26 : decode cX0_linkTurns 26 = .ok (.aload_n 0, 1) := by decide +kernel
theorem dX0_linkTurns_27 : decode cX0_linkTurns 27 = .ok (.getfield 26, 3) := by decide +kernel
theorem dX0_linkTurns_30 : decode cX0_linkTurns 30 = .ok (.iload_n 2, 1) := by decide +kernel
theorem dX0_linkTurns_31 : decode cX0_linkTurns 31 = .ok (.aload_n 0, 1) := by decide +kernel
theorem dX0_linkTurns_32 : decode cX0_linkTurns 32 = .ok (.getfield 9, 3) := by decide +kernel
theorem dX0_linkTurns_35 : decode cX0_linkTurns 35 = .ok (.iload_n 2, 1) := by decide +kernel
theorem dX0_linkTurns_36 : decode cX0_linkTurns 36 = .ok (.invokevirtual 101, 3) := by decide +kernel
theorem dX0_linkTurns_39 : decode cX0_linkTurns 39 = .ok (.lastore, 1) := by decide +kernel
theorem dX0_linkTurns_40 : decode cX0_linkTurns 40 = .ok (.iload_n 1, 1) := by decide +kernel
theorem dX0_linkTurns_41 : decode cX0_linkTurns 41 = .ok (.aload_n 0, 1) := by decide +kernel
theorem dX0_linkTurns_42 : decode cX0_linkTurns 42 = .ok (.getfield 22, 3) := by decide +kernel
theorem dX0_linkTurns_45 : decode cX0_linkTurns 45 = .ok (.iload_n 2, 1) := by decide +kernel
theorem dX0_linkTurns_46 : decode cX0_linkTurns 46 = .ok (.laload, 1) := by decide +kernel
theorem dX0_linkTurns_47 : decode cX0_linkTurns 47 = .ok (.invokestatic 73, 3) := by decide +kernel
theorem dX0_linkTurns_50 : decode cX0_linkTurns 50 = .ok (.iadd, 1) := by decide +kernel
theorem dX0_linkTurns_51 : decode cX0_linkTurns 51 = .ok (.istore_n 1, 1) := by decide +kernel
theorem dX0_linkTurns_52 : decode cX0_linkTurns 52 = .ok (.iinc 2 1, 3) := by decide +kernel
theorem dX0_linkTurns_55 : decode cX0_linkTurns 55 = .ok (.goto (-51), 3) := by decide +kernel
theorem dX0_linkTurns_58 : decode cX0_linkTurns 58 = .ok (.iload_n 1, 1) := by decide +kernel
theorem dX0_linkTurns_59 : decode cX0_linkTurns 59 = .ok (.ireturn, 1) := by decide +kernel
theorem dX0_cheapest_0 : decode cX0_cheapest 0 = .ok (.iconst 0, 1) := by decide +kernel
theorem dX0_cheapest_1 : decode cX0_cheapest 1 = .ok (.istore_n 3, 1) := by decide +kernel
theorem dX0_cheapest_2 : decode cX0_cheapest 2 = .ok (.ldc 81, 2) := by decide +kernel
theorem dX0_cheapest_4 : decode cX0_cheapest 4 = .ok (.istore 4, 2) := by decide +kernel
theorem dX0_cheapest_6 : decode cX0_cheapest 6 = .ok (.iconst 0, 1) := by decide +kernel
theorem dX0_cheapest_7 : decode cX0_cheapest 7 = .ok (.istore 5, 2) := by decide +kernel
theorem dX0_cheapest_9 : decode cX0_cheapest 9 = .ok (.iload 5, 2) := by decide +kernel
theorem dX0_cheapest_11 : decode cX0_cheapest 11 = .ok (.aload_n 0, 1) := by decide +kernel
theorem dX0_cheapest_12 : decode cX0_cheapest 12 = .ok (.getfield 47, 3) := by decide +kernel
theorem dX0_cheapest_15 : decode cX0_cheapest 15 = .ok (.if_icmp .ge 66, 3) := by decide +kernel
theorem dX0_cheapest_18 : decode cX0_cheapest 18 = .ok (.lload_n 1, 1) := by decide +kernel
theorem dX0_cheapest_19 : decode cX0_cheapest 19 = .ok (.iload 5, 2) := by decide +kernel
theorem dX0_cheapest_21 : decode cX0_cheapest 21 = .ok (.invokestatic 104, 3) := by decide +kernel
theorem dX0_cheapest_24 : decode cX0_cheapest 24 = .ok (.ifCond .eq 51, 3) := by decide +kernel
theorem dX0_cheapest_27 : decode cX0_cheapest 27 = .ok (.aload_n 0, 1) := by decide +kernel
theorem dX0_cheapest_28 : decode cX0_cheapest 28 = .ok (.getfield 26, 3) := by decide +kernel
theorem dX0_cheapest_31 : decode cX0_cheapest 31 = .ok (.iload 5, 2) := by decide +kernel
theorem dX0_cheapest_33 : decode cX0_cheapest 33 = .ok (.laload, 1) := by decide +kernel
theorem dX0_cheapest_34 : decode cX0_cheapest 34 = .ok (.lload_n 1, 1) := by decide +kernel
theorem dX0_cheapest_35 : decode cX0_cheapest 35 = .ok (.land, 1) := by decide +kernel
theorem dX0_cheapest_36 : decode cX0_cheapest 36 = .ok (.invokestatic 73, 3) := by decide +kernel
theorem dX0_cheapest_39 : decode cX0_cheapest 39 = .ok (.istore 6, 2) := by decide +kernel
theorem dX0_cheapest_41 : decode cX0_cheapest 41 = .ok (.aload_n 0, 1) := by decide +kernel
theorem dX0_cheapest_42 : decode cX0_cheapest 42 = .ok (.getfield 22, 3) := by decide +kernel
theorem dX0_cheapest_45 : decode cX0_cheapest 45 = .ok (.iload 5, 2) := by decide +kernel
theorem dX0_cheapest_47 : decode cX0_cheapest 47 = .ok (.laload, 1) := by decide +kernel
theorem dX0_cheapest_48 : decode cX0_cheapest 48 = .ok (.lload_n 1, 1) := by decide +kernel
theorem dX0_cheapest_49 : decode cX0_cheapest 49 = .ok (.land, 1) := by decide +kernel
theorem dX0_cheapest_50 : decode cX0_cheapest 50 = .ok (.invokestatic 73, 3) := by decide +kernel
theorem dX0_cheapest_53 : decode cX0_cheapest 53 = .ok (.istore 7, 2) := by decide +kernel
theorem dX0_cheapest_55 : decode cX0_cheapest 55 = .ok (.iload 6, 2) := by decide +kernel
theorem dX0_cheapest_57 : decode cX0_cheapest 57 = .ok (.iload 7, 2) := by decide +kernel
theorem dX0_cheapest_59 : decode cX0_cheapest 59 = .ok (.imul, 1) := by decide +kernel
theorem dX0_cheapest_60 : decode cX0_cheapest 60 = .ok (.iload 4, 2) := by decide +kernel
theorem dX0_cheapest_62 : decode cX0_cheapest 62 = .ok (.if_icmp .ge 13, 3) := by decide +kernel
theorem dX0_cheapest_65 : decode cX0_cheapest 65 = .ok (.iload 5, 2) := by decide +kernel
theorem dX0_cheapest_67 : decode cX0_cheapest 67 = .ok (.istore_n 3, 1) := by decide +kernel
theorem dX0_cheapest_68 : decode cX0_cheapest 68 = .ok (.iload 6, 2) := by decide +kernel
theorem dX0_cheapest_70 : decode cX0_cheapest 70 = .ok (.iload 7, 2) := by decide +kernel
theorem dX0_cheapest_72 : decode cX0_cheapest 72 = .ok (.imul, 1) := by decide +kernel
theorem dX0_cheapest_73 : decode cX0_cheapest 73 = .ok (.istore 4, 2) := by decide +kernel
theorem dX0_cheapest_75 : decode cX0_cheapest 75 = .ok (.iinc 5 1, 3) := by decide +kernel
theorem dX0_cheapest_78 : decode cX0_cheapest 78 = .ok (.goto (-69), 3) := by decide +kernel
theorem dX0_cheapest_81 : decode cX0_cheapest 81 = .ok (.iload_n 3, 1) := by decide +kernel
theorem dX0_cheapest_82 : decode cX0_cheapest 82 = .ok (.ireturn, 1) := by decide +kernel
theorem dX0_bridge_0 : decode cX0_bridge 0 = .ok (.iconst 0, 1) := by decide +kernel
theorem dX0_bridge_1 : decode cX0_bridge 1 = .ok (.istore 5, 2) := by decide +kernel
theorem dX0_bridge_3 : decode cX0_bridge 3 = .ok (.iload 5, 2) := by decide +kernel
theorem dX0_bridge_5 : decode cX0_bridge 5 = .ok (.aload_n 0, 1) := by decide +kernel
theorem dX0_bridge_6 : decode cX0_bridge 6 = .ok (.getfield 47, 3) := by decide +kernel
theorem dX0_bridge_9 : decode cX0_bridge 9 = .ok (.if_icmp .ge 69, 3) := by decide +kernel
theorem dX0_bridge_12 : decode cX0_bridge 12 = .ok (.lload_n 1, 1) := by decide +kernel
theorem dX0_bridge_13 : decode cX0_bridge 13 = .ok (.iload 5, 2) := by decide +kernel
theorem dX0_bridge_15 : decode cX0_bridge 15 = .ok (.invokestatic 104, 3) := by decide +kernel
theorem dX0_bridge_18 : decode cX0_bridge 18 = .ok (.ifCond .eq 24, 3) := by decide +kernel
theorem dX0_bridge_21 : decode cX0_bridge 21 = .ok (.aload_n 0, 1) := by decide +kernel
theorem dX0_bridge_22 : decode cX0_bridge 22 = .ok (.getfield 22, 3) := by decide +kernel
theorem dX0_bridge_25 : decode cX0_bridge 25 = .ok (.iload 5, 2) := by decide +kernel
theorem dX0_bridge_27 : decode cX0_bridge 27 = .ok (.dup2, 1) := by decide +kernel
theorem dX0_bridge_28 : decode cX0_bridge 28 = .ok (.laload, 1) := by decide +kernel
theorem dX0_bridge_29 : decode cX0_bridge 29 = .ok (.lload_n 3, 1) := by decide +kernel
theorem dX0_bridge_30 : decode cX0_bridge 30 = .ok (.iload 5, 2) := by decide +kernel
theorem dX0_bridge_32 : decode cX0_bridge 32 = .ok (.invokestatic 60, 3) := by decide +kernel
theorem dX0_bridge_35 : decode cX0_bridge 35 = .ok (.ldc2_w 64, 3) := by decide +kernel
theorem dX0_bridge_38 : decode cX0_bridge 38 = .ok (.lxor, 1) := by decide +kernel
theorem dX0_bridge_39 : decode cX0_bridge 39 = .ok (.land, 1) := by decide +kernel
theorem dX0_bridge_40 : decode cX0_bridge 40 = .ok (.lor, 1) := by decide +kernel
theorem dX0_bridge_41 : decode cX0_bridge 41 = .ok (.lastore, 1) := by decide +kernel
theorem dX0_bridge_42 : decode cX0_bridge 42 = .ok (.lload_n 3, 1) := by decide +kernel
theorem dX0_bridge_43 : decode cX0_bridge 43 = .ok (.iload 5, 2) := by decide +kernel
theorem dX0_bridge_45 : decode cX0_bridge 45 = .ok (.invokestatic 104, 3) := by decide +kernel
theorem dX0_bridge_48 : decode cX0_bridge 48 = .ok (.ifCond .eq 24, 3) := by decide +kernel
theorem dX0_bridge_51 : decode cX0_bridge 51 = .ok (.aload_n 0, 1) := by decide +kernel
theorem dX0_bridge_52 : decode cX0_bridge 52 = .ok (.getfield 26, 3) := by decide +kernel
theorem dX0_bridge_55 : decode cX0_bridge 55 = .ok (.iload 5, 2) := by decide +kernel
theorem dX0_bridge_57 : decode cX0_bridge 57 = .ok (.dup2, 1) := by decide +kernel
theorem dX0_bridge_58 : decode cX0_bridge 58 = .ok (.laload, 1) := by decide +kernel
theorem dX0_bridge_59 : decode cX0_bridge 59 = .ok (.lload_n 1, 1) := by decide +kernel
theorem dX0_bridge_60 : decode cX0_bridge 60 = .ok (.iload 5, 2) := by decide +kernel
theorem dX0_bridge_62 : decode cX0_bridge 62 = .ok (.invokestatic 60, 3) := by decide +kernel
theorem dX0_bridge_65 : decode cX0_bridge 65 = .ok (.ldc2_w 64, 3) := by decide +kernel
theorem dX0_bridge_68 : decode cX0_bridge 68 = .ok (.lxor, 1) := by decide +kernel
theorem dX0_bridge_69 : decode cX0_bridge 69 = .ok (.land, 1) := by decide +kernel
theorem dX0_bridge_70 : decode cX0_bridge 70 = .ok (.lor, 1) := by decide +kernel
theorem dX0_bridge_71 : decode cX0_bridge 71 = .ok (.lastore, 1) := by decide +kernel
theorem dX0_bridge_72 : decode cX0_bridge 72 = .ok (.iinc 5 1, 3) := by decide +kernel
theorem dX0_bridge_75 : decode cX0_bridge 75 = .ok (.goto (-72), 3) := by decide +kernel
theorem dX0_bridge_78 : decode cX0_bridge 78 = .ok (.return_, 1) := by decide +kernel
theorem dX0_renewRoad_0 : decode cX0_renewRoad 0 = .ok (.aload_n 0, 1) := by decide +kernel
theorem dX0_renewRoad_1 : decode cX0_renewRoad 1 = .ok (.getfield 94, 3) := by decide +kernel
theorem dX0_renewRoad_4 : decode cX0_renewRoad 4 = .ok (.ifCond .ne 5, 3) := by decide +kernel
theorem dX0_renewRoad_7 : decode cX0_renewRoad 7 = .ok (.iconst 0, 1) := by decide +kernel
theorem dX0_renewRoad_8 : decode cX0_renewRoad 8 = .ok (.ireturn, 1) := by decide +kernel
theorem dX0_renewRoad_9 : decode cX0_renewRoad 9 = .ok (.aload_n 0, 1) := by decide +kernel
theorem dX0_renewRoad_10 : decode cX0_renewRoad 10 = .ok (.aload_n 0, 1) := by decide +kernel
theorem dX0_renewRoad_11 : decode cX0_renewRoad 11 = .ok (.getfield 9, 3) := by decide +kernel
theorem dX0_renewRoad_14 : decode cX0_renewRoad 14 = .ok (.iload_n 1, 1) := by decide +kernel
theorem dX0_renewRoad_15 : decode cX0_renewRoad 15 = .ok (.invokevirtual 101, 3) := by decide +kernel
theorem dX0_renewRoad_18 : decode cX0_renewRoad 18 = .ok (.iload_n 1, 1) := by decide +kernel
theorem dX0_renewRoad_19 : decode cX0_renewRoad 19 = .ok (.invokestatic 60, 3) := by decide +kernel
theorem dX0_renewRoad_22 : decode cX0_renewRoad 22 = .ok (.invokevirtual 88, 3) := by decide +kernel
theorem dX0_renewRoad_25 : decode cX0_renewRoad 25 = .ok (.aload_n 0, 1) := by decide +kernel
theorem dX0_renewRoad_26 : decode cX0_renewRoad 26 = .ok (.iload_n 1, 1) := by decide +kernel
theorem dX0_renewRoad_27 : decode cX0_renewRoad 27 = .ok (.invokestatic 60, 3) := by decide +kernel
theorem dX0_renewRoad_30 : decode cX0_renewRoad 30 = .ok (.aload_n 0, 1) := by decide +kernel
theorem dX0_renewRoad_31 : decode cX0_renewRoad 31 = .ok (.getfield 9, 3) := by decide +kernel
theorem dX0_renewRoad_34 : decode cX0_renewRoad 34 = .ok (.iload_n 1, 1) := by decide +kernel
theorem dX0_renewRoad_35 : decode cX0_renewRoad 35 = .ok (.invokevirtual 98, 3) := by decide +kernel
theorem dX0_renewRoad_38 : decode cX0_renewRoad 38 = .ok (.invokevirtual 88, 3) := by decide +kernel
theorem dX0_renewRoad_41 : decode cX0_renewRoad 41 = .ok (.aload_n 0, 1) := by decide +kernel
theorem dX0_renewRoad_42 : decode cX0_renewRoad 42 = .ok (.invokevirtual 91, 3) := by decide +kernel
theorem dX0_renewRoad_45 : decode cX0_renewRoad 45 = .ok (.ireturn, 1) := by decide +kernel
theorem dX0_renewTurn_0 : decode cX0_renewTurn 0 = .ok (.aload_n 0, 1) := by decide +kernel
theorem dX0_renewTurn_1 : decode cX0_renewTurn 1 = .ok (.getfield 94, 3) := by decide +kernel
theorem dX0_renewTurn_4 : decode cX0_renewTurn 4 = .ok (.ifCond .ne 5, 3) := by decide +kernel
theorem dX0_renewTurn_7 : decode cX0_renewTurn 7 = .ok (.iconst 0, 1) := by decide +kernel
theorem dX0_renewTurn_8 : decode cX0_renewTurn 8 = .ok (.ireturn, 1) := by decide +kernel
theorem dX0_renewTurn_9 : decode cX0_renewTurn 9 = .ok (.aload_n 0, 1) := by decide +kernel
theorem dX0_renewTurn_10 : decode cX0_renewTurn 10 = .ok (.iload_n 1, 1) := by decide +kernel
theorem dX0_renewTurn_11 : decode cX0_renewTurn 11 = .ok (.invokestatic 60, 3) := by decide +kernel
theorem dX0_renewTurn_14 : decode cX0_renewTurn 14 = .ok (.iload_n 2, 1) := by decide +kernel
theorem dX0_renewTurn_15 : decode cX0_renewTurn 15 = .ok (.invokestatic 60, 3) := by decide +kernel
theorem dX0_renewTurn_18 : decode cX0_renewTurn 18 = .ok (.invokevirtual 88, 3) := by decide +kernel
theorem dX0_renewTurn_21 : decode cX0_renewTurn 21 = .ok (.aload_n 0, 1) := by decide +kernel
theorem dX0_renewTurn_22 : decode cX0_renewTurn 22 = .ok (.invokevirtual 91, 3) := by decide +kernel
theorem dX0_renewTurn_25 : decode cX0_renewTurn 25 = .ok (.ireturn, 1) := by decide +kernel
theorem dX0_renewAll_0 : decode cX0_renewAll 0 = .ok (.aload_n 0, 1) := by decide +kernel
theorem dX0_renewAll_1 : decode cX0_renewAll 1 = .ok (.getfield 94, 3) := by decide +kernel
theorem dX0_renewAll_4 : decode cX0_renewAll 4 = .ok (.ifCond .ne 5, 3) := by decide +kernel
theorem dX0_renewAll_7 : decode cX0_renewAll 7 = .ok (.iconst 0, 1) := by decide +kernel
theorem dX0_renewAll_8 : decode cX0_renewAll 8 = .ok (.ireturn, 1) := by decide +kernel
theorem dX0_renewAll_9 : decode cX0_renewAll 9 = .ok (.aload_n 0, 1) := by decide +kernel
theorem dX0_renewAll_10 : decode cX0_renewAll 10 = .ok (.aload_n 0, 1) := by decide +kernel
theorem dX0_renewAll_11 : decode cX0_renewAll 11 = .ok (.getfield 9, 3) := by decide +kernel
theorem dX0_renewAll_14 : decode cX0_renewAll 14 = .ok (.invokevirtual 52, 3) := by decide +kernel
theorem dX0_renewAll_17 : decode cX0_renewAll 17 = .ok (.aload_n 0, 1) := by decide +kernel
theorem dX0_renewAll_18 : decode cX0_renewAll 18 = .ok (.getfield 9, 3) := by decide +kernel
theorem dX0_renewAll_21 : decode cX0_renewAll 21 = .ok (.invokevirtual 52, 3) := by decide +kernel
theorem dX0_renewAll_24 : decode cX0_renewAll 24 = .ok (.invokevirtual 88, 3) := by decide +kernel
theorem dX0_renewAll_27 : decode cX0_renewAll 27 = .ok (.aload_n 0, 1) := by decide +kernel
theorem dX0_renewAll_28 : decode cX0_renewAll 28 = .ok (.invokevirtual 91, 3) := by decide +kernel
theorem dX0_renewAll_31 : decode cX0_renewAll 31 = .ok (.ireturn, 1) := by decide +kernel
theorem dX0_renewSteps_0 : decode cX0_renewSteps 0 = .ok (.iconst 0, 1) := by decide +kernel
theorem dX0_renewSteps_1 : decode cX0_renewSteps 1 = .ok (.istore 5, 2) := by decide +kernel
theorem dX0_renewSteps_3 : decode cX0_renewSteps 3 = .ok (.iload 5, 2) := by decide +kernel
theorem dX0_renewSteps_5 : decode cX0_renewSteps 5 = .ok (.aload_n 0, 1) := by decide +kernel
theorem dX0_renewSteps_6 : decode cX0_renewSteps 6 = .ok (.getfield 47, 3) := by decide +kernel
theorem dX0_renewSteps_9 : decode cX0_renewSteps 9 = .ok (.if_icmp .ge 35, 3) := by decide +kernel
theorem dX0_renewSteps_12 : decode cX0_renewSteps 12 = .ok (.lload_n 1, 1) := by decide +kernel
theorem dX0_renewSteps_13 : decode cX0_renewSteps 13 = .ok (.iload 5, 2) := by decide +kernel
theorem dX0_renewSteps_15 : decode cX0_renewSteps 15 = .ok (.invokestatic 104, 3) := by decide +kernel
theorem dX0_renewSteps_18 : decode cX0_renewSteps 18 = .ok (.ifCond .eq 20, 3) := by decide +kernel
theorem dX0_renewSteps_21 : decode cX0_renewSteps 21 = .ok (.aload_n 0, 1) := by decide +kernel
theorem dX0_renewSteps_22 : decode cX0_renewSteps 22 = .ok (.iload 5, 2) := by decide +kernel
theorem dX0_renewSteps_24 : decode cX0_renewSteps 24 = .ok (.aload_n 0, 1) := by decide +kernel
theorem dX0_renewSteps_25 : decode cX0_renewSteps 25 = .ok (.getfield 9, 3) := by decide +kernel
theorem dX0_renewSteps_28 : decode cX0_renewSteps 28 = .ok (.iload 5, 2) := by decide +kernel
theorem dX0_renewSteps_30 : decode cX0_renewSteps 30 = .ok (.invokevirtual 98, 3) := by decide +kernel
theorem dX0_renewSteps_33 : decode cX0_renewSteps 33 = .ok (.lload_n 3, 1) := by decide +kernel
theorem dX0_renewSteps_34 : decode cX0_renewSteps 34 = .ok (.land, 1) := by decide +kernel
theorem dX0_renewSteps_35 : decode cX0_renewSteps 35 = .ok (.invokevirtual 108, 3) := by decide +kernel
theorem dX0_renewSteps_38 : decode cX0_renewSteps 38 = .ok (.iinc 5 1, 3) := by decide +kernel
theorem dX0_renewSteps_41 : decode cX0_renewSteps 41 = .ok (.goto (-38), 3) := by decide +kernel
theorem dX0_renewSteps_44 : decode cX0_renewSteps 44 = .ok (.return_, 1) := by decide +kernel
theorem dX0_renewStepsFrom_0 : decode cX0_renewStepsFrom 0 = .ok (.iconst 0, 1) := by decide +kernel
theorem dX0_renewStepsFrom_1 : decode cX0_renewStepsFrom 1 = .ok (.istore 4, 2) := by decide +kernel
theorem dX0_renewStepsFrom_3 : decode cX0_renewStepsFrom 3 = .ok (.iload 4, 2) := by decide +kernel
theorem dX0_renewStepsFrom_5 : decode cX0_renewStepsFrom 5 = .ok (.aload_n 0, 1) := by decide +kernel
theorem dX0_renewStepsFrom_6 : decode cX0_renewStepsFrom 6 = .ok (.getfield 47, 3) := by decide +kernel
theorem dX0_renewStepsFrom_9 : decode cX0_renewStepsFrom 9 = .ok (.if_icmp .ge 66, 3) := by decide +kernel
theorem dX0_renewStepsFrom_12 : decode cX0_renewStepsFrom 12 = .ok (.lload_n 2, 1) := by decide +kernel
theorem dX0_renewStepsFrom_13 : decode cX0_renewStepsFrom 13 = .ok (.iload 4, 2) := by decide +kernel
theorem dX0_renewStepsFrom_15 : decode cX0_renewStepsFrom 15 = .ok (.invokestatic 104, 3) := by decide +kernel
theorem dX0_renewStepsFrom_18 : decode cX0_renewStepsFrom 18 = .ok (.ifCond .eq 51, 3) := by decide +kernel
theorem dX0_renewStepsFrom_21 : decode cX0_renewStepsFrom 21 = .ok (.aload_n 0, 1) := by decide +kernel
theorem dX0_renewStepsFrom_22 : decode cX0_renewStepsFrom 22 = .ok (.getfield 9, 3) := by decide +kernel
theorem dX0_renewStepsFrom_25 : decode cX0_renewStepsFrom 25 = .ok (.iload_n 1, 1) := by decide +kernel
theorem dX0_renewStepsFrom_26 : decode cX0_renewStepsFrom 26 = .ok (.iload 4, 2) := by decide +kernel
theorem dX0_renewStepsFrom_28 : decode cX0_renewStepsFrom 28 = .ok (.invokevirtual 112, 3) := by decide +kernel
theorem dX0_renewStepsFrom_31 : decode cX0_renewStepsFrom 31 = .ok (.istore 5, 2) := by decide +kernel
theorem dX0_renewStepsFrom_33 : decode cX0_renewStepsFrom 33 = .ok (.iload 5, 2) := by decide +kernel
theorem dX0_renewStepsFrom_35 : decode cX0_renewStepsFrom 35 = .ok (.aload_n 0, 1) := by decide +kernel
theorem dX0_renewStepsFrom_36 : decode cX0_renewStepsFrom 36 = .ok (.getfield 32, 3) := by decide +kernel
theorem dX0_renewStepsFrom_39 : decode cX0_renewStepsFrom 39 = .ok (.iload_n 1, 1) := by decide +kernel
theorem dX0_renewStepsFrom_40 : decode cX0_renewStepsFrom 40 = .ok (.iload 4, 2) := by decide +kernel
theorem dX0_renewStepsFrom_42 : decode cX0_renewStepsFrom 42 = .ok (.invokestatic 116, 3) := by decide +kernel
theorem dX0_renewStepsFrom_45 : decode cX0_renewStepsFrom 45 = .ok (.iaload, 1) := by decide +kernel
theorem dX0_renewStepsFrom_46 : decode cX0_renewStepsFrom 46 = .ok (.if_icmp .eq 23, 3) := by decide +kernel
theorem dX0_renewStepsFrom_49 : decode cX0_renewStepsFrom 49 = .ok (.aload_n 0, 1) := by decide +kernel
theorem dX0_renewStepsFrom_50 : decode cX0_renewStepsFrom 50 = .ok (.getfield 32, 3) := by decide +kernel
theorem dX0_renewStepsFrom_53 : decode cX0_renewStepsFrom 53 = .ok (.iload_n 1, 1) := by decide +kernel
theorem dX0_renewStepsFrom_54 : decode cX0_renewStepsFrom 54 = .ok (.iload 4, 2) := by decide +kernel
theorem dX0_renewStepsFrom_56 : decode cX0_renewStepsFrom 56 = .ok (.invokestatic 116, 3) := by decide +kernel
theorem dX0_renewStepsFrom_59 : decode cX0_renewStepsFrom 59 = .ok (.iload 5, 2) := by decide +kernel
theorem dX0_renewStepsFrom_61 : decode cX0_renewStepsFrom 61 = .ok (.iastore, 1) := by decide +kernel
theorem dX0_renewStepsFrom_62 : decode cX0_renewStepsFrom 62 = .ok (.aload_n 0, 1) := by decide +kernel
theorem dX0_renewStepsFrom_63 : decode cX0_renewStepsFrom 63 = .ok (.iload_n 1, 1) := by decide +kernel
theorem dX0_renewStepsFrom_64 : decode cX0_renewStepsFrom 64 = .ok (.iload 4, 2) := by decide +kernel
theorem dX0_renewStepsFrom_66 : decode cX0_renewStepsFrom 66 = .ok (.invokevirtual 119, 3) := by decide +kernel
theorem dX0_renewStepsFrom_69 : decode cX0_renewStepsFrom 69 = .ok (.iinc 4 1, 3) := by decide +kernel
theorem dX0_renewStepsFrom_72 : decode cX0_renewStepsFrom 72 = .ok (.goto (-69), 3) := by decide +kernel
theorem dX0_renewStepsFrom_75 : decode cX0_renewStepsFrom 75 = .ok (.return_, 1) := by decide +kernel
theorem dX0_markArc_0 : decode cX0_markArc 0 = .ok (.aload_n 0, 1) := by decide +kernel
theorem dX0_markArc_1 : decode cX0_markArc 1 = .ok (.getfield 15, 3) := by decide +kernel
theorem dX0_markArc_4 : decode cX0_markArc 4 = .ok (.iload_n 1, 1) := by decide +kernel
theorem dX0_markArc_5 : decode cX0_markArc 5 = .ok (.iaload, 1) := by decide +kernel
theorem dX0_markArc_6 : decode cX0_markArc 6 = .ok (.aload_n 0, 1) := by decide +kernel
theorem dX0_markArc_7 : decode cX0_markArc 7 = .ok (.getfield 15, 3) := by decide +kernel
theorem dX0_markArc_10 : decode cX0_markArc 10 = .ok (.iload_n 2, 1) := by decide +kernel
theorem dX0_markArc_11 : decode cX0_markArc 11 = .ok (.iaload, 1) := by decide +kernel
theorem dX0_markArc_12 : decode cX0_markArc 12 = .ok (.if_icmp .ge 19, 3) := by decide +kernel
theorem dX0_markArc_15 : decode cX0_markArc 15 = .ok (.aload_n 0, 1) := by decide +kernel
theorem dX0_markArc_16 : decode cX0_markArc 16 = .ok (.getfield 35, 3) := by decide +kernel
theorem dX0_markArc_19 : decode cX0_markArc 19 = .ok (.iload_n 1, 1) := by decide +kernel
theorem dX0_markArc_20 : decode cX0_markArc 20 = .ok (.dup2, 1) := by decide +kernel
theorem dX0_markArc_21 : decode cX0_markArc 21 = .ok (.laload, 1) := by decide +kernel
theorem dX0_markArc_22 : decode cX0_markArc 22 = .ok (.iload_n 2, 1) := by decide +kernel
theorem dX0_markArc_23 : decode cX0_markArc 23 = .ok (.invokestatic 60, 3) := by decide +kernel
theorem dX0_markArc_26 : decode cX0_markArc 26 = .ok (.lor, 1) := by decide +kernel
theorem dX0_markArc_27 : decode cX0_markArc 27 = .ok (.lastore, 1) := by decide +kernel
theorem dX0_markArc_28 : decode cX0_markArc 28 = .ok (.goto 16, 3) := by decide +kernel
theorem dX0_markArc_31 : decode cX0_markArc 31 = .ok (.aload_n 0, 1) := by decide +kernel
theorem dX0_markArc_32 : decode cX0_markArc 32 = .ok (.getfield 38, 3) := by decide +kernel
theorem dX0_markArc_35 : decode cX0_markArc 35 = .ok (.iload_n 2, 1) := by decide +kernel
theorem dX0_markArc_36 : decode cX0_markArc 36 = .ok (.dup2, 1) := by decide +kernel
theorem dX0_markArc_37 : decode cX0_markArc 37 = .ok (.laload, 1) := by decide +kernel
theorem dX0_markArc_38 : decode cX0_markArc 38 = .ok (.iload_n 1, 1) := by decide +kernel
theorem dX0_markArc_39 : decode cX0_markArc 39 = .ok (.invokestatic 60, 3) := by decide +kernel
theorem dX0_markArc_42 : decode cX0_markArc 42 = .ok (.lor, 1) := by decide +kernel
theorem dX0_markArc_43 : decode cX0_markArc 43 = .ok (.lastore, 1) := by decide +kernel
theorem dX0_markArc_44 : decode cX0_markArc 44 = .ok (.return_, 1) := by decide +kernel
theorem dX0_settle_0 : decode cX0_settle 0 = .ok (.iconst 0, 1) := by decide +kernel
theorem dX0_settle_1 : decode cX0_settle 1 = .ok (.istore_n 1, 1) := by decide +kernel
theorem dX0_settle_2 : decode cX0_settle 2 = .ok (.iconst 0, 1) := by decide +kernel
theorem dX0_settle_3 : decode cX0_settle 3 = .ok (.istore_n 2, 1) := by decide +kernel
theorem dX0_settle_4 : decode cX0_settle 4 = .ok (.iload_n 2, 1) := by decide +kernel
theorem dX0_settle_5 : decode cX0_settle 5 = .ok (.aload_n 0, 1) := by decide +kernel
theorem dX0_settle_6 : decode cX0_settle 6 = .ok (.getfield 47, 3) := by decide +kernel
theorem dX0_settle_9 : decode cX0_settle 9 = .ok (.if_icmp .ge 132, 3) := by decide +kernel
theorem dX0_settle_12 : decode cX0_settle 12 = .ok (.aload_n 0, 1) := by decide +kernel
theorem dX0_settle_13 : decode cX0_settle 13 = .ok (.getfield 19, 3) := by decide +kernel
theorem dX0_settle_16 : decode cX0_settle 16 = .ok (.iload_n 2, 1) := by decide +kernel
theorem dX0_settle_17 : decode cX0_settle 17 = .ok (.iaload, 1) := by decide +kernel
theorem dX0_settle_18 : decode cX0_settle 18 = .ok (.istore_n 3, 1) := by decide +kernel
theorem dX0_settle_19 : decode cX0_settle 19 = .ok (.aload_n 0, 1) := by decide +kernel
theorem dX0_settle_20 : decode cX0_settle 20 = .ok (.getfield 35, 3) := by decide +kernel
theorem dX0_settle_23 : decode cX0_settle 23 = .ok (.iload_n 3, 1) := by decide +kernel
theorem dX0_settle_24 : decode cX0_settle 24 = .ok (.laload, 1) := by decide +kernel
theorem dX0_settle_25 : decode cX0_settle 25 = .ok (.lconst 0, 1) := by decide +kernel
theorem dX0_settle_26 : decode cX0_settle 26 = .ok (.lcmp, 1) := by decide +kernel
theorem dX0_settle_27 : decode cX0_settle 27 = .ok (.ifCond .ne 17, 3) := by decide +kernel
theorem dX0_settle_30 : decode cX0_settle 30 = .ok (.aload_n 0, 1) := by decide +kernel
theorem dX0_settle_31 : decode cX0_settle 31 = .ok (.getfield 38, 3) := by decide +kernel
theorem dX0_settle_34 : decode cX0_settle 34 = .ok (.iload_n 3, 1) := by decide +kernel
theorem dX0_settle_35 : decode cX0_settle 35 = .ok (.laload, 1) := by decide +kernel
theorem dX0_settle_36 : decode cX0_settle 36 = .ok (.lconst 0, 1) := by decide +kernel
theorem dX0_settle_37 : decode cX0_settle 37 = .ok (.lcmp, 1) := by decide +kernel
theorem dX0_settle_38 : decode cX0_settle 38 = .ok (.ifCond .ne 6, 3) := by decide +kernel
theorem dX0_settle_41 : decode cX0_settle 41 = .ok (.goto 94, 3) := by decide +kernel
theorem dX0_settle_44 : decode cX0_settle 44 = .ok (.iload_n 2, 1) := by decide +kernel
theorem dX0_settle_45 : decode cX0_settle 45 = .ok (.iconst 1, 1) := by decide +kernel
theorem dX0_settle_46 : decode cX0_settle 46 = .ok (.iadd, 1) := by decide +kernel
theorem dX0_settle_47 : decode cX0_settle 47 = .ok (.istore 4, 2) := by decide +kernel
theorem dX0_settle_49 : decode cX0_settle 49 = .ok (.iload 4, 2) := by decide +kernel
theorem dX0_settle_51 : decode cX0_settle 51 = .ok (.aload_n 0, 1) := by decide +kernel
theorem dX0_settle_52 : decode cX0_settle 52 = .ok (.getfield 47, 3) := by decide +kernel
theorem dX0_settle_55 : decode cX0_settle 55 = .ok (.if_icmp .ge 66, 3) := by decide +kernel
theorem dX0_settle_58 : decode cX0_settle 58 = .ok (.aload_n 0, 1) := by decide +kernel
theorem dX0_settle_59 : decode cX0_settle 59 = .ok (.getfield 19, 3) := by decide +kernel
theorem dX0_settle_62 : decode cX0_settle 62 = .ok (.iload 4, 2) := by decide +kernel
theorem dX0_settle_64 : decode cX0_settle 64 = .ok (.iaload, 1) := by decide +kernel
theorem dX0_settle_65 : decode cX0_settle 65 = .ok (.istore 5, 2) := by decide +kernel
theorem dX0_settle_67 : decode cX0_settle 67 = .ok (.aload_n 0, 1) := by decide +kernel
theorem dX0_settle_68 : decode cX0_settle 68 = .ok (.getfield 35, 3) := by decide +kernel
theorem dX0_settle_71 : decode cX0_settle 71 = .ok (.iload_n 3, 1) := by decide +kernel
theorem dX0_settle_72 : decode cX0_settle 72 = .ok (.laload, 1) := by decide +kernel
theorem dX0_settle_73 : decode cX0_settle 73 = .ok (.iload 5, 2) := by decide +kernel
theorem dX0_settle_75 : decode cX0_settle 75 = .ok (.invokestatic 104, 3) := by decide +kernel
theorem dX0_settle_78 : decode cX0_settle 78 = .ok (.ifCond .eq 13, 3) := by decide +kernel
theorem dX0_settle_81 : decode cX0_settle 81 = .ok (.iload_n 1, 1) := by decide +kernel
theorem dX0_settle_82 : decode cX0_settle 82 = .ok (.aload_n 0, 1) := by decide +kernel
theorem dX0_settle_83 : decode cX0_settle 83 = .ok (.iload_n 3, 1) := by decide +kernel
theorem dX0_settle_84 : decode cX0_settle 84 = .ok (.iload 5, 2) := by decide +kernel
theorem dX0_settle_86 : decode cX0_settle 86 = .ok (.invokevirtual 123, 3) := by decide +kernel
theorem dX0_settle_89 : decode cX0_settle 89 = .ok (.iadd, 1) := by decide +kernel
theorem dX0_settle_90 : decode cX0_settle 90 = .ok (.istore_n 1, 1) := by decide +kernel
theorem dX0_settle_91 : decode cX0_settle 91 = .ok (.aload_n 0, 1) := by decide +kernel
theorem dX0_settle_92 : decode cX0_settle 92 = .ok (.getfield 38, 3) := by decide +kernel
theorem dX0_settle_95 : decode cX0_settle 95 = .ok (.iload_n 3, 1) := by decide +kernel
theorem dX0_settle_96 : decode cX0_settle 96 = .ok (.laload, 1) := by decide +kernel
theorem dX0_settle_97 : decode cX0_settle 97 = .ok (.iload 5, 2) := by decide +kernel
theorem dX0_settle_99 : decode cX0_settle 99 = .ok (.invokestatic 104, 3) := by decide +kernel
theorem dX0_settle_102 : decode cX0_settle 102 = .ok (.ifCond .eq 13, 3) := by decide +kernel
theorem dX0_settle_105 : decode cX0_settle 105 = .ok (.iload_n 1, 1) := by decide +kernel
theorem dX0_settle_106 : decode cX0_settle 106 = .ok (.aload_n 0, 1) := by decide +kernel
theorem dX0_settle_107 : decode cX0_settle 107 = .ok (.iload 5, 2) := by decide +kernel
theorem dX0_settle_109 : decode cX0_settle 109 = .ok (.iload_n 3, 1) := by decide +kernel
theorem dX0_settle_110 : decode cX0_settle 110 = .ok (.invokevirtual 123, 3) := by decide +kernel
theorem dX0_settle_113 : decode cX0_settle 113 = .ok (.iadd, 1) := by decide +kernel
theorem dX0_settle_114 : decode cX0_settle 114 = .ok (.istore_n 1, 1) := by decide +kernel
theorem dX0_settle_115 : decode cX0_settle 115 = .ok (.iinc 4 1, 3) := by decide +kernel
theorem dX0_settle_118 : decode cX0_settle 118 = .ok (.goto (-69), 3) := by decide +kernel
theorem dX0_settle_121 : decode cX0_settle 121 = .ok (.aload_n 0, 1) := by decide +kernel
theorem dX0_settle_122 : decode cX0_settle 122 = .ok (.getfield 35, 3) := by decide +kernel
theorem dX0_settle_125 : decode cX0_settle 125 = .ok (.iload_n 3, 1) := by decide +kernel
theorem dX0_settle_126 : decode cX0_settle 126 = .ok (.lconst 0, 1) := by decide +kernel
theorem dX0_settle_127 : decode cX0_settle 127 = .ok (.lastore, 1) := by decide +kernel
theorem dX0_settle_128 : decode cX0_settle 128 = .ok (.aload_n 0, 1) := by decide +kernel
theorem dX0_settle_129 : decode cX0_settle 129 = .ok (.getfield 38, 3) := by decide +kernel
theorem dX0_settle_132 : decode cX0_settle 132 = .ok (.iload_n 3, 1) := by decide +kernel
theorem dX0_settle_133 : decode cX0_settle 133 = .ok (.lconst 0, 1) := by decide +kernel
theorem dX0_settle_134 : decode cX0_settle 134 = .ok (.lastore, 1) := by decide +kernel
theorem dX0_settle_135 : decode cX0_settle 135 = .ok (.iinc 2 1, 3) := by decide +kernel
theorem dX0_settle_138 : decode cX0_settle 138 = .ok (.goto (-134), 3) := by decide +kernel
theorem dX0_settle_141 : decode cX0_settle 141 = .ok (.iload_n 1, 1) := by decide +kernel
theorem dX0_settle_142 : decode cX0_settle 142 = .ok (.ireturn, 1) := by decide +kernel
theorem dX0_settleArc_0 : decode cX0_settleArc 0 = .ok (.aload_n 0, 1) := by decide +kernel
theorem dX0_settleArc_1 : decode cX0_settleArc 1 = .ok (.getfield 29, 3) := by decide +kernel
theorem dX0_settleArc_4 : decode cX0_settleArc 4 = .ok (.iload_n 1, 1) := by decide +kernel
theorem dX0_settleArc_5 : decode cX0_settleArc 5 = .ok (.iload_n 2, 1) := by decide +kernel
theorem dX0_settleArc_6 : decode cX0_settleArc 6 = .ok (.invokestatic 116, 3) := by decide +kernel
theorem dX0_settleArc_9 : decode cX0_settleArc 9 = .ok (.iaload, 1) := by decide +kernel
theorem dX0_settleArc_10 : decode cX0_settleArc 10 = .ok (.istore_n 3, 1) := by decide +kernel
theorem dX0_settleArc_11 : decode cX0_settleArc 11 = .ok (.aload_n 0, 1) := by decide +kernel
theorem dX0_settleArc_12 : decode cX0_settleArc 12 = .ok (.iload_n 1, 1) := by decide +kernel
theorem dX0_settleArc_13 : decode cX0_settleArc 13 = .ok (.iload_n 2, 1) := by decide +kernel
theorem dX0_settleArc_14 : decode cX0_settleArc 14 = .ok (.invokevirtual 126, 3) := by decide +kernel
theorem dX0_settleArc_17 : decode cX0_settleArc 17 = .ok (.istore 4, 2) := by decide +kernel
theorem dX0_settleArc_19 : decode cX0_settleArc 19 = .ok (.iload 4, 2) := by decide +kernel
theorem dX0_settleArc_21 : decode cX0_settleArc 21 = .ok (.iload_n 3, 1) := by decide +kernel
theorem dX0_settleArc_22 : decode cX0_settleArc 22 = .ok (.if_icmp .eq 21, 3) := by decide +kernel
theorem dX0_settleArc_25 : decode cX0_settleArc 25 = .ok (.aload_n 0, 1) := by decide +kernel
theorem dX0_settleArc_26 : decode cX0_settleArc 26 = .ok (.getfield 29, 3) := by decide +kernel
theorem dX0_settleArc_29 : decode cX0_settleArc 29 = .ok (.iload_n 1, 1) := by decide +kernel
theorem dX0_settleArc_30 : decode cX0_settleArc 30 = .ok (.iload_n 2, 1) := by decide +kernel
theorem dX0_settleArc_31 : decode cX0_settleArc 31 = .ok (.invokestatic 116, 3) := by decide +kernel
theorem dX0_settleArc_34 : decode cX0_settleArc 34 = .ok (.iload 4, 2) := by decide +kernel
theorem dX0_settleArc_36 : decode cX0_settleArc 36 = .ok (.iastore, 1) := by decide +kernel
theorem dX0_settleArc_37 : decode cX0_settleArc 37 = .ok (.aload_n 0, 1) := by decide +kernel
theorem dX0_settleArc_38 : decode cX0_settleArc 38 = .ok (.iload_n 1, 1) := by decide +kernel
theorem dX0_settleArc_39 : decode cX0_settleArc 39 = .ok (.iload_n 2, 1) := by decide +kernel
theorem dX0_settleArc_40 : decode cX0_settleArc 40 = .ok (.invokevirtual 129, 3) := by decide +kernel
theorem dX0_settleArc_43 : decode cX0_settleArc 43 = .ok (.iload 4, 2) := by decide +kernel
theorem dX0_settleArc_45 : decode cX0_settleArc 45 = .ok (.invokestatic 132, 3) := by decide +kernel
theorem dX0_settleArc_48 : decode cX0_settleArc 48 = .ok (.iload_n 3, 1) := by decide +kernel
theorem dX0_settleArc_49 : decode cX0_settleArc 49 = .ok (.invokestatic 132, 3) := by decide +kernel
theorem dX0_settleArc_52 : decode cX0_settleArc 52 = .ok (.if_icmp .ne 7, 3) := by decide +kernel
theorem dX0_settleArc_55 : decode cX0_settleArc 55 = .ok (.iconst 0, 1) := by decide +kernel
theorem dX0_settleArc_56 : decode cX0_settleArc 56 = .ok (.goto 4, 3) := by decide +kernel
theorem dX0_settleArc_59 : decode cX0_settleArc 59 = .ok (.iconst 1, 1) := by decide +kernel
theorem dX0_settleArc_60 : decode cX0_settleArc 60 = .ok (.ireturn, 1) := by decide +kernel
theorem dX0_computeArc_0 : decode cX0_computeArc 0 = .ok (.aload_n 0, 1) := by decide +kernel
theorem dX0_computeArc_1 : decode cX0_computeArc 1 = .ok (.getfield 32, 3) := by decide +kernel
theorem dX0_computeArc_4 : decode cX0_computeArc 4 = .ok (.iload_n 1, 1) := by decide +kernel
theorem dX0_computeArc_5 : decode cX0_computeArc 5 = .ok (.iload_n 2, 1) := by decide +kernel
theorem dX0_computeArc_6 : decode cX0_computeArc 6 = .ok (.invokestatic 116, 3) := by decide +kernel
theorem dX0_computeArc_9 : decode cX0_computeArc 9 = .ok (.iaload, 1) := by decide +kernel
theorem dX0_computeArc_10 : decode cX0_computeArc 10 = .ok (.istore_n 3, 1) := by decide +kernel
theorem dX0_computeArc_11 : decode cX0_computeArc 11 = .ok (.aload_n 0, 1) := by decide +kernel
theorem dX0_computeArc_12 : decode cX0_computeArc 12 = .ok (.getfield 22, 3) := by decide +kernel
theorem dX0_computeArc_15 : decode cX0_computeArc 15 = .ok (.iload_n 1, 1) := by decide +kernel
theorem dX0_computeArc_16 : decode cX0_computeArc 16 = .ok (.laload, 1) := by decide +kernel
theorem dX0_computeArc_17 : decode cX0_computeArc 17 = .ok (.aload_n 0, 1) := by decide +kernel
theorem dX0_computeArc_18 : decode cX0_computeArc 18 = .ok (.getfield 26, 3) := by decide +kernel
theorem dX0_computeArc_21 : decode cX0_computeArc 21 = .ok (.iload_n 2, 1) := by decide +kernel
theorem dX0_computeArc_22 : decode cX0_computeArc 22 = .ok (.laload, 1) := by decide +kernel
theorem dX0_computeArc_23 : decode cX0_computeArc 23 = .ok (.land, 1) := by decide +kernel
theorem dX0_computeArc_24 : decode cX0_computeArc 24 = .ok (.lstore 4, 2) := by decide +kernel
theorem dX0_computeArc_26 : decode cX0_computeArc 26 = .ok (.aload_n 0, 1) := by decide +kernel
theorem dX0_computeArc_27 : decode cX0_computeArc 27 = .ok (.getfield 15, 3) := by decide +kernel
theorem dX0_computeArc_30 : decode cX0_computeArc 30 = .ok (.iload_n 1, 1) := by decide +kernel
theorem dX0_computeArc_31 : decode cX0_computeArc 31 = .ok (.iaload, 1) := by decide +kernel
theorem dX0_computeArc_32 : decode cX0_computeArc 32 = .ok (.aload_n 0, 1) := by decide +kernel
theorem dX0_computeArc_33 : decode cX0_computeArc 33 = .ok (.getfield 15, 3) := by decide +kernel
theorem dX0_computeArc_36 : decode cX0_computeArc 36 = .ok (.iload_n 2, 1) := by decide +kernel
theorem dX0_computeArc_37 : decode cX0_computeArc 37 = .ok (.iaload, 1) := by decide +kernel
theorem dX0_computeArc_38 : decode cX0_computeArc 38 = .ok (.invokestatic 136, 3) := by decide +kernel
theorem dX0_computeArc_41 : decode cX0_computeArc 41 = .ok (.istore 6, 2) := by decide +kernel
theorem dX0_computeArc_43 : decode cX0_computeArc 43 = .ok (.iconst 0, 1) := by decide +kernel
theorem dX0_computeArc_44 : decode cX0_computeArc 44 = .ok (.istore 7, 2) := by decide +kernel
theorem dX0_computeArc_46 : decode cX0_computeArc 46 = .ok (.iload 7, 2) := by decide +kernel
theorem dX0_computeArc_48 : decode cX0_computeArc 48 = .ok (.iload 6, 2) := by decide +kernel
theorem dX0_computeArc_50 : decode cX0_computeArc 50 = .ok (.if_icmp .ge 60, 3) := by decide +kernel
theorem dX0_computeArc_53 : decode cX0_computeArc 53 = .ok (.aload_n 0, 1) := by decide +kernel
theorem dX0_computeArc_54 : decode cX0_computeArc 54 = .ok (.getfield 19, 3) := by decide +kernel
theorem dX0_computeArc_57 : decode cX0_computeArc 57 = .ok (.iload 7, 2) := by decide +kernel
theorem dX0_computeArc_59 : decode cX0_computeArc 59 = .ok (.iaload, 1) := by decide +kernel
theorem dX0_computeArc_60 : decode cX0_computeArc 60 = .ok (.istore 8, 2) := by decide +kernel
theorem dX0_computeArc_62 : decode cX0_computeArc 62 = .ok (.lload 4, 2) := by decide +kernel
theorem dX0_computeArc_64 : decode cX0_computeArc 64 = .ok (.iload 8, 2) := by decide +kernel
theorem dX0_computeArc_66 : decode cX0_computeArc 66 = .ok (.invokestatic 104, 3) := by decide +kernel
theorem dX0_computeArc_69 : decode cX0_computeArc 69 = .ok (.ifCond .eq 35, 3) := by decide +kernel
theorem dX0_computeArc_72 : decode cX0_computeArc 72 = .ok (.aload_n 0, 1) := by decide +kernel
theorem dX0_computeArc_73 : decode cX0_computeArc 73 = .ok (.getfield 29, 3) := by decide +kernel
theorem dX0_computeArc_76 : decode cX0_computeArc 76 = .ok (.iload_n 1, 1) := by decide +kernel
theorem dX0_computeArc_77 : decode cX0_computeArc 77 = .ok (.iload 8, 2) := by decide +kernel
theorem dX0_computeArc_79 : decode cX0_computeArc 79 = .ok (.invokestatic 116, 3) := by decide +kernel
theorem dX0_computeArc_82 : decode cX0_computeArc 82 = .ok (.iaload, 1) := by decide +kernel
theorem dX0_computeArc_83 : decode cX0_computeArc 83 = .ok (.aload_n 0, 1) := by decide +kernel
theorem dX0_computeArc_84 : decode cX0_computeArc 84 = .ok (.getfield 29, 3) := by decide +kernel
theorem dX0_computeArc_87 : decode cX0_computeArc 87 = .ok (.iload 8, 2) := by decide +kernel
theorem dX0_computeArc_89 : decode cX0_computeArc 89 = .ok (.iload_n 2, 1) := by decide +kernel
theorem dX0_computeArc_90 : decode cX0_computeArc 90 = .ok (.invokestatic 116, 3) := by decide +kernel
theorem dX0_computeArc_93 : decode cX0_computeArc 93 = .ok (.iaload, 1) := by decide +kernel
theorem dX0_computeArc_94 : decode cX0_computeArc 94 = .ok (.iadd, 1) := by decide +kernel
theorem dX0_computeArc_95 : decode cX0_computeArc 95 = .ok (.istore 9, 2) := by decide +kernel
theorem dX0_computeArc_97 : decode cX0_computeArc 97 = .ok (.iload_n 3, 1) := by decide +kernel
theorem dX0_computeArc_98 : decode cX0_computeArc 98 = .ok (.iload 9, 2) := by decide +kernel
theorem dX0_computeArc_100 : decode cX0_computeArc 100 = .ok (.invokestatic 136, 3) := by decide +kernel
theorem dX0_computeArc_103 : decode cX0_computeArc 103 = .ok (.istore_n 3, 1) := by decide +kernel
theorem dX0_computeArc_104 : decode cX0_computeArc 104 = .ok (.iinc 7 1, 3) := by decide +kernel
theorem dX0_computeArc_107 : decode cX0_computeArc 107 = .ok (.goto (-61), 3) := by decide +kernel
theorem dX0_computeArc_110 : decode cX0_computeArc 110 = .ok (.iload_n 3, 1) := by decide +kernel
theorem dX0_computeArc_111 : decode cX0_computeArc 111 = .ok (.ireturn, 1) := by decide +kernel
theorem dX0_markAbove_0 : decode cX0_markAbove 0 = .ok (.aload_n 0, 1) := by decide +kernel
theorem dX0_markAbove_1 : decode cX0_markAbove 1 = .ok (.getfield 15, 3) := by decide +kernel
theorem dX0_markAbove_4 : decode cX0_markAbove 4 = .ok (.iload_n 1, 1) := by decide +kernel
theorem dX0_markAbove_5 : decode cX0_markAbove 5 = .ok (.iaload, 1) := by decide +kernel
theorem dX0_markAbove_6 : decode cX0_markAbove 6 = .ok (.aload_n 0, 1) := by decide +kernel
theorem dX0_markAbove_7 : decode cX0_markAbove 7 = .ok (.getfield 15, 3) := by decide +kernel
theorem dX0_markAbove_10 : decode cX0_markAbove 10 = .ok (.iload_n 2, 1) := by decide +kernel
theorem dX0_markAbove_11 : decode cX0_markAbove 11 = .ok (.iaload, 1) := by decide +kernel
theorem dX0_markAbove_12 : decode cX0_markAbove 12 = .ok (.if_icmp .ge 64, 3) := by decide +kernel
theorem dX0_markAbove_15 : decode cX0_markAbove 15 = .ok (.aload_n 0, 1) := by decide +kernel
theorem dX0_markAbove_16 : decode cX0_markAbove 16 = .ok (.getfield 15, 3) := by decide +kernel
theorem dX0_markAbove_19 : decode cX0_markAbove 19 = .ok (.iload_n 1, 1) := by decide +kernel
theorem dX0_markAbove_20 : decode cX0_markAbove 20 = .ok (.iaload, 1) := by decide +kernel
theorem dX0_markAbove_21 : decode cX0_markAbove 21 = .ok (.iconst 1, 1) := by decide +kernel
theorem dX0_markAbove_22 : decode cX0_markAbove 22 = .ok (.iadd, 1) := by decide +kernel
theorem dX0_markAbove_23 : decode cX0_markAbove 23 = .ok (.istore_n 3, 1) := by decide +kernel
theorem dX0_markAbove_24 : decode cX0_markAbove 24 = .ok (.iload_n 3, 1) := by decide +kernel
theorem dX0_markAbove_25 : decode cX0_markAbove 25 = .ok (.aload_n 0, 1) := by decide +kernel
theorem dX0_markAbove_26 : decode cX0_markAbove 26 = .ok (.getfield 47, 3) := by decide +kernel
theorem dX0_markAbove_29 : decode cX0_markAbove 29 = .ok (.if_icmp .ge 44, 3) := by decide +kernel
theorem dX0_markAbove_32 : decode cX0_markAbove 32 = .ok (.aload_n 0, 1) := by decide +kernel
theorem dX0_markAbove_33 : decode cX0_markAbove 33 = .ok (.getfield 19, 3) := by decide +kernel
theorem dX0_markAbove_36 : decode cX0_markAbove 36 = .ok (.iload_n 3, 1) := by decide +kernel
theorem dX0_markAbove_37 : decode cX0_markAbove 37 = .ok (.iaload, 1) := by decide +kernel
theorem dX0_markAbove_38 : decode cX0_markAbove 38 = .ok (.istore 4, 2) := by decide +kernel
theorem dX0_markAbove_40 : decode cX0_markAbove 40 = .ok (.iload 4, 2) := by decide +kernel
theorem dX0_markAbove_42 : decode cX0_markAbove 42 = .ok (.iload_n 2, 1) := by decide +kernel
theorem dX0_markAbove_43 : decode cX0_markAbove 43 = .ok (.if_icmp .eq 24, 3) := by decide +kernel
theorem dX0_markAbove_46 : decode cX0_markAbove 46 = .ok (.aload_n 0, 1) := by decide +kernel
theorem dX0_markAbove_47 : decode cX0_markAbove 47 = .ok (.getfield 26, 3) := by decide +kernel
theorem dX0_markAbove_50 : decode cX0_markAbove 50 = .ok (.iload_n 1, 1) := by decide +kernel
theorem dX0_markAbove_51 : decode cX0_markAbove 51 = .ok (.laload, 1) := by decide +kernel
theorem dX0_markAbove_52 : decode cX0_markAbove 52 = .ok (.iload 4, 2) := by decide +kernel
theorem dX0_markAbove_54 : decode cX0_markAbove 54 = .ok (.invokestatic 104, 3) := by decide +kernel
theorem dX0_markAbove_57 : decode cX0_markAbove 57 = .ok (.ifCond .eq 10, 3) := by decide +kernel
theorem dX0_markAbove_60 : decode cX0_markAbove 60 = .ok (.aload_n 0, 1) := by decide +kernel
theorem dX0_markAbove_61 : decode cX0_markAbove 61 = .ok (.iload 4, 2) := by decide +kernel
theorem dX0_markAbove_63 : decode cX0_markAbove 63 = .ok (.iload_n 2, 1) := by decide +kernel
theorem dX0_markAbove_64 : decode cX0_markAbove 64 = .ok (.invokevirtual 119, 3) := by decide +kernel
theorem dX0_markAbove_67 : decode cX0_markAbove 67 = .ok (.iinc 3 1, 3) := by decide +kernel
theorem dX0_markAbove_70 : decode cX0_markAbove 70 = .ok (.goto (-46), 3) := by decide +kernel
theorem dX0_markAbove_73 : decode cX0_markAbove 73 = .ok (.goto 61, 3) := by decide +kernel
theorem dX0_markAbove_76 : decode cX0_markAbove 76 = .ok (.aload_n 0, 1) := by decide +kernel
theorem dX0_markAbove_77 : decode cX0_markAbove 77 = .ok (.getfield 15, 3) := by decide +kernel
theorem dX0_markAbove_80 : decode cX0_markAbove 80 = .ok (.iload_n 2, 1) := by decide +kernel
theorem dX0_markAbove_81 : decode cX0_markAbove 81 = .ok (.iaload, 1) := by decide +kernel
theorem dX0_markAbove_82 : decode cX0_markAbove 82 = .ok (.iconst 1, 1) := by decide +kernel
theorem dX0_markAbove_83 : decode cX0_markAbove 83 = .ok (.iadd, 1) := by decide +kernel
theorem dX0_markAbove_84 : decode cX0_markAbove 84 = .ok (.istore_n 3, 1) := by decide +kernel
theorem dX0_markAbove_85 : decode cX0_markAbove 85 = .ok (.iload_n 3, 1) := by decide +kernel
theorem dX0_markAbove_86 : decode cX0_markAbove 86 = .ok (.aload_n 0, 1) := by decide +kernel
theorem dX0_markAbove_87 : decode cX0_markAbove 87 = .ok (.getfield 47, 3) := by decide +kernel
theorem dX0_markAbove_90 : decode cX0_markAbove 90 = .ok (.if_icmp .ge 44, 3) := by decide +kernel
theorem dX0_markAbove_93 : decode cX0_markAbove 93 = .ok (.aload_n 0, 1) := by decide +kernel
theorem dX0_markAbove_94 : decode cX0_markAbove 94 = .ok (.getfield 19, 3) := by decide +kernel
theorem dX0_markAbove_97 : decode cX0_markAbove 97 = .ok (.iload_n 3, 1) := by decide +kernel
theorem dX0_markAbove_98 : decode cX0_markAbove 98 = .ok (.iaload, 1) := by decide +kernel
theorem dX0_markAbove_99 : decode cX0_markAbove 99 = .ok (.istore 4, 2) := by decide +kernel
theorem dX0_markAbove_101 : decode cX0_markAbove 101 = .ok (.iload 4, 2) := by decide +kernel
theorem dX0_markAbove_103 : decode cX0_markAbove 103 = .ok (.iload_n 1, 1) := by decide +kernel
theorem dX0_markAbove_104 : decode cX0_markAbove 104 = .ok (.if_icmp .eq 24, 3) := by decide +kernel
theorem dX0_markAbove_107 : decode cX0_markAbove 107 = .ok (.aload_n 0, 1) := by decide +kernel
theorem dX0_markAbove_108 : decode cX0_markAbove 108 = .ok (.getfield 22, 3) := by decide +kernel
theorem dX0_markAbove_111 : decode cX0_markAbove 111 = .ok (.iload_n 2, 1) := by decide +kernel
theorem dX0_markAbove_112 : decode cX0_markAbove 112 = .ok (.laload, 1) := by decide +kernel
theorem dX0_markAbove_113 : decode cX0_markAbove 113 = .ok (.iload 4, 2) := by decide +kernel
theorem dX0_markAbove_115 : decode cX0_markAbove 115 = .ok (.invokestatic 104, 3) := by decide +kernel
theorem dX0_markAbove_118 : decode cX0_markAbove 118 = .ok (.ifCond .eq 10, 3) := by decide +kernel
theorem dX0_markAbove_121 : decode cX0_markAbove 121 = .ok (.aload_n 0, 1) := by decide +kernel
theorem dX0_markAbove_122 : decode cX0_markAbove 122 = .ok (.iload_n 1, 1) := by decide +kernel
theorem dX0_markAbove_123 : decode cX0_markAbove 123 = .ok (.iload 4, 2) := by decide +kernel
theorem dX0_markAbove_125 : decode cX0_markAbove 125 = .ok (.invokevirtual 119, 3) := by decide +kernel
theorem dX0_markAbove_128 : decode cX0_markAbove 128 = .ok (.iinc 3 1, 3) := by decide +kernel
theorem dX0_markAbove_131 : decode cX0_markAbove 131 = .ok (.goto (-46), 3) := by decide +kernel
theorem dX0_markAbove_134 : decode cX0_markAbove 134 = .ok (.return_, 1) := by decide +kernel
theorem dX0_spreadForward_0 : decode cX0_spreadForward 0 = .ok (.iconst 0, 1) := by decide +kernel
theorem dX0_spreadForward_1 : decode cX0_spreadForward 1 = .ok (.istore_n 2, 1) := by decide +kernel
theorem dX0_spreadForward_2 : decode cX0_spreadForward 2 = .ok (.iload_n 2, 1) := by decide +kernel
theorem dX0_spreadForward_3 : decode cX0_spreadForward 3 = .ok (.aload_n 0, 1) := by decide +kernel
theorem dX0_spreadForward_4 : decode cX0_spreadForward 4 = .ok (.getfield 47, 3) := by decide +kernel
theorem dX0_spreadForward_7 : decode cX0_spreadForward 7 = .ok (.if_icmp .ge 27, 3) := by decide +kernel
theorem dX0_spreadForward_10 : decode cX0_spreadForward 10 = .ok (.aload_n 0, 1) := by decide +kernel
theorem dX0_spreadForward_11 : decode cX0_spreadForward 11 = .ok (.aload_n 1, 1) := by decide +kernel
theorem dX0_spreadForward_12 : decode cX0_spreadForward 12 = .ok (.aload_n 0, 1) := by decide +kernel
theorem dX0_spreadForward_13 : decode cX0_spreadForward 13 = .ok (.getfield 19, 3) := by decide +kernel
theorem dX0_spreadForward_16 : decode cX0_spreadForward 16 = .ok (.iload_n 2, 1) := by decide +kernel
theorem dX0_spreadForward_17 : decode cX0_spreadForward 17 = .ok (.iaload, 1) := by decide +kernel
theorem dX0_spreadForward_18 : decode cX0_spreadForward 18 = .ok (.iload_n 2, 1) := by decide +kernel
theorem dX0_spreadForward_19 : decode cX0_spreadForward 19 = .ok (.iconst 1, 1) := by decide +kernel
theorem dX0_spreadForward_20 : decode cX0_spreadForward 20 = .ok (.iadd, 1) := by decide +kernel
theorem dX0_spreadForward_21 : decode cX0_spreadForward 21 = .ok (.aload_n 0, 1) := by decide +kernel
theorem dX0_spreadForward_22 : decode cX0_spreadForward 22 = .ok (.getfield 47, 3) := by decide +kernel
theorem dX0_spreadForward_25 : decode cX0_spreadForward 25 = .ok (.invokevirtual 141, 3) := by decide +kernel
theorem dX0_spreadForward_28 : decode cX0_spreadForward 28 = .ok (.iinc 2 1, 3) := by decide +kernel
theorem dX0_spreadForward_31 : decode cX0_spreadForward 31 = .ok (.goto (-29), 3) := by decide +kernel
theorem dX0_spreadForward_34 : decode cX0_spreadForward 34 = .ok (.aload_n 0, 1) := by decide +kernel
theorem dX0_spreadForward_35 : decode cX0_spreadForward 35 = .ok (.getfield 47, 3) := by decide +kernel
theorem dX0_spreadForward_38 : decode cX0_spreadForward 38 = .ok (.iconst 1, 1) := by decide +kernel
theorem dX0_spreadForward_39 : decode cX0_spreadForward 39 = .ok (.isub, 1) := by decide +kernel
theorem dX0_spreadForward_40 : decode cX0_spreadForward 40 = .ok (.istore_n 2, 1) := by decide +kernel
theorem dX0_spreadForward_41 : decode cX0_spreadForward 41 = .ok (.iload_n 2, 1) := by decide +kernel
theorem dX0_spreadForward_42 : decode cX0_spreadForward 42 = .ok (.ifCond .lt 22, 3) := by decide +kernel
theorem dX0_spreadForward_45 : decode cX0_spreadForward 45 = .ok (.aload_n 0, 1) := by decide +kernel
theorem dX0_spreadForward_46 : decode cX0_spreadForward 46 = .ok (.aload_n 1, 1) := by decide +kernel
theorem dX0_spreadForward_47 : decode cX0_spreadForward 47 = .ok (.aload_n 0, 1) := by decide +kernel
theorem dX0_spreadForward_48 : decode cX0_spreadForward 48 = .ok (.getfield 19, 3) := by decide +kernel
theorem dX0_spreadForward_51 : decode cX0_spreadForward 51 = .ok (.iload_n 2, 1) := by decide +kernel
theorem dX0_spreadForward_52 : decode cX0_spreadForward 52 = .ok (.iaload, 1) := by decide +kernel
theorem dX0_spreadForward_53 : decode cX0_spreadForward 53 = .ok (.iconst 0, 1) := by decide +kernel
theorem dX0_spreadForward_54 : decode cX0_spreadForward 54 = .ok (.iload_n 2, 1) := by decide +kernel
theorem dX0_spreadForward_55 : decode cX0_spreadForward 55 = .ok (.invokevirtual 141, 3) := by decide +kernel
theorem dX0_spreadForward_58 : decode cX0_spreadForward 58 = .ok (.iinc 2 (-1), 3) := by decide +kernel
theorem dX0_spreadForward_61 : decode cX0_spreadForward 61 = .ok (.goto (-20), 3) := by decide +kernel
theorem dX0_spreadForward_64 : decode cX0_spreadForward 64 = .ok (.return_, 1) := by decide +kernel
theorem dX0_passOn_0 : decode cX0_passOn 0 = .ok (.aload_n 1, 1) := by decide +kernel
theorem dX0_passOn_1 : decode cX0_passOn 1 = .ok (.iload_n 2, 1) := by decide +kernel
theorem dX0_passOn_2 : decode cX0_passOn 2 = .ok (.iaload, 1) := by decide +kernel
theorem dX0_passOn_3 : decode cX0_passOn 3 = .ok (.ldc 81, 2) := by decide +kernel
theorem dX0_passOn_5 : decode cX0_passOn 5 = .ok (.if_icmp .lt 4, 3) := by decide +kernel
theorem dX0_passOn_8 : decode cX0_passOn 8 = .ok (.return_, 1) := by decide +kernel
theorem dX0_passOn_9 : decode cX0_passOn 9 = .ok (.iload_n 3, 1) := by decide +kernel
theorem dX0_passOn_10 : decode cX0_passOn 10 = .ok (.istore 5, 2) := by decide +kernel
theorem dX0_passOn_12 : decode cX0_passOn 12 = .ok (.iload 5, 2) := by decide +kernel
theorem dX0_passOn_14 : decode cX0_passOn 14 = .ok (.iload 4, 2) := by decide +kernel
theorem dX0_passOn_16 : decode cX0_passOn 16 = .ok (.if_icmp .ge 58, 3) := by decide +kernel
theorem dX0_passOn_19 : decode cX0_passOn 19 = .ok (.aload_n 0, 1) := by decide +kernel
theorem dX0_passOn_20 : decode cX0_passOn 20 = .ok (.getfield 19, 3) := by decide +kernel
theorem dX0_passOn_23 : decode cX0_passOn 23 = .ok (.iload 5, 2) := by decide +kernel
theorem dX0_passOn_25 : decode cX0_passOn 25 = .ok (.iaload, 1) := by decide +kernel
theorem dX0_passOn_26 : decode cX0_passOn 26 = .ok (.istore 6, 2) := by decide +kernel
theorem dX0_passOn_28 : decode cX0_passOn 28 = .ok (.aload_n 0, 1) := by decide +kernel
theorem dX0_passOn_29 : decode cX0_passOn 29 = .ok (.getfield 22, 3) := by decide +kernel
theorem dX0_passOn_32 : decode cX0_passOn 32 = .ok (.iload_n 2, 1) := by decide +kernel
theorem dX0_passOn_33 : decode cX0_passOn 33 = .ok (.laload, 1) := by decide +kernel
theorem dX0_passOn_34 : decode cX0_passOn 34 = .ok (.iload 6, 2) := by decide +kernel
theorem dX0_passOn_36 : decode cX0_passOn 36 = .ok (.invokestatic 104, 3) := by decide +kernel
theorem dX0_passOn_39 : decode cX0_passOn 39 = .ok (.ifCond .eq 29, 3) := by decide +kernel
theorem dX0_passOn_42 : decode cX0_passOn 42 = .ok (.aload_n 1, 1) := by decide +kernel
theorem dX0_passOn_43 : decode cX0_passOn 43 = .ok (.iload 6, 2) := by decide +kernel
theorem dX0_passOn_45 : decode cX0_passOn 45 = .ok (.aload_n 1, 1) := by decide +kernel
theorem dX0_passOn_46 : decode cX0_passOn 46 = .ok (.iload 6, 2) := by decide +kernel
theorem dX0_passOn_48 : decode cX0_passOn 48 = .ok (.iaload, 1) := by decide +kernel
theorem dX0_passOn_49 : decode cX0_passOn 49 = .ok (.aload_n 1, 1) := by decide +kernel
theorem dX0_passOn_50 : decode cX0_passOn 50 = .ok (.iload_n 2, 1) := by decide +kernel
theorem dX0_passOn_51 : decode cX0_passOn 51 = .ok (.iaload, 1) := by decide +kernel
theorem dX0_passOn_52 : decode cX0_passOn 52 = .ok (.aload_n 0, 1) := by decide +kernel
theorem dX0_passOn_53 : decode cX0_passOn 53 = .ok (.getfield 29, 3) := by decide +kernel
theorem dX0_passOn_56 : decode cX0_passOn 56 = .ok (.iload_n 2, 1) := by decide +kernel
theorem dX0_passOn_57 : decode cX0_passOn 57 = .ok (.iload 6, 2) := by decide +kernel
theorem dX0_passOn_59 : decode cX0_passOn 59 = .ok (.invokestatic 116, 3) := by decide +kernel
theorem dX0_passOn_62 : decode cX0_passOn 62 = .ok (.iaload, 1) := by decide +kernel
theorem dX0_passOn_63 : decode cX0_passOn 63 = .ok (.iadd, 1) := by decide +kernel
theorem dX0_passOn_64 : decode cX0_passOn 64 = .ok (.invokestatic 136, 3) := by decide +kernel
theorem dX0_passOn_67 : decode cX0_passOn 67 = .ok (.iastore, 1) := by decide +kernel
theorem dX0_passOn_68 : decode cX0_passOn 68 = .ok (.iinc 5 1, 3) := by decide +kernel
theorem dX0_passOn_71 : decode cX0_passOn 71 = .ok (.goto (-59), 3) := by decide +kernel
theorem dX0_passOn_74 : decode cX0_passOn 74 = .ok (.return_, 1) := by decide +kernel
theorem dX0_spreadBackward_0 : decode cX0_spreadBackward 0 = .ok (.iconst 0, 1) := by decide +kernel
theorem dX0_spreadBackward_1 : decode cX0_spreadBackward 1 = .ok (.istore_n 2, 1) := by decide +kernel
theorem dX0_spreadBackward_2 : decode cX0_spreadBackward 2 = .ok (.iload_n 2, 1) := by decide +kernel
theorem dX0_spreadBackward_3 : decode cX0_spreadBackward 3 = .ok (.aload_n 0, 1) := by decide +kernel
theorem dX0_spreadBackward_4 : decode cX0_spreadBackward 4 = .ok (.getfield 47, 3) := by decide +kernel
theorem dX0_spreadBackward_7 : decode cX0_spreadBackward 7 = .ok (.if_icmp .ge 27, 3) := by decide +kernel
theorem dX0_spreadBackward_10 : decode cX0_spreadBackward 10 = .ok (.aload_n 0, 1) := by decide +kernel
theorem dX0_spreadBackward_11 : decode cX0_spreadBackward 11 = .ok (.aload_n 1, 1) := by decide +kernel
theorem dX0_spreadBackward_12 : decode cX0_spreadBackward 12 = .ok (.aload_n 0, 1) := by decide +kernel
theorem dX0_spreadBackward_13 : decode cX0_spreadBackward 13 = .ok (.getfield 19, 3) := by decide +kernel
theorem dX0_spreadBackward_16 : decode cX0_spreadBackward 16 = .ok (.iload_n 2, 1) := by decide +kernel
theorem dX0_spreadBackward_17 : decode cX0_spreadBackward 17 = .ok (.iaload, 1) := by decide +kernel
theorem dX0_spreadBackward_18 : decode cX0_spreadBackward 18 = .ok (.iload_n 2, 1) := by decide +kernel
theorem dX0_spreadBackward_19 : decode cX0_spreadBackward 19 = .ok (.iconst 1, 1) := by decide +kernel
theorem dX0_spreadBackward_20 : decode cX0_spreadBackward 20 = .ok (.iadd, 1) := by decide +kernel
theorem dX0_spreadBackward_21 : decode cX0_spreadBackward 21 = .ok (.aload_n 0, 1) := by decide +kernel
theorem dX0_spreadBackward_22 : decode cX0_spreadBackward 22 = .ok (.getfield 47, 3) := by decide +kernel
theorem dX0_spreadBackward_25 : decode cX0_spreadBackward 25 = .ok (.invokevirtual 145, 3) := by decide +kernel
theorem dX0_spreadBackward_28 : decode cX0_spreadBackward 28 = .ok (.iinc 2 1, 3) := by decide +kernel
theorem dX0_spreadBackward_31 : decode cX0_spreadBackward 31 = .ok (.goto (-29), 3) := by decide +kernel
theorem dX0_spreadBackward_34 : decode cX0_spreadBackward 34 = .ok (.aload_n 0, 1) := by decide +kernel
theorem dX0_spreadBackward_35 : decode cX0_spreadBackward 35 = .ok (.getfield 47, 3) := by decide +kernel
theorem dX0_spreadBackward_38 : decode cX0_spreadBackward 38 = .ok (.iconst 1, 1) := by decide +kernel
theorem dX0_spreadBackward_39 : decode cX0_spreadBackward 39 = .ok (.isub, 1) := by decide +kernel
theorem dX0_spreadBackward_40 : decode cX0_spreadBackward 40 = .ok (.istore_n 2, 1) := by decide +kernel
theorem dX0_spreadBackward_41 : decode cX0_spreadBackward 41 = .ok (.iload_n 2, 1) := by decide +kernel
theorem dX0_spreadBackward_42 : decode cX0_spreadBackward 42 = .ok (.ifCond .lt 22, 3) := by decide +kernel
theorem dX0_spreadBackward_45 : decode cX0_spreadBackward 45 = .ok (.aload_n 0, 1) := by decide +kernel
theorem dX0_spreadBackward_46 : decode cX0_spreadBackward 46 = .ok (.aload_n 1, 1) := by decide +kernel
theorem dX0_spreadBackward_47 : decode cX0_spreadBackward 47 = .ok (.aload_n 0, 1) := by decide +kernel
theorem dX0_spreadBackward_48 : decode cX0_spreadBackward 48 = .ok (.getfield 19, 3) := by decide +kernel
theorem dX0_spreadBackward_51 : decode cX0_spreadBackward 51 = .ok (.iload_n 2, 1) := by decide +kernel
theorem dX0_spreadBackward_52 : decode cX0_spreadBackward 52 = .ok (.iaload, 1) := by decide +kernel
theorem dX0_spreadBackward_53 : decode cX0_spreadBackward 53 = .ok (.iconst 0, 1) := by decide +kernel
theorem dX0_spreadBackward_54 : decode cX0_spreadBackward 54 = .ok (.iload_n 2, 1) := by decide +kernel
theorem dX0_spreadBackward_55 : decode cX0_spreadBackward 55 = .ok (.invokevirtual 145, 3) := by decide +kernel
theorem dX0_spreadBackward_58 : decode cX0_spreadBackward 58 = .ok (.iinc 2 (-1), 3) := by decide +kernel
theorem dX0_spreadBackward_61 : decode cX0_spreadBackward 61 = .ok (.goto (-20), 3) := by decide +kernel
theorem dX0_spreadBackward_64 : decode cX0_spreadBackward 64 = .ok (.return_, 1) := by decide +kernel
theorem dX0_passBack_0 : decode cX0_passBack 0 = .ok (.aload_n 1, 1) := by decide +kernel
theorem dX0_passBack_1 : decode cX0_passBack 1 = .ok (.iload_n 2, 1) := by decide +kernel
theorem dX0_passBack_2 : decode cX0_passBack 2 = .ok (.iaload, 1) := by decide +kernel
theorem dX0_passBack_3 : decode cX0_passBack 3 = .ok (.ldc 81, 2) := by decide +kernel
theorem dX0_passBack_5 : decode cX0_passBack 5 = .ok (.if_icmp .lt 4, 3) := by decide +kernel
theorem dX0_passBack_8 : decode cX0_passBack 8 = .ok (.return_, 1) := by decide +kernel
theorem dX0_passBack_9 : decode cX0_passBack 9 = .ok (.iload_n 3, 1) := by decide +kernel
theorem dX0_passBack_10 : decode cX0_passBack 10 = .ok (.istore 5, 2) := by decide +kernel
theorem dX0_passBack_12 : decode cX0_passBack 12 = .ok (.iload 5, 2) := by decide +kernel
theorem dX0_passBack_14 : decode cX0_passBack 14 = .ok (.iload 4, 2) := by decide +kernel
theorem dX0_passBack_16 : decode cX0_passBack 16 = .ok (.if_icmp .ge 58, 3) := by decide +kernel
theorem dX0_passBack_19 : decode cX0_passBack 19 = .ok (.aload_n 0, 1) := by decide +kernel
theorem dX0_passBack_20 : decode cX0_passBack 20 = .ok (.getfield 19, 3) := by decide +kernel
theorem dX0_passBack_23 : decode cX0_passBack 23 = .ok (.iload 5, 2) := by decide +kernel
theorem dX0_passBack_25 : decode cX0_passBack 25 = .ok (.iaload, 1) := by decide +kernel
theorem dX0_passBack_26 : decode cX0_passBack 26 = .ok (.istore 6, 2) := by decide +kernel
theorem dX0_passBack_28 : decode cX0_passBack 28 = .ok (.aload_n 0, 1) := by decide +kernel
theorem dX0_passBack_29 : decode cX0_passBack 29 = .ok (.getfield 26, 3) := by decide +kernel
theorem dX0_passBack_32 : decode cX0_passBack 32 = .ok (.iload_n 2, 1) := by decide +kernel
theorem dX0_passBack_33 : decode cX0_passBack 33 = .ok (.laload, 1) := by decide +kernel
theorem dX0_passBack_34 : decode cX0_passBack 34 = .ok (.iload 6, 2) := by decide +kernel
theorem dX0_passBack_36 : decode cX0_passBack 36 = .ok (.invokestatic 104, 3) := by decide +kernel
theorem dX0_passBack_39 : decode cX0_passBack 39 = .ok (.ifCond .eq 29, 3) := by decide +kernel
theorem dX0_passBack_42 : decode cX0_passBack 42 = .ok (.aload_n 1, 1) := by decide +kernel
theorem dX0_passBack_43 : decode cX0_passBack 43 = .ok (.iload 6, 2) := by decide +kernel
theorem dX0_passBack_45 : decode cX0_passBack 45 = .ok (.aload_n 1, 1) := by decide +kernel
theorem dX0_passBack_46 : decode cX0_passBack 46 = .ok (.iload 6, 2) := by decide +kernel
theorem dX0_passBack_48 : decode cX0_passBack 48 = .ok (.iaload, 1) := by decide +kernel
theorem dX0_passBack_49 : decode cX0_passBack 49 = .ok (.aload_n 0, 1) := by decide +kernel
theorem dX0_passBack_50 : decode cX0_passBack 50 = .ok (.getfield 29, 3) := by decide +kernel
theorem dX0_passBack_53 : decode cX0_passBack 53 = .ok (.iload 6, 2) := by decide +kernel
theorem dX0_passBack_55 : decode cX0_passBack 55 = .ok (.iload_n 2, 1) := by decide +kernel
theorem dX0_passBack_56 : decode cX0_passBack 56 = .ok (.invokestatic 116, 3) := by decide +kernel
theorem dX0_passBack_59 : decode cX0_passBack 59 = .ok (.iaload, 1) := by decide +kernel
theorem dX0_passBack_60 : decode cX0_passBack 60 = .ok (.aload_n 1, 1) := by decide +kernel
theorem dX0_passBack_61 : decode cX0_passBack 61 = .ok (.iload_n 2, 1) := by decide +kernel
theorem dX0_passBack_62 : decode cX0_passBack 62 = .ok (.iaload, 1) := by decide +kernel
theorem dX0_passBack_63 : decode cX0_passBack 63 = .ok (.iadd, 1) := by decide +kernel
theorem dX0_passBack_64 : decode cX0_passBack 64 = .ok (.invokestatic 136, 3) := by decide +kernel
theorem dX0_passBack_67 : decode cX0_passBack 67 = .ok (.iastore, 1) := by decide +kernel
theorem dX0_passBack_68 : decode cX0_passBack 68 = .ok (.iinc 5 1, 3) := by decide +kernel
theorem dX0_passBack_71 : decode cX0_passBack 71 = .ok (.goto (-59), 3) := by decide +kernel
theorem dX0_passBack_74 : decode cX0_passBack 74 = .ok (.return_, 1) := by decide +kernel
theorem dX0_addArcs_0 : decode cX0_addArcs 0 = .ok (.lload_n 1, 1) := by decide +kernel
theorem dX0_addArcs_1 : decode cX0_addArcs 1 = .ok (.lstore_n 3, 1) := by decide +kernel
theorem dX0_addArcs_2 : decode cX0_addArcs 2 = .ok (.iconst 0, 1) := by decide +kernel
theorem dX0_addArcs_3 : decode cX0_addArcs 3 = .ok (.istore 5, 2) := by decide +kernel
theorem dX0_addArcs_5 : decode cX0_addArcs 5 = .ok (.iload 5, 2) := by decide +kernel
theorem dX0_addArcs_7 : decode cX0_addArcs 7 = .ok (.aload_n 0, 1) := by decide +kernel
theorem dX0_addArcs_8 : decode cX0_addArcs 8 = .ok (.getfield 47, 3) := by decide +kernel
theorem dX0_addArcs_11 : decode cX0_addArcs 11 = .ok (.if_icmp .ge 65, 3) := by decide +kernel
theorem dX0_addArcs_14 : decode cX0_addArcs 14 = .ok (.iconst 0, 1) := by decide +kernel
theorem dX0_addArcs_15 : decode cX0_addArcs 15 = .ok (.istore 6, 2) := by decide +kernel
theorem dX0_addArcs_17 : decode cX0_addArcs 17 = .ok (.iload 6, 2) := by decide +kernel
theorem dX0_addArcs_19 : decode cX0_addArcs 19 = .ok (.aload_n 0, 1) := by decide +kernel
theorem dX0_addArcs_20 : decode cX0_addArcs 20 = .ok (.getfield 47, 3) := by decide +kernel
theorem dX0_addArcs_23 : decode cX0_addArcs 23 = .ok (.if_icmp .ge 47, 3) := by decide +kernel
theorem dX0_addArcs_26 : decode cX0_addArcs 26 = .ok (.aload_n 0, 1) := by decide +kernel
theorem dX0_addArcs_27 : decode cX0_addArcs 27 = .ok (.getfield 22, 3) := by decide +kernel
theorem dX0_addArcs_30 : decode cX0_addArcs 30 = .ok (.iload 5, 2) := by decide +kernel
theorem dX0_addArcs_32 : decode cX0_addArcs 32 = .ok (.laload, 1) := by decide +kernel
theorem dX0_addArcs_33 : decode cX0_addArcs 33 = .ok (.iload 6, 2) := by decide +kernel
theorem dX0_addArcs_35 : decode cX0_addArcs 35 = .ok (.invokestatic 104, 3) := by decide +kernel
theorem dX0_addArcs_38 : decode cX0_addArcs 38 = .ok (.ifCond .eq 26, 3) := by decide +kernel
theorem dX0_addArcs_41 : decode cX0_addArcs 41 = .ok (.lload_n 3, 1) := by decide +kernel
theorem dX0_addArcs_42 : decode cX0_addArcs 42 = .ok (.ldc2_w 148, 3) := by decide +kernel
theorem dX0_addArcs_45 : decode cX0_addArcs 45 = .ok (.lmul, 1) := by decide +kernel
theorem dX0_addArcs_46 : decode cX0_addArcs 46 = .ok (.aload_n 0, 1) := by decide +kernel
theorem dX0_addArcs_47 : decode cX0_addArcs 47 = .ok (.getfield 29, 3) := by decide +kernel
theorem dX0_addArcs_50 : decode cX0_addArcs 50 = .ok (.iload 5, 2) := by decide +kernel
theorem dX0_addArcs_52 : decode cX0_addArcs 52 = .ok (.iload 6, 2) := by decide +kernel
theorem dX0_addArcs_54 : decode cX0_addArcs 54 = .ok (.invokestatic 116, 3) := by decide +kernel
theorem dX0_addArcs_57 : decode cX0_addArcs 57 = .ok (.iaload, 1) := by decide +kernel
theorem dX0_addArcs_58 : decode cX0_addArcs 58 = .ok (.invokestatic 132, 3) := by decide +kernel
theorem dX0_addArcs_61 : decode cX0_addArcs 61 = .ok (.i2l, 1) := by decide +kernel
theorem dX0_addArcs_62 : decode cX0_addArcs 62 = .ok (.ladd, 1) := by decide +kernel
theorem dX0_addArcs_63 : decode cX0_addArcs 63 = .ok (.lstore_n 3, 1) := by decide +kernel
theorem dX0_addArcs_64 : decode cX0_addArcs 64 = .ok (.iinc 6 1, 3) := by decide +kernel
theorem dX0_addArcs_67 : decode cX0_addArcs 67 = .ok (.goto (-50), 3) := by decide +kernel
theorem dX0_addArcs_70 : decode cX0_addArcs 70 = .ok (.iinc 5 1, 3) := by decide +kernel
theorem dX0_addArcs_73 : decode cX0_addArcs 73 = .ok (.goto (-68), 3) := by decide +kernel
theorem dX0_addArcs_76 : decode cX0_addArcs 76 = .ok (.lload_n 3, 1) := by decide +kernel
theorem dX0_addArcs_77 : decode cX0_addArcs 77 = .ok (.lreturn, 1) := by decide +kernel
theorem dX1_init_0 : decode cX1_init 0 = .ok (.aload_n 0, 1) := by decide +kernel
theorem dX1_init_1 : decode cX1_init 1 = .ok (.invokespecial 3, 3) := by decide +kernel
theorem dX1_init_4 : decode cX1_init 4 = .ok (.aload_n 0, 1) := by decide +kernel
theorem dX1_init_5 : decode cX1_init 5 = .ok (.bipush 8, 2) := by decide +kernel
theorem dX1_init_7 : decode cX1_init 7 = .ok (.newarray .int, 2) := by decide +kernel
theorem dX1_init_9 : decode cX1_init 9 = .ok (.putfield 9, 3) := by decide +kernel
theorem dX1_init_12 : decode cX1_init 12 = .ok (.aload_n 0, 1) := by decide +kernel
theorem dX1_init_13 : decode cX1_init 13 = .ok (.sipush 512, 3) := by decide +kernel
theorem dX1_init_16 : decode cX1_init 16 = .ok (.newarray .int, 2) := by decide +kernel
theorem dX1_init_18 : decode cX1_init 18 = .ok (.putfield 15, 3) := by decide +kernel
theorem dX1_init_21 : decode cX1_init 21 = .ok (.aload_n 0, 1) := by decide +kernel
theorem dX1_init_22 : decode cX1_init 22 = .ok (.ldc 18, 2) := by decide +kernel
theorem dX1_init_24 : decode cX1_init 24 = .ok (.newarray .int, 2) := by decide +kernel
theorem dX1_init_26 : decode cX1_init 26 = .ok (.putfield 19, 3) := by decide +kernel
theorem dX1_init_29 : decode cX1_init 29 = .ok (.aload_n 0, 1) := by decide +kernel
theorem dX1_init_30 : decode cX1_init 30 = .ok (.bipush 8, 2) := by decide +kernel
theorem dX1_init_32 : decode cX1_init 32 = .ok (.newarray .long, 2) := by decide +kernel
theorem dX1_init_34 : decode cX1_init 34 = .ok (.putfield 22, 3) := by decide +kernel
theorem dX1_init_37 : decode cX1_init 37 = .ok (.aload_n 0, 1) := by decide +kernel
theorem dX1_init_38 : decode cX1_init 38 = .ok (.bipush 8, 2) := by decide +kernel
theorem dX1_init_40 : decode cX1_init 40 = .ok (.newarray .int, 2) := by decide +kernel
theorem dX1_init_42 : decode cX1_init 42 = .ok (.putfield 26, 3) := by decide +kernel
theorem dX1_init_45 : decode cX1_init 45 = .ok (.return_, 1) := by decide +kernel
theorem dX1_store_0 : decode cX1_store 0 = .ok (.aload_n 0, 1) := by decide +kernel
theorem dX1_store_1 : decode cX1_store 1 = .ok (.getfield 29, 3) := by decide +kernel
theorem dX1_store_4 : decode cX1_store 4 = .ok (.istore_n 2, 1) := by decide +kernel
theorem dX1_store_5 : decode cX1_store 5 = .ok (.aload_n 0, 1) := by decide +kernel
theorem dX1_store_6 : decode cX1_store 6 = .ok (.getfield 9, 3) := by decide +kernel
theorem dX1_store_9 : decode cX1_store 9 = .ok (.iload_n 2, 1) := by decide +kernel
theorem dX1_store_10 : decode cX1_store 10 = .ok (.aload_n 1, 1) := by decide +kernel
theorem dX1_store_11 : decode cX1_store 11 = .ok (.getfield 33, 3) := by decide +kernel
theorem dX1_store_14 : decode cX1_store 14 = .ok (.iastore, 1) := by decide +kernel
theorem dX1_store_15 : decode cX1_store 15 = .ok (.aload_n 1, 1) := by decide +kernel
theorem dX1_store_16 : decode cX1_store 16 = .ok (.getfield 37, 3) := by decide +kernel
theorem dX1_store_19 : decode cX1_store 19 = .ok (.iconst 0, 1) := by decide +kernel
theorem dX1_store_20 : decode cX1_store 20 = .ok (.aload_n 0, 1) := by decide +kernel
theorem dX1_store_21 : decode cX1_store 21 = .ok (.getfield 15, 3) := by decide +kernel
theorem dX1_store_24 : decode cX1_store 24 = .ok (.iload_n 2, 1) := by decide +kernel
theorem dX1_store_25 : decode cX1_store 25 = .ok (.bipush 64, 2) := by decide +kernel
theorem dX1_store_27 : decode cX1_store 27 = .ok (.imul, 1) := by decide +kernel
theorem dX1_store_28 : decode cX1_store 28 = .ok (.aload_n 1, 1) := by decide +kernel
theorem dX1_store_29 : decode cX1_store 29 = .ok (.getfield 33, 3) := by decide +kernel
theorem dX1_store_32 : decode cX1_store 32 = .ok (.invokestatic 38, 3) := by decide +kernel
theorem dX1_store_35 : decode cX1_store 35 = .ok (.aload_n 1, 1) := by decide +kernel
theorem dX1_store_36 : decode cX1_store 36 = .ok (.getfield 44, 3) := by decide +kernel
theorem dX1_store_39 : decode cX1_store 39 = .ok (.iconst 0, 1) := by decide +kernel
theorem dX1_store_40 : decode cX1_store 40 = .ok (.aload_n 0, 1) := by decide +kernel
theorem dX1_store_41 : decode cX1_store 41 = .ok (.getfield 19, 3) := by decide +kernel
theorem dX1_store_44 : decode cX1_store 44 = .ok (.iload_n 2, 1) := by decide +kernel
theorem dX1_store_45 : decode cX1_store 45 = .ok (.sipush 4096, 3) := by decide +kernel
theorem dX1_store_48 : decode cX1_store 48 = .ok (.imul, 1) := by decide +kernel
theorem dX1_store_49 : decode cX1_store 49 = .ok (.sipush 4096, 3) := by decide +kernel
theorem dX1_store_52 : decode cX1_store 52 = .ok (.invokestatic 38, 3) := by decide +kernel
theorem dX1_store_55 : decode cX1_store 55 = .ok (.aload_n 0, 1) := by decide +kernel
theorem dX1_store_56 : decode cX1_store 56 = .ok (.getfield 22, 3) := by decide +kernel
theorem dX1_store_59 : decode cX1_store 59 = .ok (.iload_n 2, 1) := by decide +kernel
theorem dX1_store_60 : decode cX1_store 60 = .ok (.aload_n 1, 1) := by decide +kernel
theorem dX1_store_61 : decode cX1_store 61 = .ok (.getfield 45, 3) := by decide +kernel
theorem dX1_store_64 : decode cX1_store 64 = .ok (.lastore, 1) := by decide +kernel
theorem dX1_store_65 : decode cX1_store 65 = .ok (.aload_n 0, 1) := by decide +kernel
theorem dX1_store_66 : decode cX1_store 66 = .ok (.getfield 26, 3) := by decide +kernel
theorem dX1_store_69 : decode cX1_store 69 = .ok (.iload_n 2, 1) := by decide +kernel
theorem dX1_store_70 : decode cX1_store 70 = .ok (.aload_n 1, 1) := by decide +kernel
theorem dX1_store_71 : decode cX1_store 71 = .ok (.getfield 48, 3) := by decide +kernel
theorem dX1_store_74 : decode cX1_store 74 = .ok (.iastore, 1) := by decide +kernel
theorem dX1_store_75 : decode cX1_store 75 = .ok (.aload_n 0, 1) := by decide +kernel
theorem dX1_store_76 : decode cX1_store 76 = .ok (.dup, 1) := by decide +kernel
theorem dX1_store_77 : decode cX1_store 77 = .ok (.getfield 29, 3) := by decide +kernel
theorem dX1_store_80 : decode cX1_store 80 = .ok (.iconst 1, 1) := by decide +kernel
theorem dX1_store_81 : decode cX1_store 81 = .ok (.iadd, 1) := by decide +kernel
theorem dX1_store_82 : decode cX1_store 82 = .ok (.putfield 29, 3) := by decide +kernel
theorem dX1_store_85 : decode cX1_store 85 = .ok (.return_, 1) := by decide +kernel
theorem dX1_restore_0 : decode cX1_restore 0 = .ok (.aload_n 0, 1) := by decide +kernel
theorem dX1_restore_1 : decode cX1_restore 1 = .ok (.getfield 29, 3) := by decide +kernel
theorem dX1_restore_4 : decode cX1_restore 4 = .ok (.iconst 1, 1) := by decide +kernel
theorem dX1_restore_5 : decode cX1_restore 5 = .ok (.isub, 1) := by decide +kernel
theorem dX1_restore_6 : decode cX1_restore 6 = .ok (.istore_n 2, 1) := by decide +kernel
theorem dX1_restore_7 : decode cX1_restore 7 = .ok (.aload_n 0, 1) := by decide +kernel
theorem dX1_restore_8 : decode cX1_restore 8 = .ok (.getfield 9, 3) := by decide +kernel
theorem dX1_restore_11 : decode cX1_restore 11 = .ok (.iload_n 2, 1) := by decide +kernel
theorem dX1_restore_12 : decode cX1_restore 12 = .ok (.iaload, 1) := by decide +kernel
theorem dX1_restore_13 : decode cX1_restore 13 = .ok (.istore_n 3, 1) := by decide +kernel
theorem dX1_restore_14 : decode cX1_restore 14 = .ok (.aload_n 0, 1) := by decide +kernel
theorem dX1_restore_15 : decode cX1_restore 15 = .ok (.getfield 15, 3) := by decide +kernel
theorem dX1_restore_18 : decode cX1_restore 18 = .ok (.iload_n 2, 1) := by decide +kernel
theorem dX1_restore_19 : decode cX1_restore 19 = .ok (.bipush 64, 2) := by decide +kernel
theorem dX1_restore_21 : decode cX1_restore 21 = .ok (.imul, 1) := by decide +kernel
theorem dX1_restore_22 : decode cX1_restore 22 = .ok (.aload_n 1, 1) := by decide +kernel
theorem dX1_restore_23 : decode cX1_restore 23 = .ok (.getfield 37, 3) := by decide +kernel
theorem dX1_restore_26 : decode cX1_restore 26 = .ok (.iconst 0, 1) := by decide +kernel
theorem dX1_restore_27 : decode cX1_restore 27 = .ok (.iload_n 3, 1) := by decide +kernel
theorem dX1_restore_28 : decode cX1_restore 28 = .ok (.invokestatic 38, 3) := by decide +kernel
theorem dX1_restore_31 : decode cX1_restore 31 = .ok (.iconst 0, 1) := by decide +kernel
theorem dX1_restore_32 : decode cX1_restore 32 = .ok (.istore 4, 2) := by decide +kernel
theorem dX1_restore_34 : decode cX1_restore 34 = .ok (.iload 4, 2) := by decide +kernel
theorem dX1_restore_36 : decode cX1_restore 36 = .ok (.iload_n 3, 1) := by decide +kernel
theorem dX1_restore_37 : decode cX1_restore 37 = .ok (.if_icmp .ge 39, 3) := by decide +kernel
theorem dX1_restore_40 : decode cX1_restore 40 = .ok (.aload_n 0, 1) := by decide +kernel
theorem dX1_restore_41 : decode cX1_restore 41 = .ok (.getfield 19, 3) := by decide +kernel
theorem dX1_restore_44 : decode cX1_restore 44 = .ok (.iload_n 2, 1) := by decide +kernel
theorem dX1_restore_45 : decode cX1_restore 45 = .ok (.sipush 4096, 3) := by decide +kernel
theorem dX1_restore_48 : decode cX1_restore 48 = .ok (.imul, 1) := by decide +kernel
theorem dX1_restore_49 : decode cX1_restore 49 = .ok (.iload 4, 2) := by decide +kernel
theorem dX1_restore_51 : decode cX1_restore 51 = .ok (.iconst 0, 1) := by decide +kernel
theorem dX1_restore_52 : decode cX1_restore 52 = .ok (.invokestatic 51, 3) := by decide +kernel
theorem dX1_restore_55 : decode cX1_restore 55 = .ok (.iadd, 1) := by decide +kernel
theorem dX1_restore_56 : decode cX1_restore 56 = .ok (.aload_n 1, 1) := by decide +kernel
theorem dX1_restore_57 : decode cX1_restore 57 = .ok (.getfield 44, 3) := by decide +kernel
theorem dX1_restore_60 : decode cX1_restore 60 = .ok (.iload 4, 2) := by decide +kernel
theorem dX1_restore_62 : decode cX1_restore 62 = .ok (.iconst 0, 1) := by decide +kernel
theorem dX1_restore_63 : decode cX1_restore 63 = .ok (.invokestatic 51, 3) := by decide +kernel
theorem dX1_restore_66 : decode cX1_restore 66 = .ok (.iload_n 3, 1) := by decide +kernel
theorem dX1_restore_67 : decode cX1_restore 67 = .ok (.invokestatic 38, 3) := by decide +kernel
theorem dX1_restore_70 : decode cX1_restore 70 = .ok (.iinc 4 1, 3) := by decide +kernel
theorem dX1_restore_73 : decode cX1_restore 73 = .ok (.goto (-39), 3) := by decide +kernel
theorem dX1_restore_76 : decode cX1_restore 76 = .ok (.iload_n 3, 1) := by decide +kernel
theorem dX1_restore_77 : decode cX1_restore 77 = .ok (.bipush 64, 2) := by decide +kernel
theorem dX1_restore_79 : decode cX1_restore 79 = .ok (.if_icmp .lt 7, 3) := by decide +kernel
theorem dX1_restore_82 : decode cX1_restore 82 = .ok (.lconst 0, 1) := by decide +kernel
theorem dX1_restore_83 : decode cX1_restore 83 = .ok (.goto 8, 3) := by decide +kernel
theorem dX1_restore_86 : decode cX1_restore 86 = .ok (.ldc2_w 55, 3) := by decide +kernel
theorem dX1_restore_89 : decode cX1_restore 89 = .ok (.iload_n 3, 1) := by decide +kernel
theorem dX1_restore_90 : decode cX1_restore 90 = .ok (.lshl, 1) := by decide +kernel
theorem dX1_restore_91 : decode cX1_restore 91 = .ok (.lstore 4, 2) := by decide +kernel
theorem dX1_restore_93 : decode cX1_restore 93 = .ok (.aload_n 1, 1) := by decide +kernel
theorem dX1_restore_94 : decode cX1_restore 94 = .ok (.aload_n 1, 1) := by decide +kernel
theorem dX1_restore_95 : decode cX1_restore 95 = .ok (.getfield 45, 3) := by decide +kernel
theorem dX1_restore_98 : decode cX1_restore 98 = .ok (.lload 4, 2) := by decide +kernel
theorem dX1_restore_100 : decode cX1_restore 100 = .ok (.land, 1) := by decide +kernel
theorem dX1_restore_101 : decode cX1_restore 101 = .ok (.aload_n 0, 1) := by decide +kernel
theorem dX1_restore_102 : decode cX1_restore 102 = .ok (.getfield 22, 3) := by decide +kernel
theorem dX1_restore_105 : decode cX1_restore 105 = .ok (.iload_n 2, 1) := by decide +kernel
theorem dX1_restore_106 : decode cX1_restore 106 = .ok (.laload, 1) := by decide +kernel
theorem dX1_restore_107 : decode cX1_restore 107 = .ok (.lload 4, 2) := by decide +kernel
theorem dX1_restore_109 : decode cX1_restore 109 = .ok (.ldc2_w 55, 3) := by decide +kernel
theorem dX1_restore_112 : decode cX1_restore 112 = .ok (.lxor, 1) := by decide +kernel
theorem dX1_restore_113 : decode cX1_restore 113 = .ok (.land, 1) := by decide +kernel
theorem dX1_restore_114 : decode cX1_restore 114 = .ok (.lor, 1) := by decide +kernel
theorem dX1_restore_115 : decode cX1_restore 115 = .ok (.putfield 45, 3) := by decide +kernel
theorem dX1_restore_118 : decode cX1_restore 118 = .ok (.aload_n 1, 1) := by decide +kernel
theorem dX1_restore_119 : decode cX1_restore 119 = .ok (.aload_n 0, 1) := by decide +kernel
theorem dX1_restore_120 : decode cX1_restore 120 = .ok (.getfield 26, 3) := by decide +kernel
theorem dX1_restore_123 : decode cX1_restore 123 = .ok (.iload_n 2, 1) := by decide +kernel
theorem dX1_restore_124 : decode cX1_restore 124 = .ok (.iaload, 1) := by decide +kernel
theorem dX1_restore_125 : decode cX1_restore 125 = .ok (.putfield 48, 3) := by decide +kernel
theorem dX1_restore_128 : decode cX1_restore 128 = .ok (.aload_n 0, 1) := by decide +kernel
theorem dX1_restore_129 : decode cX1_restore 129 = .ok (.dup, 1) := by decide +kernel
theorem dX1_restore_130 : decode cX1_restore 130 = .ok (.getfield 29, 3) := by decide +kernel
theorem dX1_restore_133 : decode cX1_restore 133 = .ok (.iconst 1, 1) := by decide +kernel
theorem dX1_restore_134 : decode cX1_restore 134 = .ok (.isub, 1) := by decide +kernel
theorem dX1_restore_135 : decode cX1_restore 135 = .ok (.putfield 29, 3) := by decide +kernel
theorem dX1_restore_138 : decode cX1_restore 138 = .ok (.return_, 1) := by decide +kernel
theorem dX2_init_0 : decode cX2_init 0 = .ok (.aload_n 0, 1) := by decide +kernel
theorem dX2_init_1 : decode cX2_init 1 = .ok (.invokespecial 3, 3) := by decide +kernel
theorem dX2_init_4 : decode cX2_init 4 = .ok (.aload_n 0, 1) := by decide +kernel
theorem dX2_init_5 : decode cX2_init 5 = .ok (.bipush 64, 2) := by decide +kernel
theorem dX2_init_7 : decode cX2_init 7 = .ok (.newarray .int, 2) := by decide +kernel
theorem dX2_init_9 : decode cX2_init 9 = .ok (.putfield 9, 3) := by decide +kernel
theorem dX2_init_12 : decode cX2_init 12 = .ok (.aload_n 0, 1) := by decide +kernel
theorem dX2_init_13 : decode cX2_init 13 = .ok (.bipush 64, 2) := by decide +kernel
theorem dX2_init_15 : decode cX2_init 15 = .ok (.newarray .int, 2) := by decide +kernel
theorem dX2_init_17 : decode cX2_init 17 = .ok (.putfield 15, 3) := by decide +kernel
theorem dX2_init_20 : decode cX2_init 20 = .ok (.aload_n 0, 1) := by decide +kernel
theorem dX2_init_21 : decode cX2_init 21 = .ok (.bipush 64, 2) := by decide +kernel
theorem dX2_init_23 : decode cX2_init 23 = .ok (.newarray .int, 2) := by decide +kernel
theorem dX2_init_25 : decode cX2_init 25 = .ok (.putfield 18, 3) := by decide +kernel
theorem dX2_init_28 : decode cX2_init 28 = .ok (.aload_n 0, 1) := by decide +kernel
theorem dX2_init_29 : decode cX2_init 29 = .ok (.sipush 4096, 3) := by decide +kernel
theorem dX2_init_32 : decode cX2_init 32 = .ok (.newarray .int, 2) := by decide +kernel
theorem dX2_init_34 : decode cX2_init 34 = .ok (.putfield 21, 3) := by decide +kernel
theorem dX2_init_37 : decode cX2_init 37 = .ok (.aload_n 0, 1) := by decide +kernel
theorem dX2_init_38 : decode cX2_init 38 = .ok (.getfield 21, 3) := by decide +kernel
theorem dX2_init_41 : decode cX2_init 41 = .ok (.bipush (-2), 2) := by decide +kernel
theorem dX2_init_43 : decode cX2_init 43 = .ok (.invokestatic 24, 3) := by decide +kernel
theorem dX2_init_46 : decode cX2_init 46 = .ok (.aload_n 0, 1) := by decide +kernel
theorem dX2_init_47 : decode cX2_init 47 = .ok (.bipush 32, 2) := by decide +kernel
theorem dX2_init_49 : decode cX2_init 49 = .ok (.newarray .long, 2) := by decide +kernel
theorem dX2_init_51 : decode cX2_init 51 = .ok (.putfield 30, 3) := by decide +kernel
theorem dX2_init_54 : decode cX2_init 54 = .ok (.aload_n 0, 1) := by decide +kernel
theorem dX2_init_55 : decode cX2_init 55 = .ok (.bipush 32, 2) := by decide +kernel
theorem dX2_init_57 : decode cX2_init 57 = .ok (.newarray .long, 2) := by decide +kernel
theorem dX2_init_59 : decode cX2_init 59 = .ok (.putfield 34, 3) := by decide +kernel
theorem dX2_init_62 : decode cX2_init 62 = .ok (.aload_n 0, 1) := by decide +kernel
theorem dX2_init_63 : decode cX2_init 63 = .ok (.bipush 100, 2) := by decide +kernel
theorem dX2_init_65 : decode cX2_init 65 = .ok (.putfield 37, 3) := by decide +kernel
theorem dX2_init_68 : decode cX2_init 68 = .ok (.return_, 1) := by decide +kernel
theorem dX2_append_0 : decode cX2_append 0 = .ok (.aload_n 0, 1) := by decide +kernel
theorem dX2_append_1 : decode cX2_append 1 = .ok (.getfield 41, 3) := by decide +kernel
theorem dX2_append_4 : decode cX2_append 4 = .ok (.istore 4, 2) := by decide +kernel
theorem dX2_append_6 : decode cX2_append 6 = .ok (.aload_n 0, 1) := by decide +kernel
theorem dX2_append_7 : decode cX2_append 7 = .ok (.getfield 9, 3) := by decide +kernel
theorem dX2_append_10 : decode cX2_append 10 = .ok (.iload 4, 2) := by decide +kernel
theorem dX2_append_12 : decode cX2_append 12 = .ok (.iload_n 1, 1) := by decide +kernel
theorem dX2_append_13 : decode cX2_append 13 = .ok (.iastore, 1) := by decide +kernel
theorem dX2_append_14 : decode cX2_append 14 = .ok (.aload_n 0, 1) := by decide +kernel
theorem dX2_append_15 : decode cX2_append 15 = .ok (.getfield 15, 3) := by decide +kernel
theorem dX2_append_18 : decode cX2_append 18 = .ok (.iload 4, 2) := by decide +kernel
theorem dX2_append_20 : decode cX2_append 20 = .ok (.iload_n 2, 1) := by decide +kernel
theorem dX2_append_21 : decode cX2_append 21 = .ok (.iastore, 1) := by decide +kernel
theorem dX2_append_22 : decode cX2_append 22 = .ok (.aload_n 0, 1) := by decide +kernel
theorem dX2_append_23 : decode cX2_append 23 = .ok (.getfield 18, 3) := by decide +kernel
theorem dX2_append_26 : decode cX2_append 26 = .ok (.iload 4, 2) := by decide +kernel
theorem dX2_append_28 : decode cX2_append 28 = .ok (.iload_n 3, 1) := by decide +kernel
theorem dX2_append_29 : decode cX2_append 29 = .ok (.iastore, 1) := by decide +kernel
theorem dX2_append_30 : decode cX2_append 30 = .ok (.aload_n 0, 1) := by decide +kernel
theorem dX2_append_31 : decode cX2_append 31 = .ok (.getfield 30, 3) := by decide +kernel
theorem dX2_append_34 : decode cX2_append 34 = .ok (.iload_n 1, 1) := by decide +kernel
theorem dX2_append_35 : decode cX2_append 35 = .ok (.dup2, 1) := by decide +kernel
theorem dX2_append_36 : decode cX2_append 36 = .ok (.laload, 1) := by decide +kernel
theorem dX2_append_37 : decode cX2_append 37 = .ok (.iload 4, 2) := by decide +kernel
theorem dX2_append_39 : decode cX2_append 39 = .ok (.invokestatic 44, 3) := by decide +kernel
theorem dX2_append_42 : decode cX2_append 42 = .ok (.lor, 1) := by decide +kernel
theorem dX2_append_43 : decode cX2_append 43 = .ok (.lastore, 1) := by decide +kernel
theorem dX2_append_44 : decode cX2_append 44 = .ok (.aload_n 0, 1) := by decide +kernel
theorem dX2_append_45 : decode cX2_append 45 = .ok (.getfield 34, 3) := by decide +kernel
theorem dX2_append_48 : decode cX2_append 48 = .ok (.iload_n 2, 1) := by decide +kernel
theorem dX2_append_49 : decode cX2_append 49 = .ok (.dup2, 1) := by decide +kernel
theorem dX2_append_50 : decode cX2_append 50 = .ok (.laload, 1) := by decide +kernel
theorem dX2_append_51 : decode cX2_append 51 = .ok (.iload 4, 2) := by decide +kernel
theorem dX2_append_53 : decode cX2_append 53 = .ok (.invokestatic 44, 3) := by decide +kernel
theorem dX2_append_56 : decode cX2_append 56 = .ok (.lor, 1) := by decide +kernel
theorem dX2_append_57 : decode cX2_append 57 = .ok (.lastore, 1) := by decide +kernel
theorem dX2_append_58 : decode cX2_append 58 = .ok (.aload_n 0, 1) := by decide +kernel
theorem dX2_append_59 : decode cX2_append 59 = .ok (.dup, 1) := by decide +kernel
theorem dX2_append_60 : decode cX2_append 60 = .ok (.getfield 48, 3) := by decide +kernel
theorem dX2_append_63 : decode cX2_append 63 = .ok (.iload 4, 2) := by decide +kernel
theorem dX2_append_65 : decode cX2_append 65 = .ok (.invokestatic 44, 3) := by decide +kernel
theorem dX2_append_68 : decode cX2_append 68 = .ok (.lor, 1) := by decide +kernel
theorem dX2_append_69 : decode cX2_append 69 = .ok (.putfield 48, 3) := by decide +kernel
theorem dX2_append_72 : decode cX2_append 72 = .ok (.aload_n 0, 1) := by decide +kernel
theorem dX2_append_73 : decode cX2_append 73 = .ok (.dup, 1) := by decide +kernel
theorem dX2_append_74 : decode cX2_append 74 = .ok (.getfield 41, 3) := by decide +kernel
theorem dX2_append_77 : decode cX2_append 77 = .ok (.iconst 1, 1) := by decide +kernel
theorem dX2_append_78 : decode cX2_append 78 = .ok (.iadd, 1) := by decide +kernel
theorem dX2_append_79 : decode cX2_append 79 = .ok (.putfield 41, 3) := by decide +kernel
theorem dX2_append_82 : decode cX2_append 82 = .ok (.iload 4, 2) := by decide +kernel
theorem dX2_append_84 : decode cX2_append 84 = .ok (.ireturn, 1) := by decide +kernel
theorem dX2_openOrClose_0 : decode cX2_openOrClose 0 = .ok (.aload_n 0, 1) := by decide +kernel
theorem dX2_openOrClose_1 : decode cX2_openOrClose 1 = .ok (.getfield 48, 3) := by decide +kernel
theorem dX2_openOrClose_4 : decode cX2_openOrClose 4 = .ok (.iload_n 1, 1) := by decide +kernel
theorem dX2_openOrClose_5 : decode cX2_openOrClose 5 = .ok (.invokestatic 44, 3) := by decide +kernel
theorem dX2_openOrClose_8 : decode cX2_openOrClose 8 = .ok (.ldc2_w 52, 3) := by decide +kernel
theorem dX2_openOrClose_11 : decode cX2_openOrClose 11 = .ok (.lxor, 1) := by decide +kernel
theorem dX2_openOrClose_12 : decode cX2_openOrClose 12 = .ok (.land, 1) := by decide +kernel
theorem dX2_openOrClose_13 : decode cX2_openOrClose 13 = .ok (.lstore_n 3, 1) := by decide +kernel
theorem dX2_openOrClose_14 : decode cX2_openOrClose 14 = .ok (.aload_n 0, 1) := by decide +kernel
theorem dX2_openOrClose_15 : decode cX2_openOrClose 15 = .ok (.iload_n 2, 1) := by decide +kernel
theorem dX2_openOrClose_16 : decode cX2_openOrClose 16 = .ok (.ifCond .eq 12, 3) := by decide +kernel
theorem dX2_openOrClose_19 : decode cX2_openOrClose 19 = .ok (.lload_n 3, 1) := by decide +kernel
theorem dX2_openOrClose_20 : decode cX2_openOrClose 20 = .ok (.iload_n 1, 1) := by decide +kernel
theorem dX2_openOrClose_21 : decode cX2_openOrClose 21 = .ok (.invokestatic 44, 3) := by decide +kernel
theorem dX2_openOrClose_24 : decode cX2_openOrClose 24 = .ok (.lor, 1) := by decide +kernel
theorem dX2_openOrClose_25 : decode cX2_openOrClose 25 = .ok (.goto 4, 3) := by decide +kernel
theorem dX2_openOrClose_28 : decode cX2_openOrClose 28 = .ok (.lload_n 3, 1) := by decide +kernel
theorem dX2_openOrClose_29 : decode cX2_openOrClose 29 = .ok (.putfield 48, 3) := by decide +kernel
theorem dX2_openOrClose_32 : decode cX2_openOrClose 32 = .ok (.return_, 1) := by decide +kernel
theorem dX2_allRoads_0 : decode cX2_allRoads 0 = .ok (.aload_n 0, 1) := by decide +kernel
theorem dX2_allRoads_1 : decode cX2_allRoads 1 = .ok (.getfield 41, 3) := by decide +kernel
theorem dX2_allRoads_4 : decode cX2_allRoads 4 = .ok (.bipush 64, 2) := by decide +kernel
theorem dX2_allRoads_6 : decode cX2_allRoads 6 = .ok (.if_icmp .lt 9, 3) := by decide +kernel
theorem dX2_allRoads_9 : decode cX2_allRoads 9 = .ok (.ldc2_w 52, 3) := by decide +kernel
theorem dX2_allRoads_12 : decode cX2_allRoads 12 = .ok (.goto 12, 3) := by decide +kernel
theorem dX2_allRoads_15 : decode cX2_allRoads 15 = .ok (.aload_n 0, 1) := by decide +kernel
theorem dX2_allRoads_16 : decode cX2_allRoads 16 = .ok (.getfield 41, 3) := by decide +kernel
theorem dX2_allRoads_19 : decode cX2_allRoads 19 = .ok (.invokestatic 44, 3) := by decide +kernel
theorem dX2_allRoads_22 : decode cX2_allRoads 22 = .ok (.lconst 1, 1) := by decide +kernel
theorem dX2_allRoads_23 : decode cX2_allRoads 23 = .ok (.lsub, 1) := by decide +kernel
theorem dX2_allRoads_24 : decode cX2_allRoads 24 = .ok (.lreturn, 1) := by decide +kernel
theorem dX2_followersOf_0 : decode cX2_followersOf 0 = .ok (.aload_n 0, 1) := by decide +kernel
theorem dX2_followersOf_1 : decode cX2_followersOf 1 = .ok (.getfield 30, 3) := by decide +kernel
theorem dX2_followersOf_4 : decode cX2_followersOf 4 = .ok (.aload_n 0, 1) := by decide +kernel
theorem dX2_followersOf_5 : decode cX2_followersOf 5 = .ok (.getfield 15, 3) := by decide +kernel
theorem dX2_followersOf_8 : decode cX2_followersOf 8 = .ok (.iload_n 1, 1) := by decide +kernel
theorem dX2_followersOf_9 : decode cX2_followersOf 9 = .ok (.iaload, 1) := by decide +kernel
theorem dX2_followersOf_10 : decode cX2_followersOf 10 = .ok (.laload, 1) := by decide +kernel
theorem dX2_followersOf_11 : decode cX2_followersOf 11 = .ok (.lreturn, 1) := by decide +kernel
theorem dX2_forerunnersOf_0 : decode cX2_forerunnersOf 0 = .ok (.aload_n 0, 1) := by decide +kernel
theorem dX2_forerunnersOf_1 : decode cX2_forerunnersOf 1 = .ok (.getfield 34, 3) := by decide +kernel
theorem dX2_forerunnersOf_4 : decode cX2_forerunnersOf 4 = .ok (.aload_n 0, 1) := by decide +kernel
theorem dX2_forerunnersOf_5 : decode cX2_forerunnersOf 5 = .ok (.getfield 9, 3) := by decide +kernel
theorem dX2_forerunnersOf_8 : decode cX2_forerunnersOf 8 = .ok (.iload_n 1, 1) := by decide +kernel
theorem dX2_forerunnersOf_9 : decode cX2_forerunnersOf 9 = .ok (.iaload, 1) := by decide +kernel
theorem dX2_forerunnersOf_10 : decode cX2_forerunnersOf 10 = .ok (.laload, 1) := by decide +kernel
theorem dX2_forerunnersOf_11 : decode cX2_forerunnersOf 11 = .ok (.lreturn, 1) := by decide +kernel
theorem dX2_penaltyOf_0 : decode cX2_penaltyOf 0 = .ok (.aload_n 0, 1) := by decide +kernel
theorem dX2_penaltyOf_1 : decode cX2_penaltyOf 1 = .ok (.getfield 21, 3) := by decide +kernel
theorem dX2_penaltyOf_4 : decode cX2_penaltyOf 4 = .ok (.iload_n 1, 1) := by decide +kernel
theorem dX2_penaltyOf_5 : decode cX2_penaltyOf 5 = .ok (.iload_n 2, 1) := by decide +kernel
theorem dX2_penaltyOf_6 : decode cX2_penaltyOf 6 = .ok (.invokestatic 54, 3) := by decide +kernel
theorem dX2_penaltyOf_9 : decode cX2_penaltyOf 9 = .ok (.iaload, 1) := by decide +kernel
theorem dX2_penaltyOf_10 : decode cX2_penaltyOf 10 = .ok (.istore_n 3, 1) := by decide +kernel
theorem dX2_penaltyOf_11 : decode cX2_penaltyOf 11 = .ok (.iload_n 3, 1) := by decide +kernel
theorem dX2_penaltyOf_12 : decode cX2_penaltyOf 12 = .ok (.bipush (-2), 2) := by decide +kernel
theorem dX2_penaltyOf_14 : decode cX2_penaltyOf 14 = .ok (.if_icmp .eq 5, 3) := by decide +kernel
theorem dX2_penaltyOf_17 : decode cX2_penaltyOf 17 = .ok (.iload_n 3, 1) := by decide +kernel
theorem dX2_penaltyOf_18 : decode cX2_penaltyOf 18 = .ok (.ireturn, 1) := by decide +kernel
theorem dX2_penaltyOf_19 : decode cX2_penaltyOf 19 = .ok (.aload_n 0, 1) := by decide +kernel
theorem dX2_penaltyOf_20 : decode cX2_penaltyOf 20 = .ok (.getfield 15, 3) := by decide +kernel
theorem dX2_penaltyOf_23 : decode cX2_penaltyOf 23 = .ok (.iload_n 2, 1) := by decide +kernel
theorem dX2_penaltyOf_24 : decode cX2_penaltyOf 24 = .ok (.iaload, 1) := by decide +kernel
theorem dX2_penaltyOf_25 : decode cX2_penaltyOf 25 = .ok (.aload_n 0, 1) := by decide +kernel
theorem dX2_penaltyOf_26 : decode cX2_penaltyOf 26 = .ok (.getfield 9, 3) := by decide +kernel
theorem dX2_penaltyOf_29 : decode cX2_penaltyOf 29 = .ok (.iload_n 1, 1) := by decide +kernel
theorem dX2_penaltyOf_30 : decode cX2_penaltyOf 30 = .ok (.iaload, 1) := by decide +kernel
theorem dX2_penaltyOf_31 : decode cX2_penaltyOf 31 = .ok (.if_icmp .ne 10, 3) := by decide +kernel
theorem dX2_penaltyOf_34 : decode cX2_penaltyOf 34 = .ok (.aload_n 0, 1) := by decide +kernel
theorem dX2_penaltyOf_35 : decode cX2_penaltyOf 35 = .ok (.getfield 37, 3) := by decide +kernel
theorem dX2_penaltyOf_38 : decode cX2_penaltyOf 38 = .ok (.goto 4, 3) := by decide +kernel
theorem dX2_penaltyOf_41 : decode cX2_penaltyOf 41 = .ok (.iconst 0, 1) := by decide +kernel
theorem dX2_penaltyOf_42 : decode cX2_penaltyOf 42 = .ok (.ireturn, 1) := by decide +kernel
theorem dX2_roadLength_0 : decode cX2_roadLength 0 = .ok (.aload_n 0, 1) := by decide +kernel
theorem dX2_roadLength_1 : decode cX2_roadLength 1 = .ok (.getfield 18, 3) := by decide +kernel
theorem dX2_roadLength_4 : decode cX2_roadLength 4 = .ok (.iload_n 1, 1) := by decide +kernel
theorem dX2_roadLength_5 : decode cX2_roadLength 5 = .ok (.iaload, 1) := by decide +kernel
theorem dX2_roadLength_6 : decode cX2_roadLength 6 = .ok (.bipush 7, 2) := by decide +kernel
theorem dX2_roadLength_8 : decode cX2_roadLength 8 = .ok (.ishl, 1) := by decide +kernel
theorem dX2_roadLength_9 : decode cX2_roadLength 9 = .ok (.iconst 1, 1) := by decide +kernel
theorem dX2_roadLength_10 : decode cX2_roadLength 10 = .ok (.iadd, 1) := by decide +kernel
theorem dX2_roadLength_11 : decode cX2_roadLength 11 = .ok (.ireturn, 1) := by decide +kernel
theorem dX2_stepLength_0 : decode cX2_stepLength 0 = .ok (.aload_n 0, 1) := by decide +kernel
theorem dX2_stepLength_1 : decode cX2_stepLength 1 = .ok (.iload_n 1, 1) := by decide +kernel
theorem dX2_stepLength_2 : decode cX2_stepLength 2 = .ok (.iload_n 2, 1) := by decide +kernel
theorem dX2_stepLength_3 : decode cX2_stepLength 3 = .ok (.invokevirtual 58, 3) := by decide +kernel
theorem dX2_stepLength_6 : decode cX2_stepLength 6 = .ok (.istore_n 3, 1) := by decide +kernel
theorem dX2_stepLength_7 : decode cX2_stepLength 7 = .ok (.iload_n 3, 1) := by decide +kernel
theorem dX2_stepLength_8 : decode cX2_stepLength 8 = .ok (.iconst (-1), 1) := by decide +kernel
theorem dX2_stepLength_9 : decode cX2_stepLength 9 = .ok (.if_icmp .eq 25, 3) := by decide +kernel
theorem dX2_stepLength_12 : decode cX2_stepLength 12 = .ok (.aload_n 0, 1) := by decide +kernel
theorem dX2_stepLength_13 : decode cX2_stepLength 13 = .ok (.getfield 48, 3) := by decide +kernel
theorem dX2_stepLength_16 : decode cX2_stepLength 16 = .ok (.iload_n 1, 1) := by decide +kernel
theorem dX2_stepLength_17 : decode cX2_stepLength 17 = .ok (.invokestatic 61, 3) := by decide +kernel
theorem dX2_stepLength_20 : decode cX2_stepLength 20 = .ok (.ifCond .eq 14, 3) := by decide +kernel
theorem dX2_stepLength_23 : decode cX2_stepLength 23 = .ok (.aload_n 0, 1) := by decide +kernel
theorem dX2_stepLength_24 : decode cX2_stepLength 24 = .ok (.getfield 48, 3) := by decide +kernel
theorem dX2_stepLength_27 : decode cX2_stepLength 27 = .ok (.iload_n 2, 1) := by decide +kernel
theorem dX2_stepLength_28 : decode cX2_stepLength 28 = .ok (.invokestatic 61, 3) := by decide +kernel
theorem dX2_stepLength_31 : decode cX2_stepLength 31 = .ok (.ifCond .ne 6, 3) := by decide +kernel
theorem dX2_stepLength_34 : decode cX2_stepLength 34 = .ok (.ldc 65, 2) := by decide +kernel
theorem dX2_stepLength_36 : decode cX2_stepLength 36 = .ok (.ireturn, 1) := by decide +kernel
theorem dX2_stepLength_37 : decode cX2_stepLength 37 = .ok (.iload_n 3, 1) := by decide +kernel
theorem dX2_stepLength_38 : decode cX2_stepLength 38 = .ok (.bipush 7, 2) := by decide +kernel
theorem dX2_stepLength_40 : decode cX2_stepLength 40 = .ok (.ishl, 1) := by decide +kernel
theorem dX2_stepLength_41 : decode cX2_stepLength 41 = .ok (.aload_n 0, 1) := by decide +kernel
theorem dX2_stepLength_42 : decode cX2_stepLength 42 = .ok (.iload_n 2, 1) := by decide +kernel
theorem dX2_stepLength_43 : decode cX2_stepLength 43 = .ok (.invokevirtual 66, 3) := by decide +kernel
theorem dX2_stepLength_46 : decode cX2_stepLength 46 = .ok (.iadd, 1) := by decide +kernel
theorem dX2_stepLength_47 : decode cX2_stepLength 47 = .ok (.ireturn, 1) := by decide +kernel
theorem dX3_init_0 : decode cX3_init 0 = .ok (.aload_n 0, 1) := by decide +kernel
theorem dX3_init_1 : decode cX3_init 1 = .ok (.invokespecial 3, 3) := by decide +kernel
theorem dX3_init_4 : decode cX3_init 4 = .ok (.aload_n 0, 1) := by decide +kernel
theorem dX3_init_5 : decode cX3_init 5 = .ok (.new 9, 3) := by decide +kernel
theorem dX3_init_8 : decode cX3_init 8 = .ok (.dup, 1) := by decide +kernel
theorem dX3_init_9 : decode cX3_init 9 = .ok (.invokespecial 11, 3) := by decide +kernel
theorem dX3_init_12 : decode cX3_init 12 = .ok (.putfield 12, 3) := by decide +kernel
theorem dX3_init_15 : decode cX3_init 15 = .ok (.aload_n 0, 1) := by decide +kernel
theorem dX3_init_16 : decode cX3_init 16 = .ok (.new 16, 3) := by decide +kernel
theorem dX3_init_19 : decode cX3_init 19 = .ok (.dup, 1) := by decide +kernel
theorem dX3_init_20 : decode cX3_init 20 = .ok (.aload_n 0, 1) := by decide +kernel
theorem dX3_init_21 : decode cX3_init 21 = .ok (.getfield 12, 3) := by decide +kernel
theorem dX3_init_24 : decode cX3_init 24 = .ok (.invokespecial 18, 3) := by decide +kernel
theorem dX3_init_27 : decode cX3_init 27 = .ok (.putfield 21, 3) := by decide +kernel
theorem dX3_init_30 : decode cX3_init 30 = .ok (.aload_n 0, 1) := by decide +kernel
theorem dX3_init_31 : decode cX3_init 31 = .ok (.new 25, 3) := by decide +kernel
theorem dX3_init_34 : decode cX3_init 34 = .ok (.dup, 1) := by decide +kernel
theorem dX3_init_35 : decode cX3_init 35 = .ok (.invokespecial 27, 3) := by decide +kernel
theorem dX3_init_38 : decode cX3_init 38 = .ok (.putfield 28, 3) := by decide +kernel
theorem dX3_init_41 : decode cX3_init 41 = .ok (.aload_n 0, 1) := by decide +kernel
theorem dX3_init_42 : decode cX3_init 42 = .ok (.sipush 128, 3) := by decide +kernel
theorem dX3_init_45 : decode cX3_init 45 = .ok (.newarray .boolean, 2) := by decide +kernel
theorem dX3_init_47 : decode cX3_init 47 = .ok (.putfield 32, 3) := by decide +kernel
theorem dX3_init_50 : decode cX3_init 50 = .ok (.aload_n 0, 1) := by decide +kernel
theorem dX3_init_51 : decode cX3_init 51 = .ok (.bipush 64, 2) := by decide +kernel
theorem dX3_init_53 : decode cX3_init 53 = .ok (.newarray .int, 2) := by decide +kernel
theorem dX3_init_55 : decode cX3_init 55 = .ok (.putfield 36, 3) := by decide +kernel
theorem dX3_init_58 : decode cX3_init 58 = .ok (.aload_n 0, 1) := by decide +kernel
theorem dX3_init_59 : decode cX3_init 59 = .ok (.bipush 32, 2) := by decide +kernel
theorem dX3_init_61 : decode cX3_init 61 = .ok (.newarray .int, 2) := by decide +kernel
theorem dX3_init_63 : decode cX3_init 63 = .ok (.putfield 40, 3) := by decide +kernel
theorem dX3_init_66 : decode cX3_init 66 = .ok (.aload_n 0, 1) := by decide +kernel
theorem dX3_init_67 : decode cX3_init 67 = .ok (.bipush 64, 2) := by decide +kernel
theorem dX3_init_69 : decode cX3_init 69 = .ok (.newarray .int, 2) := by decide +kernel
theorem dX3_init_71 : decode cX3_init 71 = .ok (.putfield 43, 3) := by decide +kernel
theorem dX3_init_74 : decode cX3_init 74 = .ok (.aload_n 0, 1) := by decide +kernel
theorem dX3_init_75 : decode cX3_init 75 = .ok (.bipush 32, 2) := by decide +kernel
theorem dX3_init_77 : decode cX3_init 77 = .ok (.newarray .int, 2) := by decide +kernel
theorem dX3_init_79 : decode cX3_init 79 = .ok (.putfield 46, 3) := by decide +kernel
theorem dX3_init_82 : decode cX3_init 82 = .ok (.aload_n 0, 1) := by decide +kernel
theorem dX3_init_83 : decode cX3_init 83 = .ok (.bipush 32, 2) := by decide +kernel
theorem dX3_init_85 : decode cX3_init 85 = .ok (.newarray .int, 2) := by decide +kernel
theorem dX3_init_87 : decode cX3_init 87 = .ok (.putfield 49, 3) := by decide +kernel
theorem dX3_init_90 : decode cX3_init 90 = .ok (.return_, 1) := by decide +kernel
theorem dX3_addJunction_0 : decode cX3_addJunction 0 = .ok (.aload_n 0, 1) := by decide +kernel
theorem dX3_addJunction_1 : decode cX3_addJunction 1 = .ok (.getfield 12, 3) := by decide +kernel
theorem dX3_addJunction_4 : decode cX3_addJunction 4 = .ok (.getfield 52, 3) := by decide +kernel
theorem dX3_addJunction_7 : decode cX3_addJunction 7 = .ok (.bipush 32, 2) := by decide +kernel
theorem dX3_addJunction_9 : decode cX3_addJunction 9 = .ok (.if_icmp .lt 13, 3) := by decide +kernel
theorem dX3_addJunction_12 : decode cX3_addJunction 12 = .ok (.new 56, 3) := by decide +kernel
theorem dX3_addJunction_15 : decode cX3_addJunction 15 = .ok (.dup, 1) := by decide +kernel
theorem dX3_addJunction_16 : decode cX3_addJunction 16 = .ok (.ldc 58, 2) := by decide +kernel
theorem dX3_addJunction_18 : decode cX3_addJunction 18 = .ok (.invokespecial 60, 3) := by decide +kernel
theorem dX3_addJunction_21 : decode cX3_addJunction 21 = .ok (.athrow, 1) := by decide +kernel
theorem dX3_addJunction_22 : decode cX3_addJunction 22 = .ok (.aload_n 0, 1) := by decide +kernel
theorem dX3_addJunction_23 : decode cX3_addJunction 23 = .ok (.getfield 12, 3) := by decide +kernel
theorem dX3_addJunction_26 : decode cX3_addJunction 26 = .ok (.dup, 1) := by decide +kernel
theorem dX3_addJunction_27 : decode cX3_addJunction 27 = .ok (.getfield 52, 3) := by decide +kernel
theorem dX3_addJunction_30 : decode cX3_addJunction 30 = .ok (.iconst 1, 1) := by decide +kernel
theorem dX3_addJunction_31 : decode cX3_addJunction 31 = .ok (.iadd, 1) := by decide +kernel
theorem dX3_addJunction_32 : decode cX3_addJunction 32 = .ok (.putfield 52, 3) := by decide +kernel
theorem dX3_addJunction_35 : decode cX3_addJunction 35 = .ok (.aload_n 0, 1) := by decide +kernel
theorem dX3_addJunction_36 : decode cX3_addJunction 36 = .ok (.getfield 12, 3) := by decide +kernel
theorem dX3_addJunction_39 : decode cX3_addJunction 39 = .ok (.getfield 52, 3) := by decide +kernel
theorem dX3_addJunction_42 : decode cX3_addJunction 42 = .ok (.iconst 1, 1) := by decide +kernel
theorem dX3_addJunction_43 : decode cX3_addJunction 43 = .ok (.isub, 1) := by decide +kernel
theorem dX3_addJunction_44 : decode cX3_addJunction 44 = .ok (.ireturn, 1) := by decide +kernel
theorem dX3_addRoad_0 : decode cX3_addRoad 0 = .ok (.aload_n 0, 1) := by decide +kernel
theorem dX3_addRoad_1 : decode cX3_addRoad 1 = .ok (.iload_n 1, 1) := by decide +kernel
theorem dX3_addRoad_2 : decode cX3_addRoad 2 = .ok (.invokevirtual 63, 3) := by decide +kernel
theorem dX3_addRoad_5 : decode cX3_addRoad 5 = .ok (.aload_n 0, 1) := by decide +kernel
theorem dX3_addRoad_6 : decode cX3_addRoad 6 = .ok (.iload_n 2, 1) := by decide +kernel
theorem dX3_addRoad_7 : decode cX3_addRoad 7 = .ok (.invokevirtual 63, 3) := by decide +kernel
theorem dX3_addRoad_10 : decode cX3_addRoad 10 = .ok (.iload_n 1, 1) := by decide +kernel
theorem dX3_addRoad_11 : decode cX3_addRoad 11 = .ok (.iload_n 2, 1) := by decide +kernel
theorem dX3_addRoad_12 : decode cX3_addRoad 12 = .ok (.if_icmp .ne 13, 3) := by decide +kernel
theorem dX3_addRoad_15 : decode cX3_addRoad 15 = .ok (.new 67, 3) := by decide +kernel
theorem dX3_addRoad_18 : decode cX3_addRoad 18 = .ok (.dup, 1) := by decide +kernel
theorem dX3_addRoad_19 : decode cX3_addRoad 19 = .ok (.ldc 69, 2) := by decide +kernel
theorem dX3_addRoad_21 : decode cX3_addRoad 21 = .ok (.invokespecial 71, 3) := by decide +kernel
theorem dX3_addRoad_24 : decode cX3_addRoad 24 = .ok (.athrow, 1) := by decide +kernel
theorem dX3_addRoad_25 : decode cX3_addRoad 25 = .ok (.aload_n 0, 1) := by decide +kernel
theorem dX3_addRoad_26 : decode cX3_addRoad 26 = .ok (.iload_n 3, 1) := by decide +kernel
theorem dX3_addRoad_27 : decode cX3_addRoad 27 = .ok (.invokevirtual 72, 3) := by decide +kernel
theorem dX3_addRoad_30 : decode cX3_addRoad 30 = .ok (.aload_n 0, 1) := by decide +kernel
theorem dX3_addRoad_31 : decode cX3_addRoad 31 = .ok (.getfield 12, 3) := by decide +kernel
theorem dX3_addRoad_34 : decode cX3_addRoad 34 = .ok (.getfield 75, 3) := by decide +kernel
theorem dX3_addRoad_37 : decode cX3_addRoad 37 = .ok (.bipush 64, 2) := by decide +kernel
theorem dX3_addRoad_39 : decode cX3_addRoad 39 = .ok (.if_icmp .lt 13, 3) := by decide +kernel
theorem dX3_addRoad_42 : decode cX3_addRoad 42 = .ok (.new 56, 3) := by decide +kernel
theorem dX3_addRoad_45 : decode cX3_addRoad 45 = .ok (.dup, 1) := by decide +kernel
theorem dX3_addRoad_46 : decode cX3_addRoad 46 = .ok (.ldc 78, 2) := by decide +kernel
theorem dX3_addRoad_48 : decode cX3_addRoad 48 = .ok (.invokespecial 60, 3) := by decide +kernel
theorem dX3_addRoad_51 : decode cX3_addRoad 51 = .ok (.athrow, 1) := by decide +kernel
theorem dX3_addRoad_52 : decode cX3_addRoad 52 = .ok (.aload_n 0, 1) := by decide +kernel
theorem dX3_addRoad_53 : decode cX3_addRoad 53 = .ok (.getfield 21, 3) := by decide +kernel
theorem dX3_addRoad_56 : decode cX3_addRoad 56 = .ok (.iconst 0, 1) := by decide +kernel
theorem dX3_addRoad_57 : decode cX3_addRoad 57 = .ok (.putfield 80, 3) := by decide +kernel
theorem dX3_addRoad_60 : decode cX3_addRoad 60 = .ok (.aload_n 0, 1) := by decide +kernel
theorem dX3_addRoad_61 : decode cX3_addRoad 61 = .ok (.getfield 12, 3) := by decide +kernel
theorem dX3_addRoad_64 : decode cX3_addRoad 64 = .ok (.iload_n 1, 1) := by decide +kernel
theorem dX3_addRoad_65 : decode cX3_addRoad 65 = .ok (.iload_n 2, 1) := by decide +kernel
theorem dX3_addRoad_66 : decode cX3_addRoad 66 = .ok (.iload_n 3, 1) := by decide +kernel
theorem dX3_addRoad_67 : decode cX3_addRoad 67 = .ok (.invokevirtual 84, 3) := by decide +kernel
theorem dX3_addRoad_70 : decode cX3_addRoad 70 = .ok (.ireturn, 1) := by decide +kernel
theorem dX3_setWeight_0 : decode cX3_setWeight 0 = .ok (.aload_n 0, 1) := by decide +kernel
theorem dX3_setWeight_1 : decode cX3_setWeight 1 = .ok (.iload_n 1, 1) := by decide +kernel
theorem dX3_setWeight_2 : decode cX3_setWeight 2 = .ok (.invokevirtual 88, 3) := by decide +kernel
theorem dX3_setWeight_5 : decode cX3_setWeight 5 = .ok (.aload_n 0, 1) := by decide +kernel
theorem dX3_setWeight_6 : decode cX3_setWeight 6 = .ok (.iload_n 2, 1) := by decide +kernel
theorem dX3_setWeight_7 : decode cX3_setWeight 7 = .ok (.invokevirtual 72, 3) := by decide +kernel
theorem dX3_setWeight_10 : decode cX3_setWeight 10 = .ok (.aload_n 0, 1) := by decide +kernel
theorem dX3_setWeight_11 : decode cX3_setWeight 11 = .ok (.getfield 12, 3) := by decide +kernel
theorem dX3_setWeight_14 : decode cX3_setWeight 14 = .ok (.getfield 91, 3) := by decide +kernel
theorem dX3_setWeight_17 : decode cX3_setWeight 17 = .ok (.iload_n 1, 1) := by decide +kernel
theorem dX3_setWeight_18 : decode cX3_setWeight 18 = .ok (.iload_n 2, 1) := by decide +kernel
theorem dX3_setWeight_19 : decode cX3_setWeight 19 = .ok (.iastore, 1) := by decide +kernel
theorem dX3_setWeight_20 : decode cX3_setWeight 20 = .ok (.aload_n 0, 1) := by decide +kernel
theorem dX3_setWeight_21 : decode cX3_setWeight 21 = .ok (.getfield 21, 3) := by decide +kernel
theorem dX3_setWeight_24 : decode cX3_setWeight 24 = .ok (.iload_n 1, 1) := by decide +kernel
theorem dX3_setWeight_25 : decode cX3_setWeight 25 = .ok (.invokevirtual 94, 3) := by decide +kernel
theorem dX3_setWeight_28 : decode cX3_setWeight 28 = .ok (.ireturn, 1) := by decide +kernel
theorem dX3_setOpen_0 : decode cX3_setOpen 0 = .ok (.aload_n 0, 1) := by decide +kernel
theorem dX3_setOpen_1 : decode cX3_setOpen 1 = .ok (.iload_n 1, 1) := by decide +kernel
theorem dX3_setOpen_2 : decode cX3_setOpen 2 = .ok (.invokevirtual 88, 3) := by decide +kernel
theorem dX3_setOpen_5 : decode cX3_setOpen 5 = .ok (.aload_n 0, 1) := by decide +kernel
theorem dX3_setOpen_6 : decode cX3_setOpen 6 = .ok (.getfield 12, 3) := by decide +kernel
theorem dX3_setOpen_9 : decode cX3_setOpen 9 = .ok (.iload_n 1, 1) := by decide +kernel
theorem dX3_setOpen_10 : decode cX3_setOpen 10 = .ok (.iload_n 2, 1) := by decide +kernel
theorem dX3_setOpen_11 : decode cX3_setOpen 11 = .ok (.invokevirtual 98, 3) := by decide +kernel
theorem dX3_setOpen_14 : decode cX3_setOpen 14 = .ok (.aload_n 0, 1) := by decide +kernel
theorem dX3_setOpen_15 : decode cX3_setOpen 15 = .ok (.getfield 21, 3) := by decide +kernel
theorem dX3_setOpen_18 : decode cX3_setOpen 18 = .ok (.iload_n 1, 1) := by decide +kernel
theorem dX3_setOpen_19 : decode cX3_setOpen 19 = .ok (.invokevirtual 94, 3) := by decide +kernel
theorem dX3_setOpen_22 : decode cX3_setOpen 22 = .ok (.ireturn, 1) := by decide +kernel
theorem dX3_setTurn_0 : decode cX3_setTurn 0 = .ok (.aload_n 0, 1) := by decide +kernel
theorem dX3_setTurn_1 : decode cX3_setTurn 1 = .ok (.iload_n 1, 1) := by decide +kernel
theorem dX3_setTurn_2 : decode cX3_setTurn 2 = .ok (.iload_n 2, 1) := by decide +kernel
theorem dX3_setTurn_3 : decode cX3_setTurn 3 = .ok (.invokevirtual 102, 3) := by decide +kernel
theorem dX3_setTurn_6 : decode cX3_setTurn 6 = .ok (.iload_n 3, 1) := by decide +kernel
theorem dX3_setTurn_7 : decode cX3_setTurn 7 = .ok (.bipush (-2), 2) := by decide +kernel
theorem dX3_setTurn_9 : decode cX3_setTurn 9 = .ok (.if_icmp .lt 10, 3) := by decide +kernel
theorem dX3_setTurn_12 : decode cX3_setTurn 12 = .ok (.iload_n 3, 1) := by decide +kernel
theorem dX3_setTurn_13 : decode cX3_setTurn 13 = .ok (.sipush 1000, 3) := by decide +kernel
theorem dX3_setTurn_16 : decode cX3_setTurn 16 = .ok (.if_icmp .le 13, 3) := by decide +kernel
theorem dX3_setTurn_19 : decode cX3_setTurn 19 = .ok (.new 67, 3) := by decide +kernel
theorem dX3_setTurn_22 : decode cX3_setTurn 22 = .ok (.dup, 1) := by decide +kernel
theorem dX3_setTurn_23 : decode cX3_setTurn 23 = .ok (.ldc 106, 2) := by decide +kernel
theorem dX3_setTurn_25 : decode cX3_setTurn 25 = .ok (.invokespecial 71, 3) := by decide +kernel
theorem dX3_setTurn_28 : decode cX3_setTurn 28 = .ok (.athrow, 1) := by decide +kernel
theorem dX3_setTurn_29 : decode cX3_setTurn 29 = .ok (.aload_n 0, 1) := by decide +kernel
theorem dX3_setTurn_30 : decode cX3_setTurn 30 = .ok (.getfield 12, 3) := by decide +kernel
theorem dX3_setTurn_33 : decode cX3_setTurn 33 = .ok (.getfield 108, 3) := by decide +kernel
theorem dX3_setTurn_36 : decode cX3_setTurn 36 = .ok (.iload_n 1, 1) := by decide +kernel
theorem dX3_setTurn_37 : decode cX3_setTurn 37 = .ok (.iload_n 2, 1) := by decide +kernel
theorem dX3_setTurn_38 : decode cX3_setTurn 38 = .ok (.invokestatic 111, 3) := by decide +kernel
theorem dX3_setTurn_41 : decode cX3_setTurn 41 = .ok (.iload_n 3, 1) := by decide +kernel
theorem dX3_setTurn_42 : decode cX3_setTurn 42 = .ok (.iastore, 1) := by decide +kernel
theorem dX3_setTurn_43 : decode cX3_setTurn 43 = .ok (.aload_n 0, 1) := by decide +kernel
theorem dX3_setTurn_44 : decode cX3_setTurn 44 = .ok (.getfield 21, 3) := by decide +kernel
theorem dX3_setTurn_47 : decode cX3_setTurn 47 = .ok (.iload_n 1, 1) := by decide +kernel
theorem dX3_setTurn_48 : decode cX3_setTurn 48 = .ok (.iload_n 2, 1) := by decide +kernel
theorem dX3_setTurn_49 : decode cX3_setTurn 49 = .ok (.invokevirtual 115, 3) := by decide +kernel
theorem dX3_setTurn_52 : decode cX3_setTurn 52 = .ok (.ireturn, 1) := by decide +kernel
theorem dX3_setUTurn_0 : decode cX3_setUTurn 0 = .ok (.iload_n 1, 1) := by decide +kernel
theorem dX3_setUTurn_1 : decode cX3_setUTurn 1 = .ok (.iconst (-1), 1) := by decide +kernel
theorem dX3_setUTurn_2 : decode cX3_setUTurn 2 = .ok (.if_icmp .lt 10, 3) := by decide +kernel
theorem dX3_setUTurn_5 : decode cX3_setUTurn 5 = .ok (.iload_n 1, 1) := by decide +kernel
theorem dX3_setUTurn_6 : decode cX3_setUTurn 6 = .ok (.sipush 1000, 3) := by decide +kernel
theorem dX3_setUTurn_9 : decode cX3_setUTurn 9 = .ok (.if_icmp .le 13, 3) := by decide +kernel
theorem dX3_setUTurn_12 : decode cX3_setUTurn 12 = .ok (.new 67, 3) := by decide +kernel
theorem dX3_setUTurn_15 : decode cX3_setUTurn 15 = .ok (.dup, 1) := by decide +kernel
theorem dX3_setUTurn_16 : decode cX3_setUTurn 16 = .ok (.ldc 118, 2) := by decide +kernel
theorem dX3_setUTurn_18 : decode cX3_setUTurn 18 = .ok (.invokespecial 71, 3) := by decide +kernel
theorem dX3_setUTurn_21 : decode cX3_setUTurn 21 = .ok (.athrow, 1) := by decide +kernel
theorem dX3_setUTurn_22 : decode cX3_setUTurn 22 = .ok (.aload_n 0, 1) := by decide +kernel
theorem dX3_setUTurn_23 : decode cX3_setUTurn 23 = .ok (.getfield 12, 3) := by decide +kernel
theorem dX3_setUTurn_26 : decode cX3_setUTurn 26 = .ok (.iload_n 1, 1) := by decide +kernel
theorem dX3_setUTurn_27 : decode cX3_setUTurn 27 = .ok (.putfield 120, 3) := by decide +kernel
theorem dX3_setUTurn_30 : decode cX3_setUTurn 30 = .ok (.aload_n 0, 1) := by decide +kernel
theorem dX3_setUTurn_31 : decode cX3_setUTurn 31 = .ok (.getfield 21, 3) := by decide +kernel
theorem dX3_setUTurn_34 : decode cX3_setUTurn 34 = .ok (.invokevirtual 123, 3) := by decide +kernel
theorem dX3_setUTurn_37 : decode cX3_setUTurn 37 = .ok (.ireturn, 1) := by decide +kernel
theorem dX3_junctionCount_0 : decode cX3_junctionCount 0 = .ok (.aload_n 0, 1) := by decide +kernel
theorem dX3_junctionCount_1 : decode cX3_junctionCount 1 = .ok (.getfield 12, 3) := by decide +kernel
theorem dX3_junctionCount_4 : decode cX3_junctionCount 4 = .ok (.getfield 52, 3) := by decide +kernel
theorem dX3_junctionCount_7 : decode cX3_junctionCount 7 = .ok (.ireturn, 1) := by decide +kernel
theorem dX3_roadCount_0 : decode cX3_roadCount 0 = .ok (.aload_n 0, 1) := by decide +kernel
theorem dX3_roadCount_1 : decode cX3_roadCount 1 = .ok (.getfield 12, 3) := by decide +kernel
theorem dX3_roadCount_4 : decode cX3_roadCount 4 = .ok (.getfield 75, 3) := by decide +kernel
theorem dX3_roadCount_7 : decode cX3_roadCount 7 = .ok (.ireturn, 1) := by decide +kernel
theorem dX3_weight_0 : decode cX3_weight 0 = .ok (.aload_n 0, 1) := by decide +kernel
theorem dX3_weight_1 : decode cX3_weight 1 = .ok (.iload_n 1, 1) := by decide +kernel
theorem dX3_weight_2 : decode cX3_weight 2 = .ok (.invokevirtual 88, 3) := by decide +kernel
theorem dX3_weight_5 : decode cX3_weight 5 = .ok (.aload_n 0, 1) := by decide +kernel
theorem dX3_weight_6 : decode cX3_weight 6 = .ok (.getfield 12, 3) := by decide +kernel
theorem dX3_weight_9 : decode cX3_weight 9 = .ok (.getfield 91, 3) := by decide +kernel
theorem dX3_weight_12 : decode cX3_weight 12 = .ok (.iload_n 1, 1) := by decide +kernel
theorem dX3_weight_13 : decode cX3_weight 13 = .ok (.iaload, 1) := by decide +kernel
theorem dX3_weight_14 : decode cX3_weight 14 = .ok (.ireturn, 1) := by decide +kernel
theorem dX3_isOpen_0 : decode cX3_isOpen 0 = .ok (.aload_n 0, 1) := by decide +kernel
theorem dX3_isOpen_1 : decode cX3_isOpen 1 = .ok (.iload_n 1, 1) := by decide +kernel
theorem dX3_isOpen_2 : decode cX3_isOpen 2 = .ok (.invokevirtual 88, 3) := by decide +kernel
theorem dX3_isOpen_5 : decode cX3_isOpen 5 = .ok (.aload_n 0, 1) := by decide +kernel
theorem dX3_isOpen_6 : decode cX3_isOpen 6 = .ok (.getfield 12, 3) := by decide +kernel
theorem dX3_isOpen_9 : decode cX3_isOpen 9 = .ok (.getfield 127, 3) := by decide +kernel
theorem dX3_isOpen_12 : decode cX3_isOpen 12 = .ok (.iload_n 1, 1) := by decide +kernel
theorem dX3_isOpen_13 : decode cX3_isOpen 13 = .ok (.invokestatic 131, 3) := by decide +kernel
theorem dX3_isOpen_16 : decode cX3_isOpen 16 = .ok (.ireturn, 1) := by decide +kernel
theorem dX3_turnPenalty_0 : decode cX3_turnPenalty 0 = .ok (.aload_n 0, 1) := by decide +kernel
theorem dX3_turnPenalty_1 : decode cX3_turnPenalty 1 = .ok (.iload_n 1, 1) := by decide +kernel
theorem dX3_turnPenalty_2 : decode cX3_turnPenalty 2 = .ok (.iload_n 2, 1) := by decide +kernel
theorem dX3_turnPenalty_3 : decode cX3_turnPenalty 3 = .ok (.invokevirtual 102, 3) := by decide +kernel
theorem dX3_turnPenalty_6 : decode cX3_turnPenalty 6 = .ok (.aload_n 0, 1) := by decide +kernel
theorem dX3_turnPenalty_7 : decode cX3_turnPenalty 7 = .ok (.getfield 12, 3) := by decide +kernel
theorem dX3_turnPenalty_10 : decode cX3_turnPenalty 10 = .ok (.iload_n 1, 1) := by decide +kernel
theorem dX3_turnPenalty_11 : decode cX3_turnPenalty 11 = .ok (.iload_n 2, 1) := by decide +kernel
theorem dX3_turnPenalty_12 : decode cX3_turnPenalty 12 = .ok (.invokevirtual 135, 3) := by decide +kernel
theorem dX3_turnPenalty_15 : decode cX3_turnPenalty 15 = .ok (.ireturn, 1) := by decide +kernel
theorem dX3_prepare_0 : decode cX3_prepare 0 = .ok (.aload_n 0, 1) := by decide +kernel
theorem dX3_prepare_1 : decode cX3_prepare 1 = .ok (.getfield 12, 3) := by decide +kernel
theorem dX3_prepare_4 : decode cX3_prepare 4 = .ok (.getfield 75, 3) := by decide +kernel
theorem dX3_prepare_7 : decode cX3_prepare 7 = .ok (.ifCond .ne 13, 3) := by decide +kernel
theorem dX3_prepare_10 : decode cX3_prepare 10 = .ok (.new 56, 3) := by decide +kernel
theorem dX3_prepare_13 : decode cX3_prepare 13 = .ok (.dup, 1) := by decide +kernel
theorem dX3_prepare_14 : decode cX3_prepare 14 = .ok (.ldc 138, 2) := by decide +kernel
theorem dX3_prepare_16 : decode cX3_prepare 16 = .ok (.invokespecial 60, 3) := by decide +kernel
theorem dX3_prepare_19 : decode cX3_prepare 19 = .ok (.athrow, 1) := by decide +kernel
theorem dX3_prepare_20 : decode cX3_prepare 20 = .ok (.aload_n 0, 1) := by decide +kernel
theorem dX3_prepare_21 : decode cX3_prepare 21 = .ok (.getfield 21, 3) := by decide +kernel
theorem dX3_prepare_24 : decode cX3_prepare 24 = .ok (.getfield 80, 3) := by decide +kernel
theorem dX3_prepare_27 : decode cX3_prepare 27 = .ok (.ifCond .ne 10, 3) := by decide +kernel
theorem dX3_prepare_30 : decode cX3_prepare 30 = .ok (.aload_n 0, 1) := by decide +kernel
theorem dX3_prepare_31 : decode cX3_prepare 31 = .ok (.getfield 21, 3) := by decide +kernel
theorem dX3_prepare_34 : decode cX3_prepare 34 = .ok (.invokevirtual 140, 3) := by decide +kernel
theorem dX3_prepare_37 : decode cX3_prepare 37 = .ok (.aload_n 0, 1) := by decide +kernel
theorem dX3_prepare_38 : decode cX3_prepare 38 = .ok (.getfield 21, 3) := by decide +kernel
theorem dX3_prepare_41 : decode cX3_prepare 41 = .ok (.getfield 143, 3) := by decide +kernel
theorem dX3_prepare_44 : decode cX3_prepare 44 = .ok (.ireturn, 1) := by decide +kernel
theorem dX3_isPrepared_0 : decode cX3_isPrepared 0 = .ok (.aload_n 0, 1) := by decide +kernel
theorem dX3_isPrepared_1 : decode cX3_isPrepared 1 = .ok (.getfield 21, 3) := by decide +kernel
theorem dX3_isPrepared_4 : decode cX3_isPrepared 4 = .ok (.getfield 80, 3) := by decide +kernel
theorem dX3_isPrepared_7 : decode cX3_isPrepared 7 = .ok (.ireturn, 1) := by decide +kernel
theorem dX3_position_0 : decode cX3_position 0 = .ok (.aload_n 0, 1) := by decide +kernel
theorem dX3_position_1 : decode cX3_position 1 = .ok (.invokevirtual 146, 3) := by decide +kernel
theorem dX3_position_4 : decode cX3_position 4 = .ok (.aload_n 0, 1) := by decide +kernel
theorem dX3_position_5 : decode cX3_position 5 = .ok (.iload_n 1, 1) := by decide +kernel
theorem dX3_position_6 : decode cX3_position 6 = .ok (.invokevirtual 88, 3) := by decide +kernel
theorem dX3_position_9 : decode cX3_position 9 = .ok (.aload_n 0, 1) := by decide +kernel
theorem dX3_position_10 : decode cX3_position 10 = .ok (.getfield 21, 3) := by decide +kernel
theorem dX3_position_13 : decode cX3_position 13 = .ok (.getfield 149, 3) := by decide +kernel
theorem dX3_position_16 : decode cX3_position 16 = .ok (.iload_n 1, 1) := by decide +kernel
theorem dX3_position_17 : decode cX3_position 17 = .ok (.iaload, 1) := by decide +kernel
theorem dX3_position_18 : decode cX3_position 18 = .ok (.ireturn, 1) := by decide +kernel
theorem dX3_arcCount_0 : decode cX3_arcCount 0 = .ok (.aload_n 0, 1) := by decide +kernel
theorem dX3_arcCount_1 : decode cX3_arcCount 1 = .ok (.getfield 21, 3) := by decide +kernel
theorem dX3_arcCount_4 : decode cX3_arcCount 4 = .ok (.getfield 80, 3) := by decide +kernel
theorem dX3_arcCount_7 : decode cX3_arcCount 7 = .ok (.ifCond .eq 13, 3) := by decide +kernel
theorem dX3_arcCount_10 : decode cX3_arcCount 10 = .ok (.aload_n 0, 1) := by decide +kernel
theorem dX3_arcCount_11 : decode cX3_arcCount 11 = .ok (.getfield 21, 3) := by decide +kernel
theorem dX3_arcCount_14 : decode cX3_arcCount 14 = .ok (.getfield 152, 3) := by decide +kernel
theorem dX3_arcCount_17 : decode cX3_arcCount 17 = .ok (.goto 4, 3) := by decide +kernel
theorem dX3_arcCount_20 : decode cX3_arcCount 20 = .ok (.iconst 0, 1) := by decide +kernel
theorem dX3_arcCount_21 : decode cX3_arcCount 21 = .ok (.ireturn, 1) := by decide +kernel
theorem dX3_hasArc_0 : decode cX3_hasArc 0 = .ok (.aload_n 0, 1) := by decide +kernel
theorem dX3_hasArc_1 : decode cX3_hasArc 1 = .ok (.invokevirtual 146, 3) := by decide +kernel
theorem dX3_hasArc_4 : decode cX3_hasArc 4 = .ok (.aload_n 0, 1) := by decide +kernel
theorem dX3_hasArc_5 : decode cX3_hasArc 5 = .ok (.iload_n 1, 1) := by decide +kernel
theorem dX3_hasArc_6 : decode cX3_hasArc 6 = .ok (.invokevirtual 88, 3) := by decide +kernel
theorem dX3_hasArc_9 : decode cX3_hasArc 9 = .ok (.aload_n 0, 1) := by decide +kernel
theorem dX3_hasArc_10 : decode cX3_hasArc 10 = .ok (.iload_n 2, 1) := by decide +kernel
theorem dX3_hasArc_11 : decode cX3_hasArc 11 = .ok (.invokevirtual 88, 3) := by decide +kernel
theorem dX3_hasArc_14 : decode cX3_hasArc 14 = .ok (.aload_n 0, 1) := by decide +kernel
theorem dX3_hasArc_15 : decode cX3_hasArc 15 = .ok (.getfield 21, 3) := by decide +kernel
theorem dX3_hasArc_18 : decode cX3_hasArc 18 = .ok (.getfield 155, 3) := by decide +kernel
theorem dX3_hasArc_21 : decode cX3_hasArc 21 = .ok (.iload_n 1, 1) := by decide +kernel
theorem dX3_hasArc_22 : decode cX3_hasArc 22 = .ok (.laload, 1) := by decide +kernel
theorem dX3_hasArc_23 : decode cX3_hasArc 23 = .ok (.iload_n 2, 1) := by decide +kernel
theorem dX3_hasArc_24 : decode cX3_hasArc 24 = .ok (.invokestatic 131, 3) := by decide +kernel
theorem dX3_hasArc_27 : decode cX3_hasArc 27 = .ok (.ireturn, 1) := by decide +kernel
theorem dX3_arcCost_0 : decode cX3_arcCost 0 = .ok (.aload_n 0, 1) := by decide +kernel
theorem dX3_arcCost_1 : decode cX3_arcCost 1 = .ok (.invokevirtual 146, 3) := by decide +kernel
theorem dX3_arcCost_4 : decode cX3_arcCost 4 = .ok (.aload_n 0, 1) := by decide +kernel
theorem dX3_arcCost_5 : decode cX3_arcCost 5 = .ok (.iload_n 1, 1) := by decide +kernel
theorem dX3_arcCost_6 : decode cX3_arcCost 6 = .ok (.invokevirtual 88, 3) := by decide +kernel
theorem dX3_arcCost_9 : decode cX3_arcCost 9 = .ok (.aload_n 0, 1) := by decide +kernel
theorem dX3_arcCost_10 : decode cX3_arcCost 10 = .ok (.iload_n 2, 1) := by decide +kernel
theorem dX3_arcCost_11 : decode cX3_arcCost 11 = .ok (.invokevirtual 88, 3) := by decide +kernel
theorem dX3_arcCost_14 : decode cX3_arcCost 14 = .ok (.aload_n 0, 1) := by decide +kernel
theorem dX3_arcCost_15 : decode cX3_arcCost 15 = .ok (.getfield 21, 3) := by decide +kernel
theorem dX3_arcCost_18 : decode cX3_arcCost 18 = .ok (.getfield 155, 3) := by decide +kernel
theorem dX3_arcCost_21 : decode cX3_arcCost 21 = .ok (.iload_n 1, 1) := by decide +kernel
theorem dX3_arcCost_22 : decode cX3_arcCost 22 = .ok (.laload, 1) := by decide +kernel
theorem dX3_arcCost_23 : decode cX3_arcCost 23 = .ok (.iload_n 2, 1) := by decide +kernel
theorem dX3_arcCost_24 : decode cX3_arcCost 24 = .ok (.invokestatic 131, 3) := by decide +kernel
theorem dX3_arcCost_27 : decode cX3_arcCost 27 = .ok (.ifCond .ne 13, 3) := by decide +kernel
theorem dX3_arcCost_30 : decode cX3_arcCost 30 = .ok (.new 159, 3) := by decide +kernel
theorem dX3_arcCost_33 : decode cX3_arcCost 33 = .ok (.dup, 1) := by decide +kernel
theorem dX3_arcCost_34 : decode cX3_arcCost 34 = .ok (.ldc 161, 2) := by decide +kernel
theorem dX3_arcCost_36 : decode cX3_arcCost 36 = .ok (.invokespecial 163, 3) := by decide +kernel
theorem dX3_arcCost_39 : decode cX3_arcCost 39 = .ok (.athrow, 1) := by decide +kernel
theorem dX3_arcCost_40 : decode cX3_arcCost 40 = .ok (.aload_n 0, 1) := by decide +kernel
theorem dX3_arcCost_41 : decode cX3_arcCost 41 = .ok (.getfield 21, 3) := by decide +kernel
theorem dX3_arcCost_44 : decode cX3_arcCost 44 = .ok (.getfield 164, 3) := by decide +kernel
theorem dX3_arcCost_47 : decode cX3_arcCost 47 = .ok (.iload_n 1, 1) := by decide +kernel
theorem dX3_arcCost_48 : decode cX3_arcCost 48 = .ok (.iload_n 2, 1) := by decide +kernel
theorem dX3_arcCost_49 : decode cX3_arcCost 49 = .ok (.invokestatic 111, 3) := by decide +kernel
theorem dX3_arcCost_52 : decode cX3_arcCost 52 = .ok (.iaload, 1) := by decide +kernel
theorem dX3_arcCost_53 : decode cX3_arcCost 53 = .ok (.invokestatic 165, 3) := by decide +kernel
theorem dX3_arcCost_56 : decode cX3_arcCost 56 = .ok (.ireturn, 1) := by decide +kernel
theorem dX3_distance_0 : decode cX3_distance 0 = .ok (.aload_n 0, 1) := by decide +kernel
theorem dX3_distance_1 : decode cX3_distance 1 = .ok (.invokevirtual 146, 3) := by decide +kernel
theorem dX3_distance_4 : decode cX3_distance 4 = .ok (.aload_n 0, 1) := by decide +kernel
theorem dX3_distance_5 : decode cX3_distance 5 = .ok (.iload_n 1, 1) := by decide +kernel
theorem dX3_distance_6 : decode cX3_distance 6 = .ok (.invokevirtual 63, 3) := by decide +kernel
theorem dX3_distance_9 : decode cX3_distance 9 = .ok (.aload_n 0, 1) := by decide +kernel
theorem dX3_distance_10 : decode cX3_distance 10 = .ok (.iload_n 2, 1) := by decide +kernel
theorem dX3_distance_11 : decode cX3_distance 11 = .ok (.invokevirtual 63, 3) := by decide +kernel
theorem dX3_distance_14 : decode cX3_distance 14 = .ok (.aload_n 0, 1) := by decide +kernel
theorem dX3_distance_15 : decode cX3_distance 15 = .ok (.iload_n 1, 1) := by decide +kernel
theorem dX3_distance_16 : decode cX3_distance 16 = .ok (.iload_n 2, 1) := by decide +kernel
theorem dX3_distance_17 : decode cX3_distance 17 = .ok (.invokevirtual 168, 3) := by decide +kernel
theorem dX3_distance_20 : decode cX3_distance 20 = .ok (.ireturn, 1) := by decide +kernel
theorem dX3_distanceBehind_0 : decode cX3_distanceBehind 0 = .ok (.aload_n 0, 1) := by decide +kernel
theorem dX3_distanceBehind_1 : decode cX3_distanceBehind 1 = .ok (.invokevirtual 146, 3) := by decide +kernel
theorem dX3_distanceBehind_4 : decode cX3_distanceBehind 4 = .ok (.aload_n 0, 1) := by decide +kernel
theorem dX3_distanceBehind_5 : decode cX3_distanceBehind 5 = .ok (.iload_n 1, 1) := by decide +kernel
theorem dX3_distanceBehind_6 : decode cX3_distanceBehind 6 = .ok (.invokevirtual 88, 3) := by decide +kernel
theorem dX3_distanceBehind_9 : decode cX3_distanceBehind 9 = .ok (.aload_n 0, 1) := by decide +kernel
theorem dX3_distanceBehind_10 : decode cX3_distanceBehind 10 = .ok (.iload_n 2, 1) := by decide +kernel
theorem dX3_distanceBehind_11 : decode cX3_distanceBehind 11 = .ok (.invokevirtual 63, 3) := by decide +kernel
theorem dX3_distanceBehind_14 : decode cX3_distanceBehind 14 = .ok (.aload_n 0, 1) := by decide +kernel
theorem dX3_distanceBehind_15 : decode cX3_distanceBehind 15 = .ok (.getfield 36, 3) := by decide +kernel
theorem dX3_distanceBehind_18 : decode cX3_distanceBehind 18 = .ok (.ldc 171, 2) := by decide +kernel
theorem dX3_distanceBehind_20 : decode cX3_distanceBehind 20 = .ok (.invokestatic 172, 3) := by decide +kernel
theorem dX3_distanceBehind_23 : decode cX3_distanceBehind 23 = .ok (.aload_n 0, 1) := by decide +kernel
theorem dX3_distanceBehind_24 : decode cX3_distanceBehind 24 = .ok (.getfield 12, 3) := by decide +kernel
theorem dX3_distanceBehind_27 : decode cX3_distanceBehind 27 = .ok (.getfield 127, 3) := by decide +kernel
theorem dX3_distanceBehind_30 : decode cX3_distanceBehind 30 = .ok (.iload_n 1, 1) := by decide +kernel
theorem dX3_distanceBehind_31 : decode cX3_distanceBehind 31 = .ok (.invokestatic 131, 3) := by decide +kernel
theorem dX3_distanceBehind_34 : decode cX3_distanceBehind 34 = .ok (.ifCond .eq 10, 3) := by decide +kernel
theorem dX3_distanceBehind_37 : decode cX3_distanceBehind 37 = .ok (.aload_n 0, 1) := by decide +kernel
theorem dX3_distanceBehind_38 : decode cX3_distanceBehind 38 = .ok (.getfield 36, 3) := by decide +kernel
theorem dX3_distanceBehind_41 : decode cX3_distanceBehind 41 = .ok (.iload_n 1, 1) := by decide +kernel
theorem dX3_distanceBehind_42 : decode cX3_distanceBehind 42 = .ok (.iconst 0, 1) := by decide +kernel
theorem dX3_distanceBehind_43 : decode cX3_distanceBehind 43 = .ok (.iastore, 1) := by decide +kernel
theorem dX3_distanceBehind_44 : decode cX3_distanceBehind 44 = .ok (.aload_n 0, 1) := by decide +kernel
theorem dX3_distanceBehind_45 : decode cX3_distanceBehind 45 = .ok (.invokevirtual 178, 3) := by decide +kernel
theorem dX3_distanceBehind_48 : decode cX3_distanceBehind 48 = .ok (.aload_n 0, 1) := by decide +kernel
theorem dX3_distanceBehind_49 : decode cX3_distanceBehind 49 = .ok (.iload_n 2, 1) := by decide +kernel
theorem dX3_distanceBehind_50 : decode cX3_distanceBehind 50 = .ok (.invokevirtual 181, 3) := by decide +kernel
theorem dX3_distanceBehind_53 : decode cX3_distanceBehind 53 = .ok (.ireturn, 1) := by decide +kernel
theorem dX3_route_0 : decode cX3_route 0 = .ok (.aload_n 0, 1) := by decide +kernel
theorem dX3_route_1 : decode cX3_route 1 = .ok (.invokevirtual 146, 3) := by decide +kernel
theorem dX3_route_4 : decode cX3_route 4 = .ok (.aload_n 0, 1) := by decide +kernel
theorem dX3_route_5 : decode cX3_route 5 = .ok (.iload_n 1, 1) := by decide +kernel
theorem dX3_route_6 : decode cX3_route 6 = .ok (.invokevirtual 63, 3) := by decide +kernel
theorem dX3_route_9 : decode cX3_route 9 = .ok (.aload_n 0, 1) := by decide +kernel
theorem dX3_route_10 : decode cX3_route 10 = .ok (.iload_n 2, 1) := by decide +kernel
theorem dX3_route_11 : decode cX3_route 11 = .ok (.invokevirtual 63, 3) := by decide +kernel
theorem dX3_route_14 : decode cX3_route 14 = .ok (.iload_n 1, 1) := by decide +kernel
theorem dX3_route_15 : decode cX3_route 15 = .ok (.iload_n 2, 1) := by decide +kernel
theorem dX3_route_16 : decode cX3_route 16 = .ok (.if_icmp .ne 15, 3) := by decide +kernel
theorem dX3_route_19 : decode cX3_route 19 = .ok (.aload_n 0, 1) := by decide +kernel
theorem dX3_route_20 : decode cX3_route 20 = .ok (.iconst 0, 1) := by decide +kernel
theorem dX3_route_21 : decode cX3_route 21 = .ok (.putfield 184, 3) := by decide +kernel
theorem dX3_route_24 : decode cX3_route 24 = .ok (.aload_n 0, 1) := by decide +kernel
theorem dX3_route_25 : decode cX3_route 25 = .ok (.iconst 0, 1) := by decide +kernel
theorem dX3_route_26 : decode cX3_route 26 = .ok (.putfield 187, 3) := by decide +kernel
theorem dX3_route_29 : decode cX3_route 29 = .ok (.iconst 0, 1) := by decide +kernel
theorem dX3_route_30 : decode cX3_route 30 = .ok (.ireturn, 1) := by decide +kernel
theorem dX3_route_31 : decode cX3_route 31 = .ok (.aload_n 0, 1) := by decide +kernel
theorem dX3_route_32 : decode cX3_route 32 = .ok (.iload_n 2, 1) := by decide +kernel
theorem dX3_route_33 : decode cX3_route 33 = .ok (.invokevirtual 190, 3) := by decide +kernel
theorem dX3_route_36 : decode cX3_route 36 = .ok (.aload_n 0, 1) := by decide +kernel
theorem dX3_route_37 : decode cX3_route 37 = .ok (.iload_n 1, 1) := by decide +kernel
theorem dX3_route_38 : decode cX3_route 38 = .ok (.invokevirtual 193, 3) := by decide +kernel
theorem dX3_route_41 : decode cX3_route 41 = .ok (.istore_n 3, 1) := by decide +kernel
theorem dX3_route_42 : decode cX3_route 42 = .ok (.iload_n 3, 1) := by decide +kernel
theorem dX3_route_43 : decode cX3_route 43 = .ok (.ifCond .ge 13, 3) := by decide +kernel
theorem dX3_route_46 : decode cX3_route 46 = .ok (.new 159, 3) := by decide +kernel
theorem dX3_route_49 : decode cX3_route 49 = .ok (.dup, 1) := by decide +kernel
theorem dX3_route_50 : decode cX3_route 50 = .ok (.ldc 196, 2) := by decide +kernel
theorem dX3_route_52 : decode cX3_route 52 = .ok (.invokespecial 163, 3) := by decide +kernel
theorem dX3_route_55 : decode cX3_route 55 = .ok (.athrow, 1) := by decide +kernel
theorem dX3_route_56 : decode cX3_route 56 = .ok (.aload_n 0, 1) := by decide +kernel
theorem dX3_route_57 : decode cX3_route 57 = .ok (.aload_n 0, 1) := by decide +kernel
theorem dX3_route_58 : decode cX3_route 58 = .ok (.getfield 12, 3) := by decide +kernel
theorem dX3_route_61 : decode cX3_route 61 = .ok (.iload_n 3, 1) := by decide +kernel
theorem dX3_route_62 : decode cX3_route 62 = .ok (.invokevirtual 198, 3) := by decide +kernel
theorem dX3_route_65 : decode cX3_route 65 = .ok (.aload_n 0, 1) := by decide +kernel
theorem dX3_route_66 : decode cX3_route 66 = .ok (.getfield 36, 3) := by decide +kernel
theorem dX3_route_69 : decode cX3_route 69 = .ok (.iload_n 3, 1) := by decide +kernel
theorem dX3_route_70 : decode cX3_route 70 = .ok (.iaload, 1) := by decide +kernel
theorem dX3_route_71 : decode cX3_route 71 = .ok (.iadd, 1) := by decide +kernel
theorem dX3_route_72 : decode cX3_route 72 = .ok (.invokestatic 165, 3) := by decide +kernel
theorem dX3_route_75 : decode cX3_route 75 = .ok (.putfield 187, 3) := by decide +kernel
theorem dX3_route_78 : decode cX3_route 78 = .ok (.aload_n 0, 1) := by decide +kernel
theorem dX3_route_79 : decode cX3_route 79 = .ok (.aload_n 0, 1) := by decide +kernel
theorem dX3_route_80 : decode cX3_route 80 = .ok (.iload_n 3, 1) := by decide +kernel
theorem dX3_route_81 : decode cX3_route 81 = .ok (.invokevirtual 201, 3) := by decide +kernel
theorem dX3_route_84 : decode cX3_route 84 = .ok (.putfield 184, 3) := by decide +kernel
theorem dX3_route_87 : decode cX3_route 87 = .ok (.aload_n 0, 1) := by decide +kernel
theorem dX3_route_88 : decode cX3_route 88 = .ok (.getfield 184, 3) := by decide +kernel
theorem dX3_route_91 : decode cX3_route 91 = .ok (.ireturn, 1) := by decide +kernel
theorem dX3_routeRoad_0 : decode cX3_routeRoad 0 = .ok (.iload_n 1, 1) := by decide +kernel
theorem dX3_routeRoad_1 : decode cX3_routeRoad 1 = .ok (.ifCond .lt 11, 3) := by decide +kernel
theorem dX3_routeRoad_4 : decode cX3_routeRoad 4 = .ok (.iload_n 1, 1) := by decide +kernel
theorem dX3_routeRoad_5 : decode cX3_routeRoad 5 = .ok (.aload_n 0, 1) := by decide +kernel
theorem dX3_routeRoad_6 : decode cX3_routeRoad 6 = .ok (.getfield 184, 3) := by decide +kernel
theorem dX3_routeRoad_9 : decode cX3_routeRoad 9 = .ok (.if_icmp .lt 13, 3) := by decide +kernel
theorem dX3_routeRoad_12 : decode cX3_routeRoad 12 = .ok (.new 204, 3) := by decide +kernel
theorem dX3_routeRoad_15 : decode cX3_routeRoad 15 = .ok (.dup, 1) := by decide +kernel
theorem dX3_routeRoad_16 : decode cX3_routeRoad 16 = .ok (.ldc 206, 2) := by decide +kernel
theorem dX3_routeRoad_18 : decode cX3_routeRoad 18 = .ok (.invokespecial 208, 3) := by decide +kernel
theorem dX3_routeRoad_21 : decode cX3_routeRoad 21 = .ok (.athrow, 1) := by decide +kernel
theorem dX3_routeRoad_22 : decode cX3_routeRoad 22 = .ok (.aload_n 0, 1) := by decide +kernel
theorem dX3_routeRoad_23 : decode cX3_routeRoad 23 = .ok (.getfield 43, 3) := by decide +kernel
theorem dX3_routeRoad_26 : decode cX3_routeRoad 26 = .ok (.iload_n 1, 1) := by decide +kernel
theorem dX3_routeRoad_27 : decode cX3_routeRoad 27 = .ok (.iaload, 1) := by decide +kernel
theorem dX3_routeRoad_28 : decode cX3_routeRoad 28 = .ok (.ireturn, 1) := by decide +kernel
theorem dX3_routeCost_0 : decode cX3_routeCost 0 = .ok (.aload_n 0, 1) := by decide +kernel
theorem dX3_routeCost_1 : decode cX3_routeCost 1 = .ok (.getfield 187, 3) := by decide +kernel
theorem dX3_routeCost_4 : decode cX3_routeCost 4 = .ok (.ireturn, 1) := by decide +kernel
theorem dX3_reach_0 : decode cX3_reach 0 = .ok (.aload_n 0, 1) := by decide +kernel
theorem dX3_reach_1 : decode cX3_reach 1 = .ok (.invokevirtual 146, 3) := by decide +kernel
theorem dX3_reach_4 : decode cX3_reach 4 = .ok (.aload_n 0, 1) := by decide +kernel
theorem dX3_reach_5 : decode cX3_reach 5 = .ok (.iload_n 1, 1) := by decide +kernel
theorem dX3_reach_6 : decode cX3_reach 6 = .ok (.invokevirtual 63, 3) := by decide +kernel
theorem dX3_reach_9 : decode cX3_reach 9 = .ok (.iload_n 2, 1) := by decide +kernel
theorem dX3_reach_10 : decode cX3_reach 10 = .ok (.ifCond .ge 13, 3) := by decide +kernel
theorem dX3_reach_13 : decode cX3_reach 13 = .ok (.new 67, 3) := by decide +kernel
theorem dX3_reach_16 : decode cX3_reach 16 = .ok (.dup, 1) := by decide +kernel
theorem dX3_reach_17 : decode cX3_reach 17 = .ok (.ldc 209, 2) := by decide +kernel
theorem dX3_reach_19 : decode cX3_reach 19 = .ok (.invokespecial 71, 3) := by decide +kernel
theorem dX3_reach_22 : decode cX3_reach 22 = .ok (.athrow, 1) := by decide +kernel
theorem dX3_reach_23 : decode cX3_reach 23 = .ok (.aload_n 0, 1) := by decide +kernel
theorem dX3_reach_24 : decode cX3_reach 24 = .ok (.iload_n 1, 1) := by decide +kernel
theorem dX3_reach_25 : decode cX3_reach 25 = .ok (.invokevirtual 211, 3) := by decide +kernel
theorem dX3_reach_28 : decode cX3_reach 28 = .ok (.aload_n 0, 1) := by decide +kernel
theorem dX3_reach_29 : decode cX3_reach 29 = .ok (.iconst 0, 1) := by decide +kernel
theorem dX3_reach_30 : decode cX3_reach 30 = .ok (.putfield 214, 3) := by decide +kernel
theorem dX3_reach_33 : decode cX3_reach 33 = .ok (.iconst 0, 1) := by decide +kernel
theorem dX3_reach_34 : decode cX3_reach 34 = .ok (.istore_n 3, 1) := by decide +kernel
theorem dX3_reach_35 : decode cX3_reach 35 = .ok (.iload_n 3, 1) := by decide +kernel
theorem dX3_reach_36 : decode cX3_reach 36 = .ok (.aload_n 0, 1) := by decide +kernel
theorem dX3_reach_37 : decode cX3_reach 37 = .ok (.getfield 12, 3) := by decide +kernel
theorem dX3_reach_40 : decode cX3_reach 40 = .ok (.getfield 52, 3) := by decide +kernel
theorem dX3_reach_43 : decode cX3_reach 43 = .ok (.if_icmp .ge 34, 3) := by decide +kernel
theorem dX3_reach_46 : decode cX3_reach 46 = .ok (.aload_n 0, 1) := by decide +kernel
theorem dX3_reach_47 : decode cX3_reach 47 = .ok (.iload_n 3, 1) := by decide +kernel
theorem dX3_reach_48 : decode cX3_reach 48 = .ok (.invokevirtual 181, 3) := by decide +kernel
theorem dX3_reach_51 : decode cX3_reach 51 = .ok (.istore 4, 2) := by decide +kernel
theorem dX3_reach_53 : decode cX3_reach 53 = .ok (.iload 4, 2) := by decide +kernel
theorem dX3_reach_55 : decode cX3_reach 55 = .ok (.ifCond .lt 16, 3) := by decide +kernel
theorem dX3_reach_58 : decode cX3_reach 58 = .ok (.iload 4, 2) := by decide +kernel
theorem dX3_reach_60 : decode cX3_reach 60 = .ok (.iload_n 2, 1) := by decide +kernel
theorem dX3_reach_61 : decode cX3_reach 61 = .ok (.if_icmp .gt 10, 3) := by decide +kernel
theorem dX3_reach_64 : decode cX3_reach 64 = .ok (.aload_n 0, 1) := by decide +kernel
theorem dX3_reach_65 : decode cX3_reach 65 = .ok (.iload_n 3, 1) := by decide +kernel
theorem dX3_reach_66 : decode cX3_reach 66 = .ok (.iload 4, 2) := by decide +kernel
theorem dX3_reach_68 : decode cX3_reach 68 = .ok (.invokevirtual 217, 3) := by decide +kernel
theorem dX3_reach_71 : decode cX3_reach 71 = .ok (.iinc 3 1, 3) := by decide +kernel
theorem dX3_reach_74 : decode cX3_reach 74 = .ok (.goto (-39), 3) := by decide +kernel
theorem dX3_reach_77 : decode cX3_reach 77 = .ok (.aload_n 0, 1) := by decide +kernel
theorem dX3_reach_78 : decode cX3_reach 78 = .ok (.getfield 214, 3) := by decide +kernel
theorem dX3_reach_81 : decode cX3_reach 81 = .ok (.ireturn, 1) := by decide +kernel
theorem dX3_reached_0 : decode cX3_reached 0 = .ok (.iload_n 1, 1) := by decide +kernel
theorem dX3_reached_1 : decode cX3_reached 1 = .ok (.ifCond .lt 11, 3) := by decide +kernel
theorem dX3_reached_4 : decode cX3_reached 4 = .ok (.iload_n 1, 1) := by decide +kernel
theorem dX3_reached_5 : decode cX3_reached 5 = .ok (.aload_n 0, 1) := by decide +kernel
theorem dX3_reached_6 : decode cX3_reached 6 = .ok (.getfield 214, 3) := by decide +kernel
theorem dX3_reached_9 : decode cX3_reached 9 = .ok (.if_icmp .lt 13, 3) := by decide +kernel
theorem dX3_reached_12 : decode cX3_reached 12 = .ok (.new 204, 3) := by decide +kernel
theorem dX3_reached_15 : decode cX3_reached 15 = .ok (.dup, 1) := by decide +kernel
theorem dX3_reached_16 : decode cX3_reached 16 = .ok (.ldc 220, 2) := by decide +kernel
theorem dX3_reached_18 : decode cX3_reached 18 = .ok (.invokespecial 208, 3) := by decide +kernel
theorem dX3_reached_21 : decode cX3_reached 21 = .ok (.athrow, 1) := by decide +kernel
theorem dX3_reached_22 : decode cX3_reached 22 = .ok (.aload_n 0, 1) := by decide +kernel
theorem dX3_reached_23 : decode cX3_reached 23 = .ok (.getfield 46, 3) := by decide +kernel
theorem dX3_reached_26 : decode cX3_reached 26 = .ok (.iload_n 1, 1) := by decide +kernel
theorem dX3_reached_27 : decode cX3_reached 27 = .ok (.iaload, 1) := by decide +kernel
theorem dX3_reached_28 : decode cX3_reached 28 = .ok (.ireturn, 1) := by decide +kernel
theorem dX3_averageDistance_0 : decode cX3_averageDistance 0 = .ok (.aload_n 0, 1) := by decide +kernel
theorem dX3_averageDistance_1 : decode cX3_averageDistance 1 = .ok (.invokevirtual 146, 3) := by decide +kernel
theorem dX3_averageDistance_4 : decode cX3_averageDistance 4 = .ok (.aload_n 0, 1) := by decide +kernel
theorem dX3_averageDistance_5 : decode cX3_averageDistance 5 = .ok (.iload_n 1, 1) := by decide +kernel
theorem dX3_averageDistance_6 : decode cX3_averageDistance 6 = .ok (.invokevirtual 63, 3) := by decide +kernel
theorem dX3_averageDistance_9 : decode cX3_averageDistance 9 = .ok (.aload_n 0, 1) := by decide +kernel
theorem dX3_averageDistance_10 : decode cX3_averageDistance 10 = .ok (.iload_n 1, 1) := by decide +kernel
theorem dX3_averageDistance_11 : decode cX3_averageDistance 11 = .ok (.invokevirtual 211, 3) := by decide +kernel
theorem dX3_averageDistance_14 : decode cX3_averageDistance 14 = .ok (.iconst 0, 1) := by decide +kernel
theorem dX3_averageDistance_15 : decode cX3_averageDistance 15 = .ok (.istore_n 2, 1) := by decide +kernel
theorem dX3_averageDistance_16 : decode cX3_averageDistance 16 = .ok (.iconst 0, 1) := by decide +kernel
theorem dX3_averageDistance_17 : decode cX3_averageDistance 17 = .ok (.istore_n 3, 1) := by decide +kernel
theorem dX3_averageDistance_18 : decode cX3_averageDistance 18 = .ok (.iconst 0, 1) := by decide +kernel
theorem dX3_averageDistance_19 : decode cX3_averageDistance 19 = .ok (.istore 4, 2) := by decide +kernel
theorem dX3_averageDistance_21 : decode cX3_averageDistance 21 = .ok (.iload 4, 2) := by decide +kernel
theorem dX3_averageDistance_23 : decode cX3_averageDistance 23 = .ok (.aload_n 0, 1) := by decide +kernel
theorem dX3_averageDistance_24 : decode cX3_averageDistance 24 = .ok (.getfield 12, 3) := by decide +kernel
theorem dX3_averageDistance_27 : decode cX3_averageDistance 27 = .ok (.getfield 52, 3) := by decide +kernel
theorem dX3_averageDistance_30 : decode cX3_averageDistance 30 = .ok (.if_icmp .ge 36, 3) := by decide +kernel
theorem dX3_averageDistance_33 : decode cX3_averageDistance 33 = .ok (.aload_n 0, 1) := by decide +kernel
theorem dX3_averageDistance_34 : decode cX3_averageDistance 34 = .ok (.iload 4, 2) := by decide +kernel
theorem dX3_averageDistance_36 : decode cX3_averageDistance 36 = .ok (.invokevirtual 181, 3) := by decide +kernel
theorem dX3_averageDistance_39 : decode cX3_averageDistance 39 = .ok (.istore 5, 2) := by decide +kernel
theorem dX3_averageDistance_41 : decode cX3_averageDistance 41 = .ok (.iload 4, 2) := by decide +kernel
theorem dX3_averageDistance_43 : decode cX3_averageDistance 43 = .ok (.iload_n 1, 1) := by decide +kernel
theorem dX3_averageDistance_44 : decode cX3_averageDistance 44 = .ok (.if_icmp .eq 16, 3) := by decide +kernel
theorem dX3_averageDistance_47 : decode cX3_averageDistance 47 = .ok (.iload 5, 2) := by decide +kernel
theorem dX3_averageDistance_49 : decode cX3_averageDistance 49 = .ok (.ifCond .lt 11, 3) := by decide +kernel
theorem dX3_averageDistance_52 : decode cX3_averageDistance 52 = .ok (.iload_n 2, 1) := by decide +kernel
theorem dX3_averageDistance_53 : decode cX3_averageDistance 53 = .ok (.iload 5, 2) := by decide +kernel
theorem dX3_averageDistance_55 : decode cX3_averageDistance 55 = .ok (.iadd, 1) := by decide +kernel
theorem dX3_averageDistance_56 : decode cX3_averageDistance 56 = .ok (.istore_n 2, 1) := by decide +kernel
theorem dX3_averageDistance_57 : decode cX3_averageDistance 57 = .ok (.iinc 3 1, 3) := by decide +kernel
theorem dX3_averageDistance_60 : decode cX3_averageDistance 60 = .ok (.iinc 4 1, 3) := by decide +kernel
theorem dX3_averageDistance_63 : decode cX3_averageDistance 63 = .ok (.goto (-42), 3) := by decide +kernel
theorem dX3_averageDistance_66 : decode cX3_averageDistance 66 = .ok (.iload_n 3, 1) := by decide +kernel
theorem dX3_averageDistance_67 : decode cX3_averageDistance 67 = .ok (.ifCond .ne 7, 3) := by decide +kernel
theorem dX3_averageDistance_70 : decode cX3_averageDistance 70 = .ok (.dconst 0, 1) := by decide +kernel
theorem dX3_averageDistance_71 : decode cX3_averageDistance 71 = .ok (.goto 8, 3) := by decide +kernel
theorem dX3_averageDistance_74 : decode cX3_averageDistance 74 = .ok (.iload_n 2, 1) := by decide +kernel
theorem dX3_averageDistance_75 : decode cX3_averageDistance 75 = .ok (.i2d, 1) := by decide +kernel
theorem dX3_averageDistance_76 : decode cX3_averageDistance 76 = .ok (.iload_n 3, 1) := by decide +kernel
theorem dX3_averageDistance_77 : decode cX3_averageDistance 77 = .ok (.i2d, 1) := by decide +kernel
theorem dX3_averageDistance_78 : decode cX3_averageDistance 78 = .ok (.ddiv, 1) := by decide +kernel
theorem dX3_averageDistance_79 : decode cX3_averageDistance 79 = .ok (.dreturn, 1) := by decide +kernel
theorem dX3_detour_0 : decode cX3_detour 0 = .ok (.aload_n 0, 1) := by decide +kernel
theorem dX3_detour_1 : decode cX3_detour 1 = .ok (.invokevirtual 146, 3) := by decide +kernel
theorem dX3_detour_4 : decode cX3_detour 4 = .ok (.aload_n 0, 1) := by decide +kernel
theorem dX3_detour_5 : decode cX3_detour 5 = .ok (.iload_n 1, 1) := by decide +kernel
theorem dX3_detour_6 : decode cX3_detour 6 = .ok (.invokevirtual 63, 3) := by decide +kernel
theorem dX3_detour_9 : decode cX3_detour 9 = .ok (.aload_n 0, 1) := by decide +kernel
theorem dX3_detour_10 : decode cX3_detour 10 = .ok (.iload_n 2, 1) := by decide +kernel
theorem dX3_detour_11 : decode cX3_detour 11 = .ok (.invokevirtual 63, 3) := by decide +kernel
theorem dX3_detour_14 : decode cX3_detour 14 = .ok (.aload_n 0, 1) := by decide +kernel
theorem dX3_detour_15 : decode cX3_detour 15 = .ok (.iload_n 3, 1) := by decide +kernel
theorem dX3_detour_16 : decode cX3_detour 16 = .ok (.invokevirtual 88, 3) := by decide +kernel
theorem dX3_detour_19 : decode cX3_detour 19 = .ok (.aload_n 0, 1) := by decide +kernel
theorem dX3_detour_20 : decode cX3_detour 20 = .ok (.iload_n 1, 1) := by decide +kernel
theorem dX3_detour_21 : decode cX3_detour 21 = .ok (.iload_n 2, 1) := by decide +kernel
theorem dX3_detour_22 : decode cX3_detour 22 = .ok (.invokevirtual 168, 3) := by decide +kernel
theorem dX3_detour_25 : decode cX3_detour 25 = .ok (.istore 4, 2) := by decide +kernel
theorem dX3_detour_27 : decode cX3_detour 27 = .ok (.iload 4, 2) := by decide +kernel
theorem dX3_detour_29 : decode cX3_detour 29 = .ok (.ifCond .ge 13, 3) := by decide +kernel
theorem dX3_detour_32 : decode cX3_detour 32 = .ok (.new 159, 3) := by decide +kernel
theorem dX3_detour_35 : decode cX3_detour 35 = .ok (.dup, 1) := by decide +kernel
theorem dX3_detour_36 : decode cX3_detour 36 = .ok (.ldc 196, 2) := by decide +kernel
theorem dX3_detour_38 : decode cX3_detour 38 = .ok (.invokespecial 163, 3) := by decide +kernel
theorem dX3_detour_41 : decode cX3_detour 41 = .ok (.athrow, 1) := by decide +kernel
theorem dX3_detour_42 : decode cX3_detour 42 = .ok (.aload_n 0, 1) := by decide +kernel
theorem dX3_detour_43 : decode cX3_detour 43 = .ok (.getfield 12, 3) := by decide +kernel
theorem dX3_detour_46 : decode cX3_detour 46 = .ok (.getfield 127, 3) := by decide +kernel
theorem dX3_detour_49 : decode cX3_detour 49 = .ok (.iload_n 3, 1) := by decide +kernel
theorem dX3_detour_50 : decode cX3_detour 50 = .ok (.invokestatic 131, 3) := by decide +kernel
theorem dX3_detour_53 : decode cX3_detour 53 = .ok (.ifCond .ne 5, 3) := by decide +kernel
theorem dX3_detour_56 : decode cX3_detour 56 = .ok (.iconst 0, 1) := by decide +kernel
theorem dX3_detour_57 : decode cX3_detour 57 = .ok (.ireturn, 1) := by decide +kernel
theorem dX3_detour_58 : decode cX3_detour 58 = .ok (.aload_n 0, 1) := by decide +kernel
theorem dX3_detour_59 : decode cX3_detour 59 = .ok (.getfield 12, 3) := by decide +kernel
theorem dX3_detour_62 : decode cX3_detour 62 = .ok (.iload_n 3, 1) := by decide +kernel
theorem dX3_detour_63 : decode cX3_detour 63 = .ok (.iconst 0, 1) := by decide +kernel
theorem dX3_detour_64 : decode cX3_detour 64 = .ok (.invokevirtual 98, 3) := by decide +kernel
theorem dX3_detour_67 : decode cX3_detour 67 = .ok (.aload_n 0, 1) := by decide +kernel
theorem dX3_detour_68 : decode cX3_detour 68 = .ok (.getfield 21, 3) := by decide +kernel
theorem dX3_detour_71 : decode cX3_detour 71 = .ok (.iload_n 3, 1) := by decide +kernel
theorem dX3_detour_72 : decode cX3_detour 72 = .ok (.invokevirtual 94, 3) := by decide +kernel
theorem dX3_detour_75 : decode cX3_detour 75 = .ok (.pop, 1) := by decide +kernel
theorem dX3_detour_76 : decode cX3_detour 76 = .ok (.aload_n 0, 1) := by decide +kernel
theorem dX3_detour_77 : decode cX3_detour 77 = .ok (.iload_n 1, 1) := by decide +kernel
theorem dX3_detour_78 : decode cX3_detour 78 = .ok (.iload_n 2, 1) := by decide +kernel
theorem dX3_detour_79 : decode cX3_detour 79 = .ok (.invokevirtual 168, 3) := by decide +kernel
theorem dX3_detour_82 : decode cX3_detour 82 = .ok (.istore 5, 2) := by decide +kernel
theorem dX3_detour_84 : decode cX3_detour 84 = .ok (.aload_n 0, 1) := by decide +kernel
theorem dX3_detour_85 : decode cX3_detour 85 = .ok (.getfield 12, 3) := by decide +kernel
theorem dX3_detour_88 : decode cX3_detour 88 = .ok (.iload_n 3, 1) := by decide +kernel
theorem dX3_detour_89 : decode cX3_detour 89 = .ok (.iconst 1, 1) := by decide +kernel
theorem dX3_detour_90 : decode cX3_detour 90 = .ok (.invokevirtual 98, 3) := by decide +kernel
theorem dX3_detour_93 : decode cX3_detour 93 = .ok (.aload_n 0, 1) := by decide +kernel
theorem dX3_detour_94 : decode cX3_detour 94 = .ok (.getfield 21, 3) := by decide +kernel
theorem dX3_detour_97 : decode cX3_detour 97 = .ok (.iload_n 3, 1) := by decide +kernel
theorem dX3_detour_98 : decode cX3_detour 98 = .ok (.invokevirtual 94, 3) := by decide +kernel
theorem dX3_detour_101 : decode cX3_detour 101 = .ok (.pop, 1) := by decide +kernel
theorem dX3_detour_102 : decode cX3_detour 102 = .ok (.iload 5, 2) := by decide +kernel
theorem dX3_detour_104 : decode cX3_detour 104 = .ok (.ifCond .ge 7, 3) := by decide +kernel
theorem dX3_detour_107 : decode cX3_detour 107 = .ok (.iconst (-1), 1) := by decide +kernel
theorem dX3_detour_108 : decode cX3_detour 108 = .ok (.goto 8, 3) := by decide +kernel
theorem dX3_detour_111 : decode cX3_detour 111 = .ok (.iload 5, 2) := by decide +kernel
theorem dX3_detour_113 : decode cX3_detour 113 = .ok (.iload 4, 2) := by decide +kernel
theorem dX3_detour_115 : decode cX3_detour 115 = .ok (.isub, 1) := by decide +kernel
theorem dX3_detour_116 : decode cX3_detour 116 = .ok (.ireturn, 1) := by decide +kernel
theorem dX3_setPlace_0 : decode cX3_setPlace 0 = .ok (.aload_n 0, 1) := by decide +kernel
theorem dX3_setPlace_1 : decode cX3_setPlace 1 = .ok (.iload_n 1, 1) := by decide +kernel
theorem dX3_setPlace_2 : decode cX3_setPlace 2 = .ok (.invokevirtual 63, 3) := by decide +kernel
theorem dX3_setPlace_5 : decode cX3_setPlace 5 = .ok (.aload_n 0, 1) := by decide +kernel
theorem dX3_setPlace_6 : decode cX3_setPlace 6 = .ok (.iload_n 2, 1) := by decide +kernel
theorem dX3_setPlace_7 : decode cX3_setPlace 7 = .ok (.invokevirtual 222, 3) := by decide +kernel
theorem dX3_setPlace_10 : decode cX3_setPlace 10 = .ok (.aload_n 0, 1) := by decide +kernel
theorem dX3_setPlace_11 : decode cX3_setPlace 11 = .ok (.getfield 32, 3) := by decide +kernel
theorem dX3_setPlace_14 : decode cX3_setPlace 14 = .ok (.iload_n 1, 1) := by decide +kernel
theorem dX3_setPlace_15 : decode cX3_setPlace 15 = .ok (.iload_n 2, 1) := by decide +kernel
theorem dX3_setPlace_16 : decode cX3_setPlace 16 = .ok (.invokestatic 225, 3) := by decide +kernel
theorem dX3_setPlace_19 : decode cX3_setPlace 19 = .ok (.baload, 1) := by decide +kernel
theorem dX3_setPlace_20 : decode cX3_setPlace 20 = .ok (.istore 4, 2) := by decide +kernel
theorem dX3_setPlace_22 : decode cX3_setPlace 22 = .ok (.aload_n 0, 1) := by decide +kernel
theorem dX3_setPlace_23 : decode cX3_setPlace 23 = .ok (.getfield 32, 3) := by decide +kernel
theorem dX3_setPlace_26 : decode cX3_setPlace 26 = .ok (.iload_n 1, 1) := by decide +kernel
theorem dX3_setPlace_27 : decode cX3_setPlace 27 = .ok (.iload_n 2, 1) := by decide +kernel
theorem dX3_setPlace_28 : decode cX3_setPlace 28 = .ok (.invokestatic 225, 3) := by decide +kernel
theorem dX3_setPlace_31 : decode cX3_setPlace 31 = .ok (.iload_n 3, 1) := by decide +kernel
theorem dX3_setPlace_32 : decode cX3_setPlace 32 = .ok (.bastore, 1) := by decide +kernel
theorem dX3_setPlace_33 : decode cX3_setPlace 33 = .ok (.iload 4, 2) := by decide +kernel
theorem dX3_setPlace_35 : decode cX3_setPlace 35 = .ok (.ireturn, 1) := by decide +kernel
theorem dX3_nearest_0 : decode cX3_nearest 0 = .ok (.aload_n 0, 1) := by decide +kernel
theorem dX3_nearest_1 : decode cX3_nearest 1 = .ok (.invokevirtual 146, 3) := by decide +kernel
theorem dX3_nearest_4 : decode cX3_nearest 4 = .ok (.aload_n 0, 1) := by decide +kernel
theorem dX3_nearest_5 : decode cX3_nearest 5 = .ok (.iload_n 1, 1) := by decide +kernel
theorem dX3_nearest_6 : decode cX3_nearest 6 = .ok (.invokevirtual 63, 3) := by decide +kernel
theorem dX3_nearest_9 : decode cX3_nearest 9 = .ok (.aload_n 0, 1) := by decide +kernel
theorem dX3_nearest_10 : decode cX3_nearest 10 = .ok (.iload_n 2, 1) := by decide +kernel
theorem dX3_nearest_11 : decode cX3_nearest 11 = .ok (.invokevirtual 222, 3) := by decide +kernel
theorem dX3_nearest_14 : decode cX3_nearest 14 = .ok (.aload_n 0, 1) := by decide +kernel
theorem dX3_nearest_15 : decode cX3_nearest 15 = .ok (.iload_n 1, 1) := by decide +kernel
theorem dX3_nearest_16 : decode cX3_nearest 16 = .ok (.invokevirtual 211, 3) := by decide +kernel
theorem dX3_nearest_19 : decode cX3_nearest 19 = .ok (.iconst (-1), 1) := by decide +kernel
theorem dX3_nearest_20 : decode cX3_nearest 20 = .ok (.istore_n 3, 1) := by decide +kernel
theorem dX3_nearest_21 : decode cX3_nearest 21 = .ok (.ldc 171, 2) := by decide +kernel
theorem dX3_nearest_23 : decode cX3_nearest 23 = .ok (.istore 4, 2) := by decide +kernel
theorem dX3_nearest_25 : decode cX3_nearest 25 = .ok (.iconst 0, 1) := by decide +kernel
theorem dX3_nearest_26 : decode cX3_nearest 26 = .ok (.istore 5, 2) := by decide +kernel
theorem dX3_nearest_28 : decode cX3_nearest 28 = .ok (.iload 5, 2) := by decide +kernel
theorem dX3_nearest_30 : decode cX3_nearest 30 = .ok (.aload_n 0, 1) := by decide +kernel
theorem dX3_nearest_31 : decode cX3_nearest 31 = .ok (.getfield 12, 3) := by decide +kernel
theorem dX3_nearest_34 : decode cX3_nearest 34 = .ok (.getfield 52, 3) := by decide +kernel
theorem dX3_nearest_37 : decode cX3_nearest 37 = .ok (.if_icmp .ge 50, 3) := by decide +kernel
theorem dX3_nearest_40 : decode cX3_nearest 40 = .ok (.aload_n 0, 1) := by decide +kernel
theorem dX3_nearest_41 : decode cX3_nearest 41 = .ok (.iload 5, 2) := by decide +kernel
theorem dX3_nearest_43 : decode cX3_nearest 43 = .ok (.invokevirtual 181, 3) := by decide +kernel
theorem dX3_nearest_46 : decode cX3_nearest 46 = .ok (.istore 6, 2) := by decide +kernel
theorem dX3_nearest_48 : decode cX3_nearest 48 = .ok (.aload_n 0, 1) := by decide +kernel
theorem dX3_nearest_49 : decode cX3_nearest 49 = .ok (.getfield 32, 3) := by decide +kernel
theorem dX3_nearest_52 : decode cX3_nearest 52 = .ok (.iload 5, 2) := by decide +kernel
theorem dX3_nearest_54 : decode cX3_nearest 54 = .ok (.iload_n 2, 1) := by decide +kernel
theorem dX3_nearest_55 : decode cX3_nearest 55 = .ok (.invokestatic 225, 3) := by decide +kernel
theorem dX3_nearest_58 : decode cX3_nearest 58 = .ok (.baload, 1) := by decide +kernel
theorem dX3_nearest_59 : decode cX3_nearest 59 = .ok (.ifCond .eq 22, 3) := by decide +kernel
theorem dX3_nearest_62 : decode cX3_nearest 62 = .ok (.iload 6, 2) := by decide +kernel
theorem dX3_nearest_64 : decode cX3_nearest 64 = .ok (.ifCond .lt 17, 3) := by decide +kernel
theorem dX3_nearest_67 : decode cX3_nearest 67 = .ok (.iload 6, 2) := by decide +kernel
theorem dX3_nearest_69 : decode cX3_nearest 69 = .ok (.iload 4, 2) := by decide +kernel
theorem dX3_nearest_71 : decode cX3_nearest 71 = .ok (.if_icmp .ge 10, 3) := by decide +kernel
theorem dX3_nearest_74 : decode cX3_nearest 74 = .ok (.iload 5, 2) := by decide +kernel
theorem dX3_nearest_76 : decode cX3_nearest 76 = .ok (.istore_n 3, 1) := by decide +kernel
theorem dX3_nearest_77 : decode cX3_nearest 77 = .ok (.iload 6, 2) := by decide +kernel
theorem dX3_nearest_79 : decode cX3_nearest 79 = .ok (.istore 4, 2) := by decide +kernel
theorem dX3_nearest_81 : decode cX3_nearest 81 = .ok (.iinc 5 1, 3) := by decide +kernel
theorem dX3_nearest_84 : decode cX3_nearest 84 = .ok (.goto (-56), 3) := by decide +kernel
theorem dX3_nearest_87 : decode cX3_nearest 87 = .ok (.iload_n 3, 1) := by decide +kernel
theorem dX3_nearest_88 : decode cX3_nearest 88 = .ok (.ifCond .ge 13, 3) := by decide +kernel
theorem dX3_nearest_91 : decode cX3_nearest 91 = .ok (.new 159, 3) := by decide +kernel
theorem dX3_nearest_94 : decode cX3_nearest 94 = .ok (.dup, 1) := by decide +kernel
theorem dX3_nearest_95 : decode cX3_nearest 95 = .ok (.ldc 228, 2) := by decide +kernel
theorem dX3_nearest_97 : decode cX3_nearest 97 = .ok (.invokespecial 163, 3) := by decide +kernel
theorem dX3_nearest_100 : decode cX3_nearest 100 = .ok (.athrow, 1) := by decide +kernel
theorem dX3_nearest_101 : decode cX3_nearest 101 = .ok (.iload_n 3, 1) := by decide +kernel
theorem dX3_nearest_102 : decode cX3_nearest 102 = .ok (.ireturn, 1) := by decide +kernel
theorem dX3_push_0 : decode cX3_push 0 = .ok (.aload_n 0, 1) := by decide +kernel
theorem dX3_push_1 : decode cX3_push 1 = .ok (.getfield 28, 3) := by decide +kernel
theorem dX3_push_4 : decode cX3_push 4 = .ok (.getfield 230, 3) := by decide +kernel
theorem dX3_push_7 : decode cX3_push 7 = .ok (.bipush 8, 2) := by decide +kernel
theorem dX3_push_9 : decode cX3_push 9 = .ok (.if_icmp .lt 13, 3) := by decide +kernel
theorem dX3_push_12 : decode cX3_push 12 = .ok (.new 56, 3) := by decide +kernel
theorem dX3_push_15 : decode cX3_push 15 = .ok (.dup, 1) := by decide +kernel
theorem dX3_push_16 : decode cX3_push 16 = .ok (.ldc 233, 2) := by decide +kernel
theorem dX3_push_18 : decode cX3_push 18 = .ok (.invokespecial 60, 3) := by decide +kernel
theorem dX3_push_21 : decode cX3_push 21 = .ok (.athrow, 1) := by decide +kernel
theorem dX3_push_22 : decode cX3_push 22 = .ok (.aload_n 0, 1) := by decide +kernel
theorem dX3_push_23 : decode cX3_push 23 = .ok (.getfield 28, 3) := by decide +kernel
theorem dX3_push_26 : decode cX3_push 26 = .ok (.aload_n 0, 1) := by decide +kernel
theorem dX3_push_27 : decode cX3_push 27 = .ok (.getfield 12, 3) := by decide +kernel
theorem dX3_push_30 : decode cX3_push 30 = .ok (.invokevirtual 235, 3) := by decide +kernel
theorem dX3_push_33 : decode cX3_push 33 = .ok (.aload_n 0, 1) := by decide +kernel
theorem dX3_push_34 : decode cX3_push 34 = .ok (.getfield 28, 3) := by decide +kernel
theorem dX3_push_37 : decode cX3_push 37 = .ok (.getfield 230, 3) := by decide +kernel
theorem dX3_push_40 : decode cX3_push 40 = .ok (.ireturn, 1) := by decide +kernel
theorem dX3_pop_0 : decode cX3_pop 0 = .ok (.aload_n 0, 1) := by decide +kernel
theorem dX3_pop_1 : decode cX3_pop 1 = .ok (.getfield 28, 3) := by decide +kernel
theorem dX3_pop_4 : decode cX3_pop 4 = .ok (.getfield 230, 3) := by decide +kernel
theorem dX3_pop_7 : decode cX3_pop 7 = .ok (.ifCond .gt 13, 3) := by decide +kernel
theorem dX3_pop_10 : decode cX3_pop 10 = .ok (.new 56, 3) := by decide +kernel
theorem dX3_pop_13 : decode cX3_pop 13 = .ok (.dup, 1) := by decide +kernel
theorem dX3_pop_14 : decode cX3_pop 14 = .ok (.ldc 238, 2) := by decide +kernel
theorem dX3_pop_16 : decode cX3_pop 16 = .ok (.invokespecial 60, 3) := by decide +kernel
theorem dX3_pop_19 : decode cX3_pop 19 = .ok (.athrow, 1) := by decide +kernel
theorem dX3_pop_20 : decode cX3_pop 20 = .ok (.aload_n 0, 1) := by decide +kernel
theorem dX3_pop_21 : decode cX3_pop 21 = .ok (.getfield 28, 3) := by decide +kernel
theorem dX3_pop_24 : decode cX3_pop 24 = .ok (.aload_n 0, 1) := by decide +kernel
theorem dX3_pop_25 : decode cX3_pop 25 = .ok (.getfield 12, 3) := by decide +kernel
theorem dX3_pop_28 : decode cX3_pop 28 = .ok (.invokevirtual 240, 3) := by decide +kernel
theorem dX3_pop_31 : decode cX3_pop 31 = .ok (.aload_n 0, 1) := by decide +kernel
theorem dX3_pop_32 : decode cX3_pop 32 = .ok (.getfield 21, 3) := by decide +kernel
theorem dX3_pop_35 : decode cX3_pop 35 = .ok (.invokevirtual 123, 3) := by decide +kernel
theorem dX3_pop_38 : decode cX3_pop 38 = .ok (.ireturn, 1) := by decide +kernel
theorem dX3_digest_0 : decode cX3_digest 0 = .ok (.ldc2_w 243, 3) := by decide +kernel
theorem dX3_digest_3 : decode cX3_digest 3 = .ok (.lstore_n 1, 1) := by decide +kernel
theorem dX3_digest_4 : decode cX3_digest 4 = .ok (.lload_n 1, 1) := by decide +kernel
theorem dX3_digest_5 : decode cX3_digest 5 = .ok (.ldc2_w 245, 3) := by decide +kernel
theorem dX3_digest_8 : decode cX3_digest 8 = .ok (.lmul, 1) := by decide +kernel
theorem dX3_digest_9 : decode cX3_digest 9 = .ok (.aload_n 0, 1) := by decide +kernel
theorem dX3_digest_10 : decode cX3_digest 10 = .ok (.getfield 12, 3) := by decide +kernel
theorem dX3_digest_13 : decode cX3_digest 13 = .ok (.getfield 52, 3) := by decide +kernel
theorem dX3_digest_16 : decode cX3_digest 16 = .ok (.i2l, 1) := by decide +kernel
theorem dX3_digest_17 : decode cX3_digest 17 = .ok (.ladd, 1) := by decide +kernel
theorem dX3_digest_18 : decode cX3_digest 18 = .ok (.lstore_n 1, 1) := by decide +kernel
theorem dX3_digest_19 : decode cX3_digest 19 = .ok (.lload_n 1, 1) := by decide +kernel
theorem dX3_digest_20 : decode cX3_digest 20 = .ok (.ldc2_w 245, 3) := by decide +kernel
theorem dX3_digest_23 : decode cX3_digest 23 = .ok (.lmul, 1) := by decide +kernel
theorem dX3_digest_24 : decode cX3_digest 24 = .ok (.aload_n 0, 1) := by decide +kernel
theorem dX3_digest_25 : decode cX3_digest 25 = .ok (.getfield 12, 3) := by decide +kernel
theorem dX3_digest_28 : decode cX3_digest 28 = .ok (.getfield 75, 3) := by decide +kernel
theorem dX3_digest_31 : decode cX3_digest 31 = .ok (.i2l, 1) := by decide +kernel
theorem dX3_digest_32 : decode cX3_digest 32 = .ok (.ladd, 1) := by decide +kernel
theorem dX3_digest_33 : decode cX3_digest 33 = .ok (.lstore_n 1, 1) := by decide +kernel
theorem dX3_digest_34 : decode cX3_digest 34 = .ok (.lload_n 1, 1) := by decide +kernel
theorem dX3_digest_35 : decode cX3_digest 35 = .ok (.ldc2_w 245, 3) := by decide +kernel
theorem dX3_digest_38 : decode cX3_digest 38 = .ok (.lmul, 1) := by decide +kernel
theorem dX3_digest_39 : decode cX3_digest 39 = .ok (.aload_n 0, 1) := by decide +kernel
theorem dX3_digest_40 : decode cX3_digest 40 = .ok (.getfield 28, 3) := by decide +kernel
theorem dX3_digest_43 : decode cX3_digest 43 = .ok (.getfield 230, 3) := by decide +kernel
theorem dX3_digest_46 : decode cX3_digest 46 = .ok (.i2l, 1) := by decide +kernel
theorem dX3_digest_47 : decode cX3_digest 47 = .ok (.ladd, 1) := by decide +kernel
theorem dX3_digest_48 : decode cX3_digest 48 = .ok (.lstore_n 1, 1) := by decide +kernel
theorem dX3_digest_49 : decode cX3_digest 49 = .ok (.lload_n 1, 1) := by decide +kernel
theorem dX3_digest_50 : decode cX3_digest 50 = .ok (.ldc2_w 245, 3) := by decide +kernel
theorem dX3_digest_53 : decode cX3_digest 53 = .ok (.lmul, 1) := by decide +kernel
theorem dX3_digest_54 : decode cX3_digest 54 = .ok (.aload_n 0, 1) := by decide +kernel
theorem dX3_digest_55 : decode cX3_digest 55 = .ok (.getfield 21, 3) := by decide +kernel
theorem dX3_digest_58 : decode cX3_digest 58 = .ok (.getfield 80, 3) := by decide +kernel
theorem dX3_digest_61 : decode cX3_digest 61 = .ok (.ifCond .eq 13, 3) := by decide +kernel
theorem dX3_digest_64 : decode cX3_digest 64 = .ok (.aload_n 0, 1) := by decide +kernel
theorem dX3_digest_65 : decode cX3_digest 65 = .ok (.getfield 21, 3) := by decide +kernel
theorem dX3_digest_68 : decode cX3_digest 68 = .ok (.getfield 152, 3) := by decide +kernel
theorem dX3_digest_71 : decode cX3_digest 71 = .ok (.goto 4, 3) := by decide +kernel
theorem dX3_digest_74 : decode cX3_digest 74 = .ok (.iconst 0, 1) := by decide +kernel
theorem dX3_digest_75 : decode cX3_digest 75 = .ok (.i2l, 1) := by decide +kernel
theorem dX3_digest_76 : decode cX3_digest 76 = .ok (.ladd, 1) := by decide +kernel
theorem dX3_digest_77 : decode cX3_digest 77 = .ok (.lstore_n 1, 1) := by decide +kernel
theorem dX3_digest_78 : decode cX3_digest 78 = .ok (.iconst 0, 1) := by decide +kernel
theorem dX3_digest_79 : decode cX3_digest 79 = .ok (.istore_n 3, 1) := by decide +kernel
theorem dX3_digest_80 : decode cX3_digest 80 = .ok (.iload_n 3, 1) := by decide +kernel
theorem dX3_digest_81 : decode cX3_digest 81 = .ok (.aload_n 0, 1) := by decide +kernel
theorem dX3_digest_82 : decode cX3_digest 82 = .ok (.getfield 12, 3) := by decide +kernel
theorem dX3_digest_85 : decode cX3_digest 85 = .ok (.getfield 75, 3) := by decide +kernel
theorem dX3_digest_88 : decode cX3_digest 88 = .ok (.if_icmp .ge 80, 3) := by decide +kernel
theorem dX3_digest_91 : decode cX3_digest 91 = .ok (.lload_n 1, 1) := by decide +kernel
theorem dX3_digest_92 : decode cX3_digest 92 = .ok (.ldc2_w 245, 3) := by decide +kernel
theorem dX3_digest_95 : decode cX3_digest 95 = .ok (.lmul, 1) := by decide +kernel
theorem dX3_digest_96 : decode cX3_digest 96 = .ok (.aload_n 0, 1) := by decide +kernel
theorem dX3_digest_97 : decode cX3_digest 97 = .ok (.getfield 12, 3) := by decide +kernel
theorem dX3_digest_100 : decode cX3_digest 100 = .ok (.getfield 91, 3) := by decide +kernel
theorem dX3_digest_103 : decode cX3_digest 103 = .ok (.iload_n 3, 1) := by decide +kernel
theorem dX3_digest_104 : decode cX3_digest 104 = .ok (.iaload, 1) := by decide +kernel
theorem dX3_digest_105 : decode cX3_digest 105 = .ok (.i2l, 1) := by decide +kernel
theorem dX3_digest_106 : decode cX3_digest 106 = .ok (.ladd, 1) := by decide +kernel
theorem dX3_digest_107 : decode cX3_digest 107 = .ok (.lstore_n 1, 1) := by decide +kernel
theorem dX3_digest_108 : decode cX3_digest 108 = .ok (.lload_n 1, 1) := by decide +kernel
theorem dX3_digest_109 : decode cX3_digest 109 = .ok (.ldc2_w 245, 3) := by decide +kernel
theorem dX3_digest_112 : decode cX3_digest 112 = .ok (.lmul, 1) := by decide +kernel
theorem dX3_digest_113 : decode cX3_digest 113 = .ok (.aload_n 0, 1) := by decide +kernel
theorem dX3_digest_114 : decode cX3_digest 114 = .ok (.getfield 12, 3) := by decide +kernel
theorem dX3_digest_117 : decode cX3_digest 117 = .ok (.getfield 127, 3) := by decide +kernel
theorem dX3_digest_120 : decode cX3_digest 120 = .ok (.iload_n 3, 1) := by decide +kernel
theorem dX3_digest_121 : decode cX3_digest 121 = .ok (.invokestatic 131, 3) := by decide +kernel
theorem dX3_digest_124 : decode cX3_digest 124 = .ok (.ifCond .eq 7, 3) := by decide +kernel
theorem dX3_digest_127 : decode cX3_digest 127 = .ok (.iconst 1, 1) := by decide +kernel
theorem dX3_digest_128 : decode cX3_digest 128 = .ok (.goto 4, 3) := by decide +kernel
theorem dX3_digest_131 : decode cX3_digest 131 = .ok (.iconst 0, 1) := by decide +kernel
theorem dX3_digest_132 : decode cX3_digest 132 = .ok (.i2l, 1) := by decide +kernel
theorem dX3_digest_133 : decode cX3_digest 133 = .ok (.ladd, 1) := by decide +kernel
theorem dX3_digest_134 : decode cX3_digest 134 = .ok (.lstore_n 1, 1) := by decide +kernel
theorem dX3_digest_135 : decode cX3_digest 135 = .ok (.aload_n 0, 1) := by decide +kernel
theorem dX3_digest_136 : decode cX3_digest 136 = .ok (.getfield 21, 3) := by decide +kernel
theorem dX3_digest_139 : decode cX3_digest 139 = .ok (.getfield 80, 3) := by decide +kernel
theorem dX3_digest_142 : decode cX3_digest 142 = .ok (.ifCond .eq 20, 3) := by decide +kernel
theorem dX3_digest_145 : decode cX3_digest 145 = .ok (.lload_n 1, 1) := by decide +kernel
theorem dX3_digest_146 : decode cX3_digest 146 = .ok (.ldc2_w 245, 3) := by decide +kernel
theorem dX3_digest_149 : decode cX3_digest 149 = .ok (.lmul, 1) := by decide +kernel
theorem dX3_digest_150 : decode cX3_digest 150 = .ok (.aload_n 0, 1) := by decide +kernel
theorem dX3_digest_151 : decode cX3_digest 151 = .ok (.getfield 21, 3) := by decide +kernel
theorem dX3_digest_154 : decode cX3_digest 154 = .ok (.getfield 149, 3) := by decide +kernel
theorem dX3_digest_157 : decode cX3_digest 157 = .ok (.iload_n 3, 1) := by decide +kernel
theorem dX3_digest_158 : decode cX3_digest 158 = .ok (.iaload, 1) := by decide +kernel
theorem dX3_digest_159 : decode cX3_digest 159 = .ok (.i2l, 1) := by decide +kernel
theorem dX3_digest_160 : decode cX3_digest 160 = .ok (.ladd, 1) := by decide +kernel
theorem dX3_digest_161 : decode cX3_digest 161 = .ok (.lstore_n 1, 1) := by decide +kernel
theorem dX3_digest_162 : decode cX3_digest 162 = .ok (.iinc 3 1, 3) := by decide +kernel
theorem dX3_digest_165 : decode cX3_digest 165 = .ok (.goto (-85), 3) := by decide +kernel
theorem dX3_digest_168 : decode cX3_digest 168 = .ok (.aload_n 0, 1) := by decide +kernel
theorem dX3_digest_169 : decode cX3_digest 169 = .ok (.getfield 21, 3) := by decide +kernel
theorem dX3_digest_172 : decode cX3_digest 172 = .ok (.getfield 80, 3) := by decide +kernel
theorem dX3_digest_175 : decode cX3_digest 175 = .ok (.ifCond .eq 14, 3) := by decide +kernel
theorem dX3_digest_178 : decode cX3_digest 178 = .ok (.aload_n 0, 1) := by decide +kernel
theorem dX3_digest_179 : decode cX3_digest 179 = .ok (.getfield 21, 3) := by decide +kernel
theorem dX3_digest_182 : decode cX3_digest 182 = .ok (.lload_n 1, 1) := by decide +kernel
theorem dX3_digest_183 : decode cX3_digest 183 = .ok (.invokevirtual 247, 3) := by decide +kernel
theorem dX3_digest_186 : decode cX3_digest 186 = .ok (.goto 4, 3) := by decide +kernel
theorem dX3_digest_189 : decode cX3_digest 189 = .ok (.lload_n 1, 1) := by decide +kernel
theorem dX3_digest_190 : decode cX3_digest 190 = .ok (.lreturn, 1) := by decide +kernel
theorem dX3_requireJunction_0 : decode cX3_requireJunction 0 = .ok (.iload_n 1, 1) := by decide +kernel
theorem dX3_requireJunction_1 : decode cX3_requireJunction 1 = .ok (.ifCond .lt 14, 3) := by decide +kernel
theorem dX3_requireJunction_4 : decode cX3_requireJunction 4 = .ok (.iload_n 1, 1) := by decide +kernel
theorem dX3_requireJunction_5 : decode cX3_requireJunction 5 = .ok (.aload_n 0, 1) := by decide +kernel
theorem dX3_requireJunction_6 : decode cX3_requireJunction 6 = .ok (.getfield 12, 3) := by decide +kernel
theorem dX3_requireJunction_9 : decode cX3_requireJunction 9 = .ok (.getfield 52, 3) := by decide +kernel
theorem dX3_requireJunction_12 : decode cX3_requireJunction 12 = .ok (.if_icmp .lt 13, 3) := by decide +kernel
theorem dX3_requireJunction_15 : decode cX3_requireJunction 15 = .ok (.new 204, 3) := by decide +kernel
theorem dX3_requireJunction_18 : decode cX3_requireJunction 18 = .ok (.dup, 1) := by decide +kernel
theorem dX3_requireJunction_19 : decode cX3_requireJunction 19 = .ok (.ldc 251, 2) := by decide +kernel
theorem dX3_requireJunction_21 : decode cX3_requireJunction 21 = .ok (.invokespecial 208, 3) := by decide +kernel
theorem dX3_requireJunction_24 : decode cX3_requireJunction 24 = .ok (.athrow, 1) := by decide +kernel
theorem dX3_requireJunction_25 : decode cX3_requireJunction 25 = .ok (.return_, 1) := by decide +kernel
theorem dX3_requireRoad_0 : decode cX3_requireRoad 0 = .ok (.iload_n 1, 1) := by decide +kernel
theorem dX3_requireRoad_1 : decode cX3_requireRoad 1 = .ok (.ifCond .lt 14, 3) := by decide +kernel
theorem dX3_requireRoad_4 : decode cX3_requireRoad 4 = .ok (.iload_n 1, 1) := by decide +kernel
theorem dX3_requireRoad_5 : decode cX3_requireRoad 5 = .ok (.aload_n 0, 1) := by decide +kernel
theorem dX3_requireRoad_6 : decode cX3_requireRoad 6 = .ok (.getfield 12, 3) := by decide +kernel
theorem dX3_requireRoad_9 : decode cX3_requireRoad 9 = .ok (.getfield 75, 3) := by decide +kernel
theorem dX3_requireRoad_12 : decode cX3_requireRoad 12 = .ok (.if_icmp .lt 13, 3) := by decide +kernel
theorem dX3_requireRoad_15 : decode cX3_requireRoad 15 = .ok (.new 204, 3) := by decide +kernel
theorem dX3_requireRoad_18 : decode cX3_requireRoad 18 = .ok (.dup, 1) := by decide +kernel
theorem dX3_requireRoad_19 : decode cX3_requireRoad 19 = .ok (.ldc 253, 2) := by decide +kernel
theorem dX3_requireRoad_21 : decode cX3_requireRoad 21 = .ok (.invokespecial 208, 3) := by decide +kernel
theorem dX3_requireRoad_24 : decode cX3_requireRoad 24 = .ok (.athrow, 1) := by decide +kernel
theorem dX3_requireRoad_25 : decode cX3_requireRoad 25 = .ok (.return_, 1) := by decide +kernel
theorem dX3_requireTurn_0 : decode cX3_requireTurn 0 = .ok (.aload_n 0, 1) := by decide +kernel
theorem dX3_requireTurn_1 : decode cX3_requireTurn 1 = .ok (.iload_n 1, 1) := by decide +kernel
theorem dX3_requireTurn_2 : decode cX3_requireTurn 2 = .ok (.invokevirtual 88, 3) := by decide +kernel
theorem dX3_requireTurn_5 : decode cX3_requireTurn 5 = .ok (.aload_n 0, 1) := by decide +kernel
theorem dX3_requireTurn_6 : decode cX3_requireTurn 6 = .ok (.iload_n 2, 1) := by decide +kernel
theorem dX3_requireTurn_7 : decode cX3_requireTurn 7 = .ok (.invokevirtual 88, 3) := by decide +kernel
theorem dX3_requireTurn_10 : decode cX3_requireTurn 10 = .ok (.aload_n 0, 1) := by decide +kernel
theorem dX3_requireTurn_11 : decode cX3_requireTurn 11 = .ok (.getfield 12, 3) := by decide +kernel
theorem dX3_requireTurn_14 : decode cX3_requireTurn 14 = .ok (.getfield 255, 3) := by decide +kernel
theorem dX3_requireTurn_17 : decode cX3_requireTurn 17 = .ok (.iload_n 1, 1) := by decide +kernel
theorem dX3_requireTurn_18 : decode cX3_requireTurn 18 = .ok (.iaload, 1) := by decide +kernel
theorem dX3_requireTurn_19 : decode cX3_requireTurn 19 = .ok (.aload_n 0, 1) := by decide +kernel
theorem dX3_requireTurn_20 : decode cX3_requireTurn 20 = .ok (.getfield 12, 3) := by decide +kernel
theorem dX3_requireTurn_23 : decode cX3_requireTurn 23 = .ok (.getfield 258, 3) := by decide +kernel
theorem dX3_requireTurn_26 : decode cX3_requireTurn 26 = .ok (.iload_n 2, 1) := by decide +kernel
theorem dX3_requireTurn_27 : decode cX3_requireTurn 27 = .ok (.iaload, 1) := by decide +kernel
theorem dX3_requireTurn_28 : decode cX3_requireTurn 28 = .ok (.if_icmp .eq 14, 3) := by decide +kernel
theorem dX3_requireTurn_31 : decode cX3_requireTurn 31 = .ok (.new 67, 3) := by decide +kernel
theorem dX3_requireTurn_34 : decode cX3_requireTurn 34 = .ok (.dup, 1) := by decide +kernel
theorem dX3_requireTurn_35 : decode cX3_requireTurn 35 = .ok (.ldc_w 261, 3) := by decide +kernel
theorem dX3_requireTurn_38 : decode cX3_requireTurn 38 = .ok (.invokespecial 71, 3) := by decide +kernel
theorem dX3_requireTurn_41 : decode cX3_requireTurn 41 = .ok (.athrow, 1) := by decide +kernel
theorem dX3_requireTurn_42 : decode cX3_requireTurn 42 = .ok (.return_, 1) := by decide +kernel
theorem dX3_requireKind_0 : decode cX3_requireKind 0 = .ok (.iload_n 1, 1) := by decide +kernel
theorem dX3_requireKind_1 : decode cX3_requireKind 1 = .ok (.ifCond .lt 8, 3) := by decide +kernel
theorem dX3_requireKind_4 : decode cX3_requireKind 4 = .ok (.iload_n 1, 1) := by decide +kernel
theorem dX3_requireKind_5 : decode cX3_requireKind 5 = .ok (.iconst 4, 1) := by decide +kernel
theorem dX3_requireKind_6 : decode cX3_requireKind 6 = .ok (.if_icmp .lt 14, 3) := by decide +kernel
theorem dX3_requireKind_9 : decode cX3_requireKind 9 = .ok (.new 204, 3) := by decide +kernel
theorem dX3_requireKind_12 : decode cX3_requireKind 12 = .ok (.dup, 1) := by decide +kernel
theorem dX3_requireKind_13 : decode cX3_requireKind 13 = .ok (.ldc_w 263, 3) := by decide +kernel
theorem dX3_requireKind_16 : decode cX3_requireKind 16 = .ok (.invokespecial 208, 3) := by decide +kernel
theorem dX3_requireKind_19 : decode cX3_requireKind 19 = .ok (.athrow, 1) := by decide +kernel
theorem dX3_requireKind_20 : decode cX3_requireKind 20 = .ok (.return_, 1) := by decide +kernel
theorem dX3_requireWeight_0 : decode cX3_requireWeight 0 = .ok (.iload_n 1, 1) := by decide +kernel
theorem dX3_requireWeight_1 : decode cX3_requireWeight 1 = .ok (.iconst 1, 1) := by decide +kernel
theorem dX3_requireWeight_2 : decode cX3_requireWeight 2 = .ok (.if_icmp .lt 10, 3) := by decide +kernel
theorem dX3_requireWeight_5 : decode cX3_requireWeight 5 = .ok (.iload_n 1, 1) := by decide +kernel
theorem dX3_requireWeight_6 : decode cX3_requireWeight 6 = .ok (.sipush 10000, 3) := by decide +kernel
theorem dX3_requireWeight_9 : decode cX3_requireWeight 9 = .ok (.if_icmp .le 14, 3) := by decide +kernel
theorem dX3_requireWeight_12 : decode cX3_requireWeight 12 = .ok (.new 67, 3) := by decide +kernel
theorem dX3_requireWeight_15 : decode cX3_requireWeight 15 = .ok (.dup, 1) := by decide +kernel
theorem dX3_requireWeight_16 : decode cX3_requireWeight 16 = .ok (.ldc_w 265, 3) := by decide +kernel
theorem dX3_requireWeight_19 : decode cX3_requireWeight 19 = .ok (.invokespecial 71, 3) := by decide +kernel
theorem dX3_requireWeight_22 : decode cX3_requireWeight 22 = .ok (.athrow, 1) := by decide +kernel
theorem dX3_requireWeight_23 : decode cX3_requireWeight 23 = .ok (.return_, 1) := by decide +kernel
theorem dX3_requireHierarchy_0 : decode cX3_requireHierarchy 0 = .ok (.aload_n 0, 1) := by decide +kernel
theorem dX3_requireHierarchy_1 : decode cX3_requireHierarchy 1 = .ok (.getfield 21, 3) := by decide +kernel
theorem dX3_requireHierarchy_4 : decode cX3_requireHierarchy 4 = .ok (.getfield 80, 3) := by decide +kernel
theorem dX3_requireHierarchy_7 : decode cX3_requireHierarchy 7 = .ok (.ifCond .ne 14, 3) := by decide +kernel
theorem dX3_requireHierarchy_10 : decode cX3_requireHierarchy 10 = .ok (.new 56, 3) := by decide +kernel
theorem dX3_requireHierarchy_13 : decode cX3_requireHierarchy 13 = .ok (.dup, 1) := by decide +kernel
theorem dX3_requireHierarchy_14 : decode cX3_requireHierarchy 14 = .ok (.ldc_w 267, 3) := by decide +kernel
theorem dX3_requireHierarchy_17 : decode cX3_requireHierarchy 17 = .ok (.invokespecial 60, 3) := by decide +kernel
theorem dX3_requireHierarchy_20 : decode cX3_requireHierarchy 20 = .ok (.athrow, 1) := by decide +kernel
theorem dX3_requireHierarchy_21 : decode cX3_requireHierarchy 21 = .ok (.return_, 1) := by decide +kernel
theorem dX3_searchFrom_0 : decode cX3_searchFrom 0 = .ok (.aload_n 0, 1) := by decide +kernel
theorem dX3_searchFrom_1 : decode cX3_searchFrom 1 = .ok (.getfield 36, 3) := by decide +kernel
theorem dX3_searchFrom_4 : decode cX3_searchFrom 4 = .ok (.ldc 171, 2) := by decide +kernel
theorem dX3_searchFrom_6 : decode cX3_searchFrom 6 = .ok (.invokestatic 172, 3) := by decide +kernel
theorem dX3_searchFrom_9 : decode cX3_searchFrom 9 = .ok (.aload_n 0, 1) := by decide +kernel
theorem dX3_searchFrom_10 : decode cX3_searchFrom 10 = .ok (.getfield 12, 3) := by decide +kernel
theorem dX3_searchFrom_13 : decode cX3_searchFrom 13 = .ok (.getfield 269, 3) := by decide +kernel
theorem dX3_searchFrom_16 : decode cX3_searchFrom 16 = .ok (.iload_n 1, 1) := by decide +kernel
theorem dX3_searchFrom_17 : decode cX3_searchFrom 17 = .ok (.laload, 1) := by decide +kernel
theorem dX3_searchFrom_18 : decode cX3_searchFrom 18 = .ok (.aload_n 0, 1) := by decide +kernel
theorem dX3_searchFrom_19 : decode cX3_searchFrom 19 = .ok (.getfield 12, 3) := by decide +kernel
theorem dX3_searchFrom_22 : decode cX3_searchFrom 22 = .ok (.getfield 127, 3) := by decide +kernel
theorem dX3_searchFrom_25 : decode cX3_searchFrom 25 = .ok (.land, 1) := by decide +kernel
theorem dX3_searchFrom_26 : decode cX3_searchFrom 26 = .ok (.lstore_n 2, 1) := by decide +kernel
theorem dX3_searchFrom_27 : decode cX3_searchFrom 27 = .ok (.iconst 0, 1) := by decide +kernel
theorem dX3_searchFrom_28 : decode cX3_searchFrom 28 = .ok (.istore 4, 2) := by decide +kernel
theorem dX3_searchFrom_30 : decode cX3_searchFrom 30 = .ok (.iload 4, 2) := by decide +kernel
theorem dX3_searchFrom_32 : decode cX3_searchFrom 32 = .ok (.aload_n 0, 1) := by decide +kernel
theorem dX3_searchFrom_33 : decode cX3_searchFrom 33 = .ok (.getfield 12, 3) := by decide +kernel
theorem dX3_searchFrom_36 : decode cX3_searchFrom 36 = .ok (.getfield 75, 3) := by decide +kernel
theorem dX3_searchFrom_39 : decode cX3_searchFrom 39 = .ok (.if_icmp .ge 34, 3) := by decide +kernel
theorem dX3_searchFrom_42 : decode cX3_searchFrom 42 = .ok (.lload_n 2, 1) := by decide +kernel
theorem dX3_searchFrom_43 : decode cX3_searchFrom 43 = .ok (.iload 4, 2) := by decide +kernel
theorem dX3_searchFrom_45 : decode cX3_searchFrom 45 = .ok (.invokestatic 131, 3) := by decide +kernel
theorem dX3_searchFrom_48 : decode cX3_searchFrom 48 = .ok (.ifCond .eq 19, 3) := by decide +kernel
theorem dX3_searchFrom_51 : decode cX3_searchFrom 51 = .ok (.aload_n 0, 1) := by decide +kernel
theorem dX3_searchFrom_52 : decode cX3_searchFrom 52 = .ok (.getfield 36, 3) := by decide +kernel
theorem dX3_searchFrom_55 : decode cX3_searchFrom 55 = .ok (.iload 4, 2) := by decide +kernel
theorem dX3_searchFrom_57 : decode cX3_searchFrom 57 = .ok (.aload_n 0, 1) := by decide +kernel
theorem dX3_searchFrom_58 : decode cX3_searchFrom 58 = .ok (.getfield 12, 3) := by decide +kernel
theorem dX3_searchFrom_61 : decode cX3_searchFrom 61 = .ok (.iload 4, 2) := by decide +kernel
theorem dX3_searchFrom_63 : decode cX3_searchFrom 63 = .ok (.invokevirtual 198, 3) := by decide +kernel
theorem dX3_searchFrom_66 : decode cX3_searchFrom 66 = .ok (.iastore, 1) := by decide +kernel
theorem dX3_searchFrom_67 : decode cX3_searchFrom 67 = .ok (.iinc 4 1, 3) := by decide +kernel
theorem dX3_searchFrom_70 : decode cX3_searchFrom 70 = .ok (.goto (-40), 3) := by decide +kernel
theorem dX3_searchFrom_73 : decode cX3_searchFrom 73 = .ok (.aload_n 0, 1) := by decide +kernel
theorem dX3_searchFrom_74 : decode cX3_searchFrom 74 = .ok (.invokevirtual 178, 3) := by decide +kernel
theorem dX3_searchFrom_77 : decode cX3_searchFrom 77 = .ok (.aload_n 0, 1) := by decide +kernel
theorem dX3_searchFrom_78 : decode cX3_searchFrom 78 = .ok (.getfield 40, 3) := by decide +kernel
theorem dX3_searchFrom_81 : decode cX3_searchFrom 81 = .ok (.iload_n 1, 1) := by decide +kernel
theorem dX3_searchFrom_82 : decode cX3_searchFrom 82 = .ok (.iconst 0, 1) := by decide +kernel
theorem dX3_searchFrom_83 : decode cX3_searchFrom 83 = .ok (.iastore, 1) := by decide +kernel
theorem dX3_searchFrom_84 : decode cX3_searchFrom 84 = .ok (.return_, 1) := by decide +kernel
theorem dX3_spreadToJunctions_0 : decode cX3_spreadToJunctions 0 = .ok (.aload_n 0, 1) := by decide +kernel
theorem dX3_spreadToJunctions_1 : decode cX3_spreadToJunctions 1 = .ok (.getfield 21, 3) := by decide +kernel
theorem dX3_spreadToJunctions_4 : decode cX3_spreadToJunctions 4 = .ok (.aload_n 0, 1) := by decide +kernel
theorem dX3_spreadToJunctions_5 : decode cX3_spreadToJunctions 5 = .ok (.getfield 36, 3) := by decide +kernel
theorem dX3_spreadToJunctions_8 : decode cX3_spreadToJunctions 8 = .ok (.invokevirtual 272, 3) := by decide +kernel
theorem dX3_spreadToJunctions_11 : decode cX3_spreadToJunctions 11 = .ok (.aload_n 0, 1) := by decide +kernel
theorem dX3_spreadToJunctions_12 : decode cX3_spreadToJunctions 12 = .ok (.getfield 40, 3) := by decide +kernel
theorem dX3_spreadToJunctions_15 : decode cX3_spreadToJunctions 15 = .ok (.ldc 171, 2) := by decide +kernel
theorem dX3_spreadToJunctions_17 : decode cX3_spreadToJunctions 17 = .ok (.invokestatic 172, 3) := by decide +kernel
theorem dX3_spreadToJunctions_20 : decode cX3_spreadToJunctions 20 = .ok (.iconst 0, 1) := by decide +kernel
theorem dX3_spreadToJunctions_21 : decode cX3_spreadToJunctions 21 = .ok (.istore_n 1, 1) := by decide +kernel
theorem dX3_spreadToJunctions_22 : decode cX3_spreadToJunctions 22 = .ok (.iload_n 1, 1) := by decide +kernel
theorem dX3_spreadToJunctions_23 : decode cX3_spreadToJunctions 23 = .ok (.aload_n 0, 1) := by decide +kernel
theorem dX3_spreadToJunctions_24 : decode cX3_spreadToJunctions 24 = .ok (.getfield 12, 3) := by decide +kernel
theorem dX3_spreadToJunctions_27 : decode cX3_spreadToJunctions 27 = .ok (.getfield 75, 3) := by decide +kernel
theorem dX3_spreadToJunctions_30 : decode cX3_spreadToJunctions 30 = .ok (.if_icmp .ge 40, 3) := by decide +kernel
theorem dX3_spreadToJunctions_33 : decode cX3_spreadToJunctions 33 = .ok (.aload_n 0, 1) := by decide +kernel
theorem dX3_spreadToJunctions_34 : decode cX3_spreadToJunctions 34 = .ok (.getfield 12, 3) := by decide +kernel
theorem dX3_spreadToJunctions_37 : decode cX3_spreadToJunctions 37 = .ok (.getfield 255, 3) := by decide +kernel
theorem dX3_spreadToJunctions_40 : decode cX3_spreadToJunctions 40 = .ok (.iload_n 1, 1) := by decide +kernel
theorem dX3_spreadToJunctions_41 : decode cX3_spreadToJunctions 41 = .ok (.iaload, 1) := by decide +kernel
theorem dX3_spreadToJunctions_42 : decode cX3_spreadToJunctions 42 = .ok (.istore_n 2, 1) := by decide +kernel
theorem dX3_spreadToJunctions_43 : decode cX3_spreadToJunctions 43 = .ok (.aload_n 0, 1) := by decide +kernel
theorem dX3_spreadToJunctions_44 : decode cX3_spreadToJunctions 44 = .ok (.getfield 40, 3) := by decide +kernel
theorem dX3_spreadToJunctions_47 : decode cX3_spreadToJunctions 47 = .ok (.iload_n 2, 1) := by decide +kernel
theorem dX3_spreadToJunctions_48 : decode cX3_spreadToJunctions 48 = .ok (.aload_n 0, 1) := by decide +kernel
theorem dX3_spreadToJunctions_49 : decode cX3_spreadToJunctions 49 = .ok (.getfield 40, 3) := by decide +kernel
theorem dX3_spreadToJunctions_52 : decode cX3_spreadToJunctions 52 = .ok (.iload_n 2, 1) := by decide +kernel
theorem dX3_spreadToJunctions_53 : decode cX3_spreadToJunctions 53 = .ok (.iaload, 1) := by decide +kernel
theorem dX3_spreadToJunctions_54 : decode cX3_spreadToJunctions 54 = .ok (.aload_n 0, 1) := by decide +kernel
theorem dX3_spreadToJunctions_55 : decode cX3_spreadToJunctions 55 = .ok (.getfield 36, 3) := by decide +kernel
theorem dX3_spreadToJunctions_58 : decode cX3_spreadToJunctions 58 = .ok (.iload_n 1, 1) := by decide +kernel
theorem dX3_spreadToJunctions_59 : decode cX3_spreadToJunctions 59 = .ok (.iaload, 1) := by decide +kernel
theorem dX3_spreadToJunctions_60 : decode cX3_spreadToJunctions 60 = .ok (.invokestatic 276, 3) := by decide +kernel
theorem dX3_spreadToJunctions_63 : decode cX3_spreadToJunctions 63 = .ok (.iastore, 1) := by decide +kernel
theorem dX3_spreadToJunctions_64 : decode cX3_spreadToJunctions 64 = .ok (.iinc 1 1, 3) := by decide +kernel
theorem dX3_spreadToJunctions_67 : decode cX3_spreadToJunctions 67 = .ok (.goto (-45), 3) := by decide +kernel
theorem dX3_spreadToJunctions_70 : decode cX3_spreadToJunctions 70 = .ok (.return_, 1) := by decide +kernel
theorem dX3_searchTo_0 : decode cX3_searchTo 0 = .ok (.aload_n 0, 1) := by decide +kernel
theorem dX3_searchTo_1 : decode cX3_searchTo 1 = .ok (.getfield 36, 3) := by decide +kernel
theorem dX3_searchTo_4 : decode cX3_searchTo 4 = .ok (.ldc 171, 2) := by decide +kernel
theorem dX3_searchTo_6 : decode cX3_searchTo 6 = .ok (.invokestatic 172, 3) := by decide +kernel
theorem dX3_searchTo_9 : decode cX3_searchTo 9 = .ok (.aload_n 0, 1) := by decide +kernel
theorem dX3_searchTo_10 : decode cX3_searchTo 10 = .ok (.getfield 12, 3) := by decide +kernel
theorem dX3_searchTo_13 : decode cX3_searchTo 13 = .ok (.getfield 281, 3) := by decide +kernel
theorem dX3_searchTo_16 : decode cX3_searchTo 16 = .ok (.iload_n 1, 1) := by decide +kernel
theorem dX3_searchTo_17 : decode cX3_searchTo 17 = .ok (.laload, 1) := by decide +kernel
theorem dX3_searchTo_18 : decode cX3_searchTo 18 = .ok (.aload_n 0, 1) := by decide +kernel
theorem dX3_searchTo_19 : decode cX3_searchTo 19 = .ok (.getfield 12, 3) := by decide +kernel
theorem dX3_searchTo_22 : decode cX3_searchTo 22 = .ok (.getfield 127, 3) := by decide +kernel
theorem dX3_searchTo_25 : decode cX3_searchTo 25 = .ok (.land, 1) := by decide +kernel
theorem dX3_searchTo_26 : decode cX3_searchTo 26 = .ok (.lstore_n 2, 1) := by decide +kernel
theorem dX3_searchTo_27 : decode cX3_searchTo 27 = .ok (.iconst 0, 1) := by decide +kernel
theorem dX3_searchTo_28 : decode cX3_searchTo 28 = .ok (.istore 4, 2) := by decide +kernel
theorem dX3_searchTo_30 : decode cX3_searchTo 30 = .ok (.iload 4, 2) := by decide +kernel
theorem dX3_searchTo_32 : decode cX3_searchTo 32 = .ok (.aload_n 0, 1) := by decide +kernel
theorem dX3_searchTo_33 : decode cX3_searchTo 33 = .ok (.getfield 12, 3) := by decide +kernel
theorem dX3_searchTo_36 : decode cX3_searchTo 36 = .ok (.getfield 75, 3) := by decide +kernel
theorem dX3_searchTo_39 : decode cX3_searchTo 39 = .ok (.if_icmp .ge 26, 3) := by decide +kernel
theorem dX3_searchTo_42 : decode cX3_searchTo 42 = .ok (.lload_n 2, 1) := by decide +kernel
theorem dX3_searchTo_43 : decode cX3_searchTo 43 = .ok (.iload 4, 2) := by decide +kernel
theorem dX3_searchTo_45 : decode cX3_searchTo 45 = .ok (.invokestatic 131, 3) := by decide +kernel
theorem dX3_searchTo_48 : decode cX3_searchTo 48 = .ok (.ifCond .eq 11, 3) := by decide +kernel
theorem dX3_searchTo_51 : decode cX3_searchTo 51 = .ok (.aload_n 0, 1) := by decide +kernel
theorem dX3_searchTo_52 : decode cX3_searchTo 52 = .ok (.getfield 36, 3) := by decide +kernel
theorem dX3_searchTo_55 : decode cX3_searchTo 55 = .ok (.iload 4, 2) := by decide +kernel
theorem dX3_searchTo_57 : decode cX3_searchTo 57 = .ok (.iconst 0, 1) := by decide +kernel
theorem dX3_searchTo_58 : decode cX3_searchTo 58 = .ok (.iastore, 1) := by decide +kernel
theorem dX3_searchTo_59 : decode cX3_searchTo 59 = .ok (.iinc 4 1, 3) := by decide +kernel
theorem dX3_searchTo_62 : decode cX3_searchTo 62 = .ok (.goto (-32), 3) := by decide +kernel
theorem dX3_searchTo_65 : decode cX3_searchTo 65 = .ok (.aload_n 0, 1) := by decide +kernel
theorem dX3_searchTo_66 : decode cX3_searchTo 66 = .ok (.getfield 21, 3) := by decide +kernel
theorem dX3_searchTo_69 : decode cX3_searchTo 69 = .ok (.aload_n 0, 1) := by decide +kernel
theorem dX3_searchTo_70 : decode cX3_searchTo 70 = .ok (.getfield 36, 3) := by decide +kernel
theorem dX3_searchTo_73 : decode cX3_searchTo 73 = .ok (.invokevirtual 284, 3) := by decide +kernel
theorem dX3_searchTo_76 : decode cX3_searchTo 76 = .ok (.return_, 1) := by decide +kernel
theorem dX3_foundCost_0 : decode cX3_foundCost 0 = .ok (.aload_n 0, 1) := by decide +kernel
theorem dX3_foundCost_1 : decode cX3_foundCost 1 = .ok (.getfield 40, 3) := by decide +kernel
theorem dX3_foundCost_4 : decode cX3_foundCost 4 = .ok (.iload_n 1, 1) := by decide +kernel
theorem dX3_foundCost_5 : decode cX3_foundCost 5 = .ok (.iaload, 1) := by decide +kernel
theorem dX3_foundCost_6 : decode cX3_foundCost 6 = .ok (.invokestatic 165, 3) := by decide +kernel
theorem dX3_foundCost_9 : decode cX3_foundCost 9 = .ok (.ireturn, 1) := by decide +kernel
theorem dX3_costBetween_0 : decode cX3_costBetween 0 = .ok (.aload_n 0, 1) := by decide +kernel
theorem dX3_costBetween_1 : decode cX3_costBetween 1 = .ok (.iload_n 1, 1) := by decide +kernel
theorem dX3_costBetween_2 : decode cX3_costBetween 2 = .ok (.invokevirtual 211, 3) := by decide +kernel
theorem dX3_costBetween_5 : decode cX3_costBetween 5 = .ok (.aload_n 0, 1) := by decide +kernel
theorem dX3_costBetween_6 : decode cX3_costBetween 6 = .ok (.iload_n 2, 1) := by decide +kernel
theorem dX3_costBetween_7 : decode cX3_costBetween 7 = .ok (.invokevirtual 181, 3) := by decide +kernel
theorem dX3_costBetween_10 : decode cX3_costBetween 10 = .ok (.ireturn, 1) := by decide +kernel
theorem dX3_bestFirstRoad_0 : decode cX3_bestFirstRoad 0 = .ok (.aload_n 0, 1) := by decide +kernel
theorem dX3_bestFirstRoad_1 : decode cX3_bestFirstRoad 1 = .ok (.getfield 12, 3) := by decide +kernel
theorem dX3_bestFirstRoad_4 : decode cX3_bestFirstRoad 4 = .ok (.getfield 269, 3) := by decide +kernel
theorem dX3_bestFirstRoad_7 : decode cX3_bestFirstRoad 7 = .ok (.iload_n 1, 1) := by decide +kernel
theorem dX3_bestFirstRoad_8 : decode cX3_bestFirstRoad 8 = .ok (.laload, 1) := by decide +kernel
theorem dX3_bestFirstRoad_9 : decode cX3_bestFirstRoad 9 = .ok (.aload_n 0, 1) := by decide +kernel
theorem dX3_bestFirstRoad_10 : decode cX3_bestFirstRoad 10 = .ok (.getfield 12, 3) := by decide +kernel
theorem dX3_bestFirstRoad_13 : decode cX3_bestFirstRoad 13 = .ok (.getfield 127, 3) := by decide +kernel
theorem dX3_bestFirstRoad_16 : decode cX3_bestFirstRoad 16 = .ok (.land, 1) := by decide +kernel
theorem dX3_bestFirstRoad_17 : decode cX3_bestFirstRoad 17 = .ok (.lstore_n 2, 1) := by decide +kernel
theorem dX3_bestFirstRoad_18 : decode cX3_bestFirstRoad 18 = .ok (.iconst (-1), 1) := by decide +kernel
theorem dX3_bestFirstRoad_19 : decode cX3_bestFirstRoad 19 = .ok (.istore 4, 2) := by decide +kernel
theorem dX3_bestFirstRoad_21 : decode cX3_bestFirstRoad 21 = .ok (.ldc 171, 2) := by decide +kernel
theorem dX3_bestFirstRoad_23 : decode cX3_bestFirstRoad 23 = .ok (.istore 5, 2) := by decide +kernel
theorem dX3_bestFirstRoad_25 : decode cX3_bestFirstRoad 25 = .ok (.iconst 0, 1) := by decide +kernel
theorem dX3_bestFirstRoad_26 : decode cX3_bestFirstRoad 26 = .ok (.istore 6, 2) := by decide +kernel
theorem dX3_bestFirstRoad_28 : decode cX3_bestFirstRoad 28 = .ok (.iload 6, 2) := by decide +kernel
theorem dX3_bestFirstRoad_30 : decode cX3_bestFirstRoad 30 = .ok (.aload_n 0, 1) := by decide +kernel
theorem dX3_bestFirstRoad_31 : decode cX3_bestFirstRoad 31 = .ok (.getfield 12, 3) := by decide +kernel
theorem dX3_bestFirstRoad_34 : decode cX3_bestFirstRoad 34 = .ok (.getfield 75, 3) := by decide +kernel
theorem dX3_bestFirstRoad_37 : decode cX3_bestFirstRoad 37 = .ok (.if_icmp .ge 52, 3) := by decide +kernel
theorem dX3_bestFirstRoad_40 : decode cX3_bestFirstRoad 40 = .ok (.aload_n 0, 1) := by decide +kernel
theorem dX3_bestFirstRoad_41 : decode cX3_bestFirstRoad 41 = .ok (.getfield 12, 3) := by decide +kernel
theorem dX3_bestFirstRoad_44 : decode cX3_bestFirstRoad 44 = .ok (.iload 6, 2) := by decide +kernel
theorem dX3_bestFirstRoad_46 : decode cX3_bestFirstRoad 46 = .ok (.invokevirtual 198, 3) := by decide +kernel
theorem dX3_bestFirstRoad_49 : decode cX3_bestFirstRoad 49 = .ok (.aload_n 0, 1) := by decide +kernel
theorem dX3_bestFirstRoad_50 : decode cX3_bestFirstRoad 50 = .ok (.getfield 36, 3) := by decide +kernel
theorem dX3_bestFirstRoad_53 : decode cX3_bestFirstRoad 53 = .ok (.iload 6, 2) := by decide +kernel
theorem dX3_bestFirstRoad_55 : decode cX3_bestFirstRoad 55 = .ok (.iaload, 1) := by decide +kernel
theorem dX3_bestFirstRoad_56 : decode cX3_bestFirstRoad 56 = .ok (.iadd, 1) := by decide +kernel
theorem dX3_bestFirstRoad_57 : decode cX3_bestFirstRoad 57 = .ok (.istore 7, 2) := by decide +kernel
theorem dX3_bestFirstRoad_59 : decode cX3_bestFirstRoad 59 = .ok (.lload_n 2, 1) := by decide +kernel
theorem dX3_bestFirstRoad_60 : decode cX3_bestFirstRoad 60 = .ok (.iload 6, 2) := by decide +kernel
theorem dX3_bestFirstRoad_62 : decode cX3_bestFirstRoad 62 = .ok (.invokestatic 131, 3) := by decide +kernel
theorem dX3_bestFirstRoad_65 : decode cX3_bestFirstRoad 65 = .ok (.ifCond .eq 18, 3) := by decide +kernel
theorem dX3_bestFirstRoad_68 : decode cX3_bestFirstRoad 68 = .ok (.iload 7, 2) := by decide +kernel
theorem dX3_bestFirstRoad_70 : decode cX3_bestFirstRoad 70 = .ok (.iload 5, 2) := by decide +kernel
theorem dX3_bestFirstRoad_72 : decode cX3_bestFirstRoad 72 = .ok (.if_icmp .ge 11, 3) := by decide +kernel
theorem dX3_bestFirstRoad_75 : decode cX3_bestFirstRoad 75 = .ok (.iload 6, 2) := by decide +kernel
theorem dX3_bestFirstRoad_77 : decode cX3_bestFirstRoad 77 = .ok (.istore 4, 2) := by decide +kernel
theorem dX3_bestFirstRoad_79 : decode cX3_bestFirstRoad 79 = .ok (.iload 7, 2) := by decide +kernel
theorem dX3_bestFirstRoad_81 : decode cX3_bestFirstRoad 81 = .ok (.istore 5, 2) := by decide +kernel
theorem dX3_bestFirstRoad_83 : decode cX3_bestFirstRoad 83 = .ok (.iinc 6 1, 3) := by decide +kernel
theorem dX3_bestFirstRoad_86 : decode cX3_bestFirstRoad 86 = .ok (.goto (-58), 3) := by decide +kernel
theorem dX3_bestFirstRoad_89 : decode cX3_bestFirstRoad 89 = .ok (.iload 4, 2) := by decide +kernel
theorem dX3_bestFirstRoad_91 : decode cX3_bestFirstRoad 91 = .ok (.ireturn, 1) := by decide +kernel
theorem dX3_writePath_0 : decode cX3_writePath 0 = .ok (.iconst 0, 1) := by decide +kernel
theorem dX3_writePath_1 : decode cX3_writePath 1 = .ok (.istore_n 2, 1) := by decide +kernel
theorem dX3_writePath_2 : decode cX3_writePath 2 = .ok (.iload_n 1, 1) := by decide +kernel
theorem dX3_writePath_3 : decode cX3_writePath 3 = .ok (.istore_n 3, 1) := by decide +kernel
theorem dX3_writePath_4 : decode cX3_writePath 4 = .ok (.iload_n 3, 1) := by decide +kernel
theorem dX3_writePath_5 : decode cX3_writePath 5 = .ok (.ifCond .lt 28, 3) := by decide +kernel
theorem dX3_writePath_8 : decode cX3_writePath 8 = .ok (.iload_n 2, 1) := by decide +kernel
theorem dX3_writePath_9 : decode cX3_writePath 9 = .ok (.bipush 64, 2) := by decide +kernel
theorem dX3_writePath_11 : decode cX3_writePath 11 = .ok (.if_icmp .ge 22, 3) := by decide +kernel
theorem dX3_writePath_14 : decode cX3_writePath 14 = .ok (.aload_n 0, 1) := by decide +kernel
theorem dX3_writePath_15 : decode cX3_writePath 15 = .ok (.getfield 43, 3) := by decide +kernel
theorem dX3_writePath_18 : decode cX3_writePath 18 = .ok (.iload_n 2, 1) := by decide +kernel
theorem dX3_writePath_19 : decode cX3_writePath 19 = .ok (.iload_n 3, 1) := by decide +kernel
theorem dX3_writePath_20 : decode cX3_writePath 20 = .ok (.iastore, 1) := by decide +kernel
theorem dX3_writePath_21 : decode cX3_writePath 21 = .ok (.iinc 2 1, 3) := by decide +kernel
theorem dX3_writePath_24 : decode cX3_writePath 24 = .ok (.aload_n 0, 1) := by decide +kernel
theorem dX3_writePath_25 : decode cX3_writePath 25 = .ok (.iload_n 3, 1) := by decide +kernel
theorem dX3_writePath_26 : decode cX3_writePath 26 = .ok (.invokevirtual 287, 3) := by decide +kernel
theorem dX3_writePath_29 : decode cX3_writePath 29 = .ok (.istore_n 3, 1) := by decide +kernel
theorem dX3_writePath_30 : decode cX3_writePath 30 = .ok (.goto (-26), 3) := by decide +kernel
theorem dX3_writePath_33 : decode cX3_writePath 33 = .ok (.iload_n 2, 1) := by decide +kernel
theorem dX3_writePath_34 : decode cX3_writePath 34 = .ok (.ireturn, 1) := by decide +kernel
theorem dX3_bestNextRoad_0 : decode cX3_bestNextRoad 0 = .ok (.aload_n 0, 1) := by decide +kernel
theorem dX3_bestNextRoad_1 : decode cX3_bestNextRoad 1 = .ok (.getfield 12, 3) := by decide +kernel
theorem dX3_bestNextRoad_4 : decode cX3_bestNextRoad 4 = .ok (.iload_n 1, 1) := by decide +kernel
theorem dX3_bestNextRoad_5 : decode cX3_bestNextRoad 5 = .ok (.invokevirtual 290, 3) := by decide +kernel
theorem dX3_bestNextRoad_8 : decode cX3_bestNextRoad 8 = .ok (.lstore_n 2, 1) := by decide +kernel
theorem dX3_bestNextRoad_9 : decode cX3_bestNextRoad 9 = .ok (.iconst 0, 1) := by decide +kernel
theorem dX3_bestNextRoad_10 : decode cX3_bestNextRoad 10 = .ok (.istore 4, 2) := by decide +kernel
theorem dX3_bestNextRoad_12 : decode cX3_bestNextRoad 12 = .ok (.iload 4, 2) := by decide +kernel
theorem dX3_bestNextRoad_14 : decode cX3_bestNextRoad 14 = .ok (.aload_n 0, 1) := by decide +kernel
theorem dX3_bestNextRoad_15 : decode cX3_bestNextRoad 15 = .ok (.getfield 12, 3) := by decide +kernel
theorem dX3_bestNextRoad_18 : decode cX3_bestNextRoad 18 = .ok (.getfield 75, 3) := by decide +kernel
theorem dX3_bestNextRoad_21 : decode cX3_bestNextRoad 21 = .ok (.if_icmp .ge 48, 3) := by decide +kernel
theorem dX3_bestNextRoad_24 : decode cX3_bestNextRoad 24 = .ok (.lload_n 2, 1) := by decide +kernel
theorem dX3_bestNextRoad_25 : decode cX3_bestNextRoad 25 = .ok (.iload 4, 2) := by decide +kernel
theorem dX3_bestNextRoad_27 : decode cX3_bestNextRoad 27 = .ok (.invokestatic 131, 3) := by decide +kernel
theorem dX3_bestNextRoad_30 : decode cX3_bestNextRoad 30 = .ok (.ifCond .eq 33, 3) := by decide +kernel
theorem dX3_bestNextRoad_33 : decode cX3_bestNextRoad 33 = .ok (.aload_n 0, 1) := by decide +kernel
theorem dX3_bestNextRoad_34 : decode cX3_bestNextRoad 34 = .ok (.getfield 12, 3) := by decide +kernel
theorem dX3_bestNextRoad_37 : decode cX3_bestNextRoad 37 = .ok (.iload_n 1, 1) := by decide +kernel
theorem dX3_bestNextRoad_38 : decode cX3_bestNextRoad 38 = .ok (.iload 4, 2) := by decide +kernel
theorem dX3_bestNextRoad_40 : decode cX3_bestNextRoad 40 = .ok (.invokevirtual 294, 3) := by decide +kernel
theorem dX3_bestNextRoad_43 : decode cX3_bestNextRoad 43 = .ok (.aload_n 0, 1) := by decide +kernel
theorem dX3_bestNextRoad_44 : decode cX3_bestNextRoad 44 = .ok (.getfield 36, 3) := by decide +kernel
theorem dX3_bestNextRoad_47 : decode cX3_bestNextRoad 47 = .ok (.iload 4, 2) := by decide +kernel
theorem dX3_bestNextRoad_49 : decode cX3_bestNextRoad 49 = .ok (.iaload, 1) := by decide +kernel
theorem dX3_bestNextRoad_50 : decode cX3_bestNextRoad 50 = .ok (.iadd, 1) := by decide +kernel
theorem dX3_bestNextRoad_51 : decode cX3_bestNextRoad 51 = .ok (.aload_n 0, 1) := by decide +kernel
theorem dX3_bestNextRoad_52 : decode cX3_bestNextRoad 52 = .ok (.getfield 36, 3) := by decide +kernel
theorem dX3_bestNextRoad_55 : decode cX3_bestNextRoad 55 = .ok (.iload_n 1, 1) := by decide +kernel
theorem dX3_bestNextRoad_56 : decode cX3_bestNextRoad 56 = .ok (.iaload, 1) := by decide +kernel
theorem dX3_bestNextRoad_57 : decode cX3_bestNextRoad 57 = .ok (.if_icmp .ne 6, 3) := by decide +kernel
theorem dX3_bestNextRoad_60 : decode cX3_bestNextRoad 60 = .ok (.iload 4, 2) := by decide +kernel
theorem dX3_bestNextRoad_62 : decode cX3_bestNextRoad 62 = .ok (.ireturn, 1) := by decide +kernel
theorem dX3_bestNextRoad_63 : decode cX3_bestNextRoad 63 = .ok (.iinc 4 1, 3) := by decide +kernel
theorem dX3_bestNextRoad_66 : decode cX3_bestNextRoad 66 = .ok (.goto (-54), 3) := by decide +kernel
theorem dX3_bestNextRoad_69 : decode cX3_bestNextRoad 69 = .ok (.iconst (-1), 1) := by decide +kernel
theorem dX3_bestNextRoad_70 : decode cX3_bestNextRoad 70 = .ok (.ireturn, 1) := by decide +kernel
theorem dX3_keepReached_0 : decode cX3_keepReached 0 = .ok (.aload_n 0, 1) := by decide +kernel
theorem dX3_keepReached_1 : decode cX3_keepReached 1 = .ok (.getfield 214, 3) := by decide +kernel
theorem dX3_keepReached_4 : decode cX3_keepReached 4 = .ok (.bipush 32, 2) := by decide +kernel
theorem dX3_keepReached_6 : decode cX3_keepReached 6 = .ok (.if_icmp .lt 4, 3) := by decide +kernel
theorem dX3_keepReached_9 : decode cX3_keepReached 9 = .ok (.return_, 1) := by decide +kernel
theorem dX3_keepReached_10 : decode cX3_keepReached 10 = .ok (.aload_n 0, 1) := by decide +kernel
theorem dX3_keepReached_11 : decode cX3_keepReached 11 = .ok (.getfield 214, 3) := by decide +kernel
theorem dX3_keepReached_14 : decode cX3_keepReached 14 = .ok (.istore_n 3, 1) := by decide +kernel
theorem dX3_keepReached_15 : decode cX3_keepReached 15 = .ok (.iload_n 3, 1) := by decide +kernel
theorem dX3_keepReached_16 : decode cX3_keepReached 16 = .ok (.ifCond .le 49, 3) := by decide +kernel
theorem dX3_keepReached_19 : decode cX3_keepReached 19 = .ok (.aload_n 0, 1) := by decide +kernel
theorem dX3_keepReached_20 : decode cX3_keepReached 20 = .ok (.getfield 49, 3) := by decide +kernel
theorem dX3_keepReached_23 : decode cX3_keepReached 23 = .ok (.iload_n 3, 1) := by decide +kernel
theorem dX3_keepReached_24 : decode cX3_keepReached 24 = .ok (.iconst 1, 1) := by decide +kernel
theorem dX3_keepReached_25 : decode cX3_keepReached 25 = .ok (.isub, 1) := by decide +kernel
theorem dX3_keepReached_26 : decode cX3_keepReached 26 = .ok (.iaload, 1) := by decide +kernel
theorem dX3_keepReached_27 : decode cX3_keepReached 27 = .ok (.iload_n 2, 1) := by decide +kernel
theorem dX3_keepReached_28 : decode cX3_keepReached 28 = .ok (.if_icmp .le 37, 3) := by decide +kernel
theorem dX3_keepReached_31 : decode cX3_keepReached 31 = .ok (.aload_n 0, 1) := by decide +kernel
theorem dX3_keepReached_32 : decode cX3_keepReached 32 = .ok (.getfield 46, 3) := by decide +kernel
theorem dX3_keepReached_35 : decode cX3_keepReached 35 = .ok (.iload_n 3, 1) := by decide +kernel
theorem dX3_keepReached_36 : decode cX3_keepReached 36 = .ok (.aload_n 0, 1) := by decide +kernel
theorem dX3_keepReached_37 : decode cX3_keepReached 37 = .ok (.getfield 46, 3) := by decide +kernel
theorem dX3_keepReached_40 : decode cX3_keepReached 40 = .ok (.iload_n 3, 1) := by decide +kernel
theorem dX3_keepReached_41 : decode cX3_keepReached 41 = .ok (.iconst 1, 1) := by decide +kernel
theorem dX3_keepReached_42 : decode cX3_keepReached 42 = .ok (.isub, 1) := by decide +kernel
theorem dX3_keepReached_43 : decode cX3_keepReached 43 = .ok (.iaload, 1) := by decide +kernel
theorem dX3_keepReached_44 : decode cX3_keepReached 44 = .ok (.iastore, 1) := by decide +kernel
theorem dX3_keepReached_45 : decode cX3_keepReached 45 = .ok (.aload_n 0, 1) := by decide +kernel
theorem dX3_keepReached_46 : decode cX3_keepReached 46 = .ok (.getfield 49, 3) := by decide +kernel
theorem dX3_keepReached_49 : decode cX3_keepReached 49 = .ok (.iload_n 3, 1) := by decide +kernel
theorem dX3_keepReached_50 : decode cX3_keepReached 50 = .ok (.aload_n 0, 1) := by decide +kernel
theorem dX3_keepReached_51 : decode cX3_keepReached 51 = .ok (.getfield 49, 3) := by decide +kernel
theorem dX3_keepReached_54 : decode cX3_keepReached 54 = .ok (.iload_n 3, 1) := by decide +kernel
theorem dX3_keepReached_55 : decode cX3_keepReached 55 = .ok (.iconst 1, 1) := by decide +kernel
theorem dX3_keepReached_56 : decode cX3_keepReached 56 = .ok (.isub, 1) := by decide +kernel
theorem dX3_keepReached_57 : decode cX3_keepReached 57 = .ok (.iaload, 1) := by decide +kernel
theorem dX3_keepReached_58 : decode cX3_keepReached 58 = .ok (.iastore, 1) := by decide +kernel
theorem dX3_keepReached_59 : decode cX3_keepReached 59 = .ok (.iinc 3 (-1), 3) := by decide +kernel
theorem dX3_keepReached_62 : decode cX3_keepReached 62 = .ok (.goto (-47), 3) := by decide +kernel
theorem dX3_keepReached_65 : decode cX3_keepReached 65 = .ok (.aload_n 0, 1) := by decide +kernel
theorem dX3_keepReached_66 : decode cX3_keepReached 66 = .ok (.getfield 46, 3) := by decide +kernel
theorem dX3_keepReached_69 : decode cX3_keepReached 69 = .ok (.iload_n 3, 1) := by decide +kernel
theorem dX3_keepReached_70 : decode cX3_keepReached 70 = .ok (.iload_n 1, 1) := by decide +kernel
theorem dX3_keepReached_71 : decode cX3_keepReached 71 = .ok (.iastore, 1) := by decide +kernel
theorem dX3_keepReached_72 : decode cX3_keepReached 72 = .ok (.aload_n 0, 1) := by decide +kernel
theorem dX3_keepReached_73 : decode cX3_keepReached 73 = .ok (.getfield 49, 3) := by decide +kernel
theorem dX3_keepReached_76 : decode cX3_keepReached 76 = .ok (.iload_n 3, 1) := by decide +kernel
theorem dX3_keepReached_77 : decode cX3_keepReached 77 = .ok (.iload_n 2, 1) := by decide +kernel
theorem dX3_keepReached_78 : decode cX3_keepReached 78 = .ok (.iastore, 1) := by decide +kernel
theorem dX3_keepReached_79 : decode cX3_keepReached 79 = .ok (.aload_n 0, 1) := by decide +kernel
theorem dX3_keepReached_80 : decode cX3_keepReached 80 = .ok (.dup, 1) := by decide +kernel
theorem dX3_keepReached_81 : decode cX3_keepReached 81 = .ok (.getfield 214, 3) := by decide +kernel
theorem dX3_keepReached_84 : decode cX3_keepReached 84 = .ok (.iconst 1, 1) := by decide +kernel
theorem dX3_keepReached_85 : decode cX3_keepReached 85 = .ok (.iadd, 1) := by decide +kernel
theorem dX3_keepReached_86 : decode cX3_keepReached 86 = .ok (.putfield 214, 3) := by decide +kernel
theorem dX3_keepReached_89 : decode cX3_keepReached 89 = .ok (.return_, 1) := by decide +kernel
theorem dX3_costOf_0 : decode cX3_costOf 0 = .ok (.iload_n 0, 1) := by decide +kernel
theorem dX3_costOf_1 : decode cX3_costOf 1 = .ok (.ldc 171, 2) := by decide +kernel
theorem dX3_costOf_3 : decode cX3_costOf 3 = .ok (.if_icmp .lt 7, 3) := by decide +kernel
theorem dX3_costOf_6 : decode cX3_costOf 6 = .ok (.iconst (-1), 1) := by decide +kernel
theorem dX3_costOf_7 : decode cX3_costOf 7 = .ok (.goto 7, 3) := by decide +kernel
theorem dX3_costOf_10 : decode cX3_costOf 10 = .ok (.iload_n 0, 1) := by decide +kernel
theorem dX3_costOf_11 : decode cX3_costOf 11 = .ok (.bipush 7, 2) := by decide +kernel
theorem dX3_costOf_13 : decode cX3_costOf 13 = .ok (.ishr, 1) := by decide +kernel
theorem dX3_costOf_14 : decode cX3_costOf 14 = .ok (.ireturn, 1) := by decide +kernel
theorem dX3_pair_0 : decode cX3_pair 0 = .ok (.iload_n 0, 1) := by decide +kernel
theorem dX3_pair_1 : decode cX3_pair 1 = .ok (.bipush 64, 2) := by decide +kernel
theorem dX3_pair_3 : decode cX3_pair 3 = .ok (.imul, 1) := by decide +kernel
theorem dX3_pair_4 : decode cX3_pair 4 = .ok (.iload_n 1, 1) := by decide +kernel
theorem dX3_pair_5 : decode cX3_pair 5 = .ok (.iadd, 1) := by decide +kernel
theorem dX3_pair_6 : decode cX3_pair 6 = .ok (.ireturn, 1) := by decide +kernel
theorem dX3_place_0 : decode cX3_place 0 = .ok (.iload_n 0, 1) := by decide +kernel
theorem dX3_place_1 : decode cX3_place 1 = .ok (.iconst 4, 1) := by decide +kernel
theorem dX3_place_2 : decode cX3_place 2 = .ok (.imul, 1) := by decide +kernel
theorem dX3_place_3 : decode cX3_place 3 = .ok (.iload_n 1, 1) := by decide +kernel
theorem dX3_place_4 : decode cX3_place 4 = .ok (.iadd, 1) := by decide +kernel
theorem dX3_place_5 : decode cX3_place 5 = .ok (.ireturn, 1) := by decide +kernel
theorem dX3_only_0 : decode cX3_only 0 = .ok (.lconst 1, 1) := by decide +kernel
theorem dX3_only_1 : decode cX3_only 1 = .ok (.iload_n 0, 1) := by decide +kernel
theorem dX3_only_2 : decode cX3_only 2 = .ok (.lshl, 1) := by decide +kernel
theorem dX3_only_3 : decode cX3_only 3 = .ok (.lreturn, 1) := by decide +kernel
theorem dX3_has_0 : decode cX3_has 0 = .ok (.lload_n 0, 1) := by decide +kernel
theorem dX3_has_1 : decode cX3_has 1 = .ok (.iload_n 2, 1) := by decide +kernel
theorem dX3_has_2 : decode cX3_has 2 = .ok (.lshr, 1) := by decide +kernel
theorem dX3_has_3 : decode cX3_has 3 = .ok (.lconst 1, 1) := by decide +kernel
theorem dX3_has_4 : decode cX3_has 4 = .ok (.land, 1) := by decide +kernel
theorem dX3_has_5 : decode cX3_has 5 = .ok (.lconst 0, 1) := by decide +kernel
theorem dX3_has_6 : decode cX3_has 6 = .ok (.lcmp, 1) := by decide +kernel
theorem dX3_has_7 : decode cX3_has 7 = .ok (.ifCond .eq 7, 3) := by decide +kernel
theorem dX3_has_10 : decode cX3_has 10 = .ok (.iconst 1, 1) := by decide +kernel
theorem dX3_has_11 : decode cX3_has 11 = .ok (.goto 4, 3) := by decide +kernel
theorem dX3_has_14 : decode cX3_has 14 = .ok (.iconst 0, 1) := by decide +kernel
theorem dX3_has_15 : decode cX3_has 15 = .ok (.ireturn, 1) := by decide +kernel
theorem dX4_init_0 : decode cX4_init 0 = .ok (.aload_n 0, 1) := by decide +kernel
theorem dX4_init_1 : decode cX4_init 1 = .ok (.invokespecial 1, 3) := by decide +kernel
theorem dX4_init_4 : decode cX4_init 4 = .ok (.aload_n 0, 1) := by decide +kernel
theorem dX4_init_5 : decode cX4_init 5 = .ok (.bipush 64, 2) := by decide +kernel
theorem dX4_init_7 : decode cX4_init 7 = .ok (.newarray .int, 2) := by decide +kernel
theorem dX4_init_9 : decode cX4_init 9 = .ok (.putfield 9, 3) := by decide +kernel
theorem dX4_init_12 : decode cX4_init 12 = .ok (.aload_n 0, 1) := by decide +kernel
theorem dX4_init_13 : decode cX4_init 13 = .ok (.bipush 64, 2) := by decide +kernel
theorem dX4_init_15 : decode cX4_init 15 = .ok (.newarray .int, 2) := by decide +kernel
theorem dX4_init_17 : decode cX4_init 17 = .ok (.putfield 13, 3) := by decide +kernel
theorem dX4_init_20 : decode cX4_init 20 = .ok (.aload_n 0, 1) := by decide +kernel
theorem dX4_init_21 : decode cX4_init 21 = .ok (.bipush 64, 2) := by decide +kernel
theorem dX4_init_23 : decode cX4_init 23 = .ok (.newarray .int, 2) := by decide +kernel
theorem dX4_init_25 : decode cX4_init 25 = .ok (.putfield 16, 3) := by decide +kernel
theorem dX4_init_28 : decode cX4_init 28 = .ok (.aload_n 0, 1) := by decide +kernel
theorem dX4_init_29 : decode cX4_init 29 = .ok (.bipush 64, 2) := by decide +kernel
theorem dX4_init_31 : decode cX4_init 31 = .ok (.newarray .boolean, 2) := by decide +kernel
theorem dX4_init_33 : decode cX4_init 33 = .ok (.putfield 19, 3) := by decide +kernel
theorem dX4_init_36 : decode cX4_init 36 = .ok (.aload_n 0, 1) := by decide +kernel
theorem dX4_init_37 : decode cX4_init 37 = .ok (.sipush 4096, 3) := by decide +kernel
theorem dX4_init_40 : decode cX4_init 40 = .ok (.newarray .int, 2) := by decide +kernel
theorem dX4_init_42 : decode cX4_init 42 = .ok (.putfield 23, 3) := by decide +kernel
theorem dX4_init_45 : decode cX4_init 45 = .ok (.aload_n 0, 1) := by decide +kernel
theorem dX4_init_46 : decode cX4_init 46 = .ok (.bipush 100, 2) := by decide +kernel
theorem dX4_init_48 : decode cX4_init 48 = .ok (.putfield 26, 3) := by decide +kernel
theorem dX4_init_51 : decode cX4_init 51 = .ok (.aload_n 0, 1) := by decide +kernel
theorem dX4_init_52 : decode cX4_init 52 = .ok (.bipush 64, 2) := by decide +kernel
theorem dX4_init_54 : decode cX4_init 54 = .ok (.newarray .int, 2) := by decide +kernel
theorem dX4_init_56 : decode cX4_init 56 = .ok (.putfield 30, 3) := by decide +kernel
theorem dX4_init_59 : decode cX4_init 59 = .ok (.aload_n 0, 1) := by decide +kernel
theorem dX4_init_60 : decode cX4_init 60 = .ok (.bipush 64, 2) := by decide +kernel
theorem dX4_init_62 : decode cX4_init 62 = .ok (.newarray .int, 2) := by decide +kernel
theorem dX4_init_64 : decode cX4_init 64 = .ok (.putfield 33, 3) := by decide +kernel
theorem dX4_init_67 : decode cX4_init 67 = .ok (.aload_n 0, 1) := by decide +kernel
theorem dX4_init_68 : decode cX4_init 68 = .ok (.sipush 4096, 3) := by decide +kernel
theorem dX4_init_71 : decode cX4_init 71 = .ok (.newarray .boolean, 2) := by decide +kernel
theorem dX4_init_73 : decode cX4_init 73 = .ok (.putfield 36, 3) := by decide +kernel
theorem dX4_init_76 : decode cX4_init 76 = .ok (.aload_n 0, 1) := by decide +kernel
theorem dX4_init_77 : decode cX4_init 77 = .ok (.sipush 4096, 3) := by decide +kernel
theorem dX4_init_80 : decode cX4_init 80 = .ok (.newarray .long, 2) := by decide +kernel
theorem dX4_init_82 : decode cX4_init 82 = .ok (.putfield 39, 3) := by decide +kernel
theorem dX4_init_85 : decode cX4_init 85 = .ok (.aload_n 0, 1) := by decide +kernel
theorem dX4_init_86 : decode cX4_init 86 = .ok (.sipush 4096, 3) := by decide +kernel
theorem dX4_init_89 : decode cX4_init 89 = .ok (.newarray .long, 2) := by decide +kernel
theorem dX4_init_91 : decode cX4_init 91 = .ok (.putfield 43, 3) := by decide +kernel
theorem dX4_init_94 : decode cX4_init 94 = .ok (.aload_n 0, 1) := by decide +kernel
theorem dX4_init_95 : decode cX4_init 95 = .ok (.sipush 4096, 3) := by decide +kernel
theorem dX4_init_98 : decode cX4_init 98 = .ok (.newarray .long, 2) := by decide +kernel
theorem dX4_init_100 : decode cX4_init 100 = .ok (.putfield 46, 3) := by decide +kernel
theorem dX4_init_103 : decode cX4_init 103 = .ok (.aload_n 0, 1) := by decide +kernel
theorem dX4_init_104 : decode cX4_init 104 = .ok (.sipush 128, 3) := by decide +kernel
theorem dX4_init_107 : decode cX4_init 107 = .ok (.newarray .boolean, 2) := by decide +kernel
theorem dX4_init_109 : decode cX4_init 109 = .ok (.putfield 49, 3) := by decide +kernel
theorem dX4_init_112 : decode cX4_init 112 = .ok (.aload_n 0, 1) := by decide +kernel
theorem dX4_init_113 : decode cX4_init 113 = .ok (.bipush 8, 2) := by decide +kernel
theorem dX4_init_115 : decode cX4_init 115 = .ok (.newarray .int, 2) := by decide +kernel
theorem dX4_init_117 : decode cX4_init 117 = .ok (.putfield 52, 3) := by decide +kernel
theorem dX4_init_120 : decode cX4_init 120 = .ok (.aload_n 0, 1) := by decide +kernel
theorem dX4_init_121 : decode cX4_init 121 = .ok (.sipush 512, 3) := by decide +kernel
theorem dX4_init_124 : decode cX4_init 124 = .ok (.newarray .int, 2) := by decide +kernel
theorem dX4_init_126 : decode cX4_init 126 = .ok (.putfield 55, 3) := by decide +kernel
theorem dX4_init_129 : decode cX4_init 129 = .ok (.aload_n 0, 1) := by decide +kernel
theorem dX4_init_130 : decode cX4_init 130 = .ok (.sipush 512, 3) := by decide +kernel
theorem dX4_init_133 : decode cX4_init 133 = .ok (.newarray .boolean, 2) := by decide +kernel
theorem dX4_init_135 : decode cX4_init 135 = .ok (.putfield 58, 3) := by decide +kernel
theorem dX4_init_138 : decode cX4_init 138 = .ok (.aload_n 0, 1) := by decide +kernel
theorem dX4_init_139 : decode cX4_init 139 = .ok (.ldc 61, 2) := by decide +kernel
theorem dX4_init_141 : decode cX4_init 141 = .ok (.newarray .int, 2) := by decide +kernel
theorem dX4_init_143 : decode cX4_init 143 = .ok (.putfield 62, 3) := by decide +kernel
theorem dX4_init_146 : decode cX4_init 146 = .ok (.aload_n 0, 1) := by decide +kernel
theorem dX4_init_147 : decode cX4_init 147 = .ok (.bipush 8, 2) := by decide +kernel
theorem dX4_init_149 : decode cX4_init 149 = .ok (.newarray .int, 2) := by decide +kernel
theorem dX4_init_151 : decode cX4_init 151 = .ok (.putfield 65, 3) := by decide +kernel
theorem dX4_init_154 : decode cX4_init 154 = .ok (.aload_n 0, 1) := by decide +kernel
theorem dX4_init_155 : decode cX4_init 155 = .ok (.sipush 128, 3) := by decide +kernel
theorem dX4_init_158 : decode cX4_init 158 = .ok (.newarray .int, 2) := by decide +kernel
theorem dX4_init_160 : decode cX4_init 160 = .ok (.putfield 68, 3) := by decide +kernel
theorem dX4_init_163 : decode cX4_init 163 = .ok (.aload_n 0, 1) := by decide +kernel
theorem dX4_init_164 : decode cX4_init 164 = .ok (.bipush 32, 2) := by decide +kernel
theorem dX4_init_166 : decode cX4_init 166 = .ok (.newarray .int, 2) := by decide +kernel
theorem dX4_init_168 : decode cX4_init 168 = .ok (.putfield 71, 3) := by decide +kernel
theorem dX4_init_171 : decode cX4_init 171 = .ok (.aload_n 0, 1) := by decide +kernel
theorem dX4_init_172 : decode cX4_init 172 = .ok (.bipush 64, 2) := by decide +kernel
theorem dX4_init_174 : decode cX4_init 174 = .ok (.newarray .long, 2) := by decide +kernel
theorem dX4_init_176 : decode cX4_init 176 = .ok (.putfield 74, 3) := by decide +kernel
theorem dX4_init_179 : decode cX4_init 179 = .ok (.aload_n 0, 1) := by decide +kernel
theorem dX4_init_180 : decode cX4_init 180 = .ok (.bipush 64, 2) := by decide +kernel
theorem dX4_init_182 : decode cX4_init 182 = .ok (.newarray .int, 2) := by decide +kernel
theorem dX4_init_184 : decode cX4_init 184 = .ok (.putfield 77, 3) := by decide +kernel
theorem dX4_init_187 : decode cX4_init 187 = .ok (.iconst 0, 1) := by decide +kernel
theorem dX4_init_188 : decode cX4_init 188 = .ok (.istore_n 1, 1) := by decide +kernel
theorem dX4_init_189 : decode cX4_init 189 = .ok (.iload_n 1, 1) := by decide +kernel
theorem dX4_init_190 : decode cX4_init 190 = .ok (.aload_n 0, 1) := by decide +kernel
theorem dX4_init_191 : decode cX4_init 191 = .ok (.getfield 23, 3) := by decide +kernel
theorem dX4_init_194 : decode cX4_init 194 = .ok (.arraylength, 1) := by decide +kernel
theorem dX4_init_195 : decode cX4_init 195 = .ok (.if_icmp .ge 17, 3) := by decide +kernel
theorem dX4_init_198 : decode cX4_init 198 = .ok (.aload_n 0, 1) := by decide +kernel
theorem dX4_init_199 : decode cX4_init 199 = .ok (.getfield 23, 3) := by decide +kernel
theorem dX4_init_202 : decode cX4_init 202 = .ok (.iload_n 1, 1) := by decide +kernel
theorem dX4_init_203 : decode cX4_init 203 = .ok (.bipush (-2), 2) := by decide +kernel
theorem dX4_init_205 : decode cX4_init 205 = .ok (.iastore, 1) := by decide +kernel
theorem dX4_init_206 : decode cX4_init 206 = .ok (.iinc 1 1, 3) := by decide +kernel
theorem dX4_init_209 : decode cX4_init 209 = .ok (.goto (-20), 3) := by decide +kernel
theorem dX4_init_212 : decode cX4_init 212 = .ok (.return_, 1) := by decide +kernel
theorem dX4_thrown_0 : decode cX4_thrown 0 = .ok (.aload_n 0, 1) := by decide +kernel
theorem dX4_thrown_1 : decode cX4_thrown 1 = .ok (.getfield 80, 3) := by decide +kernel
theorem dX4_thrown_4 : decode cX4_thrown 4 = .ok (.ireturn, 1) := by decide +kernel
theorem dX4_fail_0 : decode cX4_fail 0 = .ok (.aload_n 0, 1) := by decide +kernel
theorem dX4_fail_1 : decode cX4_fail 1 = .ok (.iload_n 1, 1) := by decide +kernel
theorem dX4_fail_2 : decode cX4_fail 2 = .ok (.putfield 80, 3) := by decide +kernel
theorem dX4_fail_5 : decode cX4_fail 5 = .ok (.iconst 0, 1) := by decide +kernel
theorem dX4_fail_6 : decode cX4_fail 6 = .ok (.ireturn, 1) := by decide +kernel
theorem dX4_isJunction_0 : decode cX4_isJunction 0 = .ok (.iload_n 1, 1) := by decide +kernel
theorem dX4_isJunction_1 : decode cX4_isJunction 1 = .ok (.ifCond .lt 15, 3) := by decide +kernel
theorem dX4_isJunction_4 : decode cX4_isJunction 4 = .ok (.iload_n 1, 1) := by decide +kernel
theorem dX4_isJunction_5 : decode cX4_isJunction 5 = .ok (.aload_n 0, 1) := by decide +kernel
theorem dX4_isJunction_6 : decode cX4_isJunction 6 = .ok (.getfield 83, 3) := by decide +kernel
theorem dX4_isJunction_9 : decode cX4_isJunction 9 = .ok (.if_icmp .ge 7, 3) := by decide +kernel
theorem dX4_isJunction_12 : decode cX4_isJunction 12 = .ok (.iconst 1, 1) := by decide +kernel
theorem dX4_isJunction_13 : decode cX4_isJunction 13 = .ok (.goto 4, 3) := by decide +kernel
theorem dX4_isJunction_16 : decode cX4_isJunction 16 = .ok (.iconst 0, 1) := by decide +kernel
theorem dX4_isJunction_17 : decode cX4_isJunction 17 = .ok (.ireturn, 1) := by decide +kernel
theorem dX4_isRoad_0 : decode cX4_isRoad 0 = .ok (.iload_n 1, 1) := by decide +kernel
theorem dX4_isRoad_1 : decode cX4_isRoad 1 = .ok (.ifCond .lt 15, 3) := by decide +kernel
theorem dX4_isRoad_4 : decode cX4_isRoad 4 = .ok (.iload_n 1, 1) := by decide +kernel
theorem dX4_isRoad_5 : decode cX4_isRoad 5 = .ok (.aload_n 0, 1) := by decide +kernel
theorem dX4_isRoad_6 : decode cX4_isRoad 6 = .ok (.getfield 86, 3) := by decide +kernel
theorem dX4_isRoad_9 : decode cX4_isRoad 9 = .ok (.if_icmp .ge 7, 3) := by decide +kernel
theorem dX4_isRoad_12 : decode cX4_isRoad 12 = .ok (.iconst 1, 1) := by decide +kernel
theorem dX4_isRoad_13 : decode cX4_isRoad 13 = .ok (.goto 4, 3) := by decide +kernel
theorem dX4_isRoad_16 : decode cX4_isRoad 16 = .ok (.iconst 0, 1) := by decide +kernel
theorem dX4_isRoad_17 : decode cX4_isRoad 17 = .ok (.ireturn, 1) := by decide +kernel
theorem dX4_follows_0 : decode cX4_follows 0 = .ok (.aload_n 0, 1) := by decide +kernel
theorem dX4_follows_1 : decode cX4_follows 1 = .ok (.getfield 13, 3) := by decide +kernel
theorem dX4_follows_4 : decode cX4_follows 4 = .ok (.iload_n 1, 1) := by decide +kernel
theorem dX4_follows_5 : decode cX4_follows 5 = .ok (.iaload, 1) := by decide +kernel
theorem dX4_follows_6 : decode cX4_follows 6 = .ok (.aload_n 0, 1) := by decide +kernel
theorem dX4_follows_7 : decode cX4_follows 7 = .ok (.getfield 9, 3) := by decide +kernel
theorem dX4_follows_10 : decode cX4_follows 10 = .ok (.iload_n 2, 1) := by decide +kernel
theorem dX4_follows_11 : decode cX4_follows 11 = .ok (.iaload, 1) := by decide +kernel
theorem dX4_follows_12 : decode cX4_follows 12 = .ok (.if_icmp .ne 7, 3) := by decide +kernel
theorem dX4_follows_15 : decode cX4_follows 15 = .ok (.iconst 1, 1) := by decide +kernel
theorem dX4_follows_16 : decode cX4_follows 16 = .ok (.goto 4, 3) := by decide +kernel
theorem dX4_follows_19 : decode cX4_follows 19 = .ok (.iconst 0, 1) := by decide +kernel
theorem dX4_follows_20 : decode cX4_follows 20 = .ok (.ireturn, 1) := by decide +kernel
theorem dX4_addJunction_0 : decode cX4_addJunction 0 = .ok (.aload_n 0, 1) := by decide +kernel
theorem dX4_addJunction_1 : decode cX4_addJunction 1 = .ok (.iconst 0, 1) := by decide +kernel
theorem dX4_addJunction_2 : decode cX4_addJunction 2 = .ok (.putfield 80, 3) := by decide +kernel
theorem dX4_addJunction_5 : decode cX4_addJunction 5 = .ok (.aload_n 0, 1) := by decide +kernel
theorem dX4_addJunction_6 : decode cX4_addJunction 6 = .ok (.getfield 83, 3) := by decide +kernel
theorem dX4_addJunction_9 : decode cX4_addJunction 9 = .ok (.bipush 32, 2) := by decide +kernel
theorem dX4_addJunction_11 : decode cX4_addJunction 11 = .ok (.if_icmp .ne 9, 3) := by decide +kernel
theorem dX4_addJunction_14 : decode cX4_addJunction 14 = .ok (.aload_n 0, 1) := by decide +kernel
theorem dX4_addJunction_15 : decode cX4_addJunction 15 = .ok (.iconst 1, 1) := by decide +kernel
theorem dX4_addJunction_16 : decode cX4_addJunction 16 = .ok (.invokevirtual 89, 3) := by decide +kernel
theorem dX4_addJunction_19 : decode cX4_addJunction 19 = .ok (.ireturn, 1) := by decide +kernel
theorem dX4_addJunction_20 : decode cX4_addJunction 20 = .ok (.aload_n 0, 1) := by decide +kernel
theorem dX4_addJunction_21 : decode cX4_addJunction 21 = .ok (.dup, 1) := by decide +kernel
theorem dX4_addJunction_22 : decode cX4_addJunction 22 = .ok (.getfield 83, 3) := by decide +kernel
theorem dX4_addJunction_25 : decode cX4_addJunction 25 = .ok (.iconst 1, 1) := by decide +kernel
theorem dX4_addJunction_26 : decode cX4_addJunction 26 = .ok (.iadd, 1) := by decide +kernel
theorem dX4_addJunction_27 : decode cX4_addJunction 27 = .ok (.putfield 83, 3) := by decide +kernel
theorem dX4_addJunction_30 : decode cX4_addJunction 30 = .ok (.aload_n 0, 1) := by decide +kernel
theorem dX4_addJunction_31 : decode cX4_addJunction 31 = .ok (.getfield 83, 3) := by decide +kernel
theorem dX4_addJunction_34 : decode cX4_addJunction 34 = .ok (.iconst 1, 1) := by decide +kernel
theorem dX4_addJunction_35 : decode cX4_addJunction 35 = .ok (.isub, 1) := by decide +kernel
theorem dX4_addJunction_36 : decode cX4_addJunction 36 = .ok (.ireturn, 1) := by decide +kernel
theorem dX4_addRoad_0 : decode cX4_addRoad 0 = .ok (.aload_n 0, 1) := by decide +kernel
theorem dX4_addRoad_1 : decode cX4_addRoad 1 = .ok (.iconst 0, 1) := by decide +kernel
theorem dX4_addRoad_2 : decode cX4_addRoad 2 = .ok (.putfield 80, 3) := by decide +kernel
theorem dX4_addRoad_5 : decode cX4_addRoad 5 = .ok (.aload_n 0, 1) := by decide +kernel
theorem dX4_addRoad_6 : decode cX4_addRoad 6 = .ok (.iload_n 1, 1) := by decide +kernel
theorem dX4_addRoad_7 : decode cX4_addRoad 7 = .ok (.invokevirtual 93, 3) := by decide +kernel
theorem dX4_addRoad_10 : decode cX4_addRoad 10 = .ok (.ifCond .eq 11, 3) := by decide +kernel
theorem dX4_addRoad_13 : decode cX4_addRoad 13 = .ok (.aload_n 0, 1) := by decide +kernel
theorem dX4_addRoad_14 : decode cX4_addRoad 14 = .ok (.iload_n 2, 1) := by decide +kernel
theorem dX4_addRoad_15 : decode cX4_addRoad 15 = .ok (.invokevirtual 93, 3) := by decide +kernel
theorem dX4_addRoad_18 : decode cX4_addRoad 18 = .ok (.ifCond .ne 9, 3) := by decide +kernel
theorem dX4_addRoad_21 : decode cX4_addRoad 21 = .ok (.aload_n 0, 1) := by decide +kernel
theorem dX4_addRoad_22 : decode cX4_addRoad 22 = .ok (.iconst 1, 1) := by decide +kernel
theorem dX4_addRoad_23 : decode cX4_addRoad 23 = .ok (.invokevirtual 89, 3) := by decide +kernel
theorem dX4_addRoad_26 : decode cX4_addRoad 26 = .ok (.ireturn, 1) := by decide +kernel
theorem dX4_addRoad_27 : decode cX4_addRoad 27 = .ok (.iload_n 1, 1) := by decide +kernel
theorem dX4_addRoad_28 : decode cX4_addRoad 28 = .ok (.iload_n 2, 1) := by decide +kernel
theorem dX4_addRoad_29 : decode cX4_addRoad 29 = .ok (.if_icmp .eq 15, 3) := by decide +kernel
theorem dX4_addRoad_32 : decode cX4_addRoad 32 = .ok (.iload_n 3, 1) := by decide +kernel
theorem dX4_addRoad_33 : decode cX4_addRoad 33 = .ok (.iconst 1, 1) := by decide +kernel
theorem dX4_addRoad_34 : decode cX4_addRoad 34 = .ok (.if_icmp .lt 10, 3) := by decide +kernel
theorem dX4_addRoad_37 : decode cX4_addRoad 37 = .ok (.iload_n 3, 1) := by decide +kernel
theorem dX4_addRoad_38 : decode cX4_addRoad 38 = .ok (.sipush 10000, 3) := by decide +kernel
theorem dX4_addRoad_41 : decode cX4_addRoad 41 = .ok (.if_icmp .le 9, 3) := by decide +kernel
theorem dX4_addRoad_44 : decode cX4_addRoad 44 = .ok (.aload_n 0, 1) := by decide +kernel
theorem dX4_addRoad_45 : decode cX4_addRoad 45 = .ok (.iconst 2, 1) := by decide +kernel
theorem dX4_addRoad_46 : decode cX4_addRoad 46 = .ok (.invokevirtual 89, 3) := by decide +kernel
theorem dX4_addRoad_49 : decode cX4_addRoad 49 = .ok (.ireturn, 1) := by decide +kernel
theorem dX4_addRoad_50 : decode cX4_addRoad 50 = .ok (.aload_n 0, 1) := by decide +kernel
theorem dX4_addRoad_51 : decode cX4_addRoad 51 = .ok (.getfield 86, 3) := by decide +kernel
theorem dX4_addRoad_54 : decode cX4_addRoad 54 = .ok (.bipush 64, 2) := by decide +kernel
theorem dX4_addRoad_56 : decode cX4_addRoad 56 = .ok (.if_icmp .ne 9, 3) := by decide +kernel
theorem dX4_addRoad_59 : decode cX4_addRoad 59 = .ok (.aload_n 0, 1) := by decide +kernel
theorem dX4_addRoad_60 : decode cX4_addRoad 60 = .ok (.iconst 3, 1) := by decide +kernel
theorem dX4_addRoad_61 : decode cX4_addRoad 61 = .ok (.invokevirtual 89, 3) := by decide +kernel
theorem dX4_addRoad_64 : decode cX4_addRoad 64 = .ok (.ireturn, 1) := by decide +kernel
theorem dX4_addRoad_65 : decode cX4_addRoad 65 = .ok (.aload_n 0, 1) := by decide +kernel
theorem dX4_addRoad_66 : decode cX4_addRoad 66 = .ok (.getfield 9, 3) := by decide +kernel
theorem dX4_addRoad_69 : decode cX4_addRoad 69 = .ok (.aload_n 0, 1) := by decide +kernel
theorem dX4_addRoad_70 : decode cX4_addRoad 70 = .ok (.getfield 86, 3) := by decide +kernel
theorem dX4_addRoad_73 : decode cX4_addRoad 73 = .ok (.iload_n 1, 1) := by decide +kernel
theorem dX4_addRoad_74 : decode cX4_addRoad 74 = .ok (.iastore, 1) := by decide +kernel
theorem dX4_addRoad_75 : decode cX4_addRoad 75 = .ok (.aload_n 0, 1) := by decide +kernel
theorem dX4_addRoad_76 : decode cX4_addRoad 76 = .ok (.getfield 13, 3) := by decide +kernel
theorem dX4_addRoad_79 : decode cX4_addRoad 79 = .ok (.aload_n 0, 1) := by decide +kernel
theorem dX4_addRoad_80 : decode cX4_addRoad 80 = .ok (.getfield 86, 3) := by decide +kernel
theorem dX4_addRoad_83 : decode cX4_addRoad 83 = .ok (.iload_n 2, 1) := by decide +kernel
theorem dX4_addRoad_84 : decode cX4_addRoad 84 = .ok (.iastore, 1) := by decide +kernel
theorem dX4_addRoad_85 : decode cX4_addRoad 85 = .ok (.aload_n 0, 1) := by decide +kernel
theorem dX4_addRoad_86 : decode cX4_addRoad 86 = .ok (.getfield 16, 3) := by decide +kernel
theorem dX4_addRoad_89 : decode cX4_addRoad 89 = .ok (.aload_n 0, 1) := by decide +kernel
theorem dX4_addRoad_90 : decode cX4_addRoad 90 = .ok (.getfield 86, 3) := by decide +kernel
theorem dX4_addRoad_93 : decode cX4_addRoad 93 = .ok (.iload_n 3, 1) := by decide +kernel
theorem dX4_addRoad_94 : decode cX4_addRoad 94 = .ok (.iastore, 1) := by decide +kernel
theorem dX4_addRoad_95 : decode cX4_addRoad 95 = .ok (.aload_n 0, 1) := by decide +kernel
theorem dX4_addRoad_96 : decode cX4_addRoad 96 = .ok (.getfield 19, 3) := by decide +kernel
theorem dX4_addRoad_99 : decode cX4_addRoad 99 = .ok (.aload_n 0, 1) := by decide +kernel
theorem dX4_addRoad_100 : decode cX4_addRoad 100 = .ok (.getfield 86, 3) := by decide +kernel
theorem dX4_addRoad_103 : decode cX4_addRoad 103 = .ok (.iconst 1, 1) := by decide +kernel
theorem dX4_addRoad_104 : decode cX4_addRoad 104 = .ok (.bastore, 1) := by decide +kernel
theorem dX4_addRoad_105 : decode cX4_addRoad 105 = .ok (.aload_n 0, 1) := by decide +kernel
theorem dX4_addRoad_106 : decode cX4_addRoad 106 = .ok (.dup, 1) := by decide +kernel
theorem dX4_addRoad_107 : decode cX4_addRoad 107 = .ok (.getfield 86, 3) := by decide +kernel
theorem dX4_addRoad_110 : decode cX4_addRoad 110 = .ok (.iconst 1, 1) := by decide +kernel
theorem dX4_addRoad_111 : decode cX4_addRoad 111 = .ok (.iadd, 1) := by decide +kernel
theorem dX4_addRoad_112 : decode cX4_addRoad 112 = .ok (.putfield 86, 3) := by decide +kernel
theorem dX4_addRoad_115 : decode cX4_addRoad 115 = .ok (.aload_n 0, 1) := by decide +kernel
theorem dX4_addRoad_116 : decode cX4_addRoad 116 = .ok (.iconst 0, 1) := by decide +kernel
theorem dX4_addRoad_117 : decode cX4_addRoad 117 = .ok (.putfield 97, 3) := by decide +kernel
theorem dX4_addRoad_120 : decode cX4_addRoad 120 = .ok (.aload_n 0, 1) := by decide +kernel
theorem dX4_addRoad_121 : decode cX4_addRoad 121 = .ok (.iconst 0, 1) := by decide +kernel
theorem dX4_addRoad_122 : decode cX4_addRoad 122 = .ok (.putfield 101, 3) := by decide +kernel
theorem dX4_addRoad_125 : decode cX4_addRoad 125 = .ok (.aload_n 0, 1) := by decide +kernel
theorem dX4_addRoad_126 : decode cX4_addRoad 126 = .ok (.iconst 0, 1) := by decide +kernel
theorem dX4_addRoad_127 : decode cX4_addRoad 127 = .ok (.putfield 104, 3) := by decide +kernel
theorem dX4_addRoad_130 : decode cX4_addRoad 130 = .ok (.aload_n 0, 1) := by decide +kernel
theorem dX4_addRoad_131 : decode cX4_addRoad 131 = .ok (.getfield 86, 3) := by decide +kernel
theorem dX4_addRoad_134 : decode cX4_addRoad 134 = .ok (.iconst 1, 1) := by decide +kernel
theorem dX4_addRoad_135 : decode cX4_addRoad 135 = .ok (.isub, 1) := by decide +kernel
theorem dX4_addRoad_136 : decode cX4_addRoad 136 = .ok (.ireturn, 1) := by decide +kernel
theorem dX4_penalty_0 : decode cX4_penalty 0 = .ok (.aload_n 0, 1) := by decide +kernel
theorem dX4_penalty_1 : decode cX4_penalty 1 = .ok (.getfield 23, 3) := by decide +kernel
theorem dX4_penalty_4 : decode cX4_penalty 4 = .ok (.bipush 64, 2) := by decide +kernel
theorem dX4_penalty_6 : decode cX4_penalty 6 = .ok (.iload_n 1, 1) := by decide +kernel
theorem dX4_penalty_7 : decode cX4_penalty 7 = .ok (.imul, 1) := by decide +kernel
theorem dX4_penalty_8 : decode cX4_penalty 8 = .ok (.iload_n 2, 1) := by decide +kernel
theorem dX4_penalty_9 : decode cX4_penalty 9 = .ok (.iadd, 1) := by decide +kernel
theorem dX4_penalty_10 : decode cX4_penalty 10 = .ok (.iaload, 1) := by decide +kernel
theorem dX4_penalty_11 : decode cX4_penalty 11 = .ok (.istore_n 3, 1) := by decide +kernel
theorem dX4_penalty_12 : decode cX4_penalty 12 = .ok (.iload_n 3, 1) := by decide +kernel
theorem dX4_penalty_13 : decode cX4_penalty 13 = .ok (.bipush (-2), 2) := by decide +kernel
theorem dX4_penalty_15 : decode cX4_penalty 15 = .ok (.if_icmp .eq 7, 3) := by decide +kernel
theorem dX4_penalty_18 : decode cX4_penalty 18 = .ok (.iload_n 3, 1) := by decide +kernel
theorem dX4_penalty_19 : decode cX4_penalty 19 = .ok (.goto 26, 3) := by decide +kernel
theorem dX4_penalty_22 : decode cX4_penalty 22 = .ok (.aload_n 0, 1) := by decide +kernel
theorem dX4_penalty_23 : decode cX4_penalty 23 = .ok (.getfield 13, 3) := by decide +kernel
theorem dX4_penalty_26 : decode cX4_penalty 26 = .ok (.iload_n 2, 1) := by decide +kernel
theorem dX4_penalty_27 : decode cX4_penalty 27 = .ok (.iaload, 1) := by decide +kernel
theorem dX4_penalty_28 : decode cX4_penalty 28 = .ok (.aload_n 0, 1) := by decide +kernel
theorem dX4_penalty_29 : decode cX4_penalty 29 = .ok (.getfield 9, 3) := by decide +kernel
theorem dX4_penalty_32 : decode cX4_penalty 32 = .ok (.iload_n 1, 1) := by decide +kernel
theorem dX4_penalty_33 : decode cX4_penalty 33 = .ok (.iaload, 1) := by decide +kernel
theorem dX4_penalty_34 : decode cX4_penalty 34 = .ok (.if_icmp .ne 10, 3) := by decide +kernel
theorem dX4_penalty_37 : decode cX4_penalty 37 = .ok (.aload_n 0, 1) := by decide +kernel
theorem dX4_penalty_38 : decode cX4_penalty 38 = .ok (.getfield 26, 3) := by decide +kernel
theorem dX4_penalty_41 : decode cX4_penalty 41 = .ok (.goto 4, 3) := by decide +kernel
theorem dX4_penalty_44 : decode cX4_penalty 44 = .ok (.iconst 0, 1) := by decide +kernel
theorem dX4_penalty_45 : decode cX4_penalty 45 = .ok (.ireturn, 1) := by decide +kernel
theorem dX4_step_0 : decode cX4_step 0 = .ok (.aload_n 0, 1) := by decide +kernel
theorem dX4_step_1 : decode cX4_step 1 = .ok (.getfield 19, 3) := by decide +kernel
theorem dX4_step_4 : decode cX4_step 4 = .ok (.iload_n 1, 1) := by decide +kernel
theorem dX4_step_5 : decode cX4_step 5 = .ok (.baload, 1) := by decide +kernel
theorem dX4_step_6 : decode cX4_step 6 = .ok (.ifCond .eq 47, 3) := by decide +kernel
theorem dX4_step_9 : decode cX4_step 9 = .ok (.aload_n 0, 1) := by decide +kernel
theorem dX4_step_10 : decode cX4_step 10 = .ok (.getfield 19, 3) := by decide +kernel
theorem dX4_step_13 : decode cX4_step 13 = .ok (.iload_n 2, 1) := by decide +kernel
theorem dX4_step_14 : decode cX4_step 14 = .ok (.baload, 1) := by decide +kernel
theorem dX4_step_15 : decode cX4_step 15 = .ok (.ifCond .eq 38, 3) := by decide +kernel
theorem dX4_step_18 : decode cX4_step 18 = .ok (.aload_n 0, 1) := by decide +kernel
theorem dX4_step_19 : decode cX4_step 19 = .ok (.iload_n 1, 1) := by decide +kernel
theorem dX4_step_20 : decode cX4_step 20 = .ok (.iload_n 2, 1) := by decide +kernel
theorem dX4_step_21 : decode cX4_step 21 = .ok (.invokevirtual 107, 3) := by decide +kernel
theorem dX4_step_24 : decode cX4_step 24 = .ok (.ifCond .eq 29, 3) := by decide +kernel
theorem dX4_step_27 : decode cX4_step 27 = .ok (.aload_n 0, 1) := by decide +kernel
theorem dX4_step_28 : decode cX4_step 28 = .ok (.iload_n 1, 1) := by decide +kernel
theorem dX4_step_29 : decode cX4_step 29 = .ok (.iload_n 2, 1) := by decide +kernel
theorem dX4_step_30 : decode cX4_step 30 = .ok (.invokevirtual 111, 3) := by decide +kernel
theorem dX4_step_33 : decode cX4_step 33 = .ok (.ifCond .lt 20, 3) := by decide +kernel
theorem dX4_step_36 : decode cX4_step 36 = .ok (.aload_n 0, 1) := by decide +kernel
theorem dX4_step_37 : decode cX4_step 37 = .ok (.iload_n 1, 1) := by decide +kernel
theorem dX4_step_38 : decode cX4_step 38 = .ok (.iload_n 2, 1) := by decide +kernel
theorem dX4_step_39 : decode cX4_step 39 = .ok (.invokevirtual 111, 3) := by decide +kernel
theorem dX4_step_42 : decode cX4_step 42 = .ok (.aload_n 0, 1) := by decide +kernel
theorem dX4_step_43 : decode cX4_step 43 = .ok (.getfield 16, 3) := by decide +kernel
theorem dX4_step_46 : decode cX4_step 46 = .ok (.iload_n 2, 1) := by decide +kernel
theorem dX4_step_47 : decode cX4_step 47 = .ok (.iaload, 1) := by decide +kernel
theorem dX4_step_48 : decode cX4_step 48 = .ok (.iadd, 1) := by decide +kernel
theorem dX4_step_49 : decode cX4_step 49 = .ok (.i2l, 1) := by decide +kernel
theorem dX4_step_50 : decode cX4_step 50 = .ok (.goto 6, 3) := by decide +kernel
theorem dX4_step_53 : decode cX4_step 53 = .ok (.ldc2_w 115, 3) := by decide +kernel
theorem dX4_step_56 : decode cX4_step 56 = .ok (.lreturn, 1) := by decide +kernel
theorem dX4_setWeight_0 : decode cX4_setWeight 0 = .ok (.aload_n 0, 1) := by decide +kernel
theorem dX4_setWeight_1 : decode cX4_setWeight 1 = .ok (.iconst 0, 1) := by decide +kernel
theorem dX4_setWeight_2 : decode cX4_setWeight 2 = .ok (.putfield 80, 3) := by decide +kernel
theorem dX4_setWeight_5 : decode cX4_setWeight 5 = .ok (.aload_n 0, 1) := by decide +kernel
theorem dX4_setWeight_6 : decode cX4_setWeight 6 = .ok (.iload_n 1, 1) := by decide +kernel
theorem dX4_setWeight_7 : decode cX4_setWeight 7 = .ok (.invokevirtual 117, 3) := by decide +kernel
theorem dX4_setWeight_10 : decode cX4_setWeight 10 = .ok (.ifCond .ne 9, 3) := by decide +kernel
theorem dX4_setWeight_13 : decode cX4_setWeight 13 = .ok (.aload_n 0, 1) := by decide +kernel
theorem dX4_setWeight_14 : decode cX4_setWeight 14 = .ok (.iconst 1, 1) := by decide +kernel
theorem dX4_setWeight_15 : decode cX4_setWeight 15 = .ok (.invokevirtual 89, 3) := by decide +kernel
theorem dX4_setWeight_18 : decode cX4_setWeight 18 = .ok (.ireturn, 1) := by decide +kernel
theorem dX4_setWeight_19 : decode cX4_setWeight 19 = .ok (.iload_n 2, 1) := by decide +kernel
theorem dX4_setWeight_20 : decode cX4_setWeight 20 = .ok (.iconst 1, 1) := by decide +kernel
theorem dX4_setWeight_21 : decode cX4_setWeight 21 = .ok (.if_icmp .lt 10, 3) := by decide +kernel
theorem dX4_setWeight_24 : decode cX4_setWeight 24 = .ok (.iload_n 2, 1) := by decide +kernel
theorem dX4_setWeight_25 : decode cX4_setWeight 25 = .ok (.sipush 10000, 3) := by decide +kernel
theorem dX4_setWeight_28 : decode cX4_setWeight 28 = .ok (.if_icmp .le 9, 3) := by decide +kernel
theorem dX4_setWeight_31 : decode cX4_setWeight 31 = .ok (.aload_n 0, 1) := by decide +kernel
theorem dX4_setWeight_32 : decode cX4_setWeight 32 = .ok (.iconst 2, 1) := by decide +kernel
theorem dX4_setWeight_33 : decode cX4_setWeight 33 = .ok (.invokevirtual 89, 3) := by decide +kernel
theorem dX4_setWeight_36 : decode cX4_setWeight 36 = .ok (.ireturn, 1) := by decide +kernel
theorem dX4_setWeight_37 : decode cX4_setWeight 37 = .ok (.aload_n 0, 1) := by decide +kernel
theorem dX4_setWeight_38 : decode cX4_setWeight 38 = .ok (.getfield 16, 3) := by decide +kernel
theorem dX4_setWeight_41 : decode cX4_setWeight 41 = .ok (.iload_n 1, 1) := by decide +kernel
theorem dX4_setWeight_42 : decode cX4_setWeight 42 = .ok (.iload_n 2, 1) := by decide +kernel
theorem dX4_setWeight_43 : decode cX4_setWeight 43 = .ok (.iastore, 1) := by decide +kernel
theorem dX4_setWeight_44 : decode cX4_setWeight 44 = .ok (.aload_n 0, 1) := by decide +kernel
theorem dX4_setWeight_45 : decode cX4_setWeight 45 = .ok (.invokevirtual 120, 3) := by decide +kernel
theorem dX4_setWeight_48 : decode cX4_setWeight 48 = .ok (.ireturn, 1) := by decide +kernel
theorem dX4_setOpen_0 : decode cX4_setOpen 0 = .ok (.aload_n 0, 1) := by decide +kernel
theorem dX4_setOpen_1 : decode cX4_setOpen 1 = .ok (.iconst 0, 1) := by decide +kernel
theorem dX4_setOpen_2 : decode cX4_setOpen 2 = .ok (.putfield 80, 3) := by decide +kernel
theorem dX4_setOpen_5 : decode cX4_setOpen 5 = .ok (.aload_n 0, 1) := by decide +kernel
theorem dX4_setOpen_6 : decode cX4_setOpen 6 = .ok (.iload_n 1, 1) := by decide +kernel
theorem dX4_setOpen_7 : decode cX4_setOpen 7 = .ok (.invokevirtual 117, 3) := by decide +kernel
theorem dX4_setOpen_10 : decode cX4_setOpen 10 = .ok (.ifCond .ne 9, 3) := by decide +kernel
theorem dX4_setOpen_13 : decode cX4_setOpen 13 = .ok (.aload_n 0, 1) := by decide +kernel
theorem dX4_setOpen_14 : decode cX4_setOpen 14 = .ok (.iconst 1, 1) := by decide +kernel
theorem dX4_setOpen_15 : decode cX4_setOpen 15 = .ok (.invokevirtual 89, 3) := by decide +kernel
theorem dX4_setOpen_18 : decode cX4_setOpen 18 = .ok (.ireturn, 1) := by decide +kernel
theorem dX4_setOpen_19 : decode cX4_setOpen 19 = .ok (.aload_n 0, 1) := by decide +kernel
theorem dX4_setOpen_20 : decode cX4_setOpen 20 = .ok (.getfield 19, 3) := by decide +kernel
theorem dX4_setOpen_23 : decode cX4_setOpen 23 = .ok (.iload_n 1, 1) := by decide +kernel
theorem dX4_setOpen_24 : decode cX4_setOpen 24 = .ok (.iload_n 2, 1) := by decide +kernel
theorem dX4_setOpen_25 : decode cX4_setOpen 25 = .ok (.bastore, 1) := by decide +kernel
theorem dX4_setOpen_26 : decode cX4_setOpen 26 = .ok (.aload_n 0, 1) := by decide +kernel
theorem dX4_setOpen_27 : decode cX4_setOpen 27 = .ok (.invokevirtual 120, 3) := by decide +kernel
theorem dX4_setOpen_30 : decode cX4_setOpen 30 = .ok (.ireturn, 1) := by decide +kernel
theorem dX4_setTurn_0 : decode cX4_setTurn 0 = .ok (.aload_n 0, 1) := by decide +kernel
theorem dX4_setTurn_1 : decode cX4_setTurn 1 = .ok (.iconst 0, 1) := by decide +kernel
theorem dX4_setTurn_2 : decode cX4_setTurn 2 = .ok (.putfield 80, 3) := by decide +kernel
theorem dX4_setTurn_5 : decode cX4_setTurn 5 = .ok (.aload_n 0, 1) := by decide +kernel
theorem dX4_setTurn_6 : decode cX4_setTurn 6 = .ok (.iload_n 1, 1) := by decide +kernel
theorem dX4_setTurn_7 : decode cX4_setTurn 7 = .ok (.invokevirtual 117, 3) := by decide +kernel
theorem dX4_setTurn_10 : decode cX4_setTurn 10 = .ok (.ifCond .eq 11, 3) := by decide +kernel
theorem dX4_setTurn_13 : decode cX4_setTurn 13 = .ok (.aload_n 0, 1) := by decide +kernel
theorem dX4_setTurn_14 : decode cX4_setTurn 14 = .ok (.iload_n 2, 1) := by decide +kernel
theorem dX4_setTurn_15 : decode cX4_setTurn 15 = .ok (.invokevirtual 117, 3) := by decide +kernel
theorem dX4_setTurn_18 : decode cX4_setTurn 18 = .ok (.ifCond .ne 9, 3) := by decide +kernel
theorem dX4_setTurn_21 : decode cX4_setTurn 21 = .ok (.aload_n 0, 1) := by decide +kernel
theorem dX4_setTurn_22 : decode cX4_setTurn 22 = .ok (.iconst 1, 1) := by decide +kernel
theorem dX4_setTurn_23 : decode cX4_setTurn 23 = .ok (.invokevirtual 89, 3) := by decide +kernel
theorem dX4_setTurn_26 : decode cX4_setTurn 26 = .ok (.ireturn, 1) := by decide +kernel
theorem dX4_setTurn_27 : decode cX4_setTurn 27 = .ok (.aload_n 0, 1) := by decide +kernel
theorem dX4_setTurn_28 : decode cX4_setTurn 28 = .ok (.iload_n 1, 1) := by decide +kernel
theorem dX4_setTurn_29 : decode cX4_setTurn 29 = .ok (.iload_n 2, 1) := by decide +kernel
theorem dX4_setTurn_30 : decode cX4_setTurn 30 = .ok (.invokevirtual 107, 3) := by decide +kernel
theorem dX4_setTurn_33 : decode cX4_setTurn 33 = .ok (.ifCond .eq 16, 3) := by decide +kernel
theorem dX4_setTurn_36 : decode cX4_setTurn 36 = .ok (.iload_n 3, 1) := by decide +kernel
theorem dX4_setTurn_37 : decode cX4_setTurn 37 = .ok (.bipush (-2), 2) := by decide +kernel
theorem dX4_setTurn_39 : decode cX4_setTurn 39 = .ok (.if_icmp .lt 10, 3) := by decide +kernel
theorem dX4_setTurn_42 : decode cX4_setTurn 42 = .ok (.iload_n 3, 1) := by decide +kernel
theorem dX4_setTurn_43 : decode cX4_setTurn 43 = .ok (.sipush 1000, 3) := by decide +kernel
theorem dX4_setTurn_46 : decode cX4_setTurn 46 = .ok (.if_icmp .le 9, 3) := by decide +kernel
theorem dX4_setTurn_49 : decode cX4_setTurn 49 = .ok (.aload_n 0, 1) := by decide +kernel
theorem dX4_setTurn_50 : decode cX4_setTurn 50 = .ok (.iconst 2, 1) := by decide +kernel
theorem dX4_setTurn_51 : decode cX4_setTurn 51 = .ok (.invokevirtual 89, 3) := by decide +kernel
theorem dX4_setTurn_54 : decode cX4_setTurn 54 = .ok (.ireturn, 1) := by decide +kernel
theorem dX4_setTurn_55 : decode cX4_setTurn 55 = .ok (.aload_n 0, 1) := by decide +kernel
theorem dX4_setTurn_56 : decode cX4_setTurn 56 = .ok (.getfield 23, 3) := by decide +kernel
theorem dX4_setTurn_59 : decode cX4_setTurn 59 = .ok (.bipush 64, 2) := by decide +kernel
theorem dX4_setTurn_61 : decode cX4_setTurn 61 = .ok (.iload_n 1, 1) := by decide +kernel
theorem dX4_setTurn_62 : decode cX4_setTurn 62 = .ok (.imul, 1) := by decide +kernel
theorem dX4_setTurn_63 : decode cX4_setTurn 63 = .ok (.iload_n 2, 1) := by decide +kernel
theorem dX4_setTurn_64 : decode cX4_setTurn 64 = .ok (.iadd, 1) := by decide +kernel
theorem dX4_setTurn_65 : decode cX4_setTurn 65 = .ok (.iload_n 3, 1) := by decide +kernel
theorem dX4_setTurn_66 : decode cX4_setTurn 66 = .ok (.iastore, 1) := by decide +kernel
theorem dX4_setTurn_67 : decode cX4_setTurn 67 = .ok (.aload_n 0, 1) := by decide +kernel
theorem dX4_setTurn_68 : decode cX4_setTurn 68 = .ok (.invokevirtual 120, 3) := by decide +kernel
theorem dX4_setTurn_71 : decode cX4_setTurn 71 = .ok (.ireturn, 1) := by decide +kernel
theorem dX4_setUTurn_0 : decode cX4_setUTurn 0 = .ok (.aload_n 0, 1) := by decide +kernel
theorem dX4_setUTurn_1 : decode cX4_setUTurn 1 = .ok (.iconst 0, 1) := by decide +kernel
theorem dX4_setUTurn_2 : decode cX4_setUTurn 2 = .ok (.putfield 80, 3) := by decide +kernel
theorem dX4_setUTurn_5 : decode cX4_setUTurn 5 = .ok (.iload_n 1, 1) := by decide +kernel
theorem dX4_setUTurn_6 : decode cX4_setUTurn 6 = .ok (.iconst (-1), 1) := by decide +kernel
theorem dX4_setUTurn_7 : decode cX4_setUTurn 7 = .ok (.if_icmp .lt 10, 3) := by decide +kernel
theorem dX4_setUTurn_10 : decode cX4_setUTurn 10 = .ok (.iload_n 1, 1) := by decide +kernel
theorem dX4_setUTurn_11 : decode cX4_setUTurn 11 = .ok (.sipush 1000, 3) := by decide +kernel
theorem dX4_setUTurn_14 : decode cX4_setUTurn 14 = .ok (.if_icmp .le 9, 3) := by decide +kernel
theorem dX4_setUTurn_17 : decode cX4_setUTurn 17 = .ok (.aload_n 0, 1) := by decide +kernel
theorem dX4_setUTurn_18 : decode cX4_setUTurn 18 = .ok (.iconst 1, 1) := by decide +kernel
theorem dX4_setUTurn_19 : decode cX4_setUTurn 19 = .ok (.invokevirtual 89, 3) := by decide +kernel
theorem dX4_setUTurn_22 : decode cX4_setUTurn 22 = .ok (.ireturn, 1) := by decide +kernel
theorem dX4_setUTurn_23 : decode cX4_setUTurn 23 = .ok (.aload_n 0, 1) := by decide +kernel
theorem dX4_setUTurn_24 : decode cX4_setUTurn 24 = .ok (.iload_n 1, 1) := by decide +kernel
theorem dX4_setUTurn_25 : decode cX4_setUTurn 25 = .ok (.putfield 26, 3) := by decide +kernel
theorem dX4_setUTurn_28 : decode cX4_setUTurn 28 = .ok (.aload_n 0, 1) := by decide +kernel
theorem dX4_setUTurn_29 : decode cX4_setUTurn 29 = .ok (.invokevirtual 120, 3) := by decide +kernel
theorem dX4_setUTurn_32 : decode cX4_setUTurn 32 = .ok (.ireturn, 1) := by decide +kernel
theorem dX4_junctionCount_0 : decode cX4_junctionCount 0 = .ok (.aload_n 0, 1) := by decide +kernel
theorem dX4_junctionCount_1 : decode cX4_junctionCount 1 = .ok (.iconst 0, 1) := by decide +kernel
theorem dX4_junctionCount_2 : decode cX4_junctionCount 2 = .ok (.putfield 80, 3) := by decide +kernel
theorem dX4_junctionCount_5 : decode cX4_junctionCount 5 = .ok (.aload_n 0, 1) := by decide +kernel
theorem dX4_junctionCount_6 : decode cX4_junctionCount 6 = .ok (.getfield 83, 3) := by decide +kernel
theorem dX4_junctionCount_9 : decode cX4_junctionCount 9 = .ok (.ireturn, 1) := by decide +kernel
theorem dX4_roadCount_0 : decode cX4_roadCount 0 = .ok (.aload_n 0, 1) := by decide +kernel
theorem dX4_roadCount_1 : decode cX4_roadCount 1 = .ok (.iconst 0, 1) := by decide +kernel
theorem dX4_roadCount_2 : decode cX4_roadCount 2 = .ok (.putfield 80, 3) := by decide +kernel
theorem dX4_roadCount_5 : decode cX4_roadCount 5 = .ok (.aload_n 0, 1) := by decide +kernel
theorem dX4_roadCount_6 : decode cX4_roadCount 6 = .ok (.getfield 86, 3) := by decide +kernel
theorem dX4_roadCount_9 : decode cX4_roadCount 9 = .ok (.ireturn, 1) := by decide +kernel
theorem dX4_weight_0 : decode cX4_weight 0 = .ok (.aload_n 0, 1) := by decide +kernel
theorem dX4_weight_1 : decode cX4_weight 1 = .ok (.iconst 0, 1) := by decide +kernel
theorem dX4_weight_2 : decode cX4_weight 2 = .ok (.putfield 80, 3) := by decide +kernel
theorem dX4_weight_5 : decode cX4_weight 5 = .ok (.aload_n 0, 1) := by decide +kernel
theorem dX4_weight_6 : decode cX4_weight 6 = .ok (.iload_n 1, 1) := by decide +kernel
theorem dX4_weight_7 : decode cX4_weight 7 = .ok (.invokevirtual 117, 3) := by decide +kernel
theorem dX4_weight_10 : decode cX4_weight 10 = .ok (.ifCond .eq 12, 3) := by decide +kernel
theorem dX4_weight_13 : decode cX4_weight 13 = .ok (.aload_n 0, 1) := by decide +kernel
theorem dX4_weight_14 : decode cX4_weight 14 = .ok (.getfield 16, 3) := by decide +kernel
theorem dX4_weight_17 : decode cX4_weight 17 = .ok (.iload_n 1, 1) := by decide +kernel
theorem dX4_weight_18 : decode cX4_weight 18 = .ok (.iaload, 1) := by decide +kernel
theorem dX4_weight_19 : decode cX4_weight 19 = .ok (.goto 8, 3) := by decide +kernel
theorem dX4_weight_22 : decode cX4_weight 22 = .ok (.aload_n 0, 1) := by decide +kernel
theorem dX4_weight_23 : decode cX4_weight 23 = .ok (.iconst 1, 1) := by decide +kernel
theorem dX4_weight_24 : decode cX4_weight 24 = .ok (.invokevirtual 89, 3) := by decide +kernel
theorem dX4_weight_27 : decode cX4_weight 27 = .ok (.ireturn, 1) := by decide +kernel
theorem dX4_isOpen_0 : decode cX4_isOpen 0 = .ok (.aload_n 0, 1) := by decide +kernel
theorem dX4_isOpen_1 : decode cX4_isOpen 1 = .ok (.iconst 0, 1) := by decide +kernel
theorem dX4_isOpen_2 : decode cX4_isOpen 2 = .ok (.putfield 80, 3) := by decide +kernel
theorem dX4_isOpen_5 : decode cX4_isOpen 5 = .ok (.aload_n 0, 1) := by decide +kernel
theorem dX4_isOpen_6 : decode cX4_isOpen 6 = .ok (.iload_n 1, 1) := by decide +kernel
theorem dX4_isOpen_7 : decode cX4_isOpen 7 = .ok (.invokevirtual 117, 3) := by decide +kernel
theorem dX4_isOpen_10 : decode cX4_isOpen 10 = .ok (.ifCond .eq 12, 3) := by decide +kernel
theorem dX4_isOpen_13 : decode cX4_isOpen 13 = .ok (.aload_n 0, 1) := by decide +kernel
theorem dX4_isOpen_14 : decode cX4_isOpen 14 = .ok (.getfield 19, 3) := by decide +kernel
theorem dX4_isOpen_17 : decode cX4_isOpen 17 = .ok (.iload_n 1, 1) := by decide +kernel
theorem dX4_isOpen_18 : decode cX4_isOpen 18 = .ok (.baload, 1) := by decide +kernel
theorem dX4_isOpen_19 : decode cX4_isOpen 19 = .ok (.goto 16, 3) := by decide +kernel
theorem dX4_isOpen_22 : decode cX4_isOpen 22 = .ok (.aload_n 0, 1) := by decide +kernel
theorem dX4_isOpen_23 : decode cX4_isOpen 23 = .ok (.iconst 1, 1) := by decide +kernel
theorem dX4_isOpen_24 : decode cX4_isOpen 24 = .ok (.invokevirtual 89, 3) := by decide +kernel
theorem dX4_isOpen_27 : decode cX4_isOpen 27 = .ok (.ifCond .eq 7, 3) := by decide +kernel
theorem dX4_isOpen_30 : decode cX4_isOpen 30 = .ok (.iconst 1, 1) := by decide +kernel
theorem dX4_isOpen_31 : decode cX4_isOpen 31 = .ok (.goto 4, 3) := by decide +kernel
theorem dX4_isOpen_34 : decode cX4_isOpen 34 = .ok (.iconst 0, 1) := by decide +kernel
theorem dX4_isOpen_35 : decode cX4_isOpen 35 = .ok (.ireturn, 1) := by decide +kernel
theorem dX4_turnPenalty_0 : decode cX4_turnPenalty 0 = .ok (.aload_n 0, 1) := by decide +kernel
theorem dX4_turnPenalty_1 : decode cX4_turnPenalty 1 = .ok (.iconst 0, 1) := by decide +kernel
theorem dX4_turnPenalty_2 : decode cX4_turnPenalty 2 = .ok (.putfield 80, 3) := by decide +kernel
theorem dX4_turnPenalty_5 : decode cX4_turnPenalty 5 = .ok (.aload_n 0, 1) := by decide +kernel
theorem dX4_turnPenalty_6 : decode cX4_turnPenalty 6 = .ok (.iload_n 1, 1) := by decide +kernel
theorem dX4_turnPenalty_7 : decode cX4_turnPenalty 7 = .ok (.invokevirtual 117, 3) := by decide +kernel
theorem dX4_turnPenalty_10 : decode cX4_turnPenalty 10 = .ok (.ifCond .eq 11, 3) := by decide +kernel
theorem dX4_turnPenalty_13 : decode cX4_turnPenalty 13 = .ok (.aload_n 0, 1) := by decide +kernel
theorem dX4_turnPenalty_14 : decode cX4_turnPenalty 14 = .ok (.iload_n 2, 1) := by decide +kernel
theorem dX4_turnPenalty_15 : decode cX4_turnPenalty 15 = .ok (.invokevirtual 117, 3) := by decide +kernel
theorem dX4_turnPenalty_18 : decode cX4_turnPenalty 18 = .ok (.ifCond .ne 9, 3) := by decide +kernel
theorem dX4_turnPenalty_21 : decode cX4_turnPenalty 21 = .ok (.aload_n 0, 1) := by decide +kernel
theorem dX4_turnPenalty_22 : decode cX4_turnPenalty 22 = .ok (.iconst 1, 1) := by decide +kernel
theorem dX4_turnPenalty_23 : decode cX4_turnPenalty 23 = .ok (.invokevirtual 89, 3) := by decide +kernel
theorem dX4_turnPenalty_26 : decode cX4_turnPenalty 26 = .ok (.ireturn, 1) := by decide +kernel
theorem dX4_turnPenalty_27 : decode cX4_turnPenalty 27 = .ok (.aload_n 0, 1) := by decide +kernel
theorem dX4_turnPenalty_28 : decode cX4_turnPenalty 28 = .ok (.iload_n 1, 1) := by decide +kernel
theorem dX4_turnPenalty_29 : decode cX4_turnPenalty 29 = .ok (.iload_n 2, 1) := by decide +kernel
theorem dX4_turnPenalty_30 : decode cX4_turnPenalty 30 = .ok (.invokevirtual 107, 3) := by decide +kernel
theorem dX4_turnPenalty_33 : decode cX4_turnPenalty 33 = .ok (.ifCond .eq 12, 3) := by decide +kernel
theorem dX4_turnPenalty_36 : decode cX4_turnPenalty 36 = .ok (.aload_n 0, 1) := by decide +kernel
theorem dX4_turnPenalty_37 : decode cX4_turnPenalty 37 = .ok (.iload_n 1, 1) := by decide +kernel
theorem dX4_turnPenalty_38 : decode cX4_turnPenalty 38 = .ok (.iload_n 2, 1) := by decide +kernel
theorem dX4_turnPenalty_39 : decode cX4_turnPenalty 39 = .ok (.invokevirtual 111, 3) := by decide +kernel
theorem dX4_turnPenalty_42 : decode cX4_turnPenalty 42 = .ok (.goto 8, 3) := by decide +kernel
theorem dX4_turnPenalty_45 : decode cX4_turnPenalty 45 = .ok (.aload_n 0, 1) := by decide +kernel
theorem dX4_turnPenalty_46 : decode cX4_turnPenalty 46 = .ok (.iconst 2, 1) := by decide +kernel
theorem dX4_turnPenalty_47 : decode cX4_turnPenalty 47 = .ok (.invokevirtual 89, 3) := by decide +kernel
theorem dX4_turnPenalty_50 : decode cX4_turnPenalty 50 = .ok (.ireturn, 1) := by decide +kernel
theorem dX4_prepare_0 : decode cX4_prepare 0 = .ok (.aload_n 0, 1) := by decide +kernel
theorem dX4_prepare_1 : decode cX4_prepare 1 = .ok (.iconst 0, 1) := by decide +kernel
theorem dX4_prepare_2 : decode cX4_prepare 2 = .ok (.putfield 80, 3) := by decide +kernel
theorem dX4_prepare_5 : decode cX4_prepare 5 = .ok (.aload_n 0, 1) := by decide +kernel
theorem dX4_prepare_6 : decode cX4_prepare 6 = .ok (.getfield 86, 3) := by decide +kernel
theorem dX4_prepare_9 : decode cX4_prepare 9 = .ok (.ifCond .ne 9, 3) := by decide +kernel
theorem dX4_prepare_12 : decode cX4_prepare 12 = .ok (.aload_n 0, 1) := by decide +kernel
theorem dX4_prepare_13 : decode cX4_prepare 13 = .ok (.iconst 1, 1) := by decide +kernel
theorem dX4_prepare_14 : decode cX4_prepare 14 = .ok (.invokevirtual 89, 3) := by decide +kernel
theorem dX4_prepare_17 : decode cX4_prepare 17 = .ok (.ireturn, 1) := by decide +kernel
theorem dX4_prepare_18 : decode cX4_prepare 18 = .ok (.aload_n 0, 1) := by decide +kernel
theorem dX4_prepare_19 : decode cX4_prepare 19 = .ok (.getfield 97, 3) := by decide +kernel
theorem dX4_prepare_22 : decode cX4_prepare 22 = .ok (.ifCond .eq 8, 3) := by decide +kernel
theorem dX4_prepare_25 : decode cX4_prepare 25 = .ok (.aload_n 0, 1) := by decide +kernel
theorem dX4_prepare_26 : decode cX4_prepare 26 = .ok (.getfield 104, 3) := by decide +kernel
theorem dX4_prepare_29 : decode cX4_prepare 29 = .ok (.ireturn, 1) := by decide +kernel
theorem dX4_prepare_30 : decode cX4_prepare 30 = .ok (.aload_n 0, 1) := by decide +kernel
theorem dX4_prepare_31 : decode cX4_prepare 31 = .ok (.iconst 0, 1) := by decide +kernel
theorem dX4_prepare_32 : decode cX4_prepare 32 = .ok (.putfield 101, 3) := by decide +kernel
theorem dX4_prepare_35 : decode cX4_prepare 35 = .ok (.aload_n 0, 1) := by decide +kernel
theorem dX4_prepare_36 : decode cX4_prepare 36 = .ok (.iconst 0, 1) := by decide +kernel
theorem dX4_prepare_37 : decode cX4_prepare 37 = .ok (.putfield 104, 3) := by decide +kernel
theorem dX4_prepare_40 : decode cX4_prepare 40 = .ok (.iconst 0, 1) := by decide +kernel
theorem dX4_prepare_41 : decode cX4_prepare 41 = .ok (.istore_n 1, 1) := by decide +kernel
theorem dX4_prepare_42 : decode cX4_prepare 42 = .ok (.iload_n 1, 1) := by decide +kernel
theorem dX4_prepare_43 : decode cX4_prepare 43 = .ok (.aload_n 0, 1) := by decide +kernel
theorem dX4_prepare_44 : decode cX4_prepare 44 = .ok (.getfield 86, 3) := by decide +kernel
theorem dX4_prepare_47 : decode cX4_prepare 47 = .ok (.if_icmp .ge 72, 3) := by decide +kernel
theorem dX4_prepare_50 : decode cX4_prepare 50 = .ok (.aload_n 0, 1) := by decide +kernel
theorem dX4_prepare_51 : decode cX4_prepare 51 = .ok (.getfield 30, 3) := by decide +kernel
theorem dX4_prepare_54 : decode cX4_prepare 54 = .ok (.iload_n 1, 1) := by decide +kernel
theorem dX4_prepare_55 : decode cX4_prepare 55 = .ok (.iconst (-1), 1) := by decide +kernel
theorem dX4_prepare_56 : decode cX4_prepare 56 = .ok (.iastore, 1) := by decide +kernel
theorem dX4_prepare_57 : decode cX4_prepare 57 = .ok (.iconst 0, 1) := by decide +kernel
theorem dX4_prepare_58 : decode cX4_prepare 58 = .ok (.istore_n 2, 1) := by decide +kernel
theorem dX4_prepare_59 : decode cX4_prepare 59 = .ok (.iload_n 2, 1) := by decide +kernel
theorem dX4_prepare_60 : decode cX4_prepare 60 = .ok (.aload_n 0, 1) := by decide +kernel
theorem dX4_prepare_61 : decode cX4_prepare 61 = .ok (.getfield 86, 3) := by decide +kernel
theorem dX4_prepare_64 : decode cX4_prepare 64 = .ok (.if_icmp .ge 49, 3) := by decide +kernel
theorem dX4_prepare_67 : decode cX4_prepare 67 = .ok (.aload_n 0, 1) := by decide +kernel
theorem dX4_prepare_68 : decode cX4_prepare 68 = .ok (.getfield 36, 3) := by decide +kernel
theorem dX4_prepare_71 : decode cX4_prepare 71 = .ok (.bipush 64, 2) := by decide +kernel
theorem dX4_prepare_73 : decode cX4_prepare 73 = .ok (.iload_n 1, 1) := by decide +kernel
theorem dX4_prepare_74 : decode cX4_prepare 74 = .ok (.imul, 1) := by decide +kernel
theorem dX4_prepare_75 : decode cX4_prepare 75 = .ok (.iload_n 2, 1) := by decide +kernel
theorem dX4_prepare_76 : decode cX4_prepare 76 = .ok (.iadd, 1) := by decide +kernel
theorem dX4_prepare_77 : decode cX4_prepare 77 = .ok (.aload_n 0, 1) := by decide +kernel
theorem dX4_prepare_78 : decode cX4_prepare 78 = .ok (.iload_n 1, 1) := by decide +kernel
theorem dX4_prepare_79 : decode cX4_prepare 79 = .ok (.iload_n 2, 1) := by decide +kernel
theorem dX4_prepare_80 : decode cX4_prepare 80 = .ok (.invokevirtual 107, 3) := by decide +kernel
theorem dX4_prepare_83 : decode cX4_prepare 83 = .ok (.bastore, 1) := by decide +kernel
theorem dX4_prepare_84 : decode cX4_prepare 84 = .ok (.aload_n 0, 1) := by decide +kernel
theorem dX4_prepare_85 : decode cX4_prepare 85 = .ok (.dup, 1) := by decide +kernel
theorem dX4_prepare_86 : decode cX4_prepare 86 = .ok (.getfield 101, 3) := by decide +kernel
theorem dX4_prepare_89 : decode cX4_prepare 89 = .ok (.aload_n 0, 1) := by decide +kernel
theorem dX4_prepare_90 : decode cX4_prepare 90 = .ok (.iload_n 1, 1) := by decide +kernel
theorem dX4_prepare_91 : decode cX4_prepare 91 = .ok (.iload_n 2, 1) := by decide +kernel
theorem dX4_prepare_92 : decode cX4_prepare 92 = .ok (.invokevirtual 107, 3) := by decide +kernel
theorem dX4_prepare_95 : decode cX4_prepare 95 = .ok (.ifCond .eq 7, 3) := by decide +kernel
theorem dX4_prepare_98 : decode cX4_prepare 98 = .ok (.iconst 1, 1) := by decide +kernel
theorem dX4_prepare_99 : decode cX4_prepare 99 = .ok (.goto 4, 3) := by decide +kernel
theorem dX4_prepare_102 : decode cX4_prepare 102 = .ok (.iconst 0, 1) := by decide +kernel
theorem dX4_prepare_103 : decode cX4_prepare 103 = .ok (.iadd, 1) := by decide +kernel
theorem dX4_prepare_104 : decode cX4_prepare 104 = .ok (.putfield 101, 3) := by decide +kernel
theorem dX4_prepare_107 : decode cX4_prepare 107 = .ok (.iinc 2 1, 3) := by decide +kernel
theorem dX4_prepare_110 : decode cX4_prepare 110 = .ok (.goto (-51), 3) := by decide +kernel
theorem dX4_prepare_113 : decode cX4_prepare 113 = .ok (.iinc 1 1, 3) := by decide +kernel
theorem dX4_prepare_116 : decode cX4_prepare 116 = .ok (.goto (-74), 3) := by decide +kernel
theorem dX4_prepare_119 : decode cX4_prepare 119 = .ok (.iconst 0, 1) := by decide +kernel
theorem dX4_prepare_120 : decode cX4_prepare 120 = .ok (.istore_n 1, 1) := by decide +kernel
theorem dX4_prepare_121 : decode cX4_prepare 121 = .ok (.iload_n 1, 1) := by decide +kernel
theorem dX4_prepare_122 : decode cX4_prepare 122 = .ok (.aload_n 0, 1) := by decide +kernel
theorem dX4_prepare_123 : decode cX4_prepare 123 = .ok (.getfield 86, 3) := by decide +kernel
theorem dX4_prepare_126 : decode cX4_prepare 126 = .ok (.if_icmp .ge 18, 3) := by decide +kernel
theorem dX4_prepare_129 : decode cX4_prepare 129 = .ok (.aload_n 0, 1) := by decide +kernel
theorem dX4_prepare_130 : decode cX4_prepare 130 = .ok (.aload_n 0, 1) := by decide +kernel
theorem dX4_prepare_131 : decode cX4_prepare 131 = .ok (.invokevirtual 124, 3) := by decide +kernel
theorem dX4_prepare_134 : decode cX4_prepare 134 = .ok (.iload_n 1, 1) := by decide +kernel
theorem dX4_prepare_135 : decode cX4_prepare 135 = .ok (.invokevirtual 127, 3) := by decide +kernel
theorem dX4_prepare_138 : decode cX4_prepare 138 = .ok (.iinc 1 1, 3) := by decide +kernel
theorem dX4_prepare_141 : decode cX4_prepare 141 = .ok (.goto (-20), 3) := by decide +kernel
theorem dX4_prepare_144 : decode cX4_prepare 144 = .ok (.aload_n 0, 1) := by decide +kernel
theorem dX4_prepare_145 : decode cX4_prepare 145 = .ok (.iconst 1, 1) := by decide +kernel
theorem dX4_prepare_146 : decode cX4_prepare 146 = .ok (.putfield 97, 3) := by decide +kernel
theorem dX4_prepare_149 : decode cX4_prepare 149 = .ok (.aload_n 0, 1) := by decide +kernel
theorem dX4_prepare_150 : decode cX4_prepare 150 = .ok (.invokevirtual 131, 3) := by decide +kernel
theorem dX4_prepare_153 : decode cX4_prepare 153 = .ok (.aload_n 0, 1) := by decide +kernel
theorem dX4_prepare_154 : decode cX4_prepare 154 = .ok (.getfield 104, 3) := by decide +kernel
theorem dX4_prepare_157 : decode cX4_prepare 157 = .ok (.ireturn, 1) := by decide +kernel
theorem dX4_next_0 : decode cX4_next 0 = .ok (.iconst (-1), 1) := by decide +kernel
theorem dX4_next_1 : decode cX4_next 1 = .ok (.istore_n 1, 1) := by decide +kernel
theorem dX4_next_2 : decode cX4_next 2 = .ok (.iconst 0, 1) := by decide +kernel
theorem dX4_next_3 : decode cX4_next 3 = .ok (.istore_n 2, 1) := by decide +kernel
theorem dX4_next_4 : decode cX4_next 4 = .ok (.iconst 0, 1) := by decide +kernel
theorem dX4_next_5 : decode cX4_next 5 = .ok (.istore_n 3, 1) := by decide +kernel
theorem dX4_next_6 : decode cX4_next 6 = .ok (.iload_n 3, 1) := by decide +kernel
theorem dX4_next_7 : decode cX4_next 7 = .ok (.aload_n 0, 1) := by decide +kernel
theorem dX4_next_8 : decode cX4_next 8 = .ok (.getfield 86, 3) := by decide +kernel
theorem dX4_next_11 : decode cX4_next 11 = .ok (.if_icmp .ge 135, 3) := by decide +kernel
theorem dX4_next_14 : decode cX4_next 14 = .ok (.aload_n 0, 1) := by decide +kernel
theorem dX4_next_15 : decode cX4_next 15 = .ok (.getfield 30, 3) := by decide +kernel
theorem dX4_next_18 : decode cX4_next 18 = .ok (.iload_n 3, 1) := by decide +kernel
theorem dX4_next_19 : decode cX4_next 19 = .ok (.iaload, 1) := by decide +kernel
theorem dX4_next_20 : decode cX4_next 20 = .ok (.iconst (-1), 1) := by decide +kernel
theorem dX4_next_21 : decode cX4_next 21 = .ok (.if_icmp .eq 6, 3) := by decide +kernel
theorem dX4_next_24 : decode cX4_next 24 = .ok (.goto 116, 3) := by decide +kernel
theorem dX4_next_27 : decode cX4_next 27 = .ok (.iconst 0, 1) := by decide +kernel
theorem dX4_next_28 : decode cX4_next 28 = .ok (.istore 4, 2) := by decide +kernel
theorem dX4_next_30 : decode cX4_next 30 = .ok (.iconst 0, 1) := by decide +kernel
theorem dX4_next_31 : decode cX4_next 31 = .ok (.istore 5, 2) := by decide +kernel
theorem dX4_next_33 : decode cX4_next 33 = .ok (.iconst 0, 1) := by decide +kernel
theorem dX4_next_34 : decode cX4_next 34 = .ok (.istore 6, 2) := by decide +kernel
theorem dX4_next_36 : decode cX4_next 36 = .ok (.iload 6, 2) := by decide +kernel
theorem dX4_next_38 : decode cX4_next 38 = .ok (.aload_n 0, 1) := by decide +kernel
theorem dX4_next_39 : decode cX4_next 39 = .ok (.getfield 86, 3) := by decide +kernel
theorem dX4_next_42 : decode cX4_next 42 = .ok (.if_icmp .ge 73, 3) := by decide +kernel
theorem dX4_next_45 : decode cX4_next 45 = .ok (.aload_n 0, 1) := by decide +kernel
theorem dX4_next_46 : decode cX4_next 46 = .ok (.getfield 30, 3) := by decide +kernel
theorem dX4_next_49 : decode cX4_next 49 = .ok (.iload 6, 2) := by decide +kernel
theorem dX4_next_51 : decode cX4_next 51 = .ok (.iaload, 1) := by decide +kernel
theorem dX4_next_52 : decode cX4_next 52 = .ok (.iconst (-1), 1) := by decide +kernel
theorem dX4_next_53 : decode cX4_next 53 = .ok (.if_icmp .eq 6, 3) := by decide +kernel
theorem dX4_next_56 : decode cX4_next 56 = .ok (.goto 53, 3) := by decide +kernel
theorem dX4_next_59 : decode cX4_next 59 = .ok (.iload 4, 2) := by decide +kernel
theorem dX4_next_61 : decode cX4_next 61 = .ok (.aload_n 0, 1) := by decide +kernel
theorem dX4_next_62 : decode cX4_next 62 = .ok (.getfield 36, 3) := by decide +kernel
theorem dX4_next_65 : decode cX4_next 65 = .ok (.bipush 64, 2) := by decide +kernel
theorem dX4_next_67 : decode cX4_next 67 = .ok (.iload 6, 2) := by decide +kernel
theorem dX4_next_69 : decode cX4_next 69 = .ok (.imul, 1) := by decide +kernel
theorem dX4_next_70 : decode cX4_next 70 = .ok (.iload_n 3, 1) := by decide +kernel
theorem dX4_next_71 : decode cX4_next 71 = .ok (.iadd, 1) := by decide +kernel
theorem dX4_next_72 : decode cX4_next 72 = .ok (.baload, 1) := by decide +kernel
theorem dX4_next_73 : decode cX4_next 73 = .ok (.ifCond .eq 7, 3) := by decide +kernel
theorem dX4_next_76 : decode cX4_next 76 = .ok (.iconst 1, 1) := by decide +kernel
theorem dX4_next_77 : decode cX4_next 77 = .ok (.goto 4, 3) := by decide +kernel
theorem dX4_next_80 : decode cX4_next 80 = .ok (.iconst 0, 1) := by decide +kernel
theorem dX4_next_81 : decode cX4_next 81 = .ok (.iadd, 1) := by decide +kernel
theorem dX4_next_82 : decode cX4_next 82 = .ok (.istore 4, 2) := by decide +kernel
theorem dX4_next_84 : decode cX4_next 84 = .ok (.iload 5, 2) := by decide +kernel
theorem dX4_next_86 : decode cX4_next 86 = .ok (.aload_n 0, 1) := by decide +kernel
theorem dX4_next_87 : decode cX4_next 87 = .ok (.getfield 36, 3) := by decide +kernel
theorem dX4_next_90 : decode cX4_next 90 = .ok (.bipush 64, 2) := by decide +kernel
theorem dX4_next_92 : decode cX4_next 92 = .ok (.iload_n 3, 1) := by decide +kernel
theorem dX4_next_93 : decode cX4_next 93 = .ok (.imul, 1) := by decide +kernel
theorem dX4_next_94 : decode cX4_next 94 = .ok (.iload 6, 2) := by decide +kernel
theorem dX4_next_96 : decode cX4_next 96 = .ok (.iadd, 1) := by decide +kernel
theorem dX4_next_97 : decode cX4_next 97 = .ok (.baload, 1) := by decide +kernel
theorem dX4_next_98 : decode cX4_next 98 = .ok (.ifCond .eq 7, 3) := by decide +kernel
theorem dX4_next_101 : decode cX4_next 101 = .ok (.iconst 1, 1) := by decide +kernel
theorem dX4_next_102 : decode cX4_next 102 = .ok (.goto 4, 3) := by decide +kernel
theorem dX4_next_105 : decode cX4_next 105 = .ok (.iconst 0, 1) := by decide +kernel
theorem dX4_next_106 : decode cX4_next 106 = .ok (.iadd, 1) := by decide +kernel
theorem dX4_next_107 : decode cX4_next 107 = .ok (.istore 5, 2) := by decide +kernel
theorem dX4_next_109 : decode cX4_next 109 = .ok (.iinc 6 1, 3) := by decide +kernel
theorem dX4_next_112 : decode cX4_next 112 = .ok (.goto (-76), 3) := by decide +kernel
theorem dX4_next_115 : decode cX4_next 115 = .ok (.iload_n 1, 1) := by decide +kernel
theorem dX4_next_116 : decode cX4_next 116 = .ok (.iconst (-1), 1) := by decide +kernel
theorem dX4_next_117 : decode cX4_next 117 = .ok (.if_icmp .eq 15, 3) := by decide +kernel
theorem dX4_next_120 : decode cX4_next 120 = .ok (.iload 4, 2) := by decide +kernel
theorem dX4_next_122 : decode cX4_next 122 = .ok (.iload 5, 2) := by decide +kernel
theorem dX4_next_124 : decode cX4_next 124 = .ok (.imul, 1) := by decide +kernel
theorem dX4_next_125 : decode cX4_next 125 = .ok (.iload_n 2, 1) := by decide +kernel
theorem dX4_next_126 : decode cX4_next 126 = .ok (.if_icmp .lt 6, 3) := by decide +kernel
theorem dX4_next_129 : decode cX4_next 129 = .ok (.goto 11, 3) := by decide +kernel
theorem dX4_next_132 : decode cX4_next 132 = .ok (.iload_n 3, 1) := by decide +kernel
theorem dX4_next_133 : decode cX4_next 133 = .ok (.istore_n 1, 1) := by decide +kernel
theorem dX4_next_134 : decode cX4_next 134 = .ok (.iload 4, 2) := by decide +kernel
theorem dX4_next_136 : decode cX4_next 136 = .ok (.iload 5, 2) := by decide +kernel
theorem dX4_next_138 : decode cX4_next 138 = .ok (.imul, 1) := by decide +kernel
theorem dX4_next_139 : decode cX4_next 139 = .ok (.istore_n 2, 1) := by decide +kernel
theorem dX4_next_140 : decode cX4_next 140 = .ok (.iinc 3 1, 3) := by decide +kernel
theorem dX4_next_143 : decode cX4_next 143 = .ok (.goto (-137), 3) := by decide +kernel
theorem dX4_next_146 : decode cX4_next 146 = .ok (.iload_n 1, 1) := by decide +kernel
theorem dX4_next_147 : decode cX4_next 147 = .ok (.ireturn, 1) := by decide +kernel
theorem dX4_take_0 : decode cX4_take 0 = .ok (.aload_n 0, 1) := by decide +kernel
theorem dX4_take_1 : decode cX4_take 1 = .ok (.getfield 30, 3) := by decide +kernel
theorem dX4_take_4 : decode cX4_take 4 = .ok (.iload_n 1, 1) := by decide +kernel
theorem dX4_take_5 : decode cX4_take 5 = .ok (.iload_n 2, 1) := by decide +kernel
theorem dX4_take_6 : decode cX4_take 6 = .ok (.iastore, 1) := by decide +kernel
theorem dX4_take_7 : decode cX4_take 7 = .ok (.aload_n 0, 1) := by decide +kernel
theorem dX4_take_8 : decode cX4_take 8 = .ok (.getfield 33, 3) := by decide +kernel
theorem dX4_take_11 : decode cX4_take 11 = .ok (.iload_n 2, 1) := by decide +kernel
theorem dX4_take_12 : decode cX4_take 12 = .ok (.iload_n 1, 1) := by decide +kernel
theorem dX4_take_13 : decode cX4_take 13 = .ok (.iastore, 1) := by decide +kernel
theorem dX4_take_14 : decode cX4_take 14 = .ok (.iconst 0, 1) := by decide +kernel
theorem dX4_take_15 : decode cX4_take 15 = .ok (.istore_n 3, 1) := by decide +kernel
theorem dX4_take_16 : decode cX4_take 16 = .ok (.iload_n 3, 1) := by decide +kernel
theorem dX4_take_17 : decode cX4_take 17 = .ok (.aload_n 0, 1) := by decide +kernel
theorem dX4_take_18 : decode cX4_take 18 = .ok (.getfield 86, 3) := by decide +kernel
theorem dX4_take_21 : decode cX4_take 21 = .ok (.if_icmp .ge 137, 3) := by decide +kernel
theorem dX4_take_24 : decode cX4_take 24 = .ok (.iconst 0, 1) := by decide +kernel
theorem dX4_take_25 : decode cX4_take 25 = .ok (.istore 4, 2) := by decide +kernel
theorem dX4_take_27 : decode cX4_take 27 = .ok (.iload 4, 2) := by decide +kernel
theorem dX4_take_29 : decode cX4_take 29 = .ok (.aload_n 0, 1) := by decide +kernel
theorem dX4_take_30 : decode cX4_take 30 = .ok (.getfield 86, 3) := by decide +kernel
theorem dX4_take_33 : decode cX4_take 33 = .ok (.if_icmp .ge 119, 3) := by decide +kernel
theorem dX4_take_36 : decode cX4_take 36 = .ok (.iload_n 3, 1) := by decide +kernel
theorem dX4_take_37 : decode cX4_take 37 = .ok (.iload 4, 2) := by decide +kernel
theorem dX4_take_39 : decode cX4_take 39 = .ok (.if_icmp .eq 107, 3) := by decide +kernel
theorem dX4_take_42 : decode cX4_take 42 = .ok (.aload_n 0, 1) := by decide +kernel
theorem dX4_take_43 : decode cX4_take 43 = .ok (.getfield 30, 3) := by decide +kernel
theorem dX4_take_46 : decode cX4_take 46 = .ok (.iload_n 3, 1) := by decide +kernel
theorem dX4_take_47 : decode cX4_take 47 = .ok (.iaload, 1) := by decide +kernel
theorem dX4_take_48 : decode cX4_take 48 = .ok (.iconst (-1), 1) := by decide +kernel
theorem dX4_take_49 : decode cX4_take 49 = .ok (.if_icmp .ne 97, 3) := by decide +kernel
theorem dX4_take_52 : decode cX4_take 52 = .ok (.aload_n 0, 1) := by decide +kernel
theorem dX4_take_53 : decode cX4_take 53 = .ok (.getfield 30, 3) := by decide +kernel
theorem dX4_take_56 : decode cX4_take 56 = .ok (.iload 4, 2) := by decide +kernel
theorem dX4_take_58 : decode cX4_take 58 = .ok (.iaload, 1) := by decide +kernel
theorem dX4_take_59 : decode cX4_take 59 = .ok (.iconst (-1), 1) := by decide +kernel
theorem dX4_take_60 : decode cX4_take 60 = .ok (.if_icmp .ne 86, 3) := by decide +kernel
theorem dX4_take_63 : decode cX4_take 63 = .ok (.aload_n 0, 1) := by decide +kernel
theorem dX4_take_64 : decode cX4_take 64 = .ok (.getfield 36, 3) := by decide +kernel
theorem dX4_take_67 : decode cX4_take 67 = .ok (.bipush 64, 2) := by decide +kernel
theorem dX4_take_69 : decode cX4_take 69 = .ok (.iload_n 3, 1) := by decide +kernel
theorem dX4_take_70 : decode cX4_take 70 = .ok (.imul, 1) := by decide +kernel
theorem dX4_take_71 : decode cX4_take 71 = .ok (.iload 4, 2) := by decide +kernel
theorem dX4_take_73 : decode cX4_take 73 = .ok (.iadd, 1) := by decide +kernel
theorem dX4_take_74 : decode cX4_take 74 = .ok (.baload, 1) := by decide +kernel
theorem dX4_take_75 : decode cX4_take 75 = .ok (.ifCond .eq 6, 3) := by decide +kernel
theorem dX4_take_78 : decode cX4_take 78 = .ok (.goto 68, 3) := by decide +kernel
theorem dX4_take_81 : decode cX4_take 81 = .ok (.aload_n 0, 1) := by decide +kernel
theorem dX4_take_82 : decode cX4_take 82 = .ok (.getfield 36, 3) := by decide +kernel
theorem dX4_take_85 : decode cX4_take 85 = .ok (.bipush 64, 2) := by decide +kernel
theorem dX4_take_87 : decode cX4_take 87 = .ok (.iload_n 3, 1) := by decide +kernel
theorem dX4_take_88 : decode cX4_take 88 = .ok (.imul, 1) := by decide +kernel
theorem dX4_take_89 : decode cX4_take 89 = .ok (.iload_n 1, 1) := by decide +kernel
theorem dX4_take_90 : decode cX4_take 90 = .ok (.iadd, 1) := by decide +kernel
theorem dX4_take_91 : decode cX4_take 91 = .ok (.baload, 1) := by decide +kernel
theorem dX4_take_92 : decode cX4_take 92 = .ok (.ifCond .eq 54, 3) := by decide +kernel
theorem dX4_take_95 : decode cX4_take 95 = .ok (.aload_n 0, 1) := by decide +kernel
theorem dX4_take_96 : decode cX4_take 96 = .ok (.getfield 36, 3) := by decide +kernel
theorem dX4_take_99 : decode cX4_take 99 = .ok (.bipush 64, 2) := by decide +kernel
theorem dX4_take_101 : decode cX4_take 101 = .ok (.iload_n 1, 1) := by decide +kernel
theorem dX4_take_102 : decode cX4_take 102 = .ok (.imul, 1) := by decide +kernel
theorem dX4_take_103 : decode cX4_take 103 = .ok (.iload 4, 2) := by decide +kernel
theorem dX4_take_105 : decode cX4_take 105 = .ok (.iadd, 1) := by decide +kernel
theorem dX4_take_106 : decode cX4_take 106 = .ok (.baload, 1) := by decide +kernel
theorem dX4_take_107 : decode cX4_take 107 = .ok (.ifCond .ne 6, 3) := by decide +kernel
theorem dX4_take_110 : decode cX4_take 110 = .ok (.goto 36, 3) := by decide +kernel
theorem dX4_take_113 : decode cX4_take 113 = .ok (.aload_n 0, 1) := by decide +kernel
theorem dX4_take_114 : decode cX4_take 114 = .ok (.getfield 36, 3) := by decide +kernel
theorem dX4_take_117 : decode cX4_take 117 = .ok (.bipush 64, 2) := by decide +kernel
theorem dX4_take_119 : decode cX4_take 119 = .ok (.iload_n 3, 1) := by decide +kernel
theorem dX4_take_120 : decode cX4_take 120 = .ok (.imul, 1) := by decide +kernel
theorem dX4_take_121 : decode cX4_take 121 = .ok (.iload 4, 2) := by decide +kernel
theorem dX4_take_123 : decode cX4_take 123 = .ok (.iadd, 1) := by decide +kernel
theorem dX4_take_124 : decode cX4_take 124 = .ok (.iconst 1, 1) := by decide +kernel
theorem dX4_take_125 : decode cX4_take 125 = .ok (.bastore, 1) := by decide +kernel
theorem dX4_take_126 : decode cX4_take 126 = .ok (.aload_n 0, 1) := by decide +kernel
theorem dX4_take_127 : decode cX4_take 127 = .ok (.dup, 1) := by decide +kernel
theorem dX4_take_128 : decode cX4_take 128 = .ok (.getfield 101, 3) := by decide +kernel
theorem dX4_take_131 : decode cX4_take 131 = .ok (.iconst 1, 1) := by decide +kernel
theorem dX4_take_132 : decode cX4_take 132 = .ok (.iadd, 1) := by decide +kernel
theorem dX4_take_133 : decode cX4_take 133 = .ok (.putfield 101, 3) := by decide +kernel
theorem dX4_take_136 : decode cX4_take 136 = .ok (.aload_n 0, 1) := by decide +kernel
theorem dX4_take_137 : decode cX4_take 137 = .ok (.dup, 1) := by decide +kernel
theorem dX4_take_138 : decode cX4_take 138 = .ok (.getfield 104, 3) := by decide +kernel
theorem dX4_take_141 : decode cX4_take 141 = .ok (.iconst 1, 1) := by decide +kernel
theorem dX4_take_142 : decode cX4_take 142 = .ok (.iadd, 1) := by decide +kernel
theorem dX4_take_143 : decode cX4_take 143 = .ok (.putfield 104, 3) := by decide +kernel
theorem dX4_take_146 : decode cX4_take 146 = .ok (.iinc 4 1, 3) := by decide +kernel
theorem dX4_take_149 : decode cX4_take 149 = .ok (.goto (-122), 3) := by decide +kernel
theorem dX4_take_152 : decode cX4_take 152 = .ok (.iinc 3 1, 3) := by decide +kernel
theorem dX4_take_155 : decode cX4_take 155 = .ok (.goto (-139), 3) := by decide +kernel
theorem dX4_take_158 : decode cX4_take 158 = .ok (.return_, 1) := by decide +kernel
theorem dX4_findCosts_0 : decode cX4_findCosts 0 = .ok (.iconst 0, 1) := by decide +kernel
theorem dX4_findCosts_1 : decode cX4_findCosts 1 = .ok (.istore_n 1, 1) := by decide +kernel
theorem dX4_findCosts_2 : decode cX4_findCosts 2 = .ok (.iload_n 1, 1) := by decide +kernel
theorem dX4_findCosts_3 : decode cX4_findCosts 3 = .ok (.aload_n 0, 1) := by decide +kernel
theorem dX4_findCosts_4 : decode cX4_findCosts 4 = .ok (.getfield 86, 3) := by decide +kernel
theorem dX4_findCosts_7 : decode cX4_findCosts 7 = .ok (.if_icmp .ge 42, 3) := by decide +kernel
theorem dX4_findCosts_10 : decode cX4_findCosts 10 = .ok (.iconst 0, 1) := by decide +kernel
theorem dX4_findCosts_11 : decode cX4_findCosts 11 = .ok (.istore_n 2, 1) := by decide +kernel
theorem dX4_findCosts_12 : decode cX4_findCosts 12 = .ok (.iload_n 2, 1) := by decide +kernel
theorem dX4_findCosts_13 : decode cX4_findCosts 13 = .ok (.aload_n 0, 1) := by decide +kernel
theorem dX4_findCosts_14 : decode cX4_findCosts 14 = .ok (.getfield 86, 3) := by decide +kernel
theorem dX4_findCosts_17 : decode cX4_findCosts 17 = .ok (.if_icmp .ge 26, 3) := by decide +kernel
theorem dX4_findCosts_20 : decode cX4_findCosts 20 = .ok (.aload_n 0, 1) := by decide +kernel
theorem dX4_findCosts_21 : decode cX4_findCosts 21 = .ok (.getfield 46, 3) := by decide +kernel
theorem dX4_findCosts_24 : decode cX4_findCosts 24 = .ok (.bipush 64, 2) := by decide +kernel
theorem dX4_findCosts_26 : decode cX4_findCosts 26 = .ok (.iload_n 1, 1) := by decide +kernel
theorem dX4_findCosts_27 : decode cX4_findCosts 27 = .ok (.imul, 1) := by decide +kernel
theorem dX4_findCosts_28 : decode cX4_findCosts 28 = .ok (.iload_n 2, 1) := by decide +kernel
theorem dX4_findCosts_29 : decode cX4_findCosts 29 = .ok (.iadd, 1) := by decide +kernel
theorem dX4_findCosts_30 : decode cX4_findCosts 30 = .ok (.aload_n 0, 1) := by decide +kernel
theorem dX4_findCosts_31 : decode cX4_findCosts 31 = .ok (.iload_n 1, 1) := by decide +kernel
theorem dX4_findCosts_32 : decode cX4_findCosts 32 = .ok (.iload_n 2, 1) := by decide +kernel
theorem dX4_findCosts_33 : decode cX4_findCosts 33 = .ok (.invokevirtual 134, 3) := by decide +kernel
theorem dX4_findCosts_36 : decode cX4_findCosts 36 = .ok (.lastore, 1) := by decide +kernel
theorem dX4_findCosts_37 : decode cX4_findCosts 37 = .ok (.iinc 2 1, 3) := by decide +kernel
theorem dX4_findCosts_40 : decode cX4_findCosts 40 = .ok (.goto (-28), 3) := by decide +kernel
theorem dX4_findCosts_43 : decode cX4_findCosts 43 = .ok (.iinc 1 1, 3) := by decide +kernel
theorem dX4_findCosts_46 : decode cX4_findCosts 46 = .ok (.goto (-44), 3) := by decide +kernel
theorem dX4_findCosts_49 : decode cX4_findCosts 49 = .ok (.iconst 0, 1) := by decide +kernel
theorem dX4_findCosts_50 : decode cX4_findCosts 50 = .ok (.istore_n 1, 1) := by decide +kernel
theorem dX4_findCosts_51 : decode cX4_findCosts 51 = .ok (.iload_n 1, 1) := by decide +kernel
theorem dX4_findCosts_52 : decode cX4_findCosts 52 = .ok (.aload_n 0, 1) := by decide +kernel
theorem dX4_findCosts_53 : decode cX4_findCosts 53 = .ok (.getfield 86, 3) := by decide +kernel
theorem dX4_findCosts_56 : decode cX4_findCosts 56 = .ok (.if_icmp .ge 180, 3) := by decide +kernel
theorem dX4_findCosts_59 : decode cX4_findCosts 59 = .ok (.aload_n 0, 1) := by decide +kernel
theorem dX4_findCosts_60 : decode cX4_findCosts 60 = .ok (.getfield 33, 3) := by decide +kernel
theorem dX4_findCosts_63 : decode cX4_findCosts 63 = .ok (.iload_n 1, 1) := by decide +kernel
theorem dX4_findCosts_64 : decode cX4_findCosts 64 = .ok (.iaload, 1) := by decide +kernel
theorem dX4_findCosts_65 : decode cX4_findCosts 65 = .ok (.istore_n 2, 1) := by decide +kernel
theorem dX4_findCosts_66 : decode cX4_findCosts 66 = .ok (.iconst 0, 1) := by decide +kernel
theorem dX4_findCosts_67 : decode cX4_findCosts 67 = .ok (.istore_n 3, 1) := by decide +kernel
theorem dX4_findCosts_68 : decode cX4_findCosts 68 = .ok (.iload_n 3, 1) := by decide +kernel
theorem dX4_findCosts_69 : decode cX4_findCosts 69 = .ok (.aload_n 0, 1) := by decide +kernel
theorem dX4_findCosts_70 : decode cX4_findCosts 70 = .ok (.getfield 86, 3) := by decide +kernel
theorem dX4_findCosts_73 : decode cX4_findCosts 73 = .ok (.if_icmp .ge 66, 3) := by decide +kernel
theorem dX4_findCosts_76 : decode cX4_findCosts 76 = .ok (.aload_n 0, 1) := by decide +kernel
theorem dX4_findCosts_77 : decode cX4_findCosts 77 = .ok (.getfield 30, 3) := by decide +kernel
theorem dX4_findCosts_80 : decode cX4_findCosts 80 = .ok (.iload_n 3, 1) := by decide +kernel
theorem dX4_findCosts_81 : decode cX4_findCosts 81 = .ok (.iaload, 1) := by decide +kernel
theorem dX4_findCosts_82 : decode cX4_findCosts 82 = .ok (.iload_n 1, 1) := by decide +kernel
theorem dX4_findCosts_83 : decode cX4_findCosts 83 = .ok (.if_icmp .gt 6, 3) := by decide +kernel
theorem dX4_findCosts_86 : decode cX4_findCosts 86 = .ok (.goto 47, 3) := by decide +kernel
theorem dX4_findCosts_89 : decode cX4_findCosts 89 = .ok (.aload_n 0, 1) := by decide +kernel
theorem dX4_findCosts_90 : decode cX4_findCosts 90 = .ok (.getfield 39, 3) := by decide +kernel
theorem dX4_findCosts_93 : decode cX4_findCosts 93 = .ok (.bipush 64, 2) := by decide +kernel
theorem dX4_findCosts_95 : decode cX4_findCosts 95 = .ok (.iload_n 2, 1) := by decide +kernel
theorem dX4_findCosts_96 : decode cX4_findCosts 96 = .ok (.imul, 1) := by decide +kernel
theorem dX4_findCosts_97 : decode cX4_findCosts 97 = .ok (.iload_n 3, 1) := by decide +kernel
theorem dX4_findCosts_98 : decode cX4_findCosts 98 = .ok (.iadd, 1) := by decide +kernel
theorem dX4_findCosts_99 : decode cX4_findCosts 99 = .ok (.aload_n 0, 1) := by decide +kernel
theorem dX4_findCosts_100 : decode cX4_findCosts 100 = .ok (.getfield 46, 3) := by decide +kernel
theorem dX4_findCosts_103 : decode cX4_findCosts 103 = .ok (.bipush 64, 2) := by decide +kernel
theorem dX4_findCosts_105 : decode cX4_findCosts 105 = .ok (.iload_n 2, 1) := by decide +kernel
theorem dX4_findCosts_106 : decode cX4_findCosts 106 = .ok (.imul, 1) := by decide +kernel
theorem dX4_findCosts_107 : decode cX4_findCosts 107 = .ok (.iload_n 3, 1) := by decide +kernel
theorem dX4_findCosts_108 : decode cX4_findCosts 108 = .ok (.iadd, 1) := by decide +kernel
theorem dX4_findCosts_109 : decode cX4_findCosts 109 = .ok (.laload, 1) := by decide +kernel
theorem dX4_findCosts_110 : decode cX4_findCosts 110 = .ok (.lastore, 1) := by decide +kernel
theorem dX4_findCosts_111 : decode cX4_findCosts 111 = .ok (.aload_n 0, 1) := by decide +kernel
theorem dX4_findCosts_112 : decode cX4_findCosts 112 = .ok (.getfield 39, 3) := by decide +kernel
theorem dX4_findCosts_115 : decode cX4_findCosts 115 = .ok (.bipush 64, 2) := by decide +kernel
theorem dX4_findCosts_117 : decode cX4_findCosts 117 = .ok (.iload_n 3, 1) := by decide +kernel
theorem dX4_findCosts_118 : decode cX4_findCosts 118 = .ok (.imul, 1) := by decide +kernel
theorem dX4_findCosts_119 : decode cX4_findCosts 119 = .ok (.iload_n 2, 1) := by decide +kernel
theorem dX4_findCosts_120 : decode cX4_findCosts 120 = .ok (.iadd, 1) := by decide +kernel
theorem dX4_findCosts_121 : decode cX4_findCosts 121 = .ok (.aload_n 0, 1) := by decide +kernel
theorem dX4_findCosts_122 : decode cX4_findCosts 122 = .ok (.getfield 46, 3) := by decide +kernel
theorem dX4_findCosts_125 : decode cX4_findCosts 125 = .ok (.bipush 64, 2) := by decide +kernel
theorem dX4_findCosts_127 : decode cX4_findCosts 127 = .ok (.iload_n 3, 1) := by decide +kernel
theorem dX4_findCosts_128 : decode cX4_findCosts 128 = .ok (.imul, 1) := by decide +kernel
theorem dX4_findCosts_129 : decode cX4_findCosts 129 = .ok (.iload_n 2, 1) := by decide +kernel
theorem dX4_findCosts_130 : decode cX4_findCosts 130 = .ok (.iadd, 1) := by decide +kernel
theorem dX4_findCosts_131 : decode cX4_findCosts 131 = .ok (.laload, 1) := by decide +kernel
theorem dX4_findCosts_132 : decode cX4_findCosts 132 = .ok (.lastore, 1) := by decide +kernel
theorem dX4_findCosts_133 : decode cX4_findCosts 133 = .ok (.iinc 3 1, 3) := by decide +kernel
theorem dX4_findCosts_136 : decode cX4_findCosts 136 = .ok (.goto (-68), 3) := by decide +kernel
theorem dX4_findCosts_139 : decode cX4_findCosts 139 = .ok (.iconst 0, 1) := by decide +kernel
theorem dX4_findCosts_140 : decode cX4_findCosts 140 = .ok (.istore_n 3, 1) := by decide +kernel
theorem dX4_findCosts_141 : decode cX4_findCosts 141 = .ok (.iload_n 3, 1) := by decide +kernel
theorem dX4_findCosts_142 : decode cX4_findCosts 142 = .ok (.aload_n 0, 1) := by decide +kernel
theorem dX4_findCosts_143 : decode cX4_findCosts 143 = .ok (.getfield 86, 3) := by decide +kernel
theorem dX4_findCosts_146 : decode cX4_findCosts 146 = .ok (.if_icmp .ge 84, 3) := by decide +kernel
theorem dX4_findCosts_149 : decode cX4_findCosts 149 = .ok (.iconst 0, 1) := by decide +kernel
theorem dX4_findCosts_150 : decode cX4_findCosts 150 = .ok (.istore 4, 2) := by decide +kernel
theorem dX4_findCosts_152 : decode cX4_findCosts 152 = .ok (.iload 4, 2) := by decide +kernel
theorem dX4_findCosts_154 : decode cX4_findCosts 154 = .ok (.aload_n 0, 1) := by decide +kernel
theorem dX4_findCosts_155 : decode cX4_findCosts 155 = .ok (.getfield 86, 3) := by decide +kernel
theorem dX4_findCosts_158 : decode cX4_findCosts 158 = .ok (.if_icmp .ge 66, 3) := by decide +kernel
theorem dX4_findCosts_161 : decode cX4_findCosts 161 = .ok (.aload_n 0, 1) := by decide +kernel
theorem dX4_findCosts_162 : decode cX4_findCosts 162 = .ok (.getfield 46, 3) := by decide +kernel
theorem dX4_findCosts_165 : decode cX4_findCosts 165 = .ok (.bipush 64, 2) := by decide +kernel
theorem dX4_findCosts_167 : decode cX4_findCosts 167 = .ok (.iload_n 3, 1) := by decide +kernel
theorem dX4_findCosts_168 : decode cX4_findCosts 168 = .ok (.imul, 1) := by decide +kernel
theorem dX4_findCosts_169 : decode cX4_findCosts 169 = .ok (.iload 4, 2) := by decide +kernel
theorem dX4_findCosts_171 : decode cX4_findCosts 171 = .ok (.iadd, 1) := by decide +kernel
theorem dX4_findCosts_172 : decode cX4_findCosts 172 = .ok (.aload_n 0, 1) := by decide +kernel
theorem dX4_findCosts_173 : decode cX4_findCosts 173 = .ok (.getfield 46, 3) := by decide +kernel
theorem dX4_findCosts_176 : decode cX4_findCosts 176 = .ok (.bipush 64, 2) := by decide +kernel
theorem dX4_findCosts_178 : decode cX4_findCosts 178 = .ok (.iload_n 3, 1) := by decide +kernel
theorem dX4_findCosts_179 : decode cX4_findCosts 179 = .ok (.imul, 1) := by decide +kernel
theorem dX4_findCosts_180 : decode cX4_findCosts 180 = .ok (.iload 4, 2) := by decide +kernel
theorem dX4_findCosts_182 : decode cX4_findCosts 182 = .ok (.iadd, 1) := by decide +kernel
theorem dX4_findCosts_183 : decode cX4_findCosts 183 = .ok (.laload, 1) := by decide +kernel
theorem dX4_findCosts_184 : decode cX4_findCosts 184 = .ok (.ldc2_w 115, 3) := by decide +kernel
theorem dX4_findCosts_187 : decode cX4_findCosts 187 = .ok (.aload_n 0, 1) := by decide +kernel
theorem dX4_findCosts_188 : decode cX4_findCosts 188 = .ok (.getfield 46, 3) := by decide +kernel
theorem dX4_findCosts_191 : decode cX4_findCosts 191 = .ok (.bipush 64, 2) := by decide +kernel
theorem dX4_findCosts_193 : decode cX4_findCosts 193 = .ok (.iload_n 3, 1) := by decide +kernel
theorem dX4_findCosts_194 : decode cX4_findCosts 194 = .ok (.imul, 1) := by decide +kernel
theorem dX4_findCosts_195 : decode cX4_findCosts 195 = .ok (.iload_n 2, 1) := by decide +kernel
theorem dX4_findCosts_196 : decode cX4_findCosts 196 = .ok (.iadd, 1) := by decide +kernel
theorem dX4_findCosts_197 : decode cX4_findCosts 197 = .ok (.laload, 1) := by decide +kernel
theorem dX4_findCosts_198 : decode cX4_findCosts 198 = .ok (.aload_n 0, 1) := by decide +kernel
theorem dX4_findCosts_199 : decode cX4_findCosts 199 = .ok (.getfield 46, 3) := by decide +kernel
theorem dX4_findCosts_202 : decode cX4_findCosts 202 = .ok (.bipush 64, 2) := by decide +kernel
theorem dX4_findCosts_204 : decode cX4_findCosts 204 = .ok (.iload_n 2, 1) := by decide +kernel
theorem dX4_findCosts_205 : decode cX4_findCosts 205 = .ok (.imul, 1) := by decide +kernel
theorem dX4_findCosts_206 : decode cX4_findCosts 206 = .ok (.iload 4, 2) := by decide +kernel
theorem dX4_findCosts_208 : decode cX4_findCosts 208 = .ok (.iadd, 1) := by decide +kernel
theorem dX4_findCosts_209 : decode cX4_findCosts 209 = .ok (.laload, 1) := by decide +kernel
theorem dX4_findCosts_210 : decode cX4_findCosts 210 = .ok (.ladd, 1) := by decide +kernel
theorem dX4_findCosts_211 : decode cX4_findCosts 211 = .ok (.invokestatic 138, 3) := by decide +kernel
theorem dX4_findCosts_214 : decode cX4_findCosts 214 = .ok (.invokestatic 138, 3) := by decide +kernel
theorem dX4_findCosts_217 : decode cX4_findCosts 217 = .ok (.lastore, 1) := by decide +kernel
theorem dX4_findCosts_218 : decode cX4_findCosts 218 = .ok (.iinc 4 1, 3) := by decide +kernel
theorem dX4_findCosts_221 : decode cX4_findCosts 221 = .ok (.goto (-69), 3) := by decide +kernel
theorem dX4_findCosts_224 : decode cX4_findCosts 224 = .ok (.iinc 3 1, 3) := by decide +kernel
theorem dX4_findCosts_227 : decode cX4_findCosts 227 = .ok (.goto (-86), 3) := by decide +kernel
theorem dX4_findCosts_230 : decode cX4_findCosts 230 = .ok (.iinc 1 1, 3) := by decide +kernel
theorem dX4_findCosts_233 : decode cX4_findCosts 233 = .ok (.goto (-182), 3) := by decide +kernel
theorem dX4_findCosts_236 : decode cX4_findCosts 236 = .ok (.return_, 1) := by decide +kernel
theorem dX4_renewed_0 : decode cX4_renewed 0 = .ok (.aload_n 0, 1) := by decide +kernel
theorem dX4_renewed_1 : decode cX4_renewed 1 = .ok (.getfield 97, 3) := by decide +kernel
theorem dX4_renewed_4 : decode cX4_renewed 4 = .ok (.ifCond .ne 5, 3) := by decide +kernel
theorem dX4_renewed_7 : decode cX4_renewed 7 = .ok (.iconst 0, 1) := by decide +kernel
theorem dX4_renewed_8 : decode cX4_renewed 8 = .ok (.ireturn, 1) := by decide +kernel
theorem dX4_renewed_9 : decode cX4_renewed 9 = .ok (.iconst 0, 1) := by decide +kernel
theorem dX4_renewed_10 : decode cX4_renewed 10 = .ok (.istore_n 1, 1) := by decide +kernel
theorem dX4_renewed_11 : decode cX4_renewed 11 = .ok (.iload_n 1, 1) := by decide +kernel
theorem dX4_renewed_12 : decode cX4_renewed 12 = .ok (.aload_n 0, 1) := by decide +kernel
theorem dX4_renewed_13 : decode cX4_renewed 13 = .ok (.getfield 39, 3) := by decide +kernel
theorem dX4_renewed_16 : decode cX4_renewed 16 = .ok (.arraylength, 1) := by decide +kernel
theorem dX4_renewed_17 : decode cX4_renewed 17 = .ok (.if_icmp .ge 21, 3) := by decide +kernel
theorem dX4_renewed_20 : decode cX4_renewed 20 = .ok (.aload_n 0, 1) := by decide +kernel
theorem dX4_renewed_21 : decode cX4_renewed 21 = .ok (.getfield 43, 3) := by decide +kernel
theorem dX4_renewed_24 : decode cX4_renewed 24 = .ok (.iload_n 1, 1) := by decide +kernel
theorem dX4_renewed_25 : decode cX4_renewed 25 = .ok (.aload_n 0, 1) := by decide +kernel
theorem dX4_renewed_26 : decode cX4_renewed 26 = .ok (.getfield 39, 3) := by decide +kernel
theorem dX4_renewed_29 : decode cX4_renewed 29 = .ok (.iload_n 1, 1) := by decide +kernel
theorem dX4_renewed_30 : decode cX4_renewed 30 = .ok (.laload, 1) := by decide +kernel
theorem dX4_renewed_31 : decode cX4_renewed 31 = .ok (.lastore, 1) := by decide +kernel
theorem dX4_renewed_32 : decode cX4_renewed 32 = .ok (.iinc 1 1, 3) := by decide +kernel
theorem dX4_renewed_35 : decode cX4_renewed 35 = .ok (.goto (-24), 3) := by decide +kernel
theorem dX4_renewed_38 : decode cX4_renewed 38 = .ok (.aload_n 0, 1) := by decide +kernel
theorem dX4_renewed_39 : decode cX4_renewed 39 = .ok (.invokevirtual 131, 3) := by decide +kernel
theorem dX4_renewed_42 : decode cX4_renewed 42 = .ok (.iconst 0, 1) := by decide +kernel
theorem dX4_renewed_43 : decode cX4_renewed 43 = .ok (.istore_n 1, 1) := by decide +kernel
theorem dX4_renewed_44 : decode cX4_renewed 44 = .ok (.iconst 0, 1) := by decide +kernel
theorem dX4_renewed_45 : decode cX4_renewed 45 = .ok (.istore_n 2, 1) := by decide +kernel
theorem dX4_renewed_46 : decode cX4_renewed 46 = .ok (.iload_n 2, 1) := by decide +kernel
theorem dX4_renewed_47 : decode cX4_renewed 47 = .ok (.aload_n 0, 1) := by decide +kernel
theorem dX4_renewed_48 : decode cX4_renewed 48 = .ok (.getfield 86, 3) := by decide +kernel
theorem dX4_renewed_51 : decode cX4_renewed 51 = .ok (.if_icmp .ge 73, 3) := by decide +kernel
theorem dX4_renewed_54 : decode cX4_renewed 54 = .ok (.iconst 0, 1) := by decide +kernel
theorem dX4_renewed_55 : decode cX4_renewed 55 = .ok (.istore_n 3, 1) := by decide +kernel
theorem dX4_renewed_56 : decode cX4_renewed 56 = .ok (.iload_n 3, 1) := by decide +kernel
theorem dX4_renewed_57 : decode cX4_renewed 57 = .ok (.aload_n 0, 1) := by decide +kernel
theorem dX4_renewed_58 : decode cX4_renewed 58 = .ok (.getfield 86, 3) := by decide +kernel
theorem dX4_renewed_61 : decode cX4_renewed 61 = .ok (.if_icmp .ge 57, 3) := by decide +kernel
theorem dX4_renewed_64 : decode cX4_renewed 64 = .ok (.iload_n 1, 1) := by decide +kernel
theorem dX4_renewed_65 : decode cX4_renewed 65 = .ok (.aload_n 0, 1) := by decide +kernel
theorem dX4_renewed_66 : decode cX4_renewed 66 = .ok (.getfield 36, 3) := by decide +kernel
theorem dX4_renewed_69 : decode cX4_renewed 69 = .ok (.bipush 64, 2) := by decide +kernel
theorem dX4_renewed_71 : decode cX4_renewed 71 = .ok (.iload_n 2, 1) := by decide +kernel
theorem dX4_renewed_72 : decode cX4_renewed 72 = .ok (.imul, 1) := by decide +kernel
theorem dX4_renewed_73 : decode cX4_renewed 73 = .ok (.iload_n 3, 1) := by decide +kernel
theorem dX4_renewed_74 : decode cX4_renewed 74 = .ok (.iadd, 1) := by decide +kernel
theorem dX4_renewed_75 : decode cX4_renewed 75 = .ok (.baload, 1) := by decide +kernel
theorem dX4_renewed_76 : decode cX4_renewed 76 = .ok (.ifCond .eq 33, 3) := by decide +kernel
theorem dX4_renewed_79 : decode cX4_renewed 79 = .ok (.aload_n 0, 1) := by decide +kernel
theorem dX4_renewed_80 : decode cX4_renewed 80 = .ok (.getfield 39, 3) := by decide +kernel
theorem dX4_renewed_83 : decode cX4_renewed 83 = .ok (.bipush 64, 2) := by decide +kernel
theorem dX4_renewed_85 : decode cX4_renewed 85 = .ok (.iload_n 2, 1) := by decide +kernel
theorem dX4_renewed_86 : decode cX4_renewed 86 = .ok (.imul, 1) := by decide +kernel
theorem dX4_renewed_87 : decode cX4_renewed 87 = .ok (.iload_n 3, 1) := by decide +kernel
theorem dX4_renewed_88 : decode cX4_renewed 88 = .ok (.iadd, 1) := by decide +kernel
theorem dX4_renewed_89 : decode cX4_renewed 89 = .ok (.laload, 1) := by decide +kernel
theorem dX4_renewed_90 : decode cX4_renewed 90 = .ok (.aload_n 0, 1) := by decide +kernel
theorem dX4_renewed_91 : decode cX4_renewed 91 = .ok (.getfield 43, 3) := by decide +kernel
theorem dX4_renewed_94 : decode cX4_renewed 94 = .ok (.bipush 64, 2) := by decide +kernel
theorem dX4_renewed_96 : decode cX4_renewed 96 = .ok (.iload_n 2, 1) := by decide +kernel
theorem dX4_renewed_97 : decode cX4_renewed 97 = .ok (.imul, 1) := by decide +kernel
theorem dX4_renewed_98 : decode cX4_renewed 98 = .ok (.iload_n 3, 1) := by decide +kernel
theorem dX4_renewed_99 : decode cX4_renewed 99 = .ok (.iadd, 1) := by decide +kernel
theorem dX4_renewed_100 : decode cX4_renewed 100 = .ok (.laload, 1) := by decide +kernel
theorem dX4_renewed_101 : decode cX4_renewed 101 = .ok (.lcmp, 1) := by decide +kernel
theorem dX4_renewed_102 : decode cX4_renewed 102 = .ok (.ifCond .eq 7, 3) := by decide +kernel
theorem dX4_renewed_105 : decode cX4_renewed 105 = .ok (.iconst 1, 1) := by decide +kernel
theorem dX4_renewed_106 : decode cX4_renewed 106 = .ok (.goto 4, 3) := by decide +kernel
theorem dX4_renewed_109 : decode cX4_renewed 109 = .ok (.iconst 0, 1) := by decide +kernel
theorem dX4_renewed_110 : decode cX4_renewed 110 = .ok (.iadd, 1) := by decide +kernel
theorem dX4_renewed_111 : decode cX4_renewed 111 = .ok (.istore_n 1, 1) := by decide +kernel
theorem dX4_renewed_112 : decode cX4_renewed 112 = .ok (.iinc 3 1, 3) := by decide +kernel
theorem dX4_renewed_115 : decode cX4_renewed 115 = .ok (.goto (-59), 3) := by decide +kernel
theorem dX4_renewed_118 : decode cX4_renewed 118 = .ok (.iinc 2 1, 3) := by decide +kernel
theorem dX4_renewed_121 : decode cX4_renewed 121 = .ok (.goto (-75), 3) := by decide +kernel
theorem dX4_renewed_124 : decode cX4_renewed 124 = .ok (.iload_n 1, 1) := by decide +kernel
theorem dX4_renewed_125 : decode cX4_renewed 125 = .ok (.ireturn, 1) := by decide +kernel
theorem dX4_isPrepared_0 : decode cX4_isPrepared 0 = .ok (.aload_n 0, 1) := by decide +kernel
theorem dX4_isPrepared_1 : decode cX4_isPrepared 1 = .ok (.iconst 0, 1) := by decide +kernel
theorem dX4_isPrepared_2 : decode cX4_isPrepared 2 = .ok (.putfield 80, 3) := by decide +kernel
theorem dX4_isPrepared_5 : decode cX4_isPrepared 5 = .ok (.aload_n 0, 1) := by decide +kernel
theorem dX4_isPrepared_6 : decode cX4_isPrepared 6 = .ok (.getfield 97, 3) := by decide +kernel
theorem dX4_isPrepared_9 : decode cX4_isPrepared 9 = .ok (.ireturn, 1) := by decide +kernel
theorem dX4_position_0 : decode cX4_position 0 = .ok (.aload_n 0, 1) := by decide +kernel
theorem dX4_position_1 : decode cX4_position 1 = .ok (.iconst 0, 1) := by decide +kernel
theorem dX4_position_2 : decode cX4_position 2 = .ok (.putfield 80, 3) := by decide +kernel
theorem dX4_position_5 : decode cX4_position 5 = .ok (.aload_n 0, 1) := by decide +kernel
theorem dX4_position_6 : decode cX4_position 6 = .ok (.getfield 97, 3) := by decide +kernel
theorem dX4_position_9 : decode cX4_position 9 = .ok (.ifCond .ne 9, 3) := by decide +kernel
theorem dX4_position_12 : decode cX4_position 12 = .ok (.aload_n 0, 1) := by decide +kernel
theorem dX4_position_13 : decode cX4_position 13 = .ok (.iconst 1, 1) := by decide +kernel
theorem dX4_position_14 : decode cX4_position 14 = .ok (.invokevirtual 89, 3) := by decide +kernel
theorem dX4_position_17 : decode cX4_position 17 = .ok (.ireturn, 1) := by decide +kernel
theorem dX4_position_18 : decode cX4_position 18 = .ok (.aload_n 0, 1) := by decide +kernel
theorem dX4_position_19 : decode cX4_position 19 = .ok (.iload_n 1, 1) := by decide +kernel
theorem dX4_position_20 : decode cX4_position 20 = .ok (.invokevirtual 117, 3) := by decide +kernel
theorem dX4_position_23 : decode cX4_position 23 = .ok (.ifCond .eq 12, 3) := by decide +kernel
theorem dX4_position_26 : decode cX4_position 26 = .ok (.aload_n 0, 1) := by decide +kernel
theorem dX4_position_27 : decode cX4_position 27 = .ok (.getfield 30, 3) := by decide +kernel
theorem dX4_position_30 : decode cX4_position 30 = .ok (.iload_n 1, 1) := by decide +kernel
theorem dX4_position_31 : decode cX4_position 31 = .ok (.iaload, 1) := by decide +kernel
theorem dX4_position_32 : decode cX4_position 32 = .ok (.goto 8, 3) := by decide +kernel
theorem dX4_position_35 : decode cX4_position 35 = .ok (.aload_n 0, 1) := by decide +kernel
theorem dX4_position_36 : decode cX4_position 36 = .ok (.iconst 2, 1) := by decide +kernel
theorem dX4_position_37 : decode cX4_position 37 = .ok (.invokevirtual 89, 3) := by decide +kernel
theorem dX4_position_40 : decode cX4_position 40 = .ok (.ireturn, 1) := by decide +kernel
theorem dX4_arcCount_0 : decode cX4_arcCount 0 = .ok (.aload_n 0, 1) := by decide +kernel
theorem dX4_arcCount_1 : decode cX4_arcCount 1 = .ok (.iconst 0, 1) := by decide +kernel
theorem dX4_arcCount_2 : decode cX4_arcCount 2 = .ok (.putfield 80, 3) := by decide +kernel
theorem dX4_arcCount_5 : decode cX4_arcCount 5 = .ok (.aload_n 0, 1) := by decide +kernel
theorem dX4_arcCount_6 : decode cX4_arcCount 6 = .ok (.getfield 101, 3) := by decide +kernel
theorem dX4_arcCount_9 : decode cX4_arcCount 9 = .ok (.ireturn, 1) := by decide +kernel
theorem dX4_hasArc_0 : decode cX4_hasArc 0 = .ok (.aload_n 0, 1) := by decide +kernel
theorem dX4_hasArc_1 : decode cX4_hasArc 1 = .ok (.iconst 0, 1) := by decide +kernel
theorem dX4_hasArc_2 : decode cX4_hasArc 2 = .ok (.putfield 80, 3) := by decide +kernel
theorem dX4_hasArc_5 : decode cX4_hasArc 5 = .ok (.aload_n 0, 1) := by decide +kernel
theorem dX4_hasArc_6 : decode cX4_hasArc 6 = .ok (.getfield 97, 3) := by decide +kernel
theorem dX4_hasArc_9 : decode cX4_hasArc 9 = .ok (.ifCond .ne 17, 3) := by decide +kernel
theorem dX4_hasArc_12 : decode cX4_hasArc 12 = .ok (.aload_n 0, 1) := by decide +kernel
theorem dX4_hasArc_13 : decode cX4_hasArc 13 = .ok (.iconst 1, 1) := by decide +kernel
theorem dX4_hasArc_14 : decode cX4_hasArc 14 = .ok (.invokevirtual 89, 3) := by decide +kernel
theorem dX4_hasArc_17 : decode cX4_hasArc 17 = .ok (.ifCond .eq 7, 3) := by decide +kernel
theorem dX4_hasArc_20 : decode cX4_hasArc 20 = .ok (.iconst 1, 1) := by decide +kernel
theorem dX4_hasArc_21 : decode cX4_hasArc 21 = .ok (.goto 4, 3) := by decide +kernel
theorem dX4_hasArc_24 : decode cX4_hasArc 24 = .ok (.iconst 0, 1) := by decide +kernel
theorem dX4_hasArc_25 : decode cX4_hasArc 25 = .ok (.ireturn, 1) := by decide +kernel
theorem dX4_hasArc_26 : decode cX4_hasArc 26 = .ok (.aload_n 0, 1) := by decide +kernel
theorem dX4_hasArc_27 : decode cX4_hasArc 27 = .ok (.iload_n 1, 1) := by decide +kernel
theorem dX4_hasArc_28 : decode cX4_hasArc 28 = .ok (.invokevirtual 117, 3) := by decide +kernel
theorem dX4_hasArc_31 : decode cX4_hasArc 31 = .ok (.ifCond .eq 11, 3) := by decide +kernel
theorem dX4_hasArc_34 : decode cX4_hasArc 34 = .ok (.aload_n 0, 1) := by decide +kernel
theorem dX4_hasArc_35 : decode cX4_hasArc 35 = .ok (.iload_n 2, 1) := by decide +kernel
theorem dX4_hasArc_36 : decode cX4_hasArc 36 = .ok (.invokevirtual 117, 3) := by decide +kernel
theorem dX4_hasArc_39 : decode cX4_hasArc 39 = .ok (.ifCond .ne 17, 3) := by decide +kernel
theorem dX4_hasArc_42 : decode cX4_hasArc 42 = .ok (.aload_n 0, 1) := by decide +kernel
theorem dX4_hasArc_43 : decode cX4_hasArc 43 = .ok (.iconst 2, 1) := by decide +kernel
theorem dX4_hasArc_44 : decode cX4_hasArc 44 = .ok (.invokevirtual 89, 3) := by decide +kernel
theorem dX4_hasArc_47 : decode cX4_hasArc 47 = .ok (.ifCond .eq 7, 3) := by decide +kernel
theorem dX4_hasArc_50 : decode cX4_hasArc 50 = .ok (.iconst 1, 1) := by decide +kernel
theorem dX4_hasArc_51 : decode cX4_hasArc 51 = .ok (.goto 4, 3) := by decide +kernel
theorem dX4_hasArc_54 : decode cX4_hasArc 54 = .ok (.iconst 0, 1) := by decide +kernel
theorem dX4_hasArc_55 : decode cX4_hasArc 55 = .ok (.ireturn, 1) := by decide +kernel
theorem dX4_hasArc_56 : decode cX4_hasArc 56 = .ok (.aload_n 0, 1) := by decide +kernel
theorem dX4_hasArc_57 : decode cX4_hasArc 57 = .ok (.getfield 36, 3) := by decide +kernel
theorem dX4_hasArc_60 : decode cX4_hasArc 60 = .ok (.bipush 64, 2) := by decide +kernel
theorem dX4_hasArc_62 : decode cX4_hasArc 62 = .ok (.iload_n 1, 1) := by decide +kernel
theorem dX4_hasArc_63 : decode cX4_hasArc 63 = .ok (.imul, 1) := by decide +kernel
theorem dX4_hasArc_64 : decode cX4_hasArc 64 = .ok (.iload_n 2, 1) := by decide +kernel
theorem dX4_hasArc_65 : decode cX4_hasArc 65 = .ok (.iadd, 1) := by decide +kernel
theorem dX4_hasArc_66 : decode cX4_hasArc 66 = .ok (.baload, 1) := by decide +kernel
theorem dX4_hasArc_67 : decode cX4_hasArc 67 = .ok (.ireturn, 1) := by decide +kernel
theorem dX4_costOf_0 : decode cX4_costOf 0 = .ok (.aload_n 0, 1) := by decide +kernel
theorem dX4_costOf_1 : decode cX4_costOf 1 = .ok (.getfield 39, 3) := by decide +kernel
theorem dX4_costOf_4 : decode cX4_costOf 4 = .ok (.bipush 64, 2) := by decide +kernel
theorem dX4_costOf_6 : decode cX4_costOf 6 = .ok (.iload_n 1, 1) := by decide +kernel
theorem dX4_costOf_7 : decode cX4_costOf 7 = .ok (.imul, 1) := by decide +kernel
theorem dX4_costOf_8 : decode cX4_costOf 8 = .ok (.iload_n 2, 1) := by decide +kernel
theorem dX4_costOf_9 : decode cX4_costOf 9 = .ok (.iadd, 1) := by decide +kernel
theorem dX4_costOf_10 : decode cX4_costOf 10 = .ok (.laload, 1) := by decide +kernel
theorem dX4_costOf_11 : decode cX4_costOf 11 = .ok (.ldc2_w 115, 3) := by decide +kernel
theorem dX4_costOf_14 : decode cX4_costOf 14 = .ok (.lcmp, 1) := by decide +kernel
theorem dX4_costOf_15 : decode cX4_costOf 15 = .ok (.ifCond .ge 18, 3) := by decide +kernel
theorem dX4_costOf_18 : decode cX4_costOf 18 = .ok (.aload_n 0, 1) := by decide +kernel
theorem dX4_costOf_19 : decode cX4_costOf 19 = .ok (.getfield 39, 3) := by decide +kernel
theorem dX4_costOf_22 : decode cX4_costOf 22 = .ok (.bipush 64, 2) := by decide +kernel
theorem dX4_costOf_24 : decode cX4_costOf 24 = .ok (.iload_n 1, 1) := by decide +kernel
theorem dX4_costOf_25 : decode cX4_costOf 25 = .ok (.imul, 1) := by decide +kernel
theorem dX4_costOf_26 : decode cX4_costOf 26 = .ok (.iload_n 2, 1) := by decide +kernel
theorem dX4_costOf_27 : decode cX4_costOf 27 = .ok (.iadd, 1) := by decide +kernel
theorem dX4_costOf_28 : decode cX4_costOf 28 = .ok (.laload, 1) := by decide +kernel
theorem dX4_costOf_29 : decode cX4_costOf 29 = .ok (.l2i, 1) := by decide +kernel
theorem dX4_costOf_30 : decode cX4_costOf 30 = .ok (.goto 4, 3) := by decide +kernel
theorem dX4_costOf_33 : decode cX4_costOf 33 = .ok (.iconst (-1), 1) := by decide +kernel
theorem dX4_costOf_34 : decode cX4_costOf 34 = .ok (.ireturn, 1) := by decide +kernel
theorem dX4_arcCost_0 : decode cX4_arcCost 0 = .ok (.aload_n 0, 1) := by decide +kernel
theorem dX4_arcCost_1 : decode cX4_arcCost 1 = .ok (.iconst 0, 1) := by decide +kernel
theorem dX4_arcCost_2 : decode cX4_arcCost 2 = .ok (.putfield 80, 3) := by decide +kernel
theorem dX4_arcCost_5 : decode cX4_arcCost 5 = .ok (.aload_n 0, 1) := by decide +kernel
theorem dX4_arcCost_6 : decode cX4_arcCost 6 = .ok (.getfield 97, 3) := by decide +kernel
theorem dX4_arcCost_9 : decode cX4_arcCost 9 = .ok (.ifCond .ne 9, 3) := by decide +kernel
theorem dX4_arcCost_12 : decode cX4_arcCost 12 = .ok (.aload_n 0, 1) := by decide +kernel
theorem dX4_arcCost_13 : decode cX4_arcCost 13 = .ok (.iconst 1, 1) := by decide +kernel
theorem dX4_arcCost_14 : decode cX4_arcCost 14 = .ok (.invokevirtual 89, 3) := by decide +kernel
theorem dX4_arcCost_17 : decode cX4_arcCost 17 = .ok (.ireturn, 1) := by decide +kernel
theorem dX4_arcCost_18 : decode cX4_arcCost 18 = .ok (.aload_n 0, 1) := by decide +kernel
theorem dX4_arcCost_19 : decode cX4_arcCost 19 = .ok (.iload_n 1, 1) := by decide +kernel
theorem dX4_arcCost_20 : decode cX4_arcCost 20 = .ok (.invokevirtual 117, 3) := by decide +kernel
theorem dX4_arcCost_23 : decode cX4_arcCost 23 = .ok (.ifCond .eq 11, 3) := by decide +kernel
theorem dX4_arcCost_26 : decode cX4_arcCost 26 = .ok (.aload_n 0, 1) := by decide +kernel
theorem dX4_arcCost_27 : decode cX4_arcCost 27 = .ok (.iload_n 2, 1) := by decide +kernel
theorem dX4_arcCost_28 : decode cX4_arcCost 28 = .ok (.invokevirtual 117, 3) := by decide +kernel
theorem dX4_arcCost_31 : decode cX4_arcCost 31 = .ok (.ifCond .ne 9, 3) := by decide +kernel
theorem dX4_arcCost_34 : decode cX4_arcCost 34 = .ok (.aload_n 0, 1) := by decide +kernel
theorem dX4_arcCost_35 : decode cX4_arcCost 35 = .ok (.iconst 2, 1) := by decide +kernel
theorem dX4_arcCost_36 : decode cX4_arcCost 36 = .ok (.invokevirtual 89, 3) := by decide +kernel
theorem dX4_arcCost_39 : decode cX4_arcCost 39 = .ok (.ireturn, 1) := by decide +kernel
theorem dX4_arcCost_40 : decode cX4_arcCost 40 = .ok (.aload_n 0, 1) := by decide +kernel
theorem dX4_arcCost_41 : decode cX4_arcCost 41 = .ok (.getfield 36, 3) := by decide +kernel
theorem dX4_arcCost_44 : decode cX4_arcCost 44 = .ok (.bipush 64, 2) := by decide +kernel
theorem dX4_arcCost_46 : decode cX4_arcCost 46 = .ok (.iload_n 1, 1) := by decide +kernel
theorem dX4_arcCost_47 : decode cX4_arcCost 47 = .ok (.imul, 1) := by decide +kernel
theorem dX4_arcCost_48 : decode cX4_arcCost 48 = .ok (.iload_n 2, 1) := by decide +kernel
theorem dX4_arcCost_49 : decode cX4_arcCost 49 = .ok (.iadd, 1) := by decide +kernel
theorem dX4_arcCost_50 : decode cX4_arcCost 50 = .ok (.baload, 1) := by decide +kernel
theorem dX4_arcCost_51 : decode cX4_arcCost 51 = .ok (.ifCond .eq 12, 3) := by decide +kernel
theorem dX4_arcCost_54 : decode cX4_arcCost 54 = .ok (.aload_n 0, 1) := by decide +kernel
theorem dX4_arcCost_55 : decode cX4_arcCost 55 = .ok (.iload_n 1, 1) := by decide +kernel
theorem dX4_arcCost_56 : decode cX4_arcCost 56 = .ok (.iload_n 2, 1) := by decide +kernel
theorem dX4_arcCost_57 : decode cX4_arcCost 57 = .ok (.invokevirtual 144, 3) := by decide +kernel
theorem dX4_arcCost_60 : decode cX4_arcCost 60 = .ok (.goto 8, 3) := by decide +kernel
theorem dX4_arcCost_63 : decode cX4_arcCost 63 = .ok (.aload_n 0, 1) := by decide +kernel
theorem dX4_arcCost_64 : decode cX4_arcCost 64 = .ok (.iconst 3, 1) := by decide +kernel
theorem dX4_arcCost_65 : decode cX4_arcCost 65 = .ok (.invokevirtual 89, 3) := by decide +kernel
theorem dX4_arcCost_68 : decode cX4_arcCost 68 = .ok (.ireturn, 1) := by decide +kernel
theorem dX4_findBehind_0 : decode cX4_findBehind 0 = .ok (.iconst 0, 1) := by decide +kernel
theorem dX4_findBehind_1 : decode cX4_findBehind 1 = .ok (.istore_n 2, 1) := by decide +kernel
theorem dX4_findBehind_2 : decode cX4_findBehind 2 = .ok (.iload_n 2, 1) := by decide +kernel
theorem dX4_findBehind_3 : decode cX4_findBehind 3 = .ok (.aload_n 0, 1) := by decide +kernel
theorem dX4_findBehind_4 : decode cX4_findBehind 4 = .ok (.getfield 86, 3) := by decide +kernel
theorem dX4_findBehind_7 : decode cX4_findBehind 7 = .ok (.if_icmp .ge 54, 3) := by decide +kernel
theorem dX4_findBehind_10 : decode cX4_findBehind 10 = .ok (.aload_n 0, 1) := by decide +kernel
theorem dX4_findBehind_11 : decode cX4_findBehind 11 = .ok (.getfield 74, 3) := by decide +kernel
theorem dX4_findBehind_14 : decode cX4_findBehind 14 = .ok (.iload_n 2, 1) := by decide +kernel
theorem dX4_findBehind_15 : decode cX4_findBehind 15 = .ok (.aload_n 0, 1) := by decide +kernel
theorem dX4_findBehind_16 : decode cX4_findBehind 16 = .ok (.getfield 19, 3) := by decide +kernel
theorem dX4_findBehind_19 : decode cX4_findBehind 19 = .ok (.iload_n 2, 1) := by decide +kernel
theorem dX4_findBehind_20 : decode cX4_findBehind 20 = .ok (.baload, 1) := by decide +kernel
theorem dX4_findBehind_21 : decode cX4_findBehind 21 = .ok (.ifCond .eq 23, 3) := by decide +kernel
theorem dX4_findBehind_24 : decode cX4_findBehind 24 = .ok (.aload_n 0, 1) := by decide +kernel
theorem dX4_findBehind_25 : decode cX4_findBehind 25 = .ok (.getfield 13, 3) := by decide +kernel
theorem dX4_findBehind_28 : decode cX4_findBehind 28 = .ok (.iload_n 2, 1) := by decide +kernel
theorem dX4_findBehind_29 : decode cX4_findBehind 29 = .ok (.iaload, 1) := by decide +kernel
theorem dX4_findBehind_30 : decode cX4_findBehind 30 = .ok (.iload_n 1, 1) := by decide +kernel
theorem dX4_findBehind_31 : decode cX4_findBehind 31 = .ok (.if_icmp .ne 13, 3) := by decide +kernel
theorem dX4_findBehind_34 : decode cX4_findBehind 34 = .ok (.aload_n 0, 1) := by decide +kernel
theorem dX4_findBehind_35 : decode cX4_findBehind 35 = .ok (.getfield 16, 3) := by decide +kernel
theorem dX4_findBehind_38 : decode cX4_findBehind 38 = .ok (.iload_n 2, 1) := by decide +kernel
theorem dX4_findBehind_39 : decode cX4_findBehind 39 = .ok (.iaload, 1) := by decide +kernel
theorem dX4_findBehind_40 : decode cX4_findBehind 40 = .ok (.i2l, 1) := by decide +kernel
theorem dX4_findBehind_41 : decode cX4_findBehind 41 = .ok (.goto 6, 3) := by decide +kernel
theorem dX4_findBehind_44 : decode cX4_findBehind 44 = .ok (.ldc2_w 115, 3) := by decide +kernel
theorem dX4_findBehind_47 : decode cX4_findBehind 47 = .ok (.lastore, 1) := by decide +kernel
theorem dX4_findBehind_48 : decode cX4_findBehind 48 = .ok (.aload_n 0, 1) := by decide +kernel
theorem dX4_findBehind_49 : decode cX4_findBehind 49 = .ok (.getfield 77, 3) := by decide +kernel
theorem dX4_findBehind_52 : decode cX4_findBehind 52 = .ok (.iload_n 2, 1) := by decide +kernel
theorem dX4_findBehind_53 : decode cX4_findBehind 53 = .ok (.iconst 1, 1) := by decide +kernel
theorem dX4_findBehind_54 : decode cX4_findBehind 54 = .ok (.iastore, 1) := by decide +kernel
theorem dX4_findBehind_55 : decode cX4_findBehind 55 = .ok (.iinc 2 1, 3) := by decide +kernel
theorem dX4_findBehind_58 : decode cX4_findBehind 58 = .ok (.goto (-56), 3) := by decide +kernel
theorem dX4_findBehind_61 : decode cX4_findBehind 61 = .ok (.iconst 1, 1) := by decide +kernel
theorem dX4_findBehind_62 : decode cX4_findBehind 62 = .ok (.istore_n 2, 1) := by decide +kernel
theorem dX4_findBehind_63 : decode cX4_findBehind 63 = .ok (.iload_n 2, 1) := by decide +kernel
theorem dX4_findBehind_64 : decode cX4_findBehind 64 = .ok (.ifCond .eq 62, 3) := by decide +kernel
theorem dX4_findBehind_67 : decode cX4_findBehind 67 = .ok (.iconst 0, 1) := by decide +kernel
theorem dX4_findBehind_68 : decode cX4_findBehind 68 = .ok (.istore_n 2, 1) := by decide +kernel
theorem dX4_findBehind_69 : decode cX4_findBehind 69 = .ok (.iconst 0, 1) := by decide +kernel
theorem dX4_findBehind_70 : decode cX4_findBehind 70 = .ok (.istore_n 3, 1) := by decide +kernel
theorem dX4_findBehind_71 : decode cX4_findBehind 71 = .ok (.iload_n 3, 1) := by decide +kernel
theorem dX4_findBehind_72 : decode cX4_findBehind 72 = .ok (.aload_n 0, 1) := by decide +kernel
theorem dX4_findBehind_73 : decode cX4_findBehind 73 = .ok (.getfield 86, 3) := by decide +kernel
theorem dX4_findBehind_76 : decode cX4_findBehind 76 = .ok (.if_icmp .ge 47, 3) := by decide +kernel
theorem dX4_findBehind_79 : decode cX4_findBehind 79 = .ok (.iconst 0, 1) := by decide +kernel
theorem dX4_findBehind_80 : decode cX4_findBehind 80 = .ok (.istore 4, 2) := by decide +kernel
theorem dX4_findBehind_82 : decode cX4_findBehind 82 = .ok (.iload 4, 2) := by decide +kernel
theorem dX4_findBehind_84 : decode cX4_findBehind 84 = .ok (.aload_n 0, 1) := by decide +kernel
theorem dX4_findBehind_85 : decode cX4_findBehind 85 = .ok (.getfield 86, 3) := by decide +kernel
theorem dX4_findBehind_88 : decode cX4_findBehind 88 = .ok (.if_icmp .ge 29, 3) := by decide +kernel
theorem dX4_findBehind_91 : decode cX4_findBehind 91 = .ok (.aload_n 0, 1) := by decide +kernel
theorem dX4_findBehind_92 : decode cX4_findBehind 92 = .ok (.iload_n 3, 1) := by decide +kernel
theorem dX4_findBehind_93 : decode cX4_findBehind 93 = .ok (.iload 4, 2) := by decide +kernel
theorem dX4_findBehind_95 : decode cX4_findBehind 95 = .ok (.invokevirtual 147, 3) := by decide +kernel
theorem dX4_findBehind_98 : decode cX4_findBehind 98 = .ok (.ifCond .ne 7, 3) := by decide +kernel
theorem dX4_findBehind_101 : decode cX4_findBehind 101 = .ok (.iload_n 2, 1) := by decide +kernel
theorem dX4_findBehind_102 : decode cX4_findBehind 102 = .ok (.ifCond .eq 7, 3) := by decide +kernel
theorem dX4_findBehind_105 : decode cX4_findBehind 105 = .ok (.iconst 1, 1) := by decide +kernel
theorem dX4_findBehind_106 : decode cX4_findBehind 106 = .ok (.goto 4, 3) := by decide +kernel
theorem dX4_findBehind_109 : decode cX4_findBehind 109 = .ok (.iconst 0, 1) := by decide +kernel
theorem dX4_findBehind_110 : decode cX4_findBehind 110 = .ok (.istore_n 2, 1) := by decide +kernel
theorem dX4_findBehind_111 : decode cX4_findBehind 111 = .ok (.iinc 4 1, 3) := by decide +kernel
theorem dX4_findBehind_114 : decode cX4_findBehind 114 = .ok (.goto (-32), 3) := by decide +kernel
theorem dX4_findBehind_117 : decode cX4_findBehind 117 = .ok (.iinc 3 1, 3) := by decide +kernel
theorem dX4_findBehind_120 : decode cX4_findBehind 120 = .ok (.goto (-49), 3) := by decide +kernel
theorem dX4_findBehind_123 : decode cX4_findBehind 123 = .ok (.goto (-60), 3) := by decide +kernel
theorem dX4_findBehind_126 : decode cX4_findBehind 126 = .ok (.return_, 1) := by decide +kernel
theorem dX4_improves_0 : decode cX4_improves 0 = .ok (.aload_n 0, 1) := by decide +kernel
theorem dX4_improves_1 : decode cX4_improves 1 = .ok (.iload_n 1, 1) := by decide +kernel
theorem dX4_improves_2 : decode cX4_improves 2 = .ok (.iload_n 2, 1) := by decide +kernel
theorem dX4_improves_3 : decode cX4_improves 3 = .ok (.invokevirtual 134, 3) := by decide +kernel
theorem dX4_improves_6 : decode cX4_improves 6 = .ok (.ldc2_w 115, 3) := by decide +kernel
theorem dX4_improves_9 : decode cX4_improves 9 = .ok (.lcmp, 1) := by decide +kernel
theorem dX4_improves_10 : decode cX4_improves 10 = .ok (.ifCond .eq 16, 3) := by decide +kernel
theorem dX4_improves_13 : decode cX4_improves 13 = .ok (.aload_n 0, 1) := by decide +kernel
theorem dX4_improves_14 : decode cX4_improves 14 = .ok (.getfield 74, 3) := by decide +kernel
theorem dX4_improves_17 : decode cX4_improves 17 = .ok (.iload_n 2, 1) := by decide +kernel
theorem dX4_improves_18 : decode cX4_improves 18 = .ok (.laload, 1) := by decide +kernel
theorem dX4_improves_19 : decode cX4_improves 19 = .ok (.ldc2_w 115, 3) := by decide +kernel
theorem dX4_improves_22 : decode cX4_improves 22 = .ok (.lcmp, 1) := by decide +kernel
theorem dX4_improves_23 : decode cX4_improves 23 = .ok (.ifCond .ne 5, 3) := by decide +kernel
theorem dX4_improves_26 : decode cX4_improves 26 = .ok (.iconst 0, 1) := by decide +kernel
theorem dX4_improves_27 : decode cX4_improves 27 = .ok (.ireturn, 1) := by decide +kernel
theorem dX4_improves_28 : decode cX4_improves 28 = .ok (.aload_n 0, 1) := by decide +kernel
theorem dX4_improves_29 : decode cX4_improves 29 = .ok (.getfield 16, 3) := by decide +kernel
theorem dX4_improves_32 : decode cX4_improves 32 = .ok (.iload_n 1, 1) := by decide +kernel
theorem dX4_improves_33 : decode cX4_improves 33 = .ok (.iaload, 1) := by decide +kernel
theorem dX4_improves_34 : decode cX4_improves 34 = .ok (.aload_n 0, 1) := by decide +kernel
theorem dX4_improves_35 : decode cX4_improves 35 = .ok (.iload_n 1, 1) := by decide +kernel
theorem dX4_improves_36 : decode cX4_improves 36 = .ok (.iload_n 2, 1) := by decide +kernel
theorem dX4_improves_37 : decode cX4_improves 37 = .ok (.invokevirtual 111, 3) := by decide +kernel
theorem dX4_improves_40 : decode cX4_improves 40 = .ok (.iadd, 1) := by decide +kernel
theorem dX4_improves_41 : decode cX4_improves 41 = .ok (.i2l, 1) := by decide +kernel
theorem dX4_improves_42 : decode cX4_improves 42 = .ok (.aload_n 0, 1) := by decide +kernel
theorem dX4_improves_43 : decode cX4_improves 43 = .ok (.getfield 74, 3) := by decide +kernel
theorem dX4_improves_46 : decode cX4_improves 46 = .ok (.iload_n 2, 1) := by decide +kernel
theorem dX4_improves_47 : decode cX4_improves 47 = .ok (.laload, 1) := by decide +kernel
theorem dX4_improves_48 : decode cX4_improves 48 = .ok (.ladd, 1) := by decide +kernel
theorem dX4_improves_49 : decode cX4_improves 49 = .ok (.lstore_n 3, 1) := by decide +kernel
theorem dX4_improves_50 : decode cX4_improves 50 = .ok (.lload_n 3, 1) := by decide +kernel
theorem dX4_improves_51 : decode cX4_improves 51 = .ok (.aload_n 0, 1) := by decide +kernel
theorem dX4_improves_52 : decode cX4_improves 52 = .ok (.getfield 74, 3) := by decide +kernel
theorem dX4_improves_55 : decode cX4_improves 55 = .ok (.iload_n 1, 1) := by decide +kernel
theorem dX4_improves_56 : decode cX4_improves 56 = .ok (.laload, 1) := by decide +kernel
theorem dX4_improves_57 : decode cX4_improves 57 = .ok (.lcmp, 1) := by decide +kernel
theorem dX4_improves_58 : decode cX4_improves 58 = .ok (.ifCond .gt 31, 3) := by decide +kernel
theorem dX4_improves_61 : decode cX4_improves 61 = .ok (.lload_n 3, 1) := by decide +kernel
theorem dX4_improves_62 : decode cX4_improves 62 = .ok (.aload_n 0, 1) := by decide +kernel
theorem dX4_improves_63 : decode cX4_improves 63 = .ok (.getfield 74, 3) := by decide +kernel
theorem dX4_improves_66 : decode cX4_improves 66 = .ok (.iload_n 1, 1) := by decide +kernel
theorem dX4_improves_67 : decode cX4_improves 67 = .ok (.laload, 1) := by decide +kernel
theorem dX4_improves_68 : decode cX4_improves 68 = .ok (.lcmp, 1) := by decide +kernel
theorem dX4_improves_69 : decode cX4_improves 69 = .ok (.ifCond .ne 22, 3) := by decide +kernel
theorem dX4_improves_72 : decode cX4_improves 72 = .ok (.aload_n 0, 1) := by decide +kernel
theorem dX4_improves_73 : decode cX4_improves 73 = .ok (.getfield 77, 3) := by decide +kernel
theorem dX4_improves_76 : decode cX4_improves 76 = .ok (.iload_n 2, 1) := by decide +kernel
theorem dX4_improves_77 : decode cX4_improves 77 = .ok (.iaload, 1) := by decide +kernel
theorem dX4_improves_78 : decode cX4_improves 78 = .ok (.iconst 1, 1) := by decide +kernel
theorem dX4_improves_79 : decode cX4_improves 79 = .ok (.iadd, 1) := by decide +kernel
theorem dX4_improves_80 : decode cX4_improves 80 = .ok (.aload_n 0, 1) := by decide +kernel
theorem dX4_improves_81 : decode cX4_improves 81 = .ok (.getfield 77, 3) := by decide +kernel
theorem dX4_improves_84 : decode cX4_improves 84 = .ok (.iload_n 1, 1) := by decide +kernel
theorem dX4_improves_85 : decode cX4_improves 85 = .ok (.iaload, 1) := by decide +kernel
theorem dX4_improves_86 : decode cX4_improves 86 = .ok (.if_icmp .lt 5, 3) := by decide +kernel
theorem dX4_improves_89 : decode cX4_improves 89 = .ok (.iconst 0, 1) := by decide +kernel
theorem dX4_improves_90 : decode cX4_improves 90 = .ok (.ireturn, 1) := by decide +kernel
theorem dX4_improves_91 : decode cX4_improves 91 = .ok (.aload_n 0, 1) := by decide +kernel
theorem dX4_improves_92 : decode cX4_improves 92 = .ok (.getfield 74, 3) := by decide +kernel
theorem dX4_improves_95 : decode cX4_improves 95 = .ok (.iload_n 1, 1) := by decide +kernel
theorem dX4_improves_96 : decode cX4_improves 96 = .ok (.lload_n 3, 1) := by decide +kernel
theorem dX4_improves_97 : decode cX4_improves 97 = .ok (.lastore, 1) := by decide +kernel
theorem dX4_improves_98 : decode cX4_improves 98 = .ok (.aload_n 0, 1) := by decide +kernel
theorem dX4_improves_99 : decode cX4_improves 99 = .ok (.getfield 77, 3) := by decide +kernel
theorem dX4_improves_102 : decode cX4_improves 102 = .ok (.iload_n 1, 1) := by decide +kernel
theorem dX4_improves_103 : decode cX4_improves 103 = .ok (.aload_n 0, 1) := by decide +kernel
theorem dX4_improves_104 : decode cX4_improves 104 = .ok (.getfield 77, 3) := by decide +kernel
theorem dX4_improves_107 : decode cX4_improves 107 = .ok (.iload_n 2, 1) := by decide +kernel
theorem dX4_improves_108 : decode cX4_improves 108 = .ok (.iaload, 1) := by decide +kernel
theorem dX4_improves_109 : decode cX4_improves 109 = .ok (.iconst 1, 1) := by decide +kernel
theorem dX4_improves_110 : decode cX4_improves 110 = .ok (.iadd, 1) := by decide +kernel
theorem dX4_improves_111 : decode cX4_improves 111 = .ok (.iastore, 1) := by decide +kernel
theorem dX4_improves_112 : decode cX4_improves 112 = .ok (.iconst 1, 1) := by decide +kernel
theorem dX4_improves_113 : decode cX4_improves 113 = .ok (.ireturn, 1) := by decide +kernel
theorem dX4_firstRoad_0 : decode cX4_firstRoad 0 = .ok (.iconst (-1), 1) := by decide +kernel
theorem dX4_firstRoad_1 : decode cX4_firstRoad 1 = .ok (.istore_n 2, 1) := by decide +kernel
theorem dX4_firstRoad_2 : decode cX4_firstRoad 2 = .ok (.iconst 0, 1) := by decide +kernel
theorem dX4_firstRoad_3 : decode cX4_firstRoad 3 = .ok (.istore_n 3, 1) := by decide +kernel
theorem dX4_firstRoad_4 : decode cX4_firstRoad 4 = .ok (.iload_n 3, 1) := by decide +kernel
theorem dX4_firstRoad_5 : decode cX4_firstRoad 5 = .ok (.aload_n 0, 1) := by decide +kernel
theorem dX4_firstRoad_6 : decode cX4_firstRoad 6 = .ok (.getfield 86, 3) := by decide +kernel
theorem dX4_firstRoad_9 : decode cX4_firstRoad 9 = .ok (.if_icmp .ge 89, 3) := by decide +kernel
theorem dX4_firstRoad_12 : decode cX4_firstRoad 12 = .ok (.aload_n 0, 1) := by decide +kernel
theorem dX4_firstRoad_13 : decode cX4_firstRoad 13 = .ok (.getfield 9, 3) := by decide +kernel
theorem dX4_firstRoad_16 : decode cX4_firstRoad 16 = .ok (.iload_n 3, 1) := by decide +kernel
theorem dX4_firstRoad_17 : decode cX4_firstRoad 17 = .ok (.iaload, 1) := by decide +kernel
theorem dX4_firstRoad_18 : decode cX4_firstRoad 18 = .ok (.iload_n 1, 1) := by decide +kernel
theorem dX4_firstRoad_19 : decode cX4_firstRoad 19 = .ok (.if_icmp .ne 73, 3) := by decide +kernel
theorem dX4_firstRoad_22 : decode cX4_firstRoad 22 = .ok (.aload_n 0, 1) := by decide +kernel
theorem dX4_firstRoad_23 : decode cX4_firstRoad 23 = .ok (.getfield 74, 3) := by decide +kernel
theorem dX4_firstRoad_26 : decode cX4_firstRoad 26 = .ok (.iload_n 3, 1) := by decide +kernel
theorem dX4_firstRoad_27 : decode cX4_firstRoad 27 = .ok (.laload, 1) := by decide +kernel
theorem dX4_firstRoad_28 : decode cX4_firstRoad 28 = .ok (.ldc2_w 115, 3) := by decide +kernel
theorem dX4_firstRoad_31 : decode cX4_firstRoad 31 = .ok (.lcmp, 1) := by decide +kernel
theorem dX4_firstRoad_32 : decode cX4_firstRoad 32 = .ok (.ifCond .ne 6, 3) := by decide +kernel
theorem dX4_firstRoad_35 : decode cX4_firstRoad 35 = .ok (.goto 57, 3) := by decide +kernel
theorem dX4_firstRoad_38 : decode cX4_firstRoad 38 = .ok (.iload_n 2, 1) := by decide +kernel
theorem dX4_firstRoad_39 : decode cX4_firstRoad 39 = .ok (.iconst (-1), 1) := by decide +kernel
theorem dX4_firstRoad_40 : decode cX4_firstRoad 40 = .ok (.if_icmp .eq 50, 3) := by decide +kernel
theorem dX4_firstRoad_43 : decode cX4_firstRoad 43 = .ok (.aload_n 0, 1) := by decide +kernel
theorem dX4_firstRoad_44 : decode cX4_firstRoad 44 = .ok (.getfield 74, 3) := by decide +kernel
theorem dX4_firstRoad_47 : decode cX4_firstRoad 47 = .ok (.iload_n 3, 1) := by decide +kernel
theorem dX4_firstRoad_48 : decode cX4_firstRoad 48 = .ok (.laload, 1) := by decide +kernel
theorem dX4_firstRoad_49 : decode cX4_firstRoad 49 = .ok (.aload_n 0, 1) := by decide +kernel
theorem dX4_firstRoad_50 : decode cX4_firstRoad 50 = .ok (.getfield 74, 3) := by decide +kernel
theorem dX4_firstRoad_53 : decode cX4_firstRoad 53 = .ok (.iload_n 2, 1) := by decide +kernel
theorem dX4_firstRoad_54 : decode cX4_firstRoad 54 = .ok (.laload, 1) := by decide +kernel
theorem dX4_firstRoad_55 : decode cX4_firstRoad 55 = .ok (.lcmp, 1) := by decide +kernel
theorem dX4_firstRoad_56 : decode cX4_firstRoad 56 = .ok (.ifCond .lt 34, 3) := by decide +kernel
theorem dX4_firstRoad_59 : decode cX4_firstRoad 59 = .ok (.aload_n 0, 1) := by decide +kernel
theorem dX4_firstRoad_60 : decode cX4_firstRoad 60 = .ok (.getfield 74, 3) := by decide +kernel
theorem dX4_firstRoad_63 : decode cX4_firstRoad 63 = .ok (.iload_n 3, 1) := by decide +kernel
theorem dX4_firstRoad_64 : decode cX4_firstRoad 64 = .ok (.laload, 1) := by decide +kernel
theorem dX4_firstRoad_65 : decode cX4_firstRoad 65 = .ok (.aload_n 0, 1) := by decide +kernel
theorem dX4_firstRoad_66 : decode cX4_firstRoad 66 = .ok (.getfield 74, 3) := by decide +kernel
theorem dX4_firstRoad_69 : decode cX4_firstRoad 69 = .ok (.iload_n 2, 1) := by decide +kernel
theorem dX4_firstRoad_70 : decode cX4_firstRoad 70 = .ok (.laload, 1) := by decide +kernel
theorem dX4_firstRoad_71 : decode cX4_firstRoad 71 = .ok (.lcmp, 1) := by decide +kernel
theorem dX4_firstRoad_72 : decode cX4_firstRoad 72 = .ok (.ifCond .ne 20, 3) := by decide +kernel
theorem dX4_firstRoad_75 : decode cX4_firstRoad 75 = .ok (.aload_n 0, 1) := by decide +kernel
theorem dX4_firstRoad_76 : decode cX4_firstRoad 76 = .ok (.getfield 77, 3) := by decide +kernel
theorem dX4_firstRoad_79 : decode cX4_firstRoad 79 = .ok (.iload_n 3, 1) := by decide +kernel
theorem dX4_firstRoad_80 : decode cX4_firstRoad 80 = .ok (.iaload, 1) := by decide +kernel
theorem dX4_firstRoad_81 : decode cX4_firstRoad 81 = .ok (.aload_n 0, 1) := by decide +kernel
theorem dX4_firstRoad_82 : decode cX4_firstRoad 82 = .ok (.getfield 77, 3) := by decide +kernel
theorem dX4_firstRoad_85 : decode cX4_firstRoad 85 = .ok (.iload_n 2, 1) := by decide +kernel
theorem dX4_firstRoad_86 : decode cX4_firstRoad 86 = .ok (.iaload, 1) := by decide +kernel
theorem dX4_firstRoad_87 : decode cX4_firstRoad 87 = .ok (.if_icmp .ge 5, 3) := by decide +kernel
theorem dX4_firstRoad_90 : decode cX4_firstRoad 90 = .ok (.iload_n 3, 1) := by decide +kernel
theorem dX4_firstRoad_91 : decode cX4_firstRoad 91 = .ok (.istore_n 2, 1) := by decide +kernel
theorem dX4_firstRoad_92 : decode cX4_firstRoad 92 = .ok (.iinc 3 1, 3) := by decide +kernel
theorem dX4_firstRoad_95 : decode cX4_firstRoad 95 = .ok (.goto (-91), 3) := by decide +kernel
theorem dX4_firstRoad_98 : decode cX4_firstRoad 98 = .ok (.iload_n 2, 1) := by decide +kernel
theorem dX4_firstRoad_99 : decode cX4_firstRoad 99 = .ok (.ireturn, 1) := by decide +kernel
theorem dX4_distanceBetween_0 : decode cX4_distanceBetween 0 = .ok (.iload_n 1, 1) := by decide +kernel
theorem dX4_distanceBetween_1 : decode cX4_distanceBetween 1 = .ok (.iload_n 2, 1) := by decide +kernel
theorem dX4_distanceBetween_2 : decode cX4_distanceBetween 2 = .ok (.if_icmp .ne 5, 3) := by decide +kernel
theorem dX4_distanceBetween_5 : decode cX4_distanceBetween 5 = .ok (.iconst 0, 1) := by decide +kernel
theorem dX4_distanceBetween_6 : decode cX4_distanceBetween 6 = .ok (.ireturn, 1) := by decide +kernel
theorem dX4_distanceBetween_7 : decode cX4_distanceBetween 7 = .ok (.aload_n 0, 1) := by decide +kernel
theorem dX4_distanceBetween_8 : decode cX4_distanceBetween 8 = .ok (.iload_n 2, 1) := by decide +kernel
theorem dX4_distanceBetween_9 : decode cX4_distanceBetween 9 = .ok (.invokevirtual 150, 3) := by decide +kernel
theorem dX4_distanceBetween_12 : decode cX4_distanceBetween 12 = .ok (.aload_n 0, 1) := by decide +kernel
theorem dX4_distanceBetween_13 : decode cX4_distanceBetween 13 = .ok (.iload_n 1, 1) := by decide +kernel
theorem dX4_distanceBetween_14 : decode cX4_distanceBetween 14 = .ok (.invokevirtual 154, 3) := by decide +kernel
theorem dX4_distanceBetween_17 : decode cX4_distanceBetween 17 = .ok (.istore_n 3, 1) := by decide +kernel
theorem dX4_distanceBetween_18 : decode cX4_distanceBetween 18 = .ok (.iload_n 3, 1) := by decide +kernel
theorem dX4_distanceBetween_19 : decode cX4_distanceBetween 19 = .ok (.iconst (-1), 1) := by decide +kernel
theorem dX4_distanceBetween_20 : decode cX4_distanceBetween 20 = .ok (.if_icmp .ne 7, 3) := by decide +kernel
theorem dX4_distanceBetween_23 : decode cX4_distanceBetween 23 = .ok (.iconst (-1), 1) := by decide +kernel
theorem dX4_distanceBetween_24 : decode cX4_distanceBetween 24 = .ok (.goto 10, 3) := by decide +kernel
theorem dX4_distanceBetween_27 : decode cX4_distanceBetween 27 = .ok (.aload_n 0, 1) := by decide +kernel
theorem dX4_distanceBetween_28 : decode cX4_distanceBetween 28 = .ok (.getfield 74, 3) := by decide +kernel
theorem dX4_distanceBetween_31 : decode cX4_distanceBetween 31 = .ok (.iload_n 3, 1) := by decide +kernel
theorem dX4_distanceBetween_32 : decode cX4_distanceBetween 32 = .ok (.laload, 1) := by decide +kernel
theorem dX4_distanceBetween_33 : decode cX4_distanceBetween 33 = .ok (.l2i, 1) := by decide +kernel
theorem dX4_distanceBetween_34 : decode cX4_distanceBetween 34 = .ok (.ireturn, 1) := by decide +kernel
theorem dX4_lookedAt_0 : decode cX4_lookedAt 0 = .ok (.aload_n 0, 1) := by decide +kernel
theorem dX4_lookedAt_1 : decode cX4_lookedAt 1 = .ok (.getfield 97, 3) := by decide +kernel
theorem dX4_lookedAt_4 : decode cX4_lookedAt 4 = .ok (.ifCond .ne 7, 3) := by decide +kernel
theorem dX4_lookedAt_7 : decode cX4_lookedAt 7 = .ok (.iconst 1, 1) := by decide +kernel
theorem dX4_lookedAt_8 : decode cX4_lookedAt 8 = .ok (.goto 24, 3) := by decide +kernel
theorem dX4_lookedAt_11 : decode cX4_lookedAt 11 = .ok (.aload_n 0, 1) := by decide +kernel
theorem dX4_lookedAt_12 : decode cX4_lookedAt 12 = .ok (.iload_n 1, 1) := by decide +kernel
theorem dX4_lookedAt_13 : decode cX4_lookedAt 13 = .ok (.invokevirtual 93, 3) := by decide +kernel
theorem dX4_lookedAt_16 : decode cX4_lookedAt 16 = .ok (.ifCond .eq 11, 3) := by decide +kernel
theorem dX4_lookedAt_19 : decode cX4_lookedAt 19 = .ok (.aload_n 0, 1) := by decide +kernel
theorem dX4_lookedAt_20 : decode cX4_lookedAt 20 = .ok (.iload_n 2, 1) := by decide +kernel
theorem dX4_lookedAt_21 : decode cX4_lookedAt 21 = .ok (.invokevirtual 93, 3) := by decide +kernel
theorem dX4_lookedAt_24 : decode cX4_lookedAt 24 = .ok (.ifCond .ne 7, 3) := by decide +kernel
theorem dX4_lookedAt_27 : decode cX4_lookedAt 27 = .ok (.iconst 2, 1) := by decide +kernel
theorem dX4_lookedAt_28 : decode cX4_lookedAt 28 = .ok (.goto 4, 3) := by decide +kernel
theorem dX4_lookedAt_31 : decode cX4_lookedAt 31 = .ok (.iconst 0, 1) := by decide +kernel
theorem dX4_lookedAt_32 : decode cX4_lookedAt 32 = .ok (.ireturn, 1) := by decide +kernel
theorem dX4_distance_0 : decode cX4_distance 0 = .ok (.aload_n 0, 1) := by decide +kernel
theorem dX4_distance_1 : decode cX4_distance 1 = .ok (.aload_n 0, 1) := by decide +kernel
theorem dX4_distance_2 : decode cX4_distance 2 = .ok (.iload_n 1, 1) := by decide +kernel
theorem dX4_distance_3 : decode cX4_distance 3 = .ok (.iload_n 2, 1) := by decide +kernel
theorem dX4_distance_4 : decode cX4_distance 4 = .ok (.invokevirtual 157, 3) := by decide +kernel
theorem dX4_distance_7 : decode cX4_distance 7 = .ok (.putfield 80, 3) := by decide +kernel
theorem dX4_distance_10 : decode cX4_distance 10 = .ok (.aload_n 0, 1) := by decide +kernel
theorem dX4_distance_11 : decode cX4_distance 11 = .ok (.getfield 80, 3) := by decide +kernel
theorem dX4_distance_14 : decode cX4_distance 14 = .ok (.ifCond .ne 12, 3) := by decide +kernel
theorem dX4_distance_17 : decode cX4_distance 17 = .ok (.aload_n 0, 1) := by decide +kernel
theorem dX4_distance_18 : decode cX4_distance 18 = .ok (.iload_n 1, 1) := by decide +kernel
theorem dX4_distance_19 : decode cX4_distance 19 = .ok (.iload_n 2, 1) := by decide +kernel
theorem dX4_distance_20 : decode cX4_distance 20 = .ok (.invokevirtual 160, 3) := by decide +kernel
theorem dX4_distance_23 : decode cX4_distance 23 = .ok (.goto 4, 3) := by decide +kernel
theorem dX4_distance_26 : decode cX4_distance 26 = .ok (.iconst 0, 1) := by decide +kernel
theorem dX4_distance_27 : decode cX4_distance 27 = .ok (.ireturn, 1) := by decide +kernel
theorem dX4_distanceBehind_0 : decode cX4_distanceBehind 0 = .ok (.aload_n 0, 1) := by decide +kernel
theorem dX4_distanceBehind_1 : decode cX4_distanceBehind 1 = .ok (.aload_n 0, 1) := by decide +kernel
theorem dX4_distanceBehind_2 : decode cX4_distanceBehind 2 = .ok (.getfield 97, 3) := by decide +kernel
theorem dX4_distanceBehind_5 : decode cX4_distanceBehind 5 = .ok (.ifCond .ne 7, 3) := by decide +kernel
theorem dX4_distanceBehind_8 : decode cX4_distanceBehind 8 = .ok (.iconst 1, 1) := by decide +kernel
theorem dX4_distanceBehind_9 : decode cX4_distanceBehind 9 = .ok (.goto 24, 3) := by decide +kernel
theorem dX4_distanceBehind_12 : decode cX4_distanceBehind 12 = .ok (.aload_n 0, 1) := by decide +kernel
theorem dX4_distanceBehind_13 : decode cX4_distanceBehind 13 = .ok (.iload_n 1, 1) := by decide +kernel
theorem dX4_distanceBehind_14 : decode cX4_distanceBehind 14 = .ok (.invokevirtual 117, 3) := by decide +kernel
theorem dX4_distanceBehind_17 : decode cX4_distanceBehind 17 = .ok (.ifCond .eq 11, 3) := by decide +kernel
theorem dX4_distanceBehind_20 : decode cX4_distanceBehind 20 = .ok (.aload_n 0, 1) := by decide +kernel
theorem dX4_distanceBehind_21 : decode cX4_distanceBehind 21 = .ok (.iload_n 2, 1) := by decide +kernel
theorem dX4_distanceBehind_22 : decode cX4_distanceBehind 22 = .ok (.invokevirtual 93, 3) := by decide +kernel
theorem dX4_distanceBehind_25 : decode cX4_distanceBehind 25 = .ok (.ifCond .ne 7, 3) := by decide +kernel
theorem dX4_distanceBehind_28 : decode cX4_distanceBehind 28 = .ok (.iconst 2, 1) := by decide +kernel
theorem dX4_distanceBehind_29 : decode cX4_distanceBehind 29 = .ok (.goto 4, 3) := by decide +kernel
theorem dX4_distanceBehind_32 : decode cX4_distanceBehind 32 = .ok (.iconst 0, 1) := by decide +kernel
theorem dX4_distanceBehind_33 : decode cX4_distanceBehind 33 = .ok (.putfield 80, 3) := by decide +kernel
theorem dX4_distanceBehind_36 : decode cX4_distanceBehind 36 = .ok (.aload_n 0, 1) := by decide +kernel
theorem dX4_distanceBehind_37 : decode cX4_distanceBehind 37 = .ok (.getfield 80, 3) := by decide +kernel
theorem dX4_distanceBehind_40 : decode cX4_distanceBehind 40 = .ok (.ifCond .eq 5, 3) := by decide +kernel
theorem dX4_distanceBehind_43 : decode cX4_distanceBehind 43 = .ok (.iconst 0, 1) := by decide +kernel
theorem dX4_distanceBehind_44 : decode cX4_distanceBehind 44 = .ok (.ireturn, 1) := by decide +kernel
theorem dX4_distanceBehind_45 : decode cX4_distanceBehind 45 = .ok (.aload_n 0, 1) := by decide +kernel
theorem dX4_distanceBehind_46 : decode cX4_distanceBehind 46 = .ok (.iload_n 2, 1) := by decide +kernel
theorem dX4_distanceBehind_47 : decode cX4_distanceBehind 47 = .ok (.invokevirtual 150, 3) := by decide +kernel
theorem dX4_distanceBehind_50 : decode cX4_distanceBehind 50 = .ok (.aload_n 0, 1) := by decide +kernel
theorem dX4_distanceBehind_51 : decode cX4_distanceBehind 51 = .ok (.getfield 74, 3) := by decide +kernel
theorem dX4_distanceBehind_54 : decode cX4_distanceBehind 54 = .ok (.iload_n 1, 1) := by decide +kernel
theorem dX4_distanceBehind_55 : decode cX4_distanceBehind 55 = .ok (.laload, 1) := by decide +kernel
theorem dX4_distanceBehind_56 : decode cX4_distanceBehind 56 = .ok (.ldc2_w 115, 3) := by decide +kernel
theorem dX4_distanceBehind_59 : decode cX4_distanceBehind 59 = .ok (.lcmp, 1) := by decide +kernel
theorem dX4_distanceBehind_60 : decode cX4_distanceBehind 60 = .ok (.ifCond .ne 7, 3) := by decide +kernel
theorem dX4_distanceBehind_63 : decode cX4_distanceBehind 63 = .ok (.iconst (-1), 1) := by decide +kernel
theorem dX4_distanceBehind_64 : decode cX4_distanceBehind 64 = .ok (.goto 17, 3) := by decide +kernel
theorem dX4_distanceBehind_67 : decode cX4_distanceBehind 67 = .ok (.aload_n 0, 1) := by decide +kernel
theorem dX4_distanceBehind_68 : decode cX4_distanceBehind 68 = .ok (.getfield 74, 3) := by decide +kernel
theorem dX4_distanceBehind_71 : decode cX4_distanceBehind 71 = .ok (.iload_n 1, 1) := by decide +kernel
theorem dX4_distanceBehind_72 : decode cX4_distanceBehind 72 = .ok (.laload, 1) := by decide +kernel
theorem dX4_distanceBehind_73 : decode cX4_distanceBehind 73 = .ok (.l2i, 1) := by decide +kernel
theorem dX4_distanceBehind_74 : decode cX4_distanceBehind 74 = .ok (.aload_n 0, 1) := by decide +kernel
theorem dX4_distanceBehind_75 : decode cX4_distanceBehind 75 = .ok (.getfield 16, 3) := by decide +kernel
theorem dX4_distanceBehind_78 : decode cX4_distanceBehind 78 = .ok (.iload_n 1, 1) := by decide +kernel
theorem dX4_distanceBehind_79 : decode cX4_distanceBehind 79 = .ok (.iaload, 1) := by decide +kernel
theorem dX4_distanceBehind_80 : decode cX4_distanceBehind 80 = .ok (.isub, 1) := by decide +kernel
theorem dX4_distanceBehind_81 : decode cX4_distanceBehind 81 = .ok (.ireturn, 1) := by decide +kernel
theorem dX4_route_0 : decode cX4_route 0 = .ok (.aload_n 0, 1) := by decide +kernel
theorem dX4_route_1 : decode cX4_route 1 = .ok (.aload_n 0, 1) := by decide +kernel
theorem dX4_route_2 : decode cX4_route 2 = .ok (.iload_n 1, 1) := by decide +kernel
theorem dX4_route_3 : decode cX4_route 3 = .ok (.iload_n 2, 1) := by decide +kernel
theorem dX4_route_4 : decode cX4_route 4 = .ok (.invokevirtual 157, 3) := by decide +kernel
theorem dX4_route_7 : decode cX4_route 7 = .ok (.putfield 80, 3) := by decide +kernel
theorem dX4_route_10 : decode cX4_route 10 = .ok (.aload_n 0, 1) := by decide +kernel
theorem dX4_route_11 : decode cX4_route 11 = .ok (.getfield 80, 3) := by decide +kernel
theorem dX4_route_14 : decode cX4_route 14 = .ok (.ifCond .eq 5, 3) := by decide +kernel
theorem dX4_route_17 : decode cX4_route 17 = .ok (.iconst 0, 1) := by decide +kernel
theorem dX4_route_18 : decode cX4_route 18 = .ok (.ireturn, 1) := by decide +kernel
theorem dX4_route_19 : decode cX4_route 19 = .ok (.aload_n 0, 1) := by decide +kernel
theorem dX4_route_20 : decode cX4_route 20 = .ok (.iload_n 1, 1) := by decide +kernel
theorem dX4_route_21 : decode cX4_route 21 = .ok (.iload_n 2, 1) := by decide +kernel
theorem dX4_route_22 : decode cX4_route 22 = .ok (.invokevirtual 160, 3) := by decide +kernel
theorem dX4_route_25 : decode cX4_route 25 = .ok (.istore_n 3, 1) := by decide +kernel
theorem dX4_route_26 : decode cX4_route 26 = .ok (.iload_n 3, 1) := by decide +kernel
theorem dX4_route_27 : decode cX4_route 27 = .ok (.iconst (-1), 1) := by decide +kernel
theorem dX4_route_28 : decode cX4_route 28 = .ok (.if_icmp .ne 9, 3) := by decide +kernel
theorem dX4_route_31 : decode cX4_route 31 = .ok (.aload_n 0, 1) := by decide +kernel
theorem dX4_route_32 : decode cX4_route 32 = .ok (.iconst 3, 1) := by decide +kernel
theorem dX4_route_33 : decode cX4_route 33 = .ok (.invokevirtual 89, 3) := by decide +kernel
theorem dX4_route_36 : decode cX4_route 36 = .ok (.ireturn, 1) := by decide +kernel
theorem dX4_route_37 : decode cX4_route 37 = .ok (.aload_n 0, 1) := by decide +kernel
theorem dX4_route_38 : decode cX4_route 38 = .ok (.iload_n 3, 1) := by decide +kernel
theorem dX4_route_39 : decode cX4_route 39 = .ok (.putfield 163, 3) := by decide +kernel
theorem dX4_route_42 : decode cX4_route 42 = .ok (.aload_n 0, 1) := by decide +kernel
theorem dX4_route_43 : decode cX4_route 43 = .ok (.iconst 0, 1) := by decide +kernel
theorem dX4_route_44 : decode cX4_route 44 = .ok (.putfield 166, 3) := by decide +kernel
theorem dX4_route_47 : decode cX4_route 47 = .ok (.iload_n 1, 1) := by decide +kernel
theorem dX4_route_48 : decode cX4_route 48 = .ok (.iload_n 2, 1) := by decide +kernel
theorem dX4_route_49 : decode cX4_route 49 = .ok (.if_icmp .ne 5, 3) := by decide +kernel
theorem dX4_route_52 : decode cX4_route 52 = .ok (.iconst 0, 1) := by decide +kernel
theorem dX4_route_53 : decode cX4_route 53 = .ok (.ireturn, 1) := by decide +kernel
theorem dX4_route_54 : decode cX4_route 54 = .ok (.aload_n 0, 1) := by decide +kernel
theorem dX4_route_55 : decode cX4_route 55 = .ok (.iload_n 1, 1) := by decide +kernel
theorem dX4_route_56 : decode cX4_route 56 = .ok (.invokevirtual 154, 3) := by decide +kernel
theorem dX4_route_59 : decode cX4_route 59 = .ok (.istore 4, 2) := by decide +kernel
theorem dX4_route_61 : decode cX4_route 61 = .ok (.aload_n 0, 1) := by decide +kernel
theorem dX4_route_62 : decode cX4_route 62 = .ok (.getfield 68, 3) := by decide +kernel
theorem dX4_route_65 : decode cX4_route 65 = .ok (.iconst 0, 1) := by decide +kernel
theorem dX4_route_66 : decode cX4_route 66 = .ok (.iload 4, 2) := by decide +kernel
theorem dX4_route_68 : decode cX4_route 68 = .ok (.iastore, 1) := by decide +kernel
theorem dX4_route_69 : decode cX4_route 69 = .ok (.aload_n 0, 1) := by decide +kernel
theorem dX4_route_70 : decode cX4_route 70 = .ok (.iconst 1, 1) := by decide +kernel
theorem dX4_route_71 : decode cX4_route 71 = .ok (.putfield 166, 3) := by decide +kernel
theorem dX4_route_74 : decode cX4_route 74 = .ok (.aload_n 0, 1) := by decide +kernel
theorem dX4_route_75 : decode cX4_route 75 = .ok (.getfield 13, 3) := by decide +kernel
theorem dX4_route_78 : decode cX4_route 78 = .ok (.iload 4, 2) := by decide +kernel
theorem dX4_route_80 : decode cX4_route 80 = .ok (.iaload, 1) := by decide +kernel
theorem dX4_route_81 : decode cX4_route 81 = .ok (.iload_n 2, 1) := by decide +kernel
theorem dX4_route_82 : decode cX4_route 82 = .ok (.if_icmp .eq 35, 3) := by decide +kernel
theorem dX4_route_85 : decode cX4_route 85 = .ok (.aload_n 0, 1) := by decide +kernel
theorem dX4_route_86 : decode cX4_route 86 = .ok (.iload 4, 2) := by decide +kernel
theorem dX4_route_88 : decode cX4_route 88 = .ok (.invokevirtual 169, 3) := by decide +kernel
theorem dX4_route_91 : decode cX4_route 91 = .ok (.istore 4, 2) := by decide +kernel
theorem dX4_route_93 : decode cX4_route 93 = .ok (.aload_n 0, 1) := by decide +kernel
theorem dX4_route_94 : decode cX4_route 94 = .ok (.getfield 68, 3) := by decide +kernel
theorem dX4_route_97 : decode cX4_route 97 = .ok (.aload_n 0, 1) := by decide +kernel
theorem dX4_route_98 : decode cX4_route 98 = .ok (.getfield 166, 3) := by decide +kernel
theorem dX4_route_101 : decode cX4_route 101 = .ok (.iload 4, 2) := by decide +kernel
theorem dX4_route_103 : decode cX4_route 103 = .ok (.iastore, 1) := by decide +kernel
theorem dX4_route_104 : decode cX4_route 104 = .ok (.aload_n 0, 1) := by decide +kernel
theorem dX4_route_105 : decode cX4_route 105 = .ok (.dup, 1) := by decide +kernel
theorem dX4_route_106 : decode cX4_route 106 = .ok (.getfield 166, 3) := by decide +kernel
theorem dX4_route_109 : decode cX4_route 109 = .ok (.iconst 1, 1) := by decide +kernel
theorem dX4_route_110 : decode cX4_route 110 = .ok (.iadd, 1) := by decide +kernel
theorem dX4_route_111 : decode cX4_route 111 = .ok (.putfield 166, 3) := by decide +kernel
theorem dX4_route_114 : decode cX4_route 114 = .ok (.goto (-40), 3) := by decide +kernel
theorem dX4_route_117 : decode cX4_route 117 = .ok (.aload_n 0, 1) := by decide +kernel
theorem dX4_route_118 : decode cX4_route 118 = .ok (.getfield 166, 3) := by decide +kernel
theorem dX4_route_121 : decode cX4_route 121 = .ok (.ireturn, 1) := by decide +kernel
theorem dX4_nextRoad_0 : decode cX4_nextRoad 0 = .ok (.iconst 0, 1) := by decide +kernel
theorem dX4_nextRoad_1 : decode cX4_nextRoad 1 = .ok (.istore_n 2, 1) := by decide +kernel
theorem dX4_nextRoad_2 : decode cX4_nextRoad 2 = .ok (.aload_n 0, 1) := by decide +kernel
theorem dX4_nextRoad_3 : decode cX4_nextRoad 3 = .ok (.iload_n 1, 1) := by decide +kernel
theorem dX4_nextRoad_4 : decode cX4_nextRoad 4 = .ok (.iload_n 2, 1) := by decide +kernel
theorem dX4_nextRoad_5 : decode cX4_nextRoad 5 = .ok (.invokevirtual 134, 3) := by decide +kernel
theorem dX4_nextRoad_8 : decode cX4_nextRoad 8 = .ok (.ldc2_w 115, 3) := by decide +kernel
theorem dX4_nextRoad_11 : decode cX4_nextRoad 11 = .ok (.lcmp, 1) := by decide +kernel
theorem dX4_nextRoad_12 : decode cX4_nextRoad 12 = .ok (.ifCond .eq 64, 3) := by decide +kernel
theorem dX4_nextRoad_15 : decode cX4_nextRoad 15 = .ok (.aload_n 0, 1) := by decide +kernel
theorem dX4_nextRoad_16 : decode cX4_nextRoad 16 = .ok (.getfield 74, 3) := by decide +kernel
theorem dX4_nextRoad_19 : decode cX4_nextRoad 19 = .ok (.iload_n 2, 1) := by decide +kernel
theorem dX4_nextRoad_20 : decode cX4_nextRoad 20 = .ok (.laload, 1) := by decide +kernel
theorem dX4_nextRoad_21 : decode cX4_nextRoad 21 = .ok (.ldc2_w 115, 3) := by decide +kernel
theorem dX4_nextRoad_24 : decode cX4_nextRoad 24 = .ok (.lcmp, 1) := by decide +kernel
theorem dX4_nextRoad_25 : decode cX4_nextRoad 25 = .ok (.ifCond .eq 51, 3) := by decide +kernel
theorem dX4_nextRoad_28 : decode cX4_nextRoad 28 = .ok (.aload_n 0, 1) := by decide +kernel
theorem dX4_nextRoad_29 : decode cX4_nextRoad 29 = .ok (.getfield 16, 3) := by decide +kernel
theorem dX4_nextRoad_32 : decode cX4_nextRoad 32 = .ok (.iload_n 1, 1) := by decide +kernel
theorem dX4_nextRoad_33 : decode cX4_nextRoad 33 = .ok (.iaload, 1) := by decide +kernel
theorem dX4_nextRoad_34 : decode cX4_nextRoad 34 = .ok (.aload_n 0, 1) := by decide +kernel
theorem dX4_nextRoad_35 : decode cX4_nextRoad 35 = .ok (.iload_n 1, 1) := by decide +kernel
theorem dX4_nextRoad_36 : decode cX4_nextRoad 36 = .ok (.iload_n 2, 1) := by decide +kernel
theorem dX4_nextRoad_37 : decode cX4_nextRoad 37 = .ok (.invokevirtual 111, 3) := by decide +kernel
theorem dX4_nextRoad_40 : decode cX4_nextRoad 40 = .ok (.iadd, 1) := by decide +kernel
theorem dX4_nextRoad_41 : decode cX4_nextRoad 41 = .ok (.i2l, 1) := by decide +kernel
theorem dX4_nextRoad_42 : decode cX4_nextRoad 42 = .ok (.aload_n 0, 1) := by decide +kernel
theorem dX4_nextRoad_43 : decode cX4_nextRoad 43 = .ok (.getfield 74, 3) := by decide +kernel
theorem dX4_nextRoad_46 : decode cX4_nextRoad 46 = .ok (.iload_n 2, 1) := by decide +kernel
theorem dX4_nextRoad_47 : decode cX4_nextRoad 47 = .ok (.laload, 1) := by decide +kernel
theorem dX4_nextRoad_48 : decode cX4_nextRoad 48 = .ok (.ladd, 1) := by decide +kernel
theorem dX4_nextRoad_49 : decode cX4_nextRoad 49 = .ok (.aload_n 0, 1) := by decide +kernel
theorem dX4_nextRoad_50 : decode cX4_nextRoad 50 = .ok (.getfield 74, 3) := by decide +kernel
theorem dX4_nextRoad_53 : decode cX4_nextRoad 53 = .ok (.iload_n 1, 1) := by decide +kernel
theorem dX4_nextRoad_54 : decode cX4_nextRoad 54 = .ok (.laload, 1) := by decide +kernel
theorem dX4_nextRoad_55 : decode cX4_nextRoad 55 = .ok (.lcmp, 1) := by decide +kernel
theorem dX4_nextRoad_56 : decode cX4_nextRoad 56 = .ok (.ifCond .ne 20, 3) := by decide +kernel
theorem dX4_nextRoad_59 : decode cX4_nextRoad 59 = .ok (.aload_n 0, 1) := by decide +kernel
theorem dX4_nextRoad_60 : decode cX4_nextRoad 60 = .ok (.getfield 77, 3) := by decide +kernel
theorem dX4_nextRoad_63 : decode cX4_nextRoad 63 = .ok (.iload_n 2, 1) := by decide +kernel
theorem dX4_nextRoad_64 : decode cX4_nextRoad 64 = .ok (.iaload, 1) := by decide +kernel
theorem dX4_nextRoad_65 : decode cX4_nextRoad 65 = .ok (.iconst 1, 1) := by decide +kernel
theorem dX4_nextRoad_66 : decode cX4_nextRoad 66 = .ok (.iadd, 1) := by decide +kernel
theorem dX4_nextRoad_67 : decode cX4_nextRoad 67 = .ok (.aload_n 0, 1) := by decide +kernel
theorem dX4_nextRoad_68 : decode cX4_nextRoad 68 = .ok (.getfield 77, 3) := by decide +kernel
theorem dX4_nextRoad_71 : decode cX4_nextRoad 71 = .ok (.iload_n 1, 1) := by decide +kernel
theorem dX4_nextRoad_72 : decode cX4_nextRoad 72 = .ok (.iaload, 1) := by decide +kernel
theorem dX4_nextRoad_73 : decode cX4_nextRoad 73 = .ok (.if_icmp .eq 9, 3) := by decide +kernel
theorem dX4_nextRoad_76 : decode cX4_nextRoad 76 = .ok (.iinc 2 1, 3) := by decide +kernel
theorem dX4_nextRoad_79 : decode cX4_nextRoad 79 = .ok (.goto (-77), 3) := by decide +kernel
theorem dX4_nextRoad_82 : decode cX4_nextRoad 82 = .ok (.iload_n 2, 1) := by decide +kernel
theorem dX4_nextRoad_83 : decode cX4_nextRoad 83 = .ok (.ireturn, 1) := by decide +kernel
theorem dX4_routeRoad_0 : decode cX4_routeRoad 0 = .ok (.aload_n 0, 1) := by decide +kernel
theorem dX4_routeRoad_1 : decode cX4_routeRoad 1 = .ok (.iconst 0, 1) := by decide +kernel
theorem dX4_routeRoad_2 : decode cX4_routeRoad 2 = .ok (.putfield 80, 3) := by decide +kernel
theorem dX4_routeRoad_5 : decode cX4_routeRoad 5 = .ok (.iload_n 1, 1) := by decide +kernel
theorem dX4_routeRoad_6 : decode cX4_routeRoad 6 = .ok (.ifCond .lt 20, 3) := by decide +kernel
theorem dX4_routeRoad_9 : decode cX4_routeRoad 9 = .ok (.iload_n 1, 1) := by decide +kernel
theorem dX4_routeRoad_10 : decode cX4_routeRoad 10 = .ok (.aload_n 0, 1) := by decide +kernel
theorem dX4_routeRoad_11 : decode cX4_routeRoad 11 = .ok (.getfield 166, 3) := by decide +kernel
theorem dX4_routeRoad_14 : decode cX4_routeRoad 14 = .ok (.if_icmp .ge 12, 3) := by decide +kernel
theorem dX4_routeRoad_17 : decode cX4_routeRoad 17 = .ok (.aload_n 0, 1) := by decide +kernel
theorem dX4_routeRoad_18 : decode cX4_routeRoad 18 = .ok (.getfield 68, 3) := by decide +kernel
theorem dX4_routeRoad_21 : decode cX4_routeRoad 21 = .ok (.iload_n 1, 1) := by decide +kernel
theorem dX4_routeRoad_22 : decode cX4_routeRoad 22 = .ok (.iaload, 1) := by decide +kernel
theorem dX4_routeRoad_23 : decode cX4_routeRoad 23 = .ok (.goto 8, 3) := by decide +kernel
theorem dX4_routeRoad_26 : decode cX4_routeRoad 26 = .ok (.aload_n 0, 1) := by decide +kernel
theorem dX4_routeRoad_27 : decode cX4_routeRoad 27 = .ok (.iconst 1, 1) := by decide +kernel
theorem dX4_routeRoad_28 : decode cX4_routeRoad 28 = .ok (.invokevirtual 89, 3) := by decide +kernel
theorem dX4_routeRoad_31 : decode cX4_routeRoad 31 = .ok (.ireturn, 1) := by decide +kernel
theorem dX4_routeCost_0 : decode cX4_routeCost 0 = .ok (.aload_n 0, 1) := by decide +kernel
theorem dX4_routeCost_1 : decode cX4_routeCost 1 = .ok (.iconst 0, 1) := by decide +kernel
theorem dX4_routeCost_2 : decode cX4_routeCost 2 = .ok (.putfield 80, 3) := by decide +kernel
theorem dX4_routeCost_5 : decode cX4_routeCost 5 = .ok (.aload_n 0, 1) := by decide +kernel
theorem dX4_routeCost_6 : decode cX4_routeCost 6 = .ok (.getfield 163, 3) := by decide +kernel
theorem dX4_routeCost_9 : decode cX4_routeCost 9 = .ok (.ireturn, 1) := by decide +kernel
theorem dX4_reach_0 : decode cX4_reach 0 = .ok (.aload_n 0, 1) := by decide +kernel
theorem dX4_reach_1 : decode cX4_reach 1 = .ok (.aload_n 0, 1) := by decide +kernel
theorem dX4_reach_2 : decode cX4_reach 2 = .ok (.iload_n 1, 1) := by decide +kernel
theorem dX4_reach_3 : decode cX4_reach 3 = .ok (.iload_n 1, 1) := by decide +kernel
theorem dX4_reach_4 : decode cX4_reach 4 = .ok (.invokevirtual 157, 3) := by decide +kernel
theorem dX4_reach_7 : decode cX4_reach 7 = .ok (.putfield 80, 3) := by decide +kernel
theorem dX4_reach_10 : decode cX4_reach 10 = .ok (.aload_n 0, 1) := by decide +kernel
theorem dX4_reach_11 : decode cX4_reach 11 = .ok (.getfield 80, 3) := by decide +kernel
theorem dX4_reach_14 : decode cX4_reach 14 = .ok (.ifCond .eq 5, 3) := by decide +kernel
theorem dX4_reach_17 : decode cX4_reach 17 = .ok (.iconst 0, 1) := by decide +kernel
theorem dX4_reach_18 : decode cX4_reach 18 = .ok (.ireturn, 1) := by decide +kernel
theorem dX4_reach_19 : decode cX4_reach 19 = .ok (.iload_n 2, 1) := by decide +kernel
theorem dX4_reach_20 : decode cX4_reach 20 = .ok (.ifCond .ge 9, 3) := by decide +kernel
theorem dX4_reach_23 : decode cX4_reach 23 = .ok (.aload_n 0, 1) := by decide +kernel
theorem dX4_reach_24 : decode cX4_reach 24 = .ok (.iconst 3, 1) := by decide +kernel
theorem dX4_reach_25 : decode cX4_reach 25 = .ok (.invokevirtual 89, 3) := by decide +kernel
theorem dX4_reach_28 : decode cX4_reach 28 = .ok (.ireturn, 1) := by decide +kernel
theorem dX4_reach_29 : decode cX4_reach 29 = .ok (.bipush 32, 2) := by decide +kernel
theorem dX4_reach_31 : decode cX4_reach 31 = .ok (.newarray .int, 2) := by decide +kernel
theorem dX4_reach_33 : decode cX4_reach 33 = .ok (.astore_n 3, 1) := by decide +kernel
theorem dX4_reach_34 : decode cX4_reach 34 = .ok (.iconst 0, 1) := by decide +kernel
theorem dX4_reach_35 : decode cX4_reach 35 = .ok (.istore 4, 2) := by decide +kernel
theorem dX4_reach_37 : decode cX4_reach 37 = .ok (.iload 4, 2) := by decide +kernel
theorem dX4_reach_39 : decode cX4_reach 39 = .ok (.aload_n 0, 1) := by decide +kernel
theorem dX4_reach_40 : decode cX4_reach 40 = .ok (.getfield 83, 3) := by decide +kernel
theorem dX4_reach_43 : decode cX4_reach 43 = .ok (.if_icmp .ge 20, 3) := by decide +kernel
theorem dX4_reach_46 : decode cX4_reach 46 = .ok (.aload_n 3, 1) := by decide +kernel
theorem dX4_reach_47 : decode cX4_reach 47 = .ok (.iload 4, 2) := by decide +kernel
theorem dX4_reach_49 : decode cX4_reach 49 = .ok (.aload_n 0, 1) := by decide +kernel
theorem dX4_reach_50 : decode cX4_reach 50 = .ok (.iload_n 1, 1) := by decide +kernel
theorem dX4_reach_51 : decode cX4_reach 51 = .ok (.iload 4, 2) := by decide +kernel
theorem dX4_reach_53 : decode cX4_reach 53 = .ok (.invokevirtual 160, 3) := by decide +kernel
theorem dX4_reach_56 : decode cX4_reach 56 = .ok (.iastore, 1) := by decide +kernel
theorem dX4_reach_57 : decode cX4_reach 57 = .ok (.iinc 4 1, 3) := by decide +kernel
theorem dX4_reach_60 : decode cX4_reach 60 = .ok (.goto (-23), 3) := by decide +kernel
theorem dX4_reach_63 : decode cX4_reach 63 = .ok (.aload_n 0, 1) := by decide +kernel
theorem dX4_reach_64 : decode cX4_reach 64 = .ok (.iconst 0, 1) := by decide +kernel
theorem dX4_reach_65 : decode cX4_reach 65 = .ok (.putfield 172, 3) := by decide +kernel
theorem dX4_reach_68 : decode cX4_reach 68 = .ok (.iconst 0, 1) := by decide +kernel
theorem dX4_reach_69 : decode cX4_reach 69 = .ok (.istore 4, 2) := by decide +kernel
theorem dX4_reach_71 : decode cX4_reach 71 = .ok (.iload 4, 2) := by decide +kernel
theorem dX4_reach_73 : decode cX4_reach 73 = .ok (.aload_n 0, 1) := by decide +kernel
theorem dX4_reach_74 : decode cX4_reach 74 = .ok (.getfield 83, 3) := by decide +kernel
theorem dX4_reach_77 : decode cX4_reach 77 = .ok (.if_icmp .ge 98, 3) := by decide +kernel
theorem dX4_reach_80 : decode cX4_reach 80 = .ok (.aload_n 3, 1) := by decide +kernel
theorem dX4_reach_81 : decode cX4_reach 81 = .ok (.iload 4, 2) := by decide +kernel
theorem dX4_reach_83 : decode cX4_reach 83 = .ok (.iaload, 1) := by decide +kernel
theorem dX4_reach_84 : decode cX4_reach 84 = .ok (.iconst (-1), 1) := by decide +kernel
theorem dX4_reach_85 : decode cX4_reach 85 = .ok (.if_icmp .eq 84, 3) := by decide +kernel
theorem dX4_reach_88 : decode cX4_reach 88 = .ok (.aload_n 3, 1) := by decide +kernel
theorem dX4_reach_89 : decode cX4_reach 89 = .ok (.iload 4, 2) := by decide +kernel
theorem dX4_reach_91 : decode cX4_reach 91 = .ok (.iaload, 1) := by decide +kernel
theorem dX4_reach_92 : decode cX4_reach 92 = .ok (.iload_n 2, 1) := by decide +kernel
theorem dX4_reach_93 : decode cX4_reach 93 = .ok (.if_icmp .le 6, 3) := by decide +kernel
theorem dX4_reach_96 : decode cX4_reach 96 = .ok (.goto 73, 3) := by decide +kernel
theorem dX4_reach_99 : decode cX4_reach 99 = .ok (.aload_n 0, 1) := by decide +kernel
theorem dX4_reach_100 : decode cX4_reach 100 = .ok (.getfield 172, 3) := by decide +kernel
theorem dX4_reach_103 : decode cX4_reach 103 = .ok (.istore 5, 2) := by decide +kernel
theorem dX4_reach_105 : decode cX4_reach 105 = .ok (.iload 5, 2) := by decide +kernel
theorem dX4_reach_107 : decode cX4_reach 107 = .ok (.ifCond .le 43, 3) := by decide +kernel
theorem dX4_reach_110 : decode cX4_reach 110 = .ok (.aload_n 3, 1) := by decide +kernel
theorem dX4_reach_111 : decode cX4_reach 111 = .ok (.aload_n 0, 1) := by decide +kernel
theorem dX4_reach_112 : decode cX4_reach 112 = .ok (.getfield 71, 3) := by decide +kernel
theorem dX4_reach_115 : decode cX4_reach 115 = .ok (.iload 5, 2) := by decide +kernel
theorem dX4_reach_117 : decode cX4_reach 117 = .ok (.iconst 1, 1) := by decide +kernel
theorem dX4_reach_118 : decode cX4_reach 118 = .ok (.isub, 1) := by decide +kernel
theorem dX4_reach_119 : decode cX4_reach 119 = .ok (.iaload, 1) := by decide +kernel
theorem dX4_reach_120 : decode cX4_reach 120 = .ok (.iaload, 1) := by decide +kernel
theorem dX4_reach_121 : decode cX4_reach 121 = .ok (.aload_n 3, 1) := by decide +kernel
theorem dX4_reach_122 : decode cX4_reach 122 = .ok (.iload 4, 2) := by decide +kernel
theorem dX4_reach_124 : decode cX4_reach 124 = .ok (.iaload, 1) := by decide +kernel
theorem dX4_reach_125 : decode cX4_reach 125 = .ok (.if_icmp .le 25, 3) := by decide +kernel
theorem dX4_reach_128 : decode cX4_reach 128 = .ok (.aload_n 0, 1) := by decide +kernel
theorem dX4_reach_129 : decode cX4_reach 129 = .ok (.getfield 71, 3) := by decide +kernel
theorem dX4_reach_132 : decode cX4_reach 132 = .ok (.iload 5, 2) := by decide +kernel
theorem dX4_reach_134 : decode cX4_reach 134 = .ok (.aload_n 0, 1) := by decide +kernel
theorem dX4_reach_135 : decode cX4_reach 135 = .ok (.getfield 71, 3) := by decide +kernel
theorem dX4_reach_138 : decode cX4_reach 138 = .ok (.iload 5, 2) := by decide +kernel
theorem dX4_reach_140 : decode cX4_reach 140 = .ok (.iconst 1, 1) := by decide +kernel
theorem dX4_reach_141 : decode cX4_reach 141 = .ok (.isub, 1) := by decide +kernel
theorem dX4_reach_142 : decode cX4_reach 142 = .ok (.iaload, 1) := by decide +kernel
theorem dX4_reach_143 : decode cX4_reach 143 = .ok (.iastore, 1) := by decide +kernel
theorem dX4_reach_144 : decode cX4_reach 144 = .ok (.iinc 5 (-1), 3) := by decide +kernel
theorem dX4_reach_147 : decode cX4_reach 147 = .ok (.goto (-42), 3) := by decide +kernel
theorem dX4_reach_150 : decode cX4_reach 150 = .ok (.aload_n 0, 1) := by decide +kernel
theorem dX4_reach_151 : decode cX4_reach 151 = .ok (.getfield 71, 3) := by decide +kernel
theorem dX4_reach_154 : decode cX4_reach 154 = .ok (.iload 5, 2) := by decide +kernel
theorem dX4_reach_156 : decode cX4_reach 156 = .ok (.iload 4, 2) := by decide +kernel
theorem dX4_reach_158 : decode cX4_reach 158 = .ok (.iastore, 1) := by decide +kernel
theorem dX4_reach_159 : decode cX4_reach 159 = .ok (.aload_n 0, 1) := by decide +kernel
theorem dX4_reach_160 : decode cX4_reach 160 = .ok (.dup, 1) := by decide +kernel
theorem dX4_reach_161 : decode cX4_reach 161 = .ok (.getfield 172, 3) := by decide +kernel
theorem dX4_reach_164 : decode cX4_reach 164 = .ok (.iconst 1, 1) := by decide +kernel
theorem dX4_reach_165 : decode cX4_reach 165 = .ok (.iadd, 1) := by decide +kernel
theorem dX4_reach_166 : decode cX4_reach 166 = .ok (.putfield 172, 3) := by decide +kernel
theorem dX4_reach_169 : decode cX4_reach 169 = .ok (.iinc 4 1, 3) := by decide +kernel
theorem dX4_reach_172 : decode cX4_reach 172 = .ok (.goto (-101), 3) := by decide +kernel
theorem dX4_reach_175 : decode cX4_reach 175 = .ok (.aload_n 0, 1) := by decide +kernel
theorem dX4_reach_176 : decode cX4_reach 176 = .ok (.getfield 172, 3) := by decide +kernel
theorem dX4_reach_179 : decode cX4_reach 179 = .ok (.ireturn, 1) := by decide +kernel
theorem dX4_reached_0 : decode cX4_reached 0 = .ok (.aload_n 0, 1) := by decide +kernel
theorem dX4_reached_1 : decode cX4_reached 1 = .ok (.iconst 0, 1) := by decide +kernel
theorem dX4_reached_2 : decode cX4_reached 2 = .ok (.putfield 80, 3) := by decide +kernel
theorem dX4_reached_5 : decode cX4_reached 5 = .ok (.iload_n 1, 1) := by decide +kernel
theorem dX4_reached_6 : decode cX4_reached 6 = .ok (.ifCond .lt 20, 3) := by decide +kernel
theorem dX4_reached_9 : decode cX4_reached 9 = .ok (.iload_n 1, 1) := by decide +kernel
theorem dX4_reached_10 : decode cX4_reached 10 = .ok (.aload_n 0, 1) := by decide +kernel
theorem dX4_reached_11 : decode cX4_reached 11 = .ok (.getfield 172, 3) := by decide +kernel
theorem dX4_reached_14 : decode cX4_reached 14 = .ok (.if_icmp .ge 12, 3) := by decide +kernel
theorem dX4_reached_17 : decode cX4_reached 17 = .ok (.aload_n 0, 1) := by decide +kernel
theorem dX4_reached_18 : decode cX4_reached 18 = .ok (.getfield 71, 3) := by decide +kernel
theorem dX4_reached_21 : decode cX4_reached 21 = .ok (.iload_n 1, 1) := by decide +kernel
theorem dX4_reached_22 : decode cX4_reached 22 = .ok (.iaload, 1) := by decide +kernel
theorem dX4_reached_23 : decode cX4_reached 23 = .ok (.goto 8, 3) := by decide +kernel
theorem dX4_reached_26 : decode cX4_reached 26 = .ok (.aload_n 0, 1) := by decide +kernel
theorem dX4_reached_27 : decode cX4_reached 27 = .ok (.iconst 1, 1) := by decide +kernel
theorem dX4_reached_28 : decode cX4_reached 28 = .ok (.invokevirtual 89, 3) := by decide +kernel
theorem dX4_reached_31 : decode cX4_reached 31 = .ok (.ireturn, 1) := by decide +kernel
theorem dX4_averageDistance_0 : decode cX4_averageDistance 0 = .ok (.aload_n 0, 1) := by decide +kernel
theorem dX4_averageDistance_1 : decode cX4_averageDistance 1 = .ok (.aload_n 0, 1) := by decide +kernel
theorem dX4_averageDistance_2 : decode cX4_averageDistance 2 = .ok (.iload_n 1, 1) := by decide +kernel
theorem dX4_averageDistance_3 : decode cX4_averageDistance 3 = .ok (.iload_n 1, 1) := by decide +kernel
theorem dX4_averageDistance_4 : decode cX4_averageDistance 4 = .ok (.invokevirtual 157, 3) := by decide +kernel
theorem dX4_averageDistance_7 : decode cX4_averageDistance 7 = .ok (.putfield 80, 3) := by decide +kernel
theorem dX4_averageDistance_10 : decode cX4_averageDistance 10 = .ok (.aload_n 0, 1) := by decide +kernel
theorem dX4_averageDistance_11 : decode cX4_averageDistance 11 = .ok (.getfield 80, 3) := by decide +kernel
theorem dX4_averageDistance_14 : decode cX4_averageDistance 14 = .ok (.ifCond .eq 5, 3) := by decide +kernel
theorem dX4_averageDistance_17 : decode cX4_averageDistance 17 = .ok (.dconst 0, 1) := by decide +kernel
theorem dX4_averageDistance_18 : decode cX4_averageDistance 18 = .ok (.dreturn, 1) := by decide +kernel
theorem dX4_averageDistance_19 : decode cX4_averageDistance 19 = .ok (.lconst 0, 1) := by decide +kernel
theorem dX4_averageDistance_20 : decode cX4_averageDistance 20 = .ok (.lstore_n 2, 1) := by decide +kernel
theorem dX4_averageDistance_21 : decode cX4_averageDistance 21 = .ok (.iconst 0, 1) := by decide +kernel
theorem dX4_averageDistance_22 : decode cX4_averageDistance 22 = .ok (.istore 4, 2) := by decide +kernel
theorem dX4_averageDistance_24 : decode cX4_averageDistance 24 = .ok (.iconst 0, 1) := by decide +kernel
theorem dX4_averageDistance_25 : decode cX4_averageDistance 25 = .ok (.istore 5, 2) := by decide +kernel
theorem dX4_averageDistance_27 : decode cX4_averageDistance 27 = .ok (.iload 5, 2) := by decide +kernel
theorem dX4_averageDistance_29 : decode cX4_averageDistance 29 = .ok (.aload_n 0, 1) := by decide +kernel
theorem dX4_averageDistance_30 : decode cX4_averageDistance 30 = .ok (.getfield 83, 3) := by decide +kernel
theorem dX4_averageDistance_33 : decode cX4_averageDistance 33 = .ok (.if_icmp .ge 42, 3) := by decide +kernel
theorem dX4_averageDistance_36 : decode cX4_averageDistance 36 = .ok (.aload_n 0, 1) := by decide +kernel
theorem dX4_averageDistance_37 : decode cX4_averageDistance 37 = .ok (.iload_n 1, 1) := by decide +kernel
theorem dX4_averageDistance_38 : decode cX4_averageDistance 38 = .ok (.iload 5, 2) := by decide +kernel
theorem dX4_averageDistance_40 : decode cX4_averageDistance 40 = .ok (.invokevirtual 160, 3) := by decide +kernel
theorem dX4_averageDistance_43 : decode cX4_averageDistance 43 = .ok (.istore 6, 2) := by decide +kernel
theorem dX4_averageDistance_45 : decode cX4_averageDistance 45 = .ok (.iload 5, 2) := by decide +kernel
theorem dX4_averageDistance_47 : decode cX4_averageDistance 47 = .ok (.iload_n 1, 1) := by decide +kernel
theorem dX4_averageDistance_48 : decode cX4_averageDistance 48 = .ok (.if_icmp .eq 21, 3) := by decide +kernel
theorem dX4_averageDistance_51 : decode cX4_averageDistance 51 = .ok (.iload 6, 2) := by decide +kernel
theorem dX4_averageDistance_53 : decode cX4_averageDistance 53 = .ok (.iconst (-1), 1) := by decide +kernel
theorem dX4_averageDistance_54 : decode cX4_averageDistance 54 = .ok (.if_icmp .ne 6, 3) := by decide +kernel
theorem dX4_averageDistance_57 : decode cX4_averageDistance 57 = .ok (.goto 12, 3) := by decide +kernel
theorem dX4_averageDistance_60 : decode cX4_averageDistance 60 = .ok (.lload_n 2, 1) := by decide +kernel
theorem dX4_averageDistance_61 : decode cX4_averageDistance 61 = .ok (.iload 6, 2) := by decide +kernel
theorem dX4_averageDistance_63 : decode cX4_averageDistance 63 = .ok (.i2l, 1) := by decide +kernel
theorem dX4_averageDistance_64 : decode cX4_averageDistance 64 = .ok (.ladd, 1) := by decide +kernel
theorem dX4_averageDistance_65 : decode cX4_averageDistance 65 = .ok (.lstore_n 2, 1) := by decide +kernel
theorem dX4_averageDistance_66 : decode cX4_averageDistance 66 = .ok (.iinc 4 1, 3) := by decide +kernel
theorem dX4_averageDistance_69 : decode cX4_averageDistance 69 = .ok (.iinc 5 1, 3) := by decide +kernel
theorem dX4_averageDistance_72 : decode cX4_averageDistance 72 = .ok (.goto (-45), 3) := by decide +kernel
theorem dX4_averageDistance_75 : decode cX4_averageDistance 75 = .ok (.iload 4, 2) := by decide +kernel
theorem dX4_averageDistance_77 : decode cX4_averageDistance 77 = .ok (.ifCond .ne 7, 3) := by decide +kernel
theorem dX4_averageDistance_80 : decode cX4_averageDistance 80 = .ok (.dconst 0, 1) := by decide +kernel
theorem dX4_averageDistance_81 : decode cX4_averageDistance 81 = .ok (.goto 9, 3) := by decide +kernel
theorem dX4_averageDistance_84 : decode cX4_averageDistance 84 = .ok (.lload_n 2, 1) := by decide +kernel
theorem dX4_averageDistance_85 : decode cX4_averageDistance 85 = .ok (.l2d, 1) := by decide +kernel
theorem dX4_averageDistance_86 : decode cX4_averageDistance 86 = .ok (.iload 4, 2) := by decide +kernel
theorem dX4_averageDistance_88 : decode cX4_averageDistance 88 = .ok (.i2d, 1) := by decide +kernel
theorem dX4_averageDistance_89 : decode cX4_averageDistance 89 = .ok (.ddiv, 1) := by decide +kernel
theorem dX4_averageDistance_90 : decode cX4_averageDistance 90 = .ok (.dreturn, 1) := by decide +kernel
theorem dX4_detour_0 : decode cX4_detour 0 = .ok (.aload_n 0, 1) := by decide +kernel
theorem dX4_detour_1 : decode cX4_detour 1 = .ok (.aload_n 0, 1) := by decide +kernel
theorem dX4_detour_2 : decode cX4_detour 2 = .ok (.getfield 97, 3) := by decide +kernel
theorem dX4_detour_5 : decode cX4_detour 5 = .ok (.ifCond .ne 7, 3) := by decide +kernel
theorem dX4_detour_8 : decode cX4_detour 8 = .ok (.iconst 1, 1) := by decide +kernel
theorem dX4_detour_9 : decode cX4_detour 9 = .ok (.goto 32, 3) := by decide +kernel
theorem dX4_detour_12 : decode cX4_detour 12 = .ok (.aload_n 0, 1) := by decide +kernel
theorem dX4_detour_13 : decode cX4_detour 13 = .ok (.iload_n 1, 1) := by decide +kernel
theorem dX4_detour_14 : decode cX4_detour 14 = .ok (.invokevirtual 93, 3) := by decide +kernel
theorem dX4_detour_17 : decode cX4_detour 17 = .ok (.ifCond .eq 19, 3) := by decide +kernel
theorem dX4_detour_20 : decode cX4_detour 20 = .ok (.aload_n 0, 1) := by decide +kernel
theorem dX4_detour_21 : decode cX4_detour 21 = .ok (.iload_n 2, 1) := by decide +kernel
theorem dX4_detour_22 : decode cX4_detour 22 = .ok (.invokevirtual 93, 3) := by decide +kernel
theorem dX4_detour_25 : decode cX4_detour 25 = .ok (.ifCond .eq 11, 3) := by decide +kernel
theorem dX4_detour_28 : decode cX4_detour 28 = .ok (.aload_n 0, 1) := by decide +kernel
theorem dX4_detour_29 : decode cX4_detour 29 = .ok (.iload_n 3, 1) := by decide +kernel
theorem dX4_detour_30 : decode cX4_detour 30 = .ok (.invokevirtual 117, 3) := by decide +kernel
theorem dX4_detour_33 : decode cX4_detour 33 = .ok (.ifCond .ne 7, 3) := by decide +kernel
theorem dX4_detour_36 : decode cX4_detour 36 = .ok (.iconst 2, 1) := by decide +kernel
theorem dX4_detour_37 : decode cX4_detour 37 = .ok (.goto 4, 3) := by decide +kernel
theorem dX4_detour_40 : decode cX4_detour 40 = .ok (.iconst 0, 1) := by decide +kernel
theorem dX4_detour_41 : decode cX4_detour 41 = .ok (.putfield 80, 3) := by decide +kernel
theorem dX4_detour_44 : decode cX4_detour 44 = .ok (.aload_n 0, 1) := by decide +kernel
theorem dX4_detour_45 : decode cX4_detour 45 = .ok (.getfield 80, 3) := by decide +kernel
theorem dX4_detour_48 : decode cX4_detour 48 = .ok (.ifCond .eq 5, 3) := by decide +kernel
theorem dX4_detour_51 : decode cX4_detour 51 = .ok (.iconst 0, 1) := by decide +kernel
theorem dX4_detour_52 : decode cX4_detour 52 = .ok (.ireturn, 1) := by decide +kernel
theorem dX4_detour_53 : decode cX4_detour 53 = .ok (.aload_n 0, 1) := by decide +kernel
theorem dX4_detour_54 : decode cX4_detour 54 = .ok (.iload_n 1, 1) := by decide +kernel
theorem dX4_detour_55 : decode cX4_detour 55 = .ok (.iload_n 2, 1) := by decide +kernel
theorem dX4_detour_56 : decode cX4_detour 56 = .ok (.invokevirtual 160, 3) := by decide +kernel
theorem dX4_detour_59 : decode cX4_detour 59 = .ok (.istore 4, 2) := by decide +kernel
theorem dX4_detour_61 : decode cX4_detour 61 = .ok (.iload 4, 2) := by decide +kernel
theorem dX4_detour_63 : decode cX4_detour 63 = .ok (.iconst (-1), 1) := by decide +kernel
theorem dX4_detour_64 : decode cX4_detour 64 = .ok (.if_icmp .ne 9, 3) := by decide +kernel
theorem dX4_detour_67 : decode cX4_detour 67 = .ok (.aload_n 0, 1) := by decide +kernel
theorem dX4_detour_68 : decode cX4_detour 68 = .ok (.iconst 3, 1) := by decide +kernel
theorem dX4_detour_69 : decode cX4_detour 69 = .ok (.invokevirtual 89, 3) := by decide +kernel
theorem dX4_detour_72 : decode cX4_detour 72 = .ok (.ireturn, 1) := by decide +kernel
theorem dX4_detour_73 : decode cX4_detour 73 = .ok (.aload_n 0, 1) := by decide +kernel
theorem dX4_detour_74 : decode cX4_detour 74 = .ok (.getfield 19, 3) := by decide +kernel
theorem dX4_detour_77 : decode cX4_detour 77 = .ok (.iload_n 3, 1) := by decide +kernel
theorem dX4_detour_78 : decode cX4_detour 78 = .ok (.baload, 1) := by decide +kernel
theorem dX4_detour_79 : decode cX4_detour 79 = .ok (.istore 5, 2) := by decide +kernel
theorem dX4_detour_81 : decode cX4_detour 81 = .ok (.aload_n 0, 1) := by decide +kernel
theorem dX4_detour_82 : decode cX4_detour 82 = .ok (.getfield 19, 3) := by decide +kernel
theorem dX4_detour_85 : decode cX4_detour 85 = .ok (.iload_n 3, 1) := by decide +kernel
theorem dX4_detour_86 : decode cX4_detour 86 = .ok (.iconst 0, 1) := by decide +kernel
theorem dX4_detour_87 : decode cX4_detour 87 = .ok (.bastore, 1) := by decide +kernel
theorem dX4_detour_88 : decode cX4_detour 88 = .ok (.aload_n 0, 1) := by decide +kernel
theorem dX4_detour_89 : decode cX4_detour 89 = .ok (.iload_n 1, 1) := by decide +kernel
theorem dX4_detour_90 : decode cX4_detour 90 = .ok (.iload_n 2, 1) := by decide +kernel
theorem dX4_detour_91 : decode cX4_detour 91 = .ok (.invokevirtual 160, 3) := by decide +kernel
theorem dX4_detour_94 : decode cX4_detour 94 = .ok (.istore 6, 2) := by decide +kernel
theorem dX4_detour_96 : decode cX4_detour 96 = .ok (.aload_n 0, 1) := by decide +kernel
theorem dX4_detour_97 : decode cX4_detour 97 = .ok (.getfield 19, 3) := by decide +kernel
theorem dX4_detour_100 : decode cX4_detour 100 = .ok (.iload_n 3, 1) := by decide +kernel
theorem dX4_detour_101 : decode cX4_detour 101 = .ok (.iload 5, 2) := by decide +kernel
theorem dX4_detour_103 : decode cX4_detour 103 = .ok (.bastore, 1) := by decide +kernel
theorem dX4_detour_104 : decode cX4_detour 104 = .ok (.iload 6, 2) := by decide +kernel
theorem dX4_detour_106 : decode cX4_detour 106 = .ok (.iconst (-1), 1) := by decide +kernel
theorem dX4_detour_107 : decode cX4_detour 107 = .ok (.if_icmp .ne 7, 3) := by decide +kernel
theorem dX4_detour_110 : decode cX4_detour 110 = .ok (.iconst (-1), 1) := by decide +kernel
theorem dX4_detour_111 : decode cX4_detour 111 = .ok (.goto 8, 3) := by decide +kernel
theorem dX4_detour_114 : decode cX4_detour 114 = .ok (.iload 6, 2) := by decide +kernel
theorem dX4_detour_116 : decode cX4_detour 116 = .ok (.iload 4, 2) := by decide +kernel
theorem dX4_detour_118 : decode cX4_detour 118 = .ok (.isub, 1) := by decide +kernel
theorem dX4_detour_119 : decode cX4_detour 119 = .ok (.ireturn, 1) := by decide +kernel
theorem dX4_setPlace_0 : decode cX4_setPlace 0 = .ok (.aload_n 0, 1) := by decide +kernel
theorem dX4_setPlace_1 : decode cX4_setPlace 1 = .ok (.iconst 0, 1) := by decide +kernel
theorem dX4_setPlace_2 : decode cX4_setPlace 2 = .ok (.putfield 80, 3) := by decide +kernel
theorem dX4_setPlace_5 : decode cX4_setPlace 5 = .ok (.aload_n 0, 1) := by decide +kernel
theorem dX4_setPlace_6 : decode cX4_setPlace 6 = .ok (.iload_n 1, 1) := by decide +kernel
theorem dX4_setPlace_7 : decode cX4_setPlace 7 = .ok (.invokevirtual 93, 3) := by decide +kernel
theorem dX4_setPlace_10 : decode cX4_setPlace 10 = .ok (.ifCond .eq 12, 3) := by decide +kernel
theorem dX4_setPlace_13 : decode cX4_setPlace 13 = .ok (.iload_n 2, 1) := by decide +kernel
theorem dX4_setPlace_14 : decode cX4_setPlace 14 = .ok (.ifCond .lt 8, 3) := by decide +kernel
theorem dX4_setPlace_17 : decode cX4_setPlace 17 = .ok (.iload_n 2, 1) := by decide +kernel
theorem dX4_setPlace_18 : decode cX4_setPlace 18 = .ok (.iconst 4, 1) := by decide +kernel
theorem dX4_setPlace_19 : decode cX4_setPlace 19 = .ok (.if_icmp .lt 17, 3) := by decide +kernel
theorem dX4_setPlace_22 : decode cX4_setPlace 22 = .ok (.aload_n 0, 1) := by decide +kernel
theorem dX4_setPlace_23 : decode cX4_setPlace 23 = .ok (.iconst 1, 1) := by decide +kernel
theorem dX4_setPlace_24 : decode cX4_setPlace 24 = .ok (.invokevirtual 89, 3) := by decide +kernel
theorem dX4_setPlace_27 : decode cX4_setPlace 27 = .ok (.ifCond .eq 7, 3) := by decide +kernel
theorem dX4_setPlace_30 : decode cX4_setPlace 30 = .ok (.iconst 1, 1) := by decide +kernel
theorem dX4_setPlace_31 : decode cX4_setPlace 31 = .ok (.goto 4, 3) := by decide +kernel
theorem dX4_setPlace_34 : decode cX4_setPlace 34 = .ok (.iconst 0, 1) := by decide +kernel
theorem dX4_setPlace_35 : decode cX4_setPlace 35 = .ok (.ireturn, 1) := by decide +kernel
theorem dX4_setPlace_36 : decode cX4_setPlace 36 = .ok (.aload_n 0, 1) := by decide +kernel
theorem dX4_setPlace_37 : decode cX4_setPlace 37 = .ok (.getfield 49, 3) := by decide +kernel
theorem dX4_setPlace_40 : decode cX4_setPlace 40 = .ok (.iconst 4, 1) := by decide +kernel
theorem dX4_setPlace_41 : decode cX4_setPlace 41 = .ok (.iload_n 1, 1) := by decide +kernel
theorem dX4_setPlace_42 : decode cX4_setPlace 42 = .ok (.imul, 1) := by decide +kernel
theorem dX4_setPlace_43 : decode cX4_setPlace 43 = .ok (.iload_n 2, 1) := by decide +kernel
theorem dX4_setPlace_44 : decode cX4_setPlace 44 = .ok (.iadd, 1) := by decide +kernel
theorem dX4_setPlace_45 : decode cX4_setPlace 45 = .ok (.baload, 1) := by decide +kernel
theorem dX4_setPlace_46 : decode cX4_setPlace 46 = .ok (.istore 4, 2) := by decide +kernel
theorem dX4_setPlace_48 : decode cX4_setPlace 48 = .ok (.aload_n 0, 1) := by decide +kernel
theorem dX4_setPlace_49 : decode cX4_setPlace 49 = .ok (.getfield 49, 3) := by decide +kernel
theorem dX4_setPlace_52 : decode cX4_setPlace 52 = .ok (.iconst 4, 1) := by decide +kernel
theorem dX4_setPlace_53 : decode cX4_setPlace 53 = .ok (.iload_n 1, 1) := by decide +kernel
theorem dX4_setPlace_54 : decode cX4_setPlace 54 = .ok (.imul, 1) := by decide +kernel
theorem dX4_setPlace_55 : decode cX4_setPlace 55 = .ok (.iload_n 2, 1) := by decide +kernel
theorem dX4_setPlace_56 : decode cX4_setPlace 56 = .ok (.iadd, 1) := by decide +kernel
theorem dX4_setPlace_57 : decode cX4_setPlace 57 = .ok (.iload_n 3, 1) := by decide +kernel
theorem dX4_setPlace_58 : decode cX4_setPlace 58 = .ok (.bastore, 1) := by decide +kernel
theorem dX4_setPlace_59 : decode cX4_setPlace 59 = .ok (.iload 4, 2) := by decide +kernel
theorem dX4_setPlace_61 : decode cX4_setPlace 61 = .ok (.ireturn, 1) := by decide +kernel
theorem dX4_nearest_0 : decode cX4_nearest 0 = .ok (.aload_n 0, 1) := by decide +kernel
theorem dX4_nearest_1 : decode cX4_nearest 1 = .ok (.aload_n 0, 1) := by decide +kernel
theorem dX4_nearest_2 : decode cX4_nearest 2 = .ok (.getfield 97, 3) := by decide +kernel
theorem dX4_nearest_5 : decode cX4_nearest 5 = .ok (.ifCond .ne 7, 3) := by decide +kernel
theorem dX4_nearest_8 : decode cX4_nearest 8 = .ok (.iconst 1, 1) := by decide +kernel
theorem dX4_nearest_9 : decode cX4_nearest 9 = .ok (.goto 25, 3) := by decide +kernel
theorem dX4_nearest_12 : decode cX4_nearest 12 = .ok (.aload_n 0, 1) := by decide +kernel
theorem dX4_nearest_13 : decode cX4_nearest 13 = .ok (.iload_n 1, 1) := by decide +kernel
theorem dX4_nearest_14 : decode cX4_nearest 14 = .ok (.invokevirtual 93, 3) := by decide +kernel
theorem dX4_nearest_17 : decode cX4_nearest 17 = .ok (.ifCond .eq 12, 3) := by decide +kernel
theorem dX4_nearest_20 : decode cX4_nearest 20 = .ok (.iload_n 2, 1) := by decide +kernel
theorem dX4_nearest_21 : decode cX4_nearest 21 = .ok (.ifCond .lt 8, 3) := by decide +kernel
theorem dX4_nearest_24 : decode cX4_nearest 24 = .ok (.iload_n 2, 1) := by decide +kernel
theorem dX4_nearest_25 : decode cX4_nearest 25 = .ok (.iconst 4, 1) := by decide +kernel
theorem dX4_nearest_26 : decode cX4_nearest 26 = .ok (.if_icmp .lt 7, 3) := by decide +kernel
theorem dX4_nearest_29 : decode cX4_nearest 29 = .ok (.iconst 2, 1) := by decide +kernel
theorem dX4_nearest_30 : decode cX4_nearest 30 = .ok (.goto 4, 3) := by decide +kernel
theorem dX4_nearest_33 : decode cX4_nearest 33 = .ok (.iconst 0, 1) := by decide +kernel
theorem dX4_nearest_34 : decode cX4_nearest 34 = .ok (.putfield 80, 3) := by decide +kernel
theorem dX4_nearest_37 : decode cX4_nearest 37 = .ok (.aload_n 0, 1) := by decide +kernel
theorem dX4_nearest_38 : decode cX4_nearest 38 = .ok (.getfield 80, 3) := by decide +kernel
theorem dX4_nearest_41 : decode cX4_nearest 41 = .ok (.ifCond .eq 5, 3) := by decide +kernel
theorem dX4_nearest_44 : decode cX4_nearest 44 = .ok (.iconst 0, 1) := by decide +kernel
theorem dX4_nearest_45 : decode cX4_nearest 45 = .ok (.ireturn, 1) := by decide +kernel
theorem dX4_nearest_46 : decode cX4_nearest 46 = .ok (.iconst (-1), 1) := by decide +kernel
theorem dX4_nearest_47 : decode cX4_nearest 47 = .ok (.istore_n 3, 1) := by decide +kernel
theorem dX4_nearest_48 : decode cX4_nearest 48 = .ok (.iconst 0, 1) := by decide +kernel
theorem dX4_nearest_49 : decode cX4_nearest 49 = .ok (.istore 4, 2) := by decide +kernel
theorem dX4_nearest_51 : decode cX4_nearest 51 = .ok (.iconst 0, 1) := by decide +kernel
theorem dX4_nearest_52 : decode cX4_nearest 52 = .ok (.istore 5, 2) := by decide +kernel
theorem dX4_nearest_54 : decode cX4_nearest 54 = .ok (.iload 5, 2) := by decide +kernel
theorem dX4_nearest_56 : decode cX4_nearest 56 = .ok (.aload_n 0, 1) := by decide +kernel
theorem dX4_nearest_57 : decode cX4_nearest 57 = .ok (.getfield 83, 3) := by decide +kernel
theorem dX4_nearest_60 : decode cX4_nearest 60 = .ok (.if_icmp .ge 64, 3) := by decide +kernel
theorem dX4_nearest_63 : decode cX4_nearest 63 = .ok (.aload_n 0, 1) := by decide +kernel
theorem dX4_nearest_64 : decode cX4_nearest 64 = .ok (.getfield 49, 3) := by decide +kernel
theorem dX4_nearest_67 : decode cX4_nearest 67 = .ok (.iconst 4, 1) := by decide +kernel
theorem dX4_nearest_68 : decode cX4_nearest 68 = .ok (.iload 5, 2) := by decide +kernel
theorem dX4_nearest_70 : decode cX4_nearest 70 = .ok (.imul, 1) := by decide +kernel
theorem dX4_nearest_71 : decode cX4_nearest 71 = .ok (.iload_n 2, 1) := by decide +kernel
theorem dX4_nearest_72 : decode cX4_nearest 72 = .ok (.iadd, 1) := by decide +kernel
theorem dX4_nearest_73 : decode cX4_nearest 73 = .ok (.baload, 1) := by decide +kernel
theorem dX4_nearest_74 : decode cX4_nearest 74 = .ok (.ifCond .eq 13, 3) := by decide +kernel
theorem dX4_nearest_77 : decode cX4_nearest 77 = .ok (.aload_n 0, 1) := by decide +kernel
theorem dX4_nearest_78 : decode cX4_nearest 78 = .ok (.iload_n 1, 1) := by decide +kernel
theorem dX4_nearest_79 : decode cX4_nearest 79 = .ok (.iload 5, 2) := by decide +kernel
theorem dX4_nearest_81 : decode cX4_nearest 81 = .ok (.invokevirtual 160, 3) := by decide +kernel
theorem dX4_nearest_84 : decode cX4_nearest 84 = .ok (.goto 4, 3) := by decide +kernel
theorem dX4_nearest_87 : decode cX4_nearest 87 = .ok (.iconst (-1), 1) := by decide +kernel
theorem dX4_nearest_88 : decode cX4_nearest 88 = .ok (.istore 6, 2) := by decide +kernel
theorem dX4_nearest_90 : decode cX4_nearest 90 = .ok (.iload 6, 2) := by decide +kernel
theorem dX4_nearest_92 : decode cX4_nearest 92 = .ok (.iconst (-1), 1) := by decide +kernel
theorem dX4_nearest_93 : decode cX4_nearest 93 = .ok (.if_icmp .eq 25, 3) := by decide +kernel
theorem dX4_nearest_96 : decode cX4_nearest 96 = .ok (.iload_n 3, 1) := by decide +kernel
theorem dX4_nearest_97 : decode cX4_nearest 97 = .ok (.iconst (-1), 1) := by decide +kernel
theorem dX4_nearest_98 : decode cX4_nearest 98 = .ok (.if_icmp .eq 13, 3) := by decide +kernel
theorem dX4_nearest_101 : decode cX4_nearest 101 = .ok (.iload 6, 2) := by decide +kernel
theorem dX4_nearest_103 : decode cX4_nearest 103 = .ok (.iload 4, 2) := by decide +kernel
theorem dX4_nearest_105 : decode cX4_nearest 105 = .ok (.if_icmp .lt 6, 3) := by decide +kernel
theorem dX4_nearest_108 : decode cX4_nearest 108 = .ok (.goto 10, 3) := by decide +kernel
theorem dX4_nearest_111 : decode cX4_nearest 111 = .ok (.iload 5, 2) := by decide +kernel
theorem dX4_nearest_113 : decode cX4_nearest 113 = .ok (.istore_n 3, 1) := by decide +kernel
theorem dX4_nearest_114 : decode cX4_nearest 114 = .ok (.iload 6, 2) := by decide +kernel
theorem dX4_nearest_116 : decode cX4_nearest 116 = .ok (.istore 4, 2) := by decide +kernel
theorem dX4_nearest_118 : decode cX4_nearest 118 = .ok (.iinc 5 1, 3) := by decide +kernel
theorem dX4_nearest_121 : decode cX4_nearest 121 = .ok (.goto (-67), 3) := by decide +kernel
theorem dX4_nearest_124 : decode cX4_nearest 124 = .ok (.iload_n 3, 1) := by decide +kernel
theorem dX4_nearest_125 : decode cX4_nearest 125 = .ok (.iconst (-1), 1) := by decide +kernel
theorem dX4_nearest_126 : decode cX4_nearest 126 = .ok (.if_icmp .ne 11, 3) := by decide +kernel
theorem dX4_nearest_129 : decode cX4_nearest 129 = .ok (.aload_n 0, 1) := by decide +kernel
theorem dX4_nearest_130 : decode cX4_nearest 130 = .ok (.iconst 3, 1) := by decide +kernel
theorem dX4_nearest_131 : decode cX4_nearest 131 = .ok (.invokevirtual 89, 3) := by decide +kernel
theorem dX4_nearest_134 : decode cX4_nearest 134 = .ok (.goto 4, 3) := by decide +kernel
theorem dX4_nearest_137 : decode cX4_nearest 137 = .ok (.iload_n 3, 1) := by decide +kernel
theorem dX4_nearest_138 : decode cX4_nearest 138 = .ok (.ireturn, 1) := by decide +kernel
theorem dX4_push_0 : decode cX4_push 0 = .ok (.aload_n 0, 1) := by decide +kernel
theorem dX4_push_1 : decode cX4_push 1 = .ok (.iconst 0, 1) := by decide +kernel
theorem dX4_push_2 : decode cX4_push 2 = .ok (.putfield 80, 3) := by decide +kernel
theorem dX4_push_5 : decode cX4_push 5 = .ok (.aload_n 0, 1) := by decide +kernel
theorem dX4_push_6 : decode cX4_push 6 = .ok (.getfield 175, 3) := by decide +kernel
theorem dX4_push_9 : decode cX4_push 9 = .ok (.bipush 8, 2) := by decide +kernel
theorem dX4_push_11 : decode cX4_push 11 = .ok (.if_icmp .ne 9, 3) := by decide +kernel
theorem dX4_push_14 : decode cX4_push 14 = .ok (.aload_n 0, 1) := by decide +kernel
theorem dX4_push_15 : decode cX4_push 15 = .ok (.iconst 1, 1) := by decide +kernel
theorem dX4_push_16 : decode cX4_push 16 = .ok (.invokevirtual 89, 3) := by decide +kernel
theorem dX4_push_19 : decode cX4_push 19 = .ok (.ireturn, 1) := by decide +kernel
theorem dX4_push_20 : decode cX4_push 20 = .ok (.aload_n 0, 1) := by decide +kernel
theorem dX4_push_21 : decode cX4_push 21 = .ok (.getfield 52, 3) := by decide +kernel
theorem dX4_push_24 : decode cX4_push 24 = .ok (.aload_n 0, 1) := by decide +kernel
theorem dX4_push_25 : decode cX4_push 25 = .ok (.getfield 175, 3) := by decide +kernel
theorem dX4_push_28 : decode cX4_push 28 = .ok (.aload_n 0, 1) := by decide +kernel
theorem dX4_push_29 : decode cX4_push 29 = .ok (.getfield 86, 3) := by decide +kernel
theorem dX4_push_32 : decode cX4_push 32 = .ok (.iastore, 1) := by decide +kernel
theorem dX4_push_33 : decode cX4_push 33 = .ok (.aload_n 0, 1) := by decide +kernel
theorem dX4_push_34 : decode cX4_push 34 = .ok (.getfield 65, 3) := by decide +kernel
theorem dX4_push_37 : decode cX4_push 37 = .ok (.aload_n 0, 1) := by decide +kernel
theorem dX4_push_38 : decode cX4_push 38 = .ok (.getfield 175, 3) := by decide +kernel
theorem dX4_push_41 : decode cX4_push 41 = .ok (.aload_n 0, 1) := by decide +kernel
theorem dX4_push_42 : decode cX4_push 42 = .ok (.getfield 26, 3) := by decide +kernel
theorem dX4_push_45 : decode cX4_push 45 = .ok (.iastore, 1) := by decide +kernel
theorem dX4_push_46 : decode cX4_push 46 = .ok (.iconst 0, 1) := by decide +kernel
theorem dX4_push_47 : decode cX4_push 47 = .ok (.istore_n 1, 1) := by decide +kernel
theorem dX4_push_48 : decode cX4_push 48 = .ok (.iload_n 1, 1) := by decide +kernel
theorem dX4_push_49 : decode cX4_push 49 = .ok (.bipush 64, 2) := by decide +kernel
theorem dX4_push_51 : decode cX4_push 51 = .ok (.if_icmp .ge 49, 3) := by decide +kernel
theorem dX4_push_54 : decode cX4_push 54 = .ok (.aload_n 0, 1) := by decide +kernel
theorem dX4_push_55 : decode cX4_push 55 = .ok (.getfield 55, 3) := by decide +kernel
theorem dX4_push_58 : decode cX4_push 58 = .ok (.bipush 64, 2) := by decide +kernel
theorem dX4_push_60 : decode cX4_push 60 = .ok (.aload_n 0, 1) := by decide +kernel
theorem dX4_push_61 : decode cX4_push 61 = .ok (.getfield 175, 3) := by decide +kernel
theorem dX4_push_64 : decode cX4_push 64 = .ok (.imul, 1) := by decide +kernel
theorem dX4_push_65 : decode cX4_push 65 = .ok (.iload_n 1, 1) := by decide +kernel
theorem dX4_push_66 : decode cX4_push 66 = .ok (.iadd, 1) := by decide +kernel
theorem dX4_push_67 : decode cX4_push 67 = .ok (.aload_n 0, 1) := by decide +kernel
theorem dX4_push_68 : decode cX4_push 68 = .ok (.getfield 16, 3) := by decide +kernel
theorem dX4_push_71 : decode cX4_push 71 = .ok (.iload_n 1, 1) := by decide +kernel
theorem dX4_push_72 : decode cX4_push 72 = .ok (.iaload, 1) := by decide +kernel
theorem dX4_push_73 : decode cX4_push 73 = .ok (.iastore, 1) := by decide +kernel
theorem dX4_push_74 : decode cX4_push 74 = .ok (.aload_n 0, 1) := by decide +kernel
theorem dX4_push_75 : decode cX4_push 75 = .ok (.getfield 58, 3) := by decide +kernel
theorem dX4_push_78 : decode cX4_push 78 = .ok (.bipush 64, 2) := by decide +kernel
theorem dX4_push_80 : decode cX4_push 80 = .ok (.aload_n 0, 1) := by decide +kernel
theorem dX4_push_81 : decode cX4_push 81 = .ok (.getfield 175, 3) := by decide +kernel
theorem dX4_push_84 : decode cX4_push 84 = .ok (.imul, 1) := by decide +kernel
theorem dX4_push_85 : decode cX4_push 85 = .ok (.iload_n 1, 1) := by decide +kernel
theorem dX4_push_86 : decode cX4_push 86 = .ok (.iadd, 1) := by decide +kernel
theorem dX4_push_87 : decode cX4_push 87 = .ok (.aload_n 0, 1) := by decide +kernel
theorem dX4_push_88 : decode cX4_push 88 = .ok (.getfield 19, 3) := by decide +kernel
theorem dX4_push_91 : decode cX4_push 91 = .ok (.iload_n 1, 1) := by decide +kernel
theorem dX4_push_92 : decode cX4_push 92 = .ok (.baload, 1) := by decide +kernel
theorem dX4_push_93 : decode cX4_push 93 = .ok (.bastore, 1) := by decide +kernel
theorem dX4_push_94 : decode cX4_push 94 = .ok (.iinc 1 1, 3) := by decide +kernel
theorem dX4_push_97 : decode cX4_push 97 = .ok (.goto (-49), 3) := by decide +kernel
theorem dX4_push_100 : decode cX4_push 100 = .ok (.iconst 0, 1) := by decide +kernel
theorem dX4_push_101 : decode cX4_push 101 = .ok (.istore_n 1, 1) := by decide +kernel
theorem dX4_push_102 : decode cX4_push 102 = .ok (.iload_n 1, 1) := by decide +kernel
theorem dX4_push_103 : decode cX4_push 103 = .ok (.aload_n 0, 1) := by decide +kernel
theorem dX4_push_104 : decode cX4_push 104 = .ok (.getfield 23, 3) := by decide +kernel
theorem dX4_push_107 : decode cX4_push 107 = .ok (.arraylength, 1) := by decide +kernel
theorem dX4_push_108 : decode cX4_push 108 = .ok (.if_icmp .ge 30, 3) := by decide +kernel
theorem dX4_push_111 : decode cX4_push 111 = .ok (.aload_n 0, 1) := by decide +kernel
theorem dX4_push_112 : decode cX4_push 112 = .ok (.getfield 62, 3) := by decide +kernel
theorem dX4_push_115 : decode cX4_push 115 = .ok (.sipush 4096, 3) := by decide +kernel
theorem dX4_push_118 : decode cX4_push 118 = .ok (.aload_n 0, 1) := by decide +kernel
theorem dX4_push_119 : decode cX4_push 119 = .ok (.getfield 175, 3) := by decide +kernel
theorem dX4_push_122 : decode cX4_push 122 = .ok (.imul, 1) := by decide +kernel
theorem dX4_push_123 : decode cX4_push 123 = .ok (.iload_n 1, 1) := by decide +kernel
theorem dX4_push_124 : decode cX4_push 124 = .ok (.iadd, 1) := by decide +kernel
theorem dX4_push_125 : decode cX4_push 125 = .ok (.aload_n 0, 1) := by decide +kernel
theorem dX4_push_126 : decode cX4_push 126 = .ok (.getfield 23, 3) := by decide +kernel
theorem dX4_push_129 : decode cX4_push 129 = .ok (.iload_n 1, 1) := by decide +kernel
theorem dX4_push_130 : decode cX4_push 130 = .ok (.iaload, 1) := by decide +kernel
theorem dX4_push_131 : decode cX4_push 131 = .ok (.iastore, 1) := by decide +kernel
theorem dX4_push_132 : decode cX4_push 132 = .ok (.iinc 1 1, 3) := by decide +kernel
theorem dX4_push_135 : decode cX4_push 135 = .ok (.goto (-33), 3) := by decide +kernel
theorem dX4_push_138 : decode cX4_push 138 = .ok (.aload_n 0, 1) := by decide +kernel
theorem dX4_push_139 : decode cX4_push 139 = .ok (.dup, 1) := by decide +kernel
theorem dX4_push_140 : decode cX4_push 140 = .ok (.getfield 175, 3) := by decide +kernel
theorem dX4_push_143 : decode cX4_push 143 = .ok (.iconst 1, 1) := by decide +kernel
theorem dX4_push_144 : decode cX4_push 144 = .ok (.iadd, 1) := by decide +kernel
theorem dX4_push_145 : decode cX4_push 145 = .ok (.putfield 175, 3) := by decide +kernel
theorem dX4_push_148 : decode cX4_push 148 = .ok (.aload_n 0, 1) := by decide +kernel
theorem dX4_push_149 : decode cX4_push 149 = .ok (.getfield 175, 3) := by decide +kernel
theorem dX4_push_152 : decode cX4_push 152 = .ok (.ireturn, 1) := by decide +kernel
theorem dX4_pop_0 : decode cX4_pop 0 = .ok (.aload_n 0, 1) := by decide +kernel
theorem dX4_pop_1 : decode cX4_pop 1 = .ok (.iconst 0, 1) := by decide +kernel
theorem dX4_pop_2 : decode cX4_pop 2 = .ok (.putfield 80, 3) := by decide +kernel
theorem dX4_pop_5 : decode cX4_pop 5 = .ok (.aload_n 0, 1) := by decide +kernel
theorem dX4_pop_6 : decode cX4_pop 6 = .ok (.getfield 175, 3) := by decide +kernel
theorem dX4_pop_9 : decode cX4_pop 9 = .ok (.ifCond .ne 9, 3) := by decide +kernel
theorem dX4_pop_12 : decode cX4_pop 12 = .ok (.aload_n 0, 1) := by decide +kernel
theorem dX4_pop_13 : decode cX4_pop 13 = .ok (.iconst 1, 1) := by decide +kernel
theorem dX4_pop_14 : decode cX4_pop 14 = .ok (.invokevirtual 89, 3) := by decide +kernel
theorem dX4_pop_17 : decode cX4_pop 17 = .ok (.ireturn, 1) := by decide +kernel
theorem dX4_pop_18 : decode cX4_pop 18 = .ok (.aload_n 0, 1) := by decide +kernel
theorem dX4_pop_19 : decode cX4_pop 19 = .ok (.dup, 1) := by decide +kernel
theorem dX4_pop_20 : decode cX4_pop 20 = .ok (.getfield 175, 3) := by decide +kernel
theorem dX4_pop_23 : decode cX4_pop 23 = .ok (.iconst 1, 1) := by decide +kernel
theorem dX4_pop_24 : decode cX4_pop 24 = .ok (.isub, 1) := by decide +kernel
theorem dX4_pop_25 : decode cX4_pop 25 = .ok (.putfield 175, 3) := by decide +kernel
theorem dX4_pop_28 : decode cX4_pop 28 = .ok (.aload_n 0, 1) := by decide +kernel
theorem dX4_pop_29 : decode cX4_pop 29 = .ok (.getfield 52, 3) := by decide +kernel
theorem dX4_pop_32 : decode cX4_pop 32 = .ok (.aload_n 0, 1) := by decide +kernel
theorem dX4_pop_33 : decode cX4_pop 33 = .ok (.getfield 175, 3) := by decide +kernel
theorem dX4_pop_36 : decode cX4_pop 36 = .ok (.iaload, 1) := by decide +kernel
theorem dX4_pop_37 : decode cX4_pop 37 = .ok (.istore_n 1, 1) := by decide +kernel
theorem dX4_pop_38 : decode cX4_pop 38 = .ok (.aload_n 0, 1) := by decide +kernel
theorem dX4_pop_39 : decode cX4_pop 39 = .ok (.aload_n 0, 1) := by decide +kernel
theorem dX4_pop_40 : decode cX4_pop 40 = .ok (.getfield 65, 3) := by decide +kernel
theorem dX4_pop_43 : decode cX4_pop 43 = .ok (.aload_n 0, 1) := by decide +kernel
theorem dX4_pop_44 : decode cX4_pop 44 = .ok (.getfield 175, 3) := by decide +kernel
theorem dX4_pop_47 : decode cX4_pop 47 = .ok (.iaload, 1) := by decide +kernel
theorem dX4_pop_48 : decode cX4_pop 48 = .ok (.putfield 26, 3) := by decide +kernel
theorem dX4_pop_51 : decode cX4_pop 51 = .ok (.iconst 0, 1) := by decide +kernel
theorem dX4_pop_52 : decode cX4_pop 52 = .ok (.istore_n 2, 1) := by decide +kernel
theorem dX4_pop_53 : decode cX4_pop 53 = .ok (.iload_n 2, 1) := by decide +kernel
theorem dX4_pop_54 : decode cX4_pop 54 = .ok (.iload_n 1, 1) := by decide +kernel
theorem dX4_pop_55 : decode cX4_pop 55 = .ok (.if_icmp .ge 93, 3) := by decide +kernel
theorem dX4_pop_58 : decode cX4_pop 58 = .ok (.aload_n 0, 1) := by decide +kernel
theorem dX4_pop_59 : decode cX4_pop 59 = .ok (.getfield 16, 3) := by decide +kernel
theorem dX4_pop_62 : decode cX4_pop 62 = .ok (.iload_n 2, 1) := by decide +kernel
theorem dX4_pop_63 : decode cX4_pop 63 = .ok (.aload_n 0, 1) := by decide +kernel
theorem dX4_pop_64 : decode cX4_pop 64 = .ok (.getfield 55, 3) := by decide +kernel
theorem dX4_pop_67 : decode cX4_pop 67 = .ok (.bipush 64, 2) := by decide +kernel
theorem dX4_pop_69 : decode cX4_pop 69 = .ok (.aload_n 0, 1) := by decide +kernel
theorem dX4_pop_70 : decode cX4_pop 70 = .ok (.getfield 175, 3) := by decide +kernel
theorem dX4_pop_73 : decode cX4_pop 73 = .ok (.imul, 1) := by decide +kernel
theorem dX4_pop_74 : decode cX4_pop 74 = .ok (.iload_n 2, 1) := by decide +kernel
theorem dX4_pop_75 : decode cX4_pop 75 = .ok (.iadd, 1) := by decide +kernel
theorem dX4_pop_76 : decode cX4_pop 76 = .ok (.iaload, 1) := by decide +kernel
theorem dX4_pop_77 : decode cX4_pop 77 = .ok (.iastore, 1) := by decide +kernel
theorem dX4_pop_78 : decode cX4_pop 78 = .ok (.aload_n 0, 1) := by decide +kernel
theorem dX4_pop_79 : decode cX4_pop 79 = .ok (.getfield 19, 3) := by decide +kernel
theorem dX4_pop_82 : decode cX4_pop 82 = .ok (.iload_n 2, 1) := by decide +kernel
theorem dX4_pop_83 : decode cX4_pop 83 = .ok (.aload_n 0, 1) := by decide +kernel
theorem dX4_pop_84 : decode cX4_pop 84 = .ok (.getfield 58, 3) := by decide +kernel
theorem dX4_pop_87 : decode cX4_pop 87 = .ok (.bipush 64, 2) := by decide +kernel
theorem dX4_pop_89 : decode cX4_pop 89 = .ok (.aload_n 0, 1) := by decide +kernel
theorem dX4_pop_90 : decode cX4_pop 90 = .ok (.getfield 175, 3) := by decide +kernel
theorem dX4_pop_93 : decode cX4_pop 93 = .ok (.imul, 1) := by decide +kernel
theorem dX4_pop_94 : decode cX4_pop 94 = .ok (.iload_n 2, 1) := by decide +kernel
theorem dX4_pop_95 : decode cX4_pop 95 = .ok (.iadd, 1) := by decide +kernel
theorem dX4_pop_96 : decode cX4_pop 96 = .ok (.baload, 1) := by decide +kernel
theorem dX4_pop_97 : decode cX4_pop 97 = .ok (.bastore, 1) := by decide +kernel
theorem dX4_pop_98 : decode cX4_pop 98 = .ok (.iconst 0, 1) := by decide +kernel
theorem dX4_pop_99 : decode cX4_pop 99 = .ok (.istore_n 3, 1) := by decide +kernel
theorem dX4_pop_100 : decode cX4_pop 100 = .ok (.iload_n 3, 1) := by decide +kernel
theorem dX4_pop_101 : decode cX4_pop 101 = .ok (.iload_n 1, 1) := by decide +kernel
theorem dX4_pop_102 : decode cX4_pop 102 = .ok (.if_icmp .ge 40, 3) := by decide +kernel
theorem dX4_pop_105 : decode cX4_pop 105 = .ok (.aload_n 0, 1) := by decide +kernel
theorem dX4_pop_106 : decode cX4_pop 106 = .ok (.getfield 23, 3) := by decide +kernel
theorem dX4_pop_109 : decode cX4_pop 109 = .ok (.bipush 64, 2) := by decide +kernel
theorem dX4_pop_111 : decode cX4_pop 111 = .ok (.iload_n 2, 1) := by decide +kernel
theorem dX4_pop_112 : decode cX4_pop 112 = .ok (.imul, 1) := by decide +kernel
theorem dX4_pop_113 : decode cX4_pop 113 = .ok (.iload_n 3, 1) := by decide +kernel
theorem dX4_pop_114 : decode cX4_pop 114 = .ok (.iadd, 1) := by decide +kernel
theorem dX4_pop_115 : decode cX4_pop 115 = .ok (.aload_n 0, 1) := by decide +kernel
theorem dX4_pop_116 : decode cX4_pop 116 = .ok (.getfield 62, 3) := by decide +kernel
theorem dX4_pop_119 : decode cX4_pop 119 = .ok (.sipush 4096, 3) := by decide +kernel
theorem dX4_pop_122 : decode cX4_pop 122 = .ok (.aload_n 0, 1) := by decide +kernel
theorem dX4_pop_123 : decode cX4_pop 123 = .ok (.getfield 175, 3) := by decide +kernel
theorem dX4_pop_126 : decode cX4_pop 126 = .ok (.imul, 1) := by decide +kernel
theorem dX4_pop_127 : decode cX4_pop 127 = .ok (.bipush 64, 2) := by decide +kernel
theorem dX4_pop_129 : decode cX4_pop 129 = .ok (.iload_n 2, 1) := by decide +kernel
theorem dX4_pop_130 : decode cX4_pop 130 = .ok (.imul, 1) := by decide +kernel
theorem dX4_pop_131 : decode cX4_pop 131 = .ok (.iadd, 1) := by decide +kernel
theorem dX4_pop_132 : decode cX4_pop 132 = .ok (.iload_n 3, 1) := by decide +kernel
theorem dX4_pop_133 : decode cX4_pop 133 = .ok (.iadd, 1) := by decide +kernel
theorem dX4_pop_134 : decode cX4_pop 134 = .ok (.iaload, 1) := by decide +kernel
theorem dX4_pop_135 : decode cX4_pop 135 = .ok (.iastore, 1) := by decide +kernel
theorem dX4_pop_136 : decode cX4_pop 136 = .ok (.iinc 3 1, 3) := by decide +kernel
theorem dX4_pop_139 : decode cX4_pop 139 = .ok (.goto (-39), 3) := by decide +kernel
theorem dX4_pop_142 : decode cX4_pop 142 = .ok (.iinc 2 1, 3) := by decide +kernel
theorem dX4_pop_145 : decode cX4_pop 145 = .ok (.goto (-92), 3) := by decide +kernel
theorem dX4_pop_148 : decode cX4_pop 148 = .ok (.aload_n 0, 1) := by decide +kernel
theorem dX4_pop_149 : decode cX4_pop 149 = .ok (.invokevirtual 120, 3) := by decide +kernel
theorem dX4_pop_152 : decode cX4_pop 152 = .ok (.ireturn, 1) := by decide +kernel
theorem dX4_digest_0 : decode cX4_digest 0 = .ok (.aload_n 0, 1) := by decide +kernel
theorem dX4_digest_1 : decode cX4_digest 1 = .ok (.iconst 0, 1) := by decide +kernel
theorem dX4_digest_2 : decode cX4_digest 2 = .ok (.putfield 80, 3) := by decide +kernel
theorem dX4_digest_5 : decode cX4_digest 5 = .ok (.ldc2_w 178, 3) := by decide +kernel
theorem dX4_digest_8 : decode cX4_digest 8 = .ok (.aload_n 0, 1) := by decide +kernel
theorem dX4_digest_9 : decode cX4_digest 9 = .ok (.getfield 83, 3) := by decide +kernel
theorem dX4_digest_12 : decode cX4_digest 12 = .ok (.i2l, 1) := by decide +kernel
theorem dX4_digest_13 : decode cX4_digest 13 = .ok (.ladd, 1) := by decide +kernel
theorem dX4_digest_14 : decode cX4_digest 14 = .ok (.ldc2_w 180, 3) := by decide +kernel
theorem dX4_digest_17 : decode cX4_digest 17 = .ok (.lmul, 1) := by decide +kernel
theorem dX4_digest_18 : decode cX4_digest 18 = .ok (.aload_n 0, 1) := by decide +kernel
theorem dX4_digest_19 : decode cX4_digest 19 = .ok (.getfield 86, 3) := by decide +kernel
theorem dX4_digest_22 : decode cX4_digest 22 = .ok (.i2l, 1) := by decide +kernel
theorem dX4_digest_23 : decode cX4_digest 23 = .ok (.ladd, 1) := by decide +kernel
theorem dX4_digest_24 : decode cX4_digest 24 = .ok (.ldc2_w 180, 3) := by decide +kernel
theorem dX4_digest_27 : decode cX4_digest 27 = .ok (.lmul, 1) := by decide +kernel
theorem dX4_digest_28 : decode cX4_digest 28 = .ok (.aload_n 0, 1) := by decide +kernel
theorem dX4_digest_29 : decode cX4_digest 29 = .ok (.getfield 175, 3) := by decide +kernel
theorem dX4_digest_32 : decode cX4_digest 32 = .ok (.i2l, 1) := by decide +kernel
theorem dX4_digest_33 : decode cX4_digest 33 = .ok (.ladd, 1) := by decide +kernel
theorem dX4_digest_34 : decode cX4_digest 34 = .ok (.ldc2_w 180, 3) := by decide +kernel
theorem dX4_digest_37 : decode cX4_digest 37 = .ok (.lmul, 1) := by decide +kernel
theorem dX4_digest_38 : decode cX4_digest 38 = .ok (.aload_n 0, 1) := by decide +kernel
theorem dX4_digest_39 : decode cX4_digest 39 = .ok (.getfield 101, 3) := by decide +kernel
theorem dX4_digest_42 : decode cX4_digest 42 = .ok (.i2l, 1) := by decide +kernel
theorem dX4_digest_43 : decode cX4_digest 43 = .ok (.ladd, 1) := by decide +kernel
theorem dX4_digest_44 : decode cX4_digest 44 = .ok (.lstore_n 1, 1) := by decide +kernel
theorem dX4_digest_45 : decode cX4_digest 45 = .ok (.iconst 0, 1) := by decide +kernel
theorem dX4_digest_46 : decode cX4_digest 46 = .ok (.istore_n 3, 1) := by decide +kernel
theorem dX4_digest_47 : decode cX4_digest 47 = .ok (.iload_n 3, 1) := by decide +kernel
theorem dX4_digest_48 : decode cX4_digest 48 = .ok (.aload_n 0, 1) := by decide +kernel
theorem dX4_digest_49 : decode cX4_digest 49 = .ok (.getfield 86, 3) := by decide +kernel
theorem dX4_digest_52 : decode cX4_digest 52 = .ok (.if_icmp .ge 63, 3) := by decide +kernel
theorem dX4_digest_55 : decode cX4_digest 55 = .ok (.lload_n 1, 1) := by decide +kernel
theorem dX4_digest_56 : decode cX4_digest 56 = .ok (.ldc2_w 180, 3) := by decide +kernel
theorem dX4_digest_59 : decode cX4_digest 59 = .ok (.lmul, 1) := by decide +kernel
theorem dX4_digest_60 : decode cX4_digest 60 = .ok (.aload_n 0, 1) := by decide +kernel
theorem dX4_digest_61 : decode cX4_digest 61 = .ok (.getfield 16, 3) := by decide +kernel
theorem dX4_digest_64 : decode cX4_digest 64 = .ok (.iload_n 3, 1) := by decide +kernel
theorem dX4_digest_65 : decode cX4_digest 65 = .ok (.iaload, 1) := by decide +kernel
theorem dX4_digest_66 : decode cX4_digest 66 = .ok (.i2l, 1) := by decide +kernel
theorem dX4_digest_67 : decode cX4_digest 67 = .ok (.ladd, 1) := by decide +kernel
theorem dX4_digest_68 : decode cX4_digest 68 = .ok (.ldc2_w 180, 3) := by decide +kernel
theorem dX4_digest_71 : decode cX4_digest 71 = .ok (.lmul, 1) := by decide +kernel
theorem dX4_digest_72 : decode cX4_digest 72 = .ok (.aload_n 0, 1) := by decide +kernel
theorem dX4_digest_73 : decode cX4_digest 73 = .ok (.getfield 19, 3) := by decide +kernel
theorem dX4_digest_76 : decode cX4_digest 76 = .ok (.iload_n 3, 1) := by decide +kernel
theorem dX4_digest_77 : decode cX4_digest 77 = .ok (.baload, 1) := by decide +kernel
theorem dX4_digest_78 : decode cX4_digest 78 = .ok (.ifCond .eq 7, 3) := by decide +kernel
theorem dX4_digest_81 : decode cX4_digest 81 = .ok (.lconst 1, 1) := by decide +kernel
theorem dX4_digest_82 : decode cX4_digest 82 = .ok (.goto 4, 3) := by decide +kernel
theorem dX4_digest_85 : decode cX4_digest 85 = .ok (.lconst 0, 1) := by decide +kernel
theorem dX4_digest_86 : decode cX4_digest 86 = .ok (.ladd, 1) := by decide +kernel
theorem dX4_digest_87 : decode cX4_digest 87 = .ok (.lstore_n 1, 1) := by decide +kernel
theorem dX4_digest_88 : decode cX4_digest 88 = .ok (.aload_n 0, 1) := by decide +kernel
theorem dX4_digest_89 : decode cX4_digest 89 = .ok (.getfield 97, 3) := by decide +kernel
theorem dX4_digest_92 : decode cX4_digest 92 = .ok (.ifCond .eq 17, 3) := by decide +kernel
theorem dX4_digest_95 : decode cX4_digest 95 = .ok (.lload_n 1, 1) := by decide +kernel
theorem dX4_digest_96 : decode cX4_digest 96 = .ok (.ldc2_w 180, 3) := by decide +kernel
theorem dX4_digest_99 : decode cX4_digest 99 = .ok (.lmul, 1) := by decide +kernel
theorem dX4_digest_100 : decode cX4_digest 100 = .ok (.aload_n 0, 1) := by decide +kernel
theorem dX4_digest_101 : decode cX4_digest 101 = .ok (.getfield 30, 3) := by decide +kernel
theorem dX4_digest_104 : decode cX4_digest 104 = .ok (.iload_n 3, 1) := by decide +kernel
theorem dX4_digest_105 : decode cX4_digest 105 = .ok (.iaload, 1) := by decide +kernel
theorem dX4_digest_106 : decode cX4_digest 106 = .ok (.i2l, 1) := by decide +kernel
theorem dX4_digest_107 : decode cX4_digest 107 = .ok (.ladd, 1) := by decide +kernel
theorem dX4_digest_108 : decode cX4_digest 108 = .ok (.lstore_n 1, 1) := by decide +kernel
theorem dX4_digest_109 : decode cX4_digest 109 = .ok (.iinc 3 1, 3) := by decide +kernel
theorem dX4_digest_112 : decode cX4_digest 112 = .ok (.goto (-65), 3) := by decide +kernel
theorem dX4_digest_115 : decode cX4_digest 115 = .ok (.iconst 0, 1) := by decide +kernel
theorem dX4_digest_116 : decode cX4_digest 116 = .ok (.istore_n 3, 1) := by decide +kernel
theorem dX4_digest_117 : decode cX4_digest 117 = .ok (.iload_n 3, 1) := by decide +kernel
theorem dX4_digest_118 : decode cX4_digest 118 = .ok (.aload_n 0, 1) := by decide +kernel
theorem dX4_digest_119 : decode cX4_digest 119 = .ok (.getfield 86, 3) := by decide +kernel
theorem dX4_digest_122 : decode cX4_digest 122 = .ok (.if_icmp .ge 64, 3) := by decide +kernel
theorem dX4_digest_125 : decode cX4_digest 125 = .ok (.aload_n 0, 1) := by decide +kernel
theorem dX4_digest_126 : decode cX4_digest 126 = .ok (.getfield 97, 3) := by decide +kernel
theorem dX4_digest_129 : decode cX4_digest 129 = .ok (.ifCond .eq 57, 3) := by decide +kernel
theorem dX4_digest_132 : decode cX4_digest 132 = .ok (.iconst 0, 1) := by decide +kernel
theorem dX4_digest_133 : decode cX4_digest 133 = .ok (.istore 4, 2) := by decide +kernel
theorem dX4_digest_135 : decode cX4_digest 135 = .ok (.iload 4, 2) := by decide +kernel
theorem dX4_digest_137 : decode cX4_digest 137 = .ok (.aload_n 0, 1) := by decide +kernel
theorem dX4_digest_138 : decode cX4_digest 138 = .ok (.getfield 86, 3) := by decide +kernel
theorem dX4_digest_141 : decode cX4_digest 141 = .ok (.if_icmp .ge 39, 3) := by decide +kernel
theorem dX4_digest_144 : decode cX4_digest 144 = .ok (.aload_n 0, 1) := by decide +kernel
theorem dX4_digest_145 : decode cX4_digest 145 = .ok (.getfield 36, 3) := by decide +kernel
theorem dX4_digest_148 : decode cX4_digest 148 = .ok (.bipush 64, 2) := by decide +kernel
theorem dX4_digest_150 : decode cX4_digest 150 = .ok (.iload_n 3, 1) := by decide +kernel
theorem dX4_digest_151 : decode cX4_digest 151 = .ok (.imul, 1) := by decide +kernel
theorem dX4_digest_152 : decode cX4_digest 152 = .ok (.iload 4, 2) := by decide +kernel
theorem dX4_digest_154 : decode cX4_digest 154 = .ok (.iadd, 1) := by decide +kernel
theorem dX4_digest_155 : decode cX4_digest 155 = .ok (.baload, 1) := by decide +kernel
theorem dX4_digest_156 : decode cX4_digest 156 = .ok (.ifCond .eq 18, 3) := by decide +kernel
theorem dX4_digest_159 : decode cX4_digest 159 = .ok (.lload_n 1, 1) := by decide +kernel
theorem dX4_digest_160 : decode cX4_digest 160 = .ok (.ldc2_w 180, 3) := by decide +kernel
theorem dX4_digest_163 : decode cX4_digest 163 = .ok (.lmul, 1) := by decide +kernel
theorem dX4_digest_164 : decode cX4_digest 164 = .ok (.aload_n 0, 1) := by decide +kernel
theorem dX4_digest_165 : decode cX4_digest 165 = .ok (.iload_n 3, 1) := by decide +kernel
theorem dX4_digest_166 : decode cX4_digest 166 = .ok (.iload 4, 2) := by decide +kernel
theorem dX4_digest_168 : decode cX4_digest 168 = .ok (.invokevirtual 144, 3) := by decide +kernel
theorem dX4_digest_171 : decode cX4_digest 171 = .ok (.i2l, 1) := by decide +kernel
theorem dX4_digest_172 : decode cX4_digest 172 = .ok (.ladd, 1) := by decide +kernel
theorem dX4_digest_173 : decode cX4_digest 173 = .ok (.lstore_n 1, 1) := by decide +kernel
theorem dX4_digest_174 : decode cX4_digest 174 = .ok (.iinc 4 1, 3) := by decide +kernel
theorem dX4_digest_177 : decode cX4_digest 177 = .ok (.goto (-42), 3) := by decide +kernel
theorem dX4_digest_180 : decode cX4_digest 180 = .ok (.iinc 3 1, 3) := by decide +kernel
theorem dX4_digest_183 : decode cX4_digest 183 = .ok (.goto (-66), 3) := by decide +kernel
theorem dX4_digest_186 : decode cX4_digest 186 = .ok (.lload_n 1, 1) := by decide +kernel
theorem dX4_digest_187 : decode cX4_digest 187 = .ok (.lreturn, 1) := by decide +kernel
theorem dJ13_bitCount_95d88_0 : decode cJ13_bitCount_95d88 0 = .ok (.lload_n 0, 1) := by decide +kernel
theorem dJ13_bitCount_95d88_1 : decode cJ13_bitCount_95d88 1 = .ok (.lload_n 0, 1) := by decide +kernel
theorem dJ13_bitCount_95d88_2 : decode cJ13_bitCount_95d88 2 = .ok (.iconst 1, 1) := by decide +kernel
theorem dJ13_bitCount_95d88_3 : decode cJ13_bitCount_95d88 3 = .ok (.lushr, 1) := by decide +kernel
theorem dJ13_bitCount_95d88_4 : decode cJ13_bitCount_95d88 4 = .ok (.ldc2_w 314, 3) := by decide +kernel
theorem dJ13_bitCount_95d88_7 : decode cJ13_bitCount_95d88 7 = .ok (.land, 1) := by decide +kernel
theorem dJ13_bitCount_95d88_8 : decode cJ13_bitCount_95d88 8 = .ok (.lsub, 1) := by decide +kernel
theorem dJ13_bitCount_95d88_9 : decode cJ13_bitCount_95d88 9 = .ok (.lstore_n 0, 1) := by decide +kernel
theorem dJ13_bitCount_95d88_10 : decode cJ13_bitCount_95d88 10 = .ok (.lload_n 0, 1) := by decide +kernel
theorem dJ13_bitCount_95d88_11 : decode cJ13_bitCount_95d88 11 = .ok (.ldc2_w 316, 3) := by decide +kernel
theorem dJ13_bitCount_95d88_14 : decode cJ13_bitCount_95d88 14 = .ok (.land, 1) := by decide +kernel
theorem dJ13_bitCount_95d88_15 : decode cJ13_bitCount_95d88 15 = .ok (.lload_n 0, 1) := by decide +kernel
theorem dJ13_bitCount_95d88_16 : decode cJ13_bitCount_95d88 16 = .ok (.iconst 2, 1) := by decide +kernel
theorem dJ13_bitCount_95d88_17 : decode cJ13_bitCount_95d88 17 = .ok (.lushr, 1) := by decide +kernel
theorem dJ13_bitCount_95d88_18 : decode cJ13_bitCount_95d88 18 = .ok (.ldc2_w 316, 3) := by decide +kernel
theorem dJ13_bitCount_95d88_21 : decode cJ13_bitCount_95d88 21 = .ok (.land, 1) := by decide +kernel
theorem dJ13_bitCount_95d88_22 : decode cJ13_bitCount_95d88 22 = .ok (.ladd, 1) := by decide +kernel
theorem dJ13_bitCount_95d88_23 : decode cJ13_bitCount_95d88 23 = .ok (.lstore_n 0, 1) := by decide +kernel
theorem dJ13_bitCount_95d88_24 : decode cJ13_bitCount_95d88 24 = .ok (.lload_n 0, 1) := by decide +kernel
theorem dJ13_bitCount_95d88_25 : decode cJ13_bitCount_95d88 25 = .ok (.lload_n 0, 1) := by decide +kernel
theorem dJ13_bitCount_95d88_26 : decode cJ13_bitCount_95d88 26 = .ok (.iconst 4, 1) := by decide +kernel
theorem dJ13_bitCount_95d88_27 : decode cJ13_bitCount_95d88 27 = .ok (.lushr, 1) := by decide +kernel
theorem dJ13_bitCount_95d88_28 : decode cJ13_bitCount_95d88 28 = .ok (.ladd, 1) := by decide +kernel
theorem dJ13_bitCount_95d88_29 : decode cJ13_bitCount_95d88 29 = .ok (.ldc2_w 318, 3) := by decide +kernel
theorem dJ13_bitCount_95d88_32 : decode cJ13_bitCount_95d88 32 = .ok (.land, 1) := by decide +kernel
theorem dJ13_bitCount_95d88_33 : decode cJ13_bitCount_95d88 33 = .ok (.lstore_n 0, 1) := by decide +kernel
theorem dJ13_bitCount_95d88_34 : decode cJ13_bitCount_95d88 34 = .ok (.lload_n 0, 1) := by decide +kernel
theorem dJ13_bitCount_95d88_35 : decode cJ13_bitCount_95d88 35 = .ok (.lload_n 0, 1) := by decide +kernel
theorem dJ13_bitCount_95d88_36 : decode cJ13_bitCount_95d88 36 = .ok (.bipush 8, 2) := by decide +kernel
theorem dJ13_bitCount_95d88_38 : decode cJ13_bitCount_95d88 38 = .ok (.lushr, 1) := by decide +kernel
theorem dJ13_bitCount_95d88_39 : decode cJ13_bitCount_95d88 39 = .ok (.ladd, 1) := by decide +kernel
theorem dJ13_bitCount_95d88_40 : decode cJ13_bitCount_95d88 40 = .ok (.lstore_n 0, 1) := by decide +kernel
theorem dJ13_bitCount_95d88_41 : decode cJ13_bitCount_95d88 41 = .ok (.lload_n 0, 1) := by decide +kernel
theorem dJ13_bitCount_95d88_42 : decode cJ13_bitCount_95d88 42 = .ok (.lload_n 0, 1) := by decide +kernel
theorem dJ13_bitCount_95d88_43 : decode cJ13_bitCount_95d88 43 = .ok (.bipush 16, 2) := by decide +kernel
theorem dJ13_bitCount_95d88_45 : decode cJ13_bitCount_95d88 45 = .ok (.lushr, 1) := by decide +kernel
theorem dJ13_bitCount_95d88_46 : decode cJ13_bitCount_95d88 46 = .ok (.ladd, 1) := by decide +kernel
theorem dJ13_bitCount_95d88_47 : decode cJ13_bitCount_95d88 47 = .ok (.lstore_n 0, 1) := by decide +kernel
theorem dJ13_bitCount_95d88_48 : decode cJ13_bitCount_95d88 48 = .ok (.lload_n 0, 1) := by decide +kernel
theorem dJ13_bitCount_95d88_49 : decode cJ13_bitCount_95d88 49 = .ok (.lload_n 0, 1) := by decide +kernel
theorem dJ13_bitCount_95d88_50 : decode cJ13_bitCount_95d88 50 = .ok (.bipush 32, 2) := by decide +kernel
theorem dJ13_bitCount_95d88_52 : decode cJ13_bitCount_95d88 52 = .ok (.lushr, 1) := by decide +kernel
theorem dJ13_bitCount_95d88_53 : decode cJ13_bitCount_95d88 53 = .ok (.ladd, 1) := by decide +kernel
theorem dJ13_bitCount_95d88_54 : decode cJ13_bitCount_95d88 54 = .ok (.lstore_n 0, 1) := by decide +kernel
theorem dJ13_bitCount_95d88_55 : decode cJ13_bitCount_95d88 55 = .ok (.lload_n 0, 1) := by decide +kernel
theorem dJ13_bitCount_95d88_56 : decode cJ13_bitCount_95d88 56 = .ok (.l2i, 1) := by decide +kernel
theorem dJ13_bitCount_95d88_57 : decode cJ13_bitCount_95d88 57 = .ok (.bipush 127, 2) := by decide +kernel
theorem dJ13_bitCount_95d88_59 : decode cJ13_bitCount_95d88 59 = .ok (.iand, 1) := by decide +kernel
theorem dJ13_bitCount_95d88_60 : decode cJ13_bitCount_95d88 60 = .ok (.ireturn, 1) := by decide +kernel
theorem dJ9_min_7cf53_0 : decode cJ9_min_7cf53 0 = .ok (.iload_n 0, 1) := by decide +kernel
theorem dJ9_min_7cf53_1 : decode cJ9_min_7cf53 1 = .ok (.iload_n 1, 1) := by decide +kernel
theorem dJ9_min_7cf53_2 : decode cJ9_min_7cf53 2 = .ok (.if_icmp .gt 7, 3) := by decide +kernel
theorem dJ9_min_7cf53_5 : decode cJ9_min_7cf53 5 = .ok (.iload_n 0, 1) := by decide +kernel
theorem dJ9_min_7cf53_6 : decode cJ9_min_7cf53 6 = .ok (.goto 4, 3) := by decide +kernel
theorem dJ9_min_7cf53_9 : decode cJ9_min_7cf53 9 = .ok (.iload_n 1, 1) := by decide +kernel
theorem dJ9_min_7cf53_10 : decode cJ9_min_7cf53 10 = .ok (.ireturn, 1) := by decide +kernel
theorem dJ9_min_f86c9_0 : decode cJ9_min_f86c9 0 = .ok (.lload_n 0, 1) := by decide +kernel
theorem dJ9_min_f86c9_1 : decode cJ9_min_f86c9 1 = .ok (.lload_n 2, 1) := by decide +kernel
theorem dJ9_min_f86c9_2 : decode cJ9_min_f86c9 2 = .ok (.lcmp, 1) := by decide +kernel
theorem dJ9_min_f86c9_3 : decode cJ9_min_f86c9 3 = .ok (.ifCond .gt 7, 3) := by decide +kernel
theorem dJ9_min_f86c9_6 : decode cJ9_min_f86c9 6 = .ok (.lload_n 0, 1) := by decide +kernel
theorem dJ9_min_f86c9_7 : decode cJ9_min_f86c9 7 = .ok (.goto 4, 3) := by decide +kernel
theorem dJ9_min_f86c9_10 : decode cJ9_min_f86c9 10 = .ok (.lload_n 2, 1) := by decide +kernel
theorem dJ9_min_f86c9_11 : decode cJ9_min_f86c9 11 = .ok (.lreturn, 1) := by decide +kernel
theorem dJ7_fill_53178_0 : decode cJ7_fill_53178 0 = .ok (.iconst 0, 1) := by decide +kernel
theorem dJ7_fill_53178_1 : decode cJ7_fill_53178 1 = .ok (.istore_n 2, 1) := by decide +kernel
theorem dJ7_fill_53178_2 : decode cJ7_fill_53178 2 = .ok (.aload_n 0, 1) := by decide +kernel
theorem dJ7_fill_53178_3 : decode cJ7_fill_53178 3 = .ok (.arraylength, 1) := by decide +kernel
theorem dJ7_fill_53178_4 : decode cJ7_fill_53178 4 = .ok (.istore_n 3, 1) := by decide +kernel
theorem dJ7_fill_53178_5 : decode cJ7_fill_53178 5 = .ok (.iload_n 2, 1) := by decide +kernel
theorem dJ7_fill_53178_6 : decode cJ7_fill_53178 6 = .ok (.iload_n 3, 1) := by decide +kernel
theorem dJ7_fill_53178_7 : decode cJ7_fill_53178 7 = .ok (.if_icmp .ge 13, 3) := by decide +kernel
theorem dJ7_fill_53178_10 : decode cJ7_fill_53178 10 = .ok (.aload_n 0, 1) := by decide +kernel
theorem dJ7_fill_53178_11 : decode cJ7_fill_53178 11 = .ok (.iload_n 2, 1) := by decide +kernel
theorem dJ7_fill_53178_12 : decode cJ7_fill_53178 12 = .ok (.iload_n 1, 1) := by decide +kernel
theorem dJ7_fill_53178_13 : decode cJ7_fill_53178 13 = .ok (.iastore, 1) := by decide +kernel
theorem dJ7_fill_53178_14 : decode cJ7_fill_53178 14 = .ok (.iinc 2 1, 3) := by decide +kernel
theorem dJ7_fill_53178_17 : decode cJ7_fill_53178 17 = .ok (.goto (-12), 3) := by decide +kernel
theorem dJ7_fill_53178_20 : decode cJ7_fill_53178 20 = .ok (.return_, 1) := by decide +kernel
theorem dL_addJunction_0 : decode cL_addJunction 0 = .ok (.aload_n 1, 1) := by decide +kernel
theorem dL_addJunction_1 : decode cL_addJunction 1 = .ok (.iconst 0, 1) := by decide +kernel
theorem dL_addJunction_2 : decode cL_addJunction 2 = .ok (.aload_n 0, 1) := by decide +kernel
theorem dL_addJunction_3 : decode cL_addJunction 3 = .ok (.invokevirtual 7, 3) := by decide +kernel
theorem dL_addJunction_6 : decode cL_addJunction 6 = .ok (.i2l, 1) := by decide +kernel
theorem dL_addJunction_7 : decode cL_addJunction 7 = .ok (.lastore, 1) := by decide +kernel
theorem dL_addJunction_8 : decode cL_addJunction 8 = .ok (.goto 6, 3) := by decide +kernel
theorem dL_addJunction_11 : decode cL_addJunction 11 = .ok (.astore_n 2, 1) := by decide +kernel
theorem dL_addJunction_12 : decode cL_addJunction 12 = .ok (.iconst 1, 1) := by decide +kernel
theorem dL_addJunction_13 : decode cL_addJunction 13 = .ok (.ireturn, 1) := by decide +kernel
theorem dL_addJunction_14 : decode cL_addJunction 14 = .ok (.iconst 0, 1) := by decide +kernel
theorem dL_addJunction_15 : decode cL_addJunction 15 = .ok (.ireturn, 1) := by decide +kernel
theorem dL_addRoad_0 : decode cL_addRoad 0 = .ok (.aload 4, 2) := by decide +kernel
theorem dL_addRoad_2 : decode cL_addRoad 2 = .ok (.iconst 0, 1) := by decide +kernel
theorem dL_addRoad_3 : decode cL_addRoad 3 = .ok (.aload_n 0, 1) := by decide +kernel
theorem dL_addRoad_4 : decode cL_addRoad 4 = .ok (.iload_n 1, 1) := by decide +kernel
theorem dL_addRoad_5 : decode cL_addRoad 5 = .ok (.iload_n 2, 1) := by decide +kernel
theorem dL_addRoad_6 : decode cL_addRoad 6 = .ok (.iload_n 3, 1) := by decide +kernel
theorem dL_addRoad_7 : decode cL_addRoad 7 = .ok (.invokevirtual 15, 3) := by decide +kernel
theorem dL_addRoad_10 : decode cL_addRoad 10 = .ok (.i2l, 1) := by decide +kernel
theorem dL_addRoad_11 : decode cL_addRoad 11 = .ok (.lastore, 1) := by decide +kernel
theorem dL_addRoad_12 : decode cL_addRoad 12 = .ok (.goto 15, 3) := by decide +kernel
theorem dL_addRoad_15 : decode cL_addRoad 15 = .ok (.astore 5, 2) := by decide +kernel
theorem dL_addRoad_17 : decode cL_addRoad 17 = .ok (.iconst 1, 1) := by decide +kernel
theorem dL_addRoad_18 : decode cL_addRoad 18 = .ok (.ireturn, 1) := by decide +kernel
theorem dL_addRoad_19 : decode cL_addRoad 19 = .ok (.astore 5, 2) := by decide +kernel
theorem dL_addRoad_21 : decode cL_addRoad 21 = .ok (.iconst 2, 1) := by decide +kernel
theorem dL_addRoad_22 : decode cL_addRoad 22 = .ok (.ireturn, 1) := by decide +kernel
theorem dL_addRoad_23 : decode cL_addRoad 23 = .ok (.astore 5, 2) := by decide +kernel
theorem dL_addRoad_25 : decode cL_addRoad 25 = .ok (.iconst 3, 1) := by decide +kernel
theorem dL_addRoad_26 : decode cL_addRoad 26 = .ok (.ireturn, 1) := by decide +kernel
theorem dL_addRoad_27 : decode cL_addRoad 27 = .ok (.iconst 0, 1) := by decide +kernel
theorem dL_addRoad_28 : decode cL_addRoad 28 = .ok (.ireturn, 1) := by decide +kernel
theorem dL_setWeight_0 : decode cL_setWeight 0 = .ok (.aload_n 3, 1) := by decide +kernel
theorem dL_setWeight_1 : decode cL_setWeight 1 = .ok (.iconst 0, 1) := by decide +kernel
theorem dL_setWeight_2 : decode cL_setWeight 2 = .ok (.aload_n 0, 1) := by decide +kernel
theorem dL_setWeight_3 : decode cL_setWeight 3 = .ok (.iload_n 1, 1) := by decide +kernel
theorem dL_setWeight_4 : decode cL_setWeight 4 = .ok (.iload_n 2, 1) := by decide +kernel
theorem dL_setWeight_5 : decode cL_setWeight 5 = .ok (.invokevirtual 23, 3) := by decide +kernel
theorem dL_setWeight_8 : decode cL_setWeight 8 = .ok (.i2l, 1) := by decide +kernel
theorem dL_setWeight_9 : decode cL_setWeight 9 = .ok (.lastore, 1) := by decide +kernel
theorem dL_setWeight_10 : decode cL_setWeight 10 = .ok (.goto 11, 3) := by decide +kernel
theorem dL_setWeight_13 : decode cL_setWeight 13 = .ok (.astore 4, 2) := by decide +kernel
theorem dL_setWeight_15 : decode cL_setWeight 15 = .ok (.iconst 1, 1) := by decide +kernel
theorem dL_setWeight_16 : decode cL_setWeight 16 = .ok (.ireturn, 1) := by decide +kernel
theorem dL_setWeight_17 : decode cL_setWeight 17 = .ok (.astore 4, 2) := by decide +kernel
theorem dL_setWeight_19 : decode cL_setWeight 19 = .ok (.iconst 2, 1) := by decide +kernel
theorem dL_setWeight_20 : decode cL_setWeight 20 = .ok (.ireturn, 1) := by decide +kernel
theorem dL_setWeight_21 : decode cL_setWeight 21 = .ok (.iconst 0, 1) := by decide +kernel
theorem dL_setWeight_22 : decode cL_setWeight 22 = .ok (.ireturn, 1) := by decide +kernel
theorem dL_setOpen_0 : decode cL_setOpen 0 = .ok (.aload_n 3, 1) := by decide +kernel
theorem dL_setOpen_1 : decode cL_setOpen 1 = .ok (.iconst 0, 1) := by decide +kernel
theorem dL_setOpen_2 : decode cL_setOpen 2 = .ok (.aload_n 0, 1) := by decide +kernel
theorem dL_setOpen_3 : decode cL_setOpen 3 = .ok (.iload_n 1, 1) := by decide +kernel
theorem dL_setOpen_4 : decode cL_setOpen 4 = .ok (.iload_n 2, 1) := by decide +kernel
theorem dL_setOpen_5 : decode cL_setOpen 5 = .ok (.invokevirtual 27, 3) := by decide +kernel
theorem dL_setOpen_8 : decode cL_setOpen 8 = .ok (.i2l, 1) := by decide +kernel
theorem dL_setOpen_9 : decode cL_setOpen 9 = .ok (.lastore, 1) := by decide +kernel
theorem dL_setOpen_10 : decode cL_setOpen 10 = .ok (.goto 7, 3) := by decide +kernel
theorem dL_setOpen_13 : decode cL_setOpen 13 = .ok (.astore 4, 2) := by decide +kernel
theorem dL_setOpen_15 : decode cL_setOpen 15 = .ok (.iconst 1, 1) := by decide +kernel
theorem dL_setOpen_16 : decode cL_setOpen 16 = .ok (.ireturn, 1) := by decide +kernel
theorem dL_setOpen_17 : decode cL_setOpen 17 = .ok (.iconst 0, 1) := by decide +kernel
theorem dL_setOpen_18 : decode cL_setOpen 18 = .ok (.ireturn, 1) := by decide +kernel
theorem dL_setTurn_0 : decode cL_setTurn 0 = .ok (.aload 4, 2) := by decide +kernel
theorem dL_setTurn_2 : decode cL_setTurn 2 = .ok (.iconst 0, 1) := by decide +kernel
theorem dL_setTurn_3 : decode cL_setTurn 3 = .ok (.aload_n 0, 1) := by decide +kernel
theorem dL_setTurn_4 : decode cL_setTurn 4 = .ok (.iload_n 1, 1) := by decide +kernel
theorem dL_setTurn_5 : decode cL_setTurn 5 = .ok (.iload_n 2, 1) := by decide +kernel
theorem dL_setTurn_6 : decode cL_setTurn 6 = .ok (.iload_n 3, 1) := by decide +kernel
theorem dL_setTurn_7 : decode cL_setTurn 7 = .ok (.invokevirtual 31, 3) := by decide +kernel
theorem dL_setTurn_10 : decode cL_setTurn 10 = .ok (.i2l, 1) := by decide +kernel
theorem dL_setTurn_11 : decode cL_setTurn 11 = .ok (.lastore, 1) := by decide +kernel
theorem dL_setTurn_12 : decode cL_setTurn 12 = .ok (.goto 11, 3) := by decide +kernel
theorem dL_setTurn_15 : decode cL_setTurn 15 = .ok (.astore 5, 2) := by decide +kernel
theorem dL_setTurn_17 : decode cL_setTurn 17 = .ok (.iconst 1, 1) := by decide +kernel
theorem dL_setTurn_18 : decode cL_setTurn 18 = .ok (.ireturn, 1) := by decide +kernel
theorem dL_setTurn_19 : decode cL_setTurn 19 = .ok (.astore 5, 2) := by decide +kernel
theorem dL_setTurn_21 : decode cL_setTurn 21 = .ok (.iconst 2, 1) := by decide +kernel
theorem dL_setTurn_22 : decode cL_setTurn 22 = .ok (.ireturn, 1) := by decide +kernel
theorem dL_setTurn_23 : decode cL_setTurn 23 = .ok (.iconst 0, 1) := by decide +kernel
theorem dL_setTurn_24 : decode cL_setTurn 24 = .ok (.ireturn, 1) := by decide +kernel
theorem dL_setUTurn_0 : decode cL_setUTurn 0 = .ok (.aload_n 2, 1) := by decide +kernel
theorem dL_setUTurn_1 : decode cL_setUTurn 1 = .ok (.iconst 0, 1) := by decide +kernel
theorem dL_setUTurn_2 : decode cL_setUTurn 2 = .ok (.aload_n 0, 1) := by decide +kernel
theorem dL_setUTurn_3 : decode cL_setUTurn 3 = .ok (.iload_n 1, 1) := by decide +kernel
theorem dL_setUTurn_4 : decode cL_setUTurn 4 = .ok (.invokevirtual 34, 3) := by decide +kernel
theorem dL_setUTurn_7 : decode cL_setUTurn 7 = .ok (.i2l, 1) := by decide +kernel
theorem dL_setUTurn_8 : decode cL_setUTurn 8 = .ok (.lastore, 1) := by decide +kernel
theorem dL_setUTurn_9 : decode cL_setUTurn 9 = .ok (.goto 6, 3) := by decide +kernel
theorem dL_setUTurn_12 : decode cL_setUTurn 12 = .ok (.astore_n 3, 1) := by decide +kernel
theorem dL_setUTurn_13 : decode cL_setUTurn 13 = .ok (.iconst 1, 1) := by decide +kernel
theorem dL_setUTurn_14 : decode cL_setUTurn 14 = .ok (.ireturn, 1) := by decide +kernel
theorem dL_setUTurn_15 : decode cL_setUTurn 15 = .ok (.iconst 0, 1) := by decide +kernel
theorem dL_setUTurn_16 : decode cL_setUTurn 16 = .ok (.ireturn, 1) := by decide +kernel
theorem dL_weight_0 : decode cL_weight 0 = .ok (.aload_n 2, 1) := by decide +kernel
theorem dL_weight_1 : decode cL_weight 1 = .ok (.iconst 0, 1) := by decide +kernel
theorem dL_weight_2 : decode cL_weight 2 = .ok (.aload_n 0, 1) := by decide +kernel
theorem dL_weight_3 : decode cL_weight 3 = .ok (.iload_n 1, 1) := by decide +kernel
theorem dL_weight_4 : decode cL_weight 4 = .ok (.invokevirtual 38, 3) := by decide +kernel
theorem dL_weight_7 : decode cL_weight 7 = .ok (.i2l, 1) := by decide +kernel
theorem dL_weight_8 : decode cL_weight 8 = .ok (.lastore, 1) := by decide +kernel
theorem dL_weight_9 : decode cL_weight 9 = .ok (.goto 6, 3) := by decide +kernel
theorem dL_weight_12 : decode cL_weight 12 = .ok (.astore_n 3, 1) := by decide +kernel
theorem dL_weight_13 : decode cL_weight 13 = .ok (.iconst 1, 1) := by decide +kernel
theorem dL_weight_14 : decode cL_weight 14 = .ok (.ireturn, 1) := by decide +kernel
theorem dL_weight_15 : decode cL_weight 15 = .ok (.iconst 0, 1) := by decide +kernel
theorem dL_weight_16 : decode cL_weight 16 = .ok (.ireturn, 1) := by decide +kernel
theorem dL_isOpen_0 : decode cL_isOpen 0 = .ok (.aload_n 2, 1) := by decide +kernel
theorem dL_isOpen_1 : decode cL_isOpen 1 = .ok (.iconst 0, 1) := by decide +kernel
theorem dL_isOpen_2 : decode cL_isOpen 2 = .ok (.aload_n 0, 1) := by decide +kernel
theorem dL_isOpen_3 : decode cL_isOpen 3 = .ok (.iload_n 1, 1) := by decide +kernel
theorem dL_isOpen_4 : decode cL_isOpen 4 = .ok (.invokevirtual 41, 3) := by decide +kernel
theorem dL_isOpen_7 : decode cL_isOpen 7 = .ok (.ifCond .eq 7, 3) := by decide +kernel
theorem dL_isOpen_10 : decode cL_isOpen 10 = .ok (.lconst 1, 1) := by decide +kernel
theorem dL_isOpen_11 : decode cL_isOpen 11 = .ok (.goto 4, 3) := by decide +kernel
theorem dL_isOpen_14 : decode cL_isOpen 14 = .ok (.lconst 0, 1) := by decide +kernel
theorem dL_isOpen_15 : decode cL_isOpen 15 = .ok (.lastore, 1) := by decide +kernel
theorem dL_isOpen_16 : decode cL_isOpen 16 = .ok (.goto 6, 3) := by decide +kernel
theorem dL_isOpen_19 : decode cL_isOpen 19 = .ok (.astore_n 3, 1) := by decide +kernel
theorem dL_isOpen_20 : decode cL_isOpen 20 = .ok (.iconst 1, 1) := by decide +kernel
theorem dL_isOpen_21 : decode cL_isOpen 21 = .ok (.ireturn, 1) := by decide +kernel
theorem dL_isOpen_22 : decode cL_isOpen 22 = .ok (.iconst 0, 1) := by decide +kernel
theorem dL_isOpen_23 : decode cL_isOpen 23 = .ok (.ireturn, 1) := by decide +kernel
theorem dL_turnPenalty_0 : decode cL_turnPenalty 0 = .ok (.aload_n 3, 1) := by decide +kernel
theorem dL_turnPenalty_1 : decode cL_turnPenalty 1 = .ok (.iconst 0, 1) := by decide +kernel
theorem dL_turnPenalty_2 : decode cL_turnPenalty 2 = .ok (.aload_n 0, 1) := by decide +kernel
theorem dL_turnPenalty_3 : decode cL_turnPenalty 3 = .ok (.iload_n 1, 1) := by decide +kernel
theorem dL_turnPenalty_4 : decode cL_turnPenalty 4 = .ok (.iload_n 2, 1) := by decide +kernel
theorem dL_turnPenalty_5 : decode cL_turnPenalty 5 = .ok (.invokevirtual 45, 3) := by decide +kernel
theorem dL_turnPenalty_8 : decode cL_turnPenalty 8 = .ok (.i2l, 1) := by decide +kernel
theorem dL_turnPenalty_9 : decode cL_turnPenalty 9 = .ok (.lastore, 1) := by decide +kernel
theorem dL_turnPenalty_10 : decode cL_turnPenalty 10 = .ok (.goto 11, 3) := by decide +kernel
theorem dL_turnPenalty_13 : decode cL_turnPenalty 13 = .ok (.astore 4, 2) := by decide +kernel
theorem dL_turnPenalty_15 : decode cL_turnPenalty 15 = .ok (.iconst 1, 1) := by decide +kernel
theorem dL_turnPenalty_16 : decode cL_turnPenalty 16 = .ok (.ireturn, 1) := by decide +kernel
theorem dL_turnPenalty_17 : decode cL_turnPenalty 17 = .ok (.astore 4, 2) := by decide +kernel
theorem dL_turnPenalty_19 : decode cL_turnPenalty 19 = .ok (.iconst 2, 1) := by decide +kernel
theorem dL_turnPenalty_20 : decode cL_turnPenalty 20 = .ok (.ireturn, 1) := by decide +kernel
theorem dL_turnPenalty_21 : decode cL_turnPenalty 21 = .ok (.iconst 0, 1) := by decide +kernel
theorem dL_turnPenalty_22 : decode cL_turnPenalty 22 = .ok (.ireturn, 1) := by decide +kernel
theorem dL_prepare_0 : decode cL_prepare 0 = .ok (.aload_n 1, 1) := by decide +kernel
theorem dL_prepare_1 : decode cL_prepare 1 = .ok (.iconst 0, 1) := by decide +kernel
theorem dL_prepare_2 : decode cL_prepare 2 = .ok (.aload_n 0, 1) := by decide +kernel
theorem dL_prepare_3 : decode cL_prepare 3 = .ok (.invokevirtual 48, 3) := by decide +kernel
theorem dL_prepare_6 : decode cL_prepare 6 = .ok (.i2l, 1) := by decide +kernel
theorem dL_prepare_7 : decode cL_prepare 7 = .ok (.lastore, 1) := by decide +kernel
theorem dL_prepare_8 : decode cL_prepare 8 = .ok (.goto 6, 3) := by decide +kernel
theorem dL_prepare_11 : decode cL_prepare 11 = .ok (.astore_n 2, 1) := by decide +kernel
theorem dL_prepare_12 : decode cL_prepare 12 = .ok (.iconst 1, 1) := by decide +kernel
theorem dL_prepare_13 : decode cL_prepare 13 = .ok (.ireturn, 1) := by decide +kernel
theorem dL_prepare_14 : decode cL_prepare 14 = .ok (.iconst 0, 1) := by decide +kernel
theorem dL_prepare_15 : decode cL_prepare 15 = .ok (.ireturn, 1) := by decide +kernel
theorem dL_position_0 : decode cL_position 0 = .ok (.aload_n 2, 1) := by decide +kernel
theorem dL_position_1 : decode cL_position 1 = .ok (.iconst 0, 1) := by decide +kernel
theorem dL_position_2 : decode cL_position 2 = .ok (.aload_n 0, 1) := by decide +kernel
theorem dL_position_3 : decode cL_position 3 = .ok (.iload_n 1, 1) := by decide +kernel
theorem dL_position_4 : decode cL_position 4 = .ok (.invokevirtual 51, 3) := by decide +kernel
theorem dL_position_7 : decode cL_position 7 = .ok (.i2l, 1) := by decide +kernel
theorem dL_position_8 : decode cL_position 8 = .ok (.lastore, 1) := by decide +kernel
theorem dL_position_9 : decode cL_position 9 = .ok (.goto 9, 3) := by decide +kernel
theorem dL_position_12 : decode cL_position 12 = .ok (.astore_n 3, 1) := by decide +kernel
theorem dL_position_13 : decode cL_position 13 = .ok (.iconst 1, 1) := by decide +kernel
theorem dL_position_14 : decode cL_position 14 = .ok (.ireturn, 1) := by decide +kernel
theorem dL_position_15 : decode cL_position 15 = .ok (.astore_n 3, 1) := by decide +kernel
theorem dL_position_16 : decode cL_position 16 = .ok (.iconst 2, 1) := by decide +kernel
theorem dL_position_17 : decode cL_position 17 = .ok (.ireturn, 1) := by decide +kernel
theorem dL_position_18 : decode cL_position 18 = .ok (.iconst 0, 1) := by decide +kernel
theorem dL_position_19 : decode cL_position 19 = .ok (.ireturn, 1) := by decide +kernel
theorem dL_hasArc_0 : decode cL_hasArc 0 = .ok (.aload_n 3, 1) := by decide +kernel
theorem dL_hasArc_1 : decode cL_hasArc 1 = .ok (.iconst 0, 1) := by decide +kernel
theorem dL_hasArc_2 : decode cL_hasArc 2 = .ok (.aload_n 0, 1) := by decide +kernel
theorem dL_hasArc_3 : decode cL_hasArc 3 = .ok (.iload_n 1, 1) := by decide +kernel
theorem dL_hasArc_4 : decode cL_hasArc 4 = .ok (.iload_n 2, 1) := by decide +kernel
theorem dL_hasArc_5 : decode cL_hasArc 5 = .ok (.invokevirtual 54, 3) := by decide +kernel
theorem dL_hasArc_8 : decode cL_hasArc 8 = .ok (.ifCond .eq 7, 3) := by decide +kernel
theorem dL_hasArc_11 : decode cL_hasArc 11 = .ok (.lconst 1, 1) := by decide +kernel
theorem dL_hasArc_12 : decode cL_hasArc 12 = .ok (.goto 4, 3) := by decide +kernel
theorem dL_hasArc_15 : decode cL_hasArc 15 = .ok (.lconst 0, 1) := by decide +kernel
theorem dL_hasArc_16 : decode cL_hasArc 16 = .ok (.lastore, 1) := by decide +kernel
theorem dL_hasArc_17 : decode cL_hasArc 17 = .ok (.goto 11, 3) := by decide +kernel
theorem dL_hasArc_20 : decode cL_hasArc 20 = .ok (.astore 4, 2) := by decide +kernel
theorem dL_hasArc_22 : decode cL_hasArc 22 = .ok (.iconst 1, 1) := by decide +kernel
theorem dL_hasArc_23 : decode cL_hasArc 23 = .ok (.ireturn, 1) := by decide +kernel
theorem dL_hasArc_24 : decode cL_hasArc 24 = .ok (.astore 4, 2) := by decide +kernel
theorem dL_hasArc_26 : decode cL_hasArc 26 = .ok (.iconst 2, 1) := by decide +kernel
theorem dL_hasArc_27 : decode cL_hasArc 27 = .ok (.ireturn, 1) := by decide +kernel
theorem dL_hasArc_28 : decode cL_hasArc 28 = .ok (.iconst 0, 1) := by decide +kernel
theorem dL_hasArc_29 : decode cL_hasArc 29 = .ok (.ireturn, 1) := by decide +kernel
theorem dL_arcCost_0 : decode cL_arcCost 0 = .ok (.aload_n 3, 1) := by decide +kernel
theorem dL_arcCost_1 : decode cL_arcCost 1 = .ok (.iconst 0, 1) := by decide +kernel
theorem dL_arcCost_2 : decode cL_arcCost 2 = .ok (.aload_n 0, 1) := by decide +kernel
theorem dL_arcCost_3 : decode cL_arcCost 3 = .ok (.iload_n 1, 1) := by decide +kernel
theorem dL_arcCost_4 : decode cL_arcCost 4 = .ok (.iload_n 2, 1) := by decide +kernel
theorem dL_arcCost_5 : decode cL_arcCost 5 = .ok (.invokevirtual 58, 3) := by decide +kernel
theorem dL_arcCost_8 : decode cL_arcCost 8 = .ok (.i2l, 1) := by decide +kernel
theorem dL_arcCost_9 : decode cL_arcCost 9 = .ok (.lastore, 1) := by decide +kernel
theorem dL_arcCost_10 : decode cL_arcCost 10 = .ok (.goto 15, 3) := by decide +kernel
theorem dL_arcCost_13 : decode cL_arcCost 13 = .ok (.astore 4, 2) := by decide +kernel
theorem dL_arcCost_15 : decode cL_arcCost 15 = .ok (.iconst 1, 1) := by decide +kernel
theorem dL_arcCost_16 : decode cL_arcCost 16 = .ok (.ireturn, 1) := by decide +kernel
theorem dL_arcCost_17 : decode cL_arcCost 17 = .ok (.astore 4, 2) := by decide +kernel
theorem dL_arcCost_19 : decode cL_arcCost 19 = .ok (.iconst 2, 1) := by decide +kernel
theorem dL_arcCost_20 : decode cL_arcCost 20 = .ok (.ireturn, 1) := by decide +kernel
theorem dL_arcCost_21 : decode cL_arcCost 21 = .ok (.astore 4, 2) := by decide +kernel
theorem dL_arcCost_23 : decode cL_arcCost 23 = .ok (.iconst 3, 1) := by decide +kernel
theorem dL_arcCost_24 : decode cL_arcCost 24 = .ok (.ireturn, 1) := by decide +kernel
theorem dL_arcCost_25 : decode cL_arcCost 25 = .ok (.iconst 0, 1) := by decide +kernel
theorem dL_arcCost_26 : decode cL_arcCost 26 = .ok (.ireturn, 1) := by decide +kernel
theorem dL_distance_0 : decode cL_distance 0 = .ok (.aload_n 3, 1) := by decide +kernel
theorem dL_distance_1 : decode cL_distance 1 = .ok (.iconst 0, 1) := by decide +kernel
theorem dL_distance_2 : decode cL_distance 2 = .ok (.aload_n 0, 1) := by decide +kernel
theorem dL_distance_3 : decode cL_distance 3 = .ok (.iload_n 1, 1) := by decide +kernel
theorem dL_distance_4 : decode cL_distance 4 = .ok (.iload_n 2, 1) := by decide +kernel
theorem dL_distance_5 : decode cL_distance 5 = .ok (.invokevirtual 63, 3) := by decide +kernel
theorem dL_distance_8 : decode cL_distance 8 = .ok (.i2l, 1) := by decide +kernel
theorem dL_distance_9 : decode cL_distance 9 = .ok (.lastore, 1) := by decide +kernel
theorem dL_distance_10 : decode cL_distance 10 = .ok (.goto 11, 3) := by decide +kernel
theorem dL_distance_13 : decode cL_distance 13 = .ok (.astore 4, 2) := by decide +kernel
theorem dL_distance_15 : decode cL_distance 15 = .ok (.iconst 1, 1) := by decide +kernel
theorem dL_distance_16 : decode cL_distance 16 = .ok (.ireturn, 1) := by decide +kernel
theorem dL_distance_17 : decode cL_distance 17 = .ok (.astore 4, 2) := by decide +kernel
theorem dL_distance_19 : decode cL_distance 19 = .ok (.iconst 2, 1) := by decide +kernel
theorem dL_distance_20 : decode cL_distance 20 = .ok (.ireturn, 1) := by decide +kernel
theorem dL_distance_21 : decode cL_distance 21 = .ok (.iconst 0, 1) := by decide +kernel
theorem dL_distance_22 : decode cL_distance 22 = .ok (.ireturn, 1) := by decide +kernel
theorem dL_distanceBehind_0 : decode cL_distanceBehind 0 = .ok (.aload_n 3, 1) := by decide +kernel
theorem dL_distanceBehind_1 : decode cL_distanceBehind 1 = .ok (.iconst 0, 1) := by decide +kernel
theorem dL_distanceBehind_2 : decode cL_distanceBehind 2 = .ok (.aload_n 0, 1) := by decide +kernel
theorem dL_distanceBehind_3 : decode cL_distanceBehind 3 = .ok (.iload_n 1, 1) := by decide +kernel
theorem dL_distanceBehind_4 : decode cL_distanceBehind 4 = .ok (.iload_n 2, 1) := by decide +kernel
theorem dL_distanceBehind_5 : decode cL_distanceBehind 5 = .ok (.invokevirtual 66, 3) := by decide +kernel
theorem dL_distanceBehind_8 : decode cL_distanceBehind 8 = .ok (.i2l, 1) := by decide +kernel
theorem dL_distanceBehind_9 : decode cL_distanceBehind 9 = .ok (.lastore, 1) := by decide +kernel
theorem dL_distanceBehind_10 : decode cL_distanceBehind 10 = .ok (.goto 11, 3) := by decide +kernel
theorem dL_distanceBehind_13 : decode cL_distanceBehind 13 = .ok (.astore 4, 2) := by decide +kernel
theorem dL_distanceBehind_15 : decode cL_distanceBehind 15 = .ok (.iconst 1, 1) := by decide +kernel
theorem dL_distanceBehind_16 : decode cL_distanceBehind 16 = .ok (.ireturn, 1) := by decide +kernel
theorem dL_distanceBehind_17 : decode cL_distanceBehind 17 = .ok (.astore 4, 2) := by decide +kernel
theorem dL_distanceBehind_19 : decode cL_distanceBehind 19 = .ok (.iconst 2, 1) := by decide +kernel
theorem dL_distanceBehind_20 : decode cL_distanceBehind 20 = .ok (.ireturn, 1) := by decide +kernel
theorem dL_distanceBehind_21 : decode cL_distanceBehind 21 = .ok (.iconst 0, 1) := by decide +kernel
theorem dL_distanceBehind_22 : decode cL_distanceBehind 22 = .ok (.ireturn, 1) := by decide +kernel
theorem dL_route_0 : decode cL_route 0 = .ok (.aload_n 3, 1) := by decide +kernel
theorem dL_route_1 : decode cL_route 1 = .ok (.iconst 0, 1) := by decide +kernel
theorem dL_route_2 : decode cL_route 2 = .ok (.aload_n 0, 1) := by decide +kernel
theorem dL_route_3 : decode cL_route 3 = .ok (.iload_n 1, 1) := by decide +kernel
theorem dL_route_4 : decode cL_route 4 = .ok (.iload_n 2, 1) := by decide +kernel
theorem dL_route_5 : decode cL_route 5 = .ok (.invokevirtual 69, 3) := by decide +kernel
theorem dL_route_8 : decode cL_route 8 = .ok (.i2l, 1) := by decide +kernel
theorem dL_route_9 : decode cL_route 9 = .ok (.lastore, 1) := by decide +kernel
theorem dL_route_10 : decode cL_route 10 = .ok (.goto 15, 3) := by decide +kernel
theorem dL_route_13 : decode cL_route 13 = .ok (.astore 4, 2) := by decide +kernel
theorem dL_route_15 : decode cL_route 15 = .ok (.iconst 1, 1) := by decide +kernel
theorem dL_route_16 : decode cL_route 16 = .ok (.ireturn, 1) := by decide +kernel
theorem dL_route_17 : decode cL_route 17 = .ok (.astore 4, 2) := by decide +kernel
theorem dL_route_19 : decode cL_route 19 = .ok (.iconst 2, 1) := by decide +kernel
theorem dL_route_20 : decode cL_route 20 = .ok (.ireturn, 1) := by decide +kernel
theorem dL_route_21 : decode cL_route 21 = .ok (.astore 4, 2) := by decide +kernel
theorem dL_route_23 : decode cL_route 23 = .ok (.iconst 3, 1) := by decide +kernel
theorem dL_route_24 : decode cL_route 24 = .ok (.ireturn, 1) := by decide +kernel
theorem dL_route_25 : decode cL_route 25 = .ok (.iconst 0, 1) := by decide +kernel
theorem dL_route_26 : decode cL_route 26 = .ok (.ireturn, 1) := by decide +kernel
theorem dL_routeRoad_0 : decode cL_routeRoad 0 = .ok (.aload_n 2, 1) := by decide +kernel
theorem dL_routeRoad_1 : decode cL_routeRoad 1 = .ok (.iconst 0, 1) := by decide +kernel
theorem dL_routeRoad_2 : decode cL_routeRoad 2 = .ok (.aload_n 0, 1) := by decide +kernel
theorem dL_routeRoad_3 : decode cL_routeRoad 3 = .ok (.iload_n 1, 1) := by decide +kernel
theorem dL_routeRoad_4 : decode cL_routeRoad 4 = .ok (.invokevirtual 72, 3) := by decide +kernel
theorem dL_routeRoad_7 : decode cL_routeRoad 7 = .ok (.i2l, 1) := by decide +kernel
theorem dL_routeRoad_8 : decode cL_routeRoad 8 = .ok (.lastore, 1) := by decide +kernel
theorem dL_routeRoad_9 : decode cL_routeRoad 9 = .ok (.goto 6, 3) := by decide +kernel
theorem dL_routeRoad_12 : decode cL_routeRoad 12 = .ok (.astore_n 3, 1) := by decide +kernel
theorem dL_routeRoad_13 : decode cL_routeRoad 13 = .ok (.iconst 1, 1) := by decide +kernel
theorem dL_routeRoad_14 : decode cL_routeRoad 14 = .ok (.ireturn, 1) := by decide +kernel
theorem dL_routeRoad_15 : decode cL_routeRoad 15 = .ok (.iconst 0, 1) := by decide +kernel
theorem dL_routeRoad_16 : decode cL_routeRoad 16 = .ok (.ireturn, 1) := by decide +kernel
theorem dL_reach_0 : decode cL_reach 0 = .ok (.aload_n 3, 1) := by decide +kernel
theorem dL_reach_1 : decode cL_reach 1 = .ok (.iconst 0, 1) := by decide +kernel
theorem dL_reach_2 : decode cL_reach 2 = .ok (.aload_n 0, 1) := by decide +kernel
theorem dL_reach_3 : decode cL_reach 3 = .ok (.iload_n 1, 1) := by decide +kernel
theorem dL_reach_4 : decode cL_reach 4 = .ok (.iload_n 2, 1) := by decide +kernel
theorem dL_reach_5 : decode cL_reach 5 = .ok (.invokevirtual 75, 3) := by decide +kernel
theorem dL_reach_8 : decode cL_reach 8 = .ok (.i2l, 1) := by decide +kernel
theorem dL_reach_9 : decode cL_reach 9 = .ok (.lastore, 1) := by decide +kernel
theorem dL_reach_10 : decode cL_reach 10 = .ok (.goto 15, 3) := by decide +kernel
theorem dL_reach_13 : decode cL_reach 13 = .ok (.astore 4, 2) := by decide +kernel
theorem dL_reach_15 : decode cL_reach 15 = .ok (.iconst 1, 1) := by decide +kernel
theorem dL_reach_16 : decode cL_reach 16 = .ok (.ireturn, 1) := by decide +kernel
theorem dL_reach_17 : decode cL_reach 17 = .ok (.astore 4, 2) := by decide +kernel
theorem dL_reach_19 : decode cL_reach 19 = .ok (.iconst 2, 1) := by decide +kernel
theorem dL_reach_20 : decode cL_reach 20 = .ok (.ireturn, 1) := by decide +kernel
theorem dL_reach_21 : decode cL_reach 21 = .ok (.astore 4, 2) := by decide +kernel
theorem dL_reach_23 : decode cL_reach 23 = .ok (.iconst 3, 1) := by decide +kernel
theorem dL_reach_24 : decode cL_reach 24 = .ok (.ireturn, 1) := by decide +kernel
theorem dL_reach_25 : decode cL_reach 25 = .ok (.iconst 0, 1) := by decide +kernel
theorem dL_reach_26 : decode cL_reach 26 = .ok (.ireturn, 1) := by decide +kernel
theorem dL_reached_0 : decode cL_reached 0 = .ok (.aload_n 2, 1) := by decide +kernel
theorem dL_reached_1 : decode cL_reached 1 = .ok (.iconst 0, 1) := by decide +kernel
theorem dL_reached_2 : decode cL_reached 2 = .ok (.aload_n 0, 1) := by decide +kernel
theorem dL_reached_3 : decode cL_reached 3 = .ok (.iload_n 1, 1) := by decide +kernel
theorem dL_reached_4 : decode cL_reached 4 = .ok (.invokevirtual 78, 3) := by decide +kernel
theorem dL_reached_7 : decode cL_reached 7 = .ok (.i2l, 1) := by decide +kernel
theorem dL_reached_8 : decode cL_reached 8 = .ok (.lastore, 1) := by decide +kernel
theorem dL_reached_9 : decode cL_reached 9 = .ok (.goto 6, 3) := by decide +kernel
theorem dL_reached_12 : decode cL_reached 12 = .ok (.astore_n 3, 1) := by decide +kernel
theorem dL_reached_13 : decode cL_reached 13 = .ok (.iconst 1, 1) := by decide +kernel
theorem dL_reached_14 : decode cL_reached 14 = .ok (.ireturn, 1) := by decide +kernel
theorem dL_reached_15 : decode cL_reached 15 = .ok (.iconst 0, 1) := by decide +kernel
theorem dL_reached_16 : decode cL_reached 16 = .ok (.ireturn, 1) := by decide +kernel
theorem dL_averageDistance_0 : decode cL_averageDistance 0 = .ok (.aload_n 2, 1) := by decide +kernel
theorem dL_averageDistance_1 : decode cL_averageDistance 1 = .ok (.iconst 0, 1) := by decide +kernel
theorem dL_averageDistance_2 : decode cL_averageDistance 2 = .ok (.aload_n 0, 1) := by decide +kernel
theorem dL_averageDistance_3 : decode cL_averageDistance 3 = .ok (.iload_n 1, 1) := by decide +kernel
theorem dL_averageDistance_4 : decode cL_averageDistance 4 = .ok (.invokevirtual 81, 3) := by decide +kernel
theorem dL_averageDistance_7 : decode cL_averageDistance 7 = .ok (.dastore, 1) := by decide +kernel
theorem dL_averageDistance_8 : decode cL_averageDistance 8 = .ok (.goto 9, 3) := by decide +kernel
theorem dL_averageDistance_11 : decode cL_averageDistance 11 = .ok (.astore_n 3, 1) := by decide +kernel
theorem dL_averageDistance_12 : decode cL_averageDistance 12 = .ok (.iconst 1, 1) := by decide +kernel
theorem dL_averageDistance_13 : decode cL_averageDistance 13 = .ok (.ireturn, 1) := by decide +kernel
theorem dL_averageDistance_14 : decode cL_averageDistance 14 = .ok (.astore_n 3, 1) := by decide +kernel
theorem dL_averageDistance_15 : decode cL_averageDistance 15 = .ok (.iconst 2, 1) := by decide +kernel
theorem dL_averageDistance_16 : decode cL_averageDistance 16 = .ok (.ireturn, 1) := by decide +kernel
theorem dL_averageDistance_17 : decode cL_averageDistance 17 = .ok (.iconst 0, 1) := by decide +kernel
theorem dL_averageDistance_18 : decode cL_averageDistance 18 = .ok (.ireturn, 1) := by decide +kernel
theorem dL_detour_0 : decode cL_detour 0 = .ok (.aload 4, 2) := by decide +kernel
theorem dL_detour_2 : decode cL_detour 2 = .ok (.iconst 0, 1) := by decide +kernel
theorem dL_detour_3 : decode cL_detour 3 = .ok (.aload_n 0, 1) := by decide +kernel
theorem dL_detour_4 : decode cL_detour 4 = .ok (.iload_n 1, 1) := by decide +kernel
theorem dL_detour_5 : decode cL_detour 5 = .ok (.iload_n 2, 1) := by decide +kernel
theorem dL_detour_6 : decode cL_detour 6 = .ok (.iload_n 3, 1) := by decide +kernel
theorem dL_detour_7 : decode cL_detour 7 = .ok (.invokevirtual 85, 3) := by decide +kernel
theorem dL_detour_10 : decode cL_detour 10 = .ok (.i2l, 1) := by decide +kernel
theorem dL_detour_11 : decode cL_detour 11 = .ok (.lastore, 1) := by decide +kernel
theorem dL_detour_12 : decode cL_detour 12 = .ok (.goto 15, 3) := by decide +kernel
theorem dL_detour_15 : decode cL_detour 15 = .ok (.astore 5, 2) := by decide +kernel
theorem dL_detour_17 : decode cL_detour 17 = .ok (.iconst 1, 1) := by decide +kernel
theorem dL_detour_18 : decode cL_detour 18 = .ok (.ireturn, 1) := by decide +kernel
theorem dL_detour_19 : decode cL_detour 19 = .ok (.astore 5, 2) := by decide +kernel
theorem dL_detour_21 : decode cL_detour 21 = .ok (.iconst 2, 1) := by decide +kernel
theorem dL_detour_22 : decode cL_detour 22 = .ok (.ireturn, 1) := by decide +kernel
theorem dL_detour_23 : decode cL_detour 23 = .ok (.astore 5, 2) := by decide +kernel
theorem dL_detour_25 : decode cL_detour 25 = .ok (.iconst 3, 1) := by decide +kernel
theorem dL_detour_26 : decode cL_detour 26 = .ok (.ireturn, 1) := by decide +kernel
theorem dL_detour_27 : decode cL_detour 27 = .ok (.iconst 0, 1) := by decide +kernel
theorem dL_detour_28 : decode cL_detour 28 = .ok (.ireturn, 1) := by decide +kernel
theorem dL_setPlace_0 : decode cL_setPlace 0 = .ok (.aload 4, 2) := by decide +kernel
theorem dL_setPlace_2 : decode cL_setPlace 2 = .ok (.iconst 0, 1) := by decide +kernel
theorem dL_setPlace_3 : decode cL_setPlace 3 = .ok (.aload_n 0, 1) := by decide +kernel
theorem dL_setPlace_4 : decode cL_setPlace 4 = .ok (.iload_n 1, 1) := by decide +kernel
theorem dL_setPlace_5 : decode cL_setPlace 5 = .ok (.iload_n 2, 1) := by decide +kernel
theorem dL_setPlace_6 : decode cL_setPlace 6 = .ok (.iload_n 3, 1) := by decide +kernel
theorem dL_setPlace_7 : decode cL_setPlace 7 = .ok (.invokevirtual 88, 3) := by decide +kernel
theorem dL_setPlace_10 : decode cL_setPlace 10 = .ok (.ifCond .eq 7, 3) := by decide +kernel
theorem dL_setPlace_13 : decode cL_setPlace 13 = .ok (.lconst 1, 1) := by decide +kernel
theorem dL_setPlace_14 : decode cL_setPlace 14 = .ok (.goto 4, 3) := by decide +kernel
theorem dL_setPlace_17 : decode cL_setPlace 17 = .ok (.lconst 0, 1) := by decide +kernel
theorem dL_setPlace_18 : decode cL_setPlace 18 = .ok (.lastore, 1) := by decide +kernel
theorem dL_setPlace_19 : decode cL_setPlace 19 = .ok (.goto 7, 3) := by decide +kernel
theorem dL_setPlace_22 : decode cL_setPlace 22 = .ok (.astore 5, 2) := by decide +kernel
theorem dL_setPlace_24 : decode cL_setPlace 24 = .ok (.iconst 1, 1) := by decide +kernel
theorem dL_setPlace_25 : decode cL_setPlace 25 = .ok (.ireturn, 1) := by decide +kernel
theorem dL_setPlace_26 : decode cL_setPlace 26 = .ok (.iconst 0, 1) := by decide +kernel
theorem dL_setPlace_27 : decode cL_setPlace 27 = .ok (.ireturn, 1) := by decide +kernel
theorem dL_nearest_0 : decode cL_nearest 0 = .ok (.aload_n 3, 1) := by decide +kernel
theorem dL_nearest_1 : decode cL_nearest 1 = .ok (.iconst 0, 1) := by decide +kernel
theorem dL_nearest_2 : decode cL_nearest 2 = .ok (.aload_n 0, 1) := by decide +kernel
theorem dL_nearest_3 : decode cL_nearest 3 = .ok (.iload_n 1, 1) := by decide +kernel
theorem dL_nearest_4 : decode cL_nearest 4 = .ok (.iload_n 2, 1) := by decide +kernel
theorem dL_nearest_5 : decode cL_nearest 5 = .ok (.invokevirtual 92, 3) := by decide +kernel
theorem dL_nearest_8 : decode cL_nearest 8 = .ok (.i2l, 1) := by decide +kernel
theorem dL_nearest_9 : decode cL_nearest 9 = .ok (.lastore, 1) := by decide +kernel
theorem dL_nearest_10 : decode cL_nearest 10 = .ok (.goto 15, 3) := by decide +kernel
theorem dL_nearest_13 : decode cL_nearest 13 = .ok (.astore 4, 2) := by decide +kernel
theorem dL_nearest_15 : decode cL_nearest 15 = .ok (.iconst 1, 1) := by decide +kernel
theorem dL_nearest_16 : decode cL_nearest 16 = .ok (.ireturn, 1) := by decide +kernel
theorem dL_nearest_17 : decode cL_nearest 17 = .ok (.astore 4, 2) := by decide +kernel
theorem dL_nearest_19 : decode cL_nearest 19 = .ok (.iconst 2, 1) := by decide +kernel
theorem dL_nearest_20 : decode cL_nearest 20 = .ok (.ireturn, 1) := by decide +kernel
theorem dL_nearest_21 : decode cL_nearest 21 = .ok (.astore 4, 2) := by decide +kernel
theorem dL_nearest_23 : decode cL_nearest 23 = .ok (.iconst 3, 1) := by decide +kernel
theorem dL_nearest_24 : decode cL_nearest 24 = .ok (.ireturn, 1) := by decide +kernel
theorem dL_nearest_25 : decode cL_nearest 25 = .ok (.iconst 0, 1) := by decide +kernel
theorem dL_nearest_26 : decode cL_nearest 26 = .ok (.ireturn, 1) := by decide +kernel
theorem dL_push_0 : decode cL_push 0 = .ok (.aload_n 1, 1) := by decide +kernel
theorem dL_push_1 : decode cL_push 1 = .ok (.iconst 0, 1) := by decide +kernel
theorem dL_push_2 : decode cL_push 2 = .ok (.aload_n 0, 1) := by decide +kernel
theorem dL_push_3 : decode cL_push 3 = .ok (.invokevirtual 95, 3) := by decide +kernel
theorem dL_push_6 : decode cL_push 6 = .ok (.i2l, 1) := by decide +kernel
theorem dL_push_7 : decode cL_push 7 = .ok (.lastore, 1) := by decide +kernel
theorem dL_push_8 : decode cL_push 8 = .ok (.goto 6, 3) := by decide +kernel
theorem dL_push_11 : decode cL_push 11 = .ok (.astore_n 2, 1) := by decide +kernel
theorem dL_push_12 : decode cL_push 12 = .ok (.iconst 1, 1) := by decide +kernel
theorem dL_push_13 : decode cL_push 13 = .ok (.ireturn, 1) := by decide +kernel
theorem dL_push_14 : decode cL_push 14 = .ok (.iconst 0, 1) := by decide +kernel
theorem dL_push_15 : decode cL_push 15 = .ok (.ireturn, 1) := by decide +kernel
theorem dL_pop_0 : decode cL_pop 0 = .ok (.aload_n 1, 1) := by decide +kernel
theorem dL_pop_1 : decode cL_pop 1 = .ok (.iconst 0, 1) := by decide +kernel
theorem dL_pop_2 : decode cL_pop 2 = .ok (.aload_n 0, 1) := by decide +kernel
theorem dL_pop_3 : decode cL_pop 3 = .ok (.invokevirtual 98, 3) := by decide +kernel
theorem dL_pop_6 : decode cL_pop 6 = .ok (.i2l, 1) := by decide +kernel
theorem dL_pop_7 : decode cL_pop 7 = .ok (.lastore, 1) := by decide +kernel
theorem dL_pop_8 : decode cL_pop 8 = .ok (.goto 6, 3) := by decide +kernel
theorem dL_pop_11 : decode cL_pop 11 = .ok (.astore_n 2, 1) := by decide +kernel
theorem dL_pop_12 : decode cL_pop 12 = .ok (.iconst 1, 1) := by decide +kernel
theorem dL_pop_13 : decode cL_pop 13 = .ok (.ireturn, 1) := by decide +kernel
theorem dL_pop_14 : decode cL_pop 14 = .ok (.iconst 0, 1) := by decide +kernel
theorem dL_pop_15 : decode cL_pop 15 = .ok (.ireturn, 1) := by decide +kernel
