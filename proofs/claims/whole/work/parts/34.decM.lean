theorem dX12_init_0 : decode cX12_init 0 = .ok (.aload_n 0, 1) := by decide +kernel
theorem dX12_init_1 : decode cX12_init 1 = .ok (.invokespecial 3, 3) := by decide +kernel
theorem dX12_init_4 : decode cX12_init 4 = .ok (.aload_n 0, 1) := by decide +kernel
theorem dX12_init_5 : decode cX12_init 5 = .ok (.sipush 282, 3) := by decide +kernel
theorem dX12_init_8 : decode cX12_init 8 = .ok (.newarray .int, 2) := by decide +kernel
theorem dX12_init_10 : decode cX12_init 10 = .ok (.putfield 9, 3) := by decide +kernel
theorem dX12_init_13 : decode cX12_init 13 = .ok (.aload_n 0, 1) := by decide +kernel
theorem dX12_init_14 : decode cX12_init 14 = .ok (.bipush 6, 2) := by decide +kernel
theorem dX12_init_16 : decode cX12_init 16 = .ok (.newarray .float, 2) := by decide +kernel
theorem dX12_init_18 : decode cX12_init 18 = .ok (.putfield 13, 3) := by decide +kernel
theorem dX12_init_21 : decode cX12_init 21 = .ok (.aload_n 0, 1) := by decide +kernel
theorem dX12_init_22 : decode cX12_init 22 = .ok (.sipush 282, 3) := by decide +kernel
theorem dX12_init_25 : decode cX12_init 25 = .ok (.newarray .int, 2) := by decide +kernel
theorem dX12_init_27 : decode cX12_init 27 = .ok (.putfield 17, 3) := by decide +kernel
theorem dX12_init_30 : decode cX12_init 30 = .ok (.aload_n 0, 1) := by decide +kernel
theorem dX12_init_31 : decode cX12_init 31 = .ok (.bipush 6, 2) := by decide +kernel
theorem dX12_init_33 : decode cX12_init 33 = .ok (.newarray .float, 2) := by decide +kernel
theorem dX12_init_35 : decode cX12_init 35 = .ok (.putfield 20, 3) := by decide +kernel
theorem dX12_init_38 : decode cX12_init 38 = .ok (.aload_n 0, 1) := by decide +kernel
theorem dX12_init_39 : decode cX12_init 39 = .ok (.sipush 282, 3) := by decide +kernel
theorem dX12_init_42 : decode cX12_init 42 = .ok (.newarray .int, 2) := by decide +kernel
theorem dX12_init_44 : decode cX12_init 44 = .ok (.putfield 23, 3) := by decide +kernel
theorem dX12_init_47 : decode cX12_init 47 = .ok (.aload_n 0, 1) := by decide +kernel
theorem dX12_init_48 : decode cX12_init 48 = .ok (.bipush 6, 2) := by decide +kernel
theorem dX12_init_50 : decode cX12_init 50 = .ok (.newarray .float, 2) := by decide +kernel
theorem dX12_init_52 : decode cX12_init 52 = .ok (.putfield 26, 3) := by decide +kernel
theorem dX12_init_55 : decode cX12_init 55 = .ok (.aload_n 0, 1) := by decide +kernel
theorem dX12_init_56 : decode cX12_init 56 = .ok (.sipush 282, 3) := by decide +kernel
theorem dX12_init_59 : decode cX12_init 59 = .ok (.newarray .int, 2) := by decide +kernel
theorem dX12_init_61 : decode cX12_init 61 = .ok (.putfield 29, 3) := by decide +kernel
theorem dX12_init_64 : decode cX12_init 64 = .ok (.aload_n 0, 1) := by decide +kernel
theorem dX12_init_65 : decode cX12_init 65 = .ok (.bipush 6, 2) := by decide +kernel
theorem dX12_init_67 : decode cX12_init 67 = .ok (.newarray .float, 2) := by decide +kernel
theorem dX12_init_69 : decode cX12_init 69 = .ok (.putfield 32, 3) := by decide +kernel
theorem dX12_init_72 : decode cX12_init 72 = .ok (.aload_n 0, 1) := by decide +kernel
theorem dX12_init_73 : decode cX12_init 73 = .ok (.sipush 1692, 3) := by decide +kernel
theorem dX12_init_76 : decode cX12_init 76 = .ok (.newarray .int, 2) := by decide +kernel
theorem dX12_init_78 : decode cX12_init 78 = .ok (.putfield 35, 3) := by decide +kernel
theorem dX12_init_81 : decode cX12_init 81 = .ok (.aload_n 0, 1) := by decide +kernel
theorem dX12_init_82 : decode cX12_init 82 = .ok (.bipush 36, 2) := by decide +kernel
theorem dX12_init_84 : decode cX12_init 84 = .ok (.newarray .float, 2) := by decide +kernel
theorem dX12_init_86 : decode cX12_init 86 = .ok (.putfield 38, 3) := by decide +kernel
theorem dX12_init_89 : decode cX12_init 89 = .ok (.aload_n 0, 1) := by decide +kernel
theorem dX12_init_90 : decode cX12_init 90 = .ok (.iconst 4, 1) := by decide +kernel
theorem dX12_init_91 : decode cX12_init 91 = .ok (.newarray .int, 2) := by decide +kernel
theorem dX12_init_93 : decode cX12_init 93 = .ok (.putfield 41, 3) := by decide +kernel
theorem dX12_init_96 : decode cX12_init 96 = .ok (.aload_n 0, 1) := by decide +kernel
theorem dX12_init_97 : decode cX12_init 97 = .ok (.bipush 60, 2) := by decide +kernel
theorem dX12_init_99 : decode cX12_init 99 = .ok (.newarray .char, 2) := by decide +kernel
theorem dX12_init_101 : decode cX12_init 101 = .ok (.putfield 44, 3) := by decide +kernel
theorem dX12_init_104 : decode cX12_init 104 = .ok (.aload_n 0, 1) := by decide +kernel
theorem dX12_init_105 : decode cX12_init 105 = .ok (.iconst (-1), 1) := by decide +kernel
theorem dX12_init_106 : decode cX12_init 106 = .ok (.putfield 48, 3) := by decide +kernel
theorem dX12_init_109 : decode cX12_init 109 = .ok (.aload_n 0, 1) := by decide +kernel
theorem dX12_init_110 : decode cX12_init 110 = .ok (.bipush 60, 2) := by decide +kernel
theorem dX12_init_112 : decode cX12_init 112 = .ok (.newarray .char, 2) := by decide +kernel
theorem dX12_init_114 : decode cX12_init 114 = .ok (.putfield 52, 3) := by decide +kernel
theorem dX12_init_117 : decode cX12_init 117 = .ok (.aload_n 0, 1) := by decide +kernel
theorem dX12_init_118 : decode cX12_init 118 = .ok (.bipush 60, 2) := by decide +kernel
theorem dX12_init_120 : decode cX12_init 120 = .ok (.newarray .int, 2) := by decide +kernel
theorem dX12_init_122 : decode cX12_init 122 = .ok (.putfield 55, 3) := by decide +kernel
theorem dX12_init_125 : decode cX12_init 125 = .ok (.aload_n 0, 1) := by decide +kernel
theorem dX12_init_126 : decode cX12_init 126 = .ok (.bipush 60, 2) := by decide +kernel
theorem dX12_init_128 : decode cX12_init 128 = .ok (.newarray .int, 2) := by decide +kernel
theorem dX12_init_130 : decode cX12_init 130 = .ok (.putfield 58, 3) := by decide +kernel
theorem dX12_init_133 : decode cX12_init 133 = .ok (.aload_n 0, 1) := by decide +kernel
theorem dX12_init_134 : decode cX12_init 134 = .ok (.bipush 6, 2) := by decide +kernel
theorem dX12_init_136 : decode cX12_init 136 = .ok (.newarray .boolean, 2) := by decide +kernel
theorem dX12_init_138 : decode cX12_init 138 = .ok (.putfield 61, 3) := by decide +kernel
theorem dX12_init_141 : decode cX12_init 141 = .ok (.aload_n 0, 1) := by decide +kernel
theorem dX12_init_142 : decode cX12_init 142 = .ok (.bipush 6, 2) := by decide +kernel
theorem dX12_init_144 : decode cX12_init 144 = .ok (.newarray .long, 2) := by decide +kernel
theorem dX12_init_146 : decode cX12_init 146 = .ok (.putfield 65, 3) := by decide +kernel
theorem dX12_init_149 : decode cX12_init 149 = .ok (.aload_n 0, 1) := by decide +kernel
theorem dX12_init_150 : decode cX12_init 150 = .ok (.bipush 6, 2) := by decide +kernel
theorem dX12_init_152 : decode cX12_init 152 = .ok (.newarray .float, 2) := by decide +kernel
theorem dX12_init_154 : decode cX12_init 154 = .ok (.putfield 69, 3) := by decide +kernel
theorem dX12_init_157 : decode cX12_init 157 = .ok (.aload_n 0, 1) := by decide +kernel
theorem dX12_init_158 : decode cX12_init 158 = .ok (.bipush 6, 2) := by decide +kernel
theorem dX12_init_160 : decode cX12_init 160 = .ok (.newarray .long, 2) := by decide +kernel
theorem dX12_init_162 : decode cX12_init 162 = .ok (.putfield 72, 3) := by decide +kernel
theorem dX12_init_165 : decode cX12_init 165 = .ok (.aload_n 0, 1) := by decide +kernel
theorem dX12_init_166 : decode cX12_init 166 = .ok (.bipush 6, 2) := by decide +kernel
theorem dX12_init_168 : decode cX12_init 168 = .ok (.newarray .long, 2) := by decide +kernel
theorem dX12_init_170 : decode cX12_init 170 = .ok (.putfield 75, 3) := by decide +kernel
theorem dX12_init_173 : decode cX12_init 173 = .ok (.aload_n 0, 1) := by decide +kernel
theorem dX12_init_174 : decode cX12_init 174 = .ok (.bipush 24, 2) := by decide +kernel
theorem dX12_init_176 : decode cX12_init 176 = .ok (.newarray .long, 2) := by decide +kernel
theorem dX12_init_178 : decode cX12_init 178 = .ok (.putfield 78, 3) := by decide +kernel
theorem dX12_init_181 : decode cX12_init 181 = .ok (.aload_n 0, 1) := by decide +kernel
theorem dX12_init_182 : decode cX12_init 182 = .ok (.bipush 24, 2) := by decide +kernel
theorem dX12_init_184 : decode cX12_init 184 = .ok (.newarray .long, 2) := by decide +kernel
theorem dX12_init_186 : decode cX12_init 186 = .ok (.putfield 81, 3) := by decide +kernel
theorem dX12_init_189 : decode cX12_init 189 = .ok (.aload_n 0, 1) := by decide +kernel
theorem dX12_init_190 : decode cX12_init 190 = .ok (.bipush 24, 2) := by decide +kernel
theorem dX12_init_192 : decode cX12_init 192 = .ok (.newarray .boolean, 2) := by decide +kernel
theorem dX12_init_194 : decode cX12_init 194 = .ok (.putfield 84, 3) := by decide +kernel
theorem dX12_init_197 : decode cX12_init 197 = .ok (.aload_n 0, 1) := by decide +kernel
theorem dX12_init_198 : decode cX12_init 198 = .ok (.sipush 282, 3) := by decide +kernel
theorem dX12_init_201 : decode cX12_init 201 = .ok (.newarray .int, 2) := by decide +kernel
theorem dX12_init_203 : decode cX12_init 203 = .ok (.putfield 87, 3) := by decide +kernel
theorem dX12_init_206 : decode cX12_init 206 = .ok (.aload_n 0, 1) := by decide +kernel
theorem dX12_init_207 : decode cX12_init 207 = .ok (.bipush 6, 2) := by decide +kernel
theorem dX12_init_209 : decode cX12_init 209 = .ok (.newarray .float, 2) := by decide +kernel
theorem dX12_init_211 : decode cX12_init 211 = .ok (.putfield 90, 3) := by decide +kernel
theorem dX12_init_214 : decode cX12_init 214 = .ok (.aload_n 0, 1) := by decide +kernel
theorem dX12_init_215 : decode cX12_init 215 = .ok (.bipush 80, 2) := by decide +kernel
theorem dX12_init_217 : decode cX12_init 217 = .ok (.newarray .char, 2) := by decide +kernel
theorem dX12_init_219 : decode cX12_init 219 = .ok (.putfield 93, 3) := by decide +kernel
theorem dX12_init_222 : decode cX12_init 222 = .ok (.return_, 1) := by decide +kernel
theorem dX12_thrown_0 : decode cX12_thrown 0 = .ok (.aload_n 0, 1) := by decide +kernel
theorem dX12_thrown_1 : decode cX12_thrown 1 = .ok (.getfield 96, 3) := by decide +kernel
theorem dX12_thrown_4 : decode cX12_thrown 4 = .ok (.ireturn, 1) := by decide +kernel
theorem dX12_in_0 : decode cX12_in 0 = .ok (.lload_n 0, 1) := by decide +kernel
theorem dX12_in_1 : decode cX12_in 1 = .ok (.lload_n 2, 1) := by decide +kernel
theorem dX12_in_2 : decode cX12_in 2 = .ok (.lcmp, 1) := by decide +kernel
theorem dX12_in_3 : decode cX12_in 3 = .ok (.ifCond .lt 14, 3) := by decide +kernel
theorem dX12_in_6 : decode cX12_in 6 = .ok (.lload_n 0, 1) := by decide +kernel
theorem dX12_in_7 : decode cX12_in 7 = .ok (.lload 4, 2) := by decide +kernel
theorem dX12_in_9 : decode cX12_in 9 = .ok (.lcmp, 1) := by decide +kernel
theorem dX12_in_10 : decode cX12_in 10 = .ok (.ifCond .gt 7, 3) := by decide +kernel
theorem dX12_in_13 : decode cX12_in 13 = .ok (.iconst 1, 1) := by decide +kernel
theorem dX12_in_14 : decode cX12_in 14 = .ok (.goto 4, 3) := by decide +kernel
theorem dX12_in_17 : decode cX12_in 17 = .ok (.iconst 0, 1) := by decide +kernel
theorem dX12_in_18 : decode cX12_in 18 = .ok (.ireturn, 1) := by decide +kernel
theorem dX12_keep_0 : decode cX12_keep 0 = .ok (.aload_n 0, 1) := by decide +kernel
theorem dX12_keep_1 : decode cX12_keep 1 = .ok (.iconst 0, 1) := by decide +kernel
theorem dX12_keep_2 : decode cX12_keep 2 = .ok (.putfield 96, 3) := by decide +kernel
theorem dX12_keep_5 : decode cX12_keep 5 = .ok (.aload_n 0, 1) := by decide +kernel
theorem dX12_keep_6 : decode cX12_keep 6 = .ok (.getfield 9, 3) := by decide +kernel
theorem dX12_keep_9 : decode cX12_keep 9 = .ok (.iconst 0, 1) := by decide +kernel
theorem dX12_keep_10 : decode cX12_keep 10 = .ok (.aload_n 0, 1) := by decide +kernel
theorem dX12_keep_11 : decode cX12_keep 11 = .ok (.getfield 17, 3) := by decide +kernel
theorem dX12_keep_14 : decode cX12_keep 14 = .ok (.iconst 0, 1) := by decide +kernel
theorem dX12_keep_15 : decode cX12_keep 15 = .ok (.sipush 282, 3) := by decide +kernel
theorem dX12_keep_18 : decode cX12_keep 18 = .ok (.invokestatic 99, 3) := by decide +kernel
theorem dX12_keep_21 : decode cX12_keep 21 = .ok (.aload_n 0, 1) := by decide +kernel
theorem dX12_keep_22 : decode cX12_keep 22 = .ok (.getfield 13, 3) := by decide +kernel
theorem dX12_keep_25 : decode cX12_keep 25 = .ok (.iconst 0, 1) := by decide +kernel
theorem dX12_keep_26 : decode cX12_keep 26 = .ok (.aload_n 0, 1) := by decide +kernel
theorem dX12_keep_27 : decode cX12_keep 27 = .ok (.getfield 20, 3) := by decide +kernel
theorem dX12_keep_30 : decode cX12_keep 30 = .ok (.iconst 0, 1) := by decide +kernel
theorem dX12_keep_31 : decode cX12_keep 31 = .ok (.bipush 6, 2) := by decide +kernel
theorem dX12_keep_33 : decode cX12_keep 33 = .ok (.invokestatic 99, 3) := by decide +kernel
theorem dX12_keep_36 : decode cX12_keep 36 = .ok (.return_, 1) := by decide +kernel
theorem dX12_ends_0 : decode cX12_ends 0 = .ok (.aload_n 0, 1) := by decide +kernel
theorem dX12_ends_1 : decode cX12_ends 1 = .ok (.getfield 96, 3) := by decide +kernel
theorem dX12_ends_4 : decode cX12_ends 4 = .ok (.ifCond .le 36, 3) := by decide +kernel
theorem dX12_ends_7 : decode cX12_ends 7 = .ok (.aload_n 0, 1) := by decide +kernel
theorem dX12_ends_8 : decode cX12_ends 8 = .ok (.getfield 17, 3) := by decide +kernel
theorem dX12_ends_11 : decode cX12_ends 11 = .ok (.iconst 0, 1) := by decide +kernel
theorem dX12_ends_12 : decode cX12_ends 12 = .ok (.aload_n 0, 1) := by decide +kernel
theorem dX12_ends_13 : decode cX12_ends 13 = .ok (.getfield 9, 3) := by decide +kernel
theorem dX12_ends_16 : decode cX12_ends 16 = .ok (.iconst 0, 1) := by decide +kernel
theorem dX12_ends_17 : decode cX12_ends 17 = .ok (.sipush 282, 3) := by decide +kernel
theorem dX12_ends_20 : decode cX12_ends 20 = .ok (.invokestatic 99, 3) := by decide +kernel
theorem dX12_ends_23 : decode cX12_ends 23 = .ok (.aload_n 0, 1) := by decide +kernel
theorem dX12_ends_24 : decode cX12_ends 24 = .ok (.getfield 20, 3) := by decide +kernel
theorem dX12_ends_27 : decode cX12_ends 27 = .ok (.iconst 0, 1) := by decide +kernel
theorem dX12_ends_28 : decode cX12_ends 28 = .ok (.aload_n 0, 1) := by decide +kernel
theorem dX12_ends_29 : decode cX12_ends 29 = .ok (.getfield 13, 3) := by decide +kernel
theorem dX12_ends_32 : decode cX12_ends 32 = .ok (.iconst 0, 1) := by decide +kernel
theorem dX12_ends_33 : decode cX12_ends 33 = .ok (.bipush 6, 2) := by decide +kernel
theorem dX12_ends_35 : decode cX12_ends 35 = .ok (.invokestatic 99, 3) := by decide +kernel
theorem dX12_ends_38 : decode cX12_ends 38 = .ok (.iconst 0, 1) := by decide +kernel
theorem dX12_ends_39 : decode cX12_ends 39 = .ok (.ireturn, 1) := by decide +kernel
theorem dX12_ends_40 : decode cX12_ends 40 = .ok (.aload_n 0, 1) := by decide +kernel
theorem dX12_ends_41 : decode cX12_ends 41 = .ok (.getfield 105, 3) := by decide +kernel
theorem dX12_ends_44 : decode cX12_ends 44 = .ok (.bipush 6, 2) := by decide +kernel
theorem dX12_ends_46 : decode cX12_ends 46 = .ok (.if_icmp .ne 47, 3) := by decide +kernel
theorem dX12_ends_49 : decode cX12_ends 49 = .ok (.aload_n 0, 1) := by decide +kernel
theorem dX12_ends_50 : decode cX12_ends 50 = .ok (.getfield 35, 3) := by decide +kernel
theorem dX12_ends_53 : decode cX12_ends 53 = .ok (.sipush 282, 3) := by decide +kernel
theorem dX12_ends_56 : decode cX12_ends 56 = .ok (.aload_n 0, 1) := by decide +kernel
theorem dX12_ends_57 : decode cX12_ends 57 = .ok (.getfield 35, 3) := by decide +kernel
theorem dX12_ends_60 : decode cX12_ends 60 = .ok (.iconst 0, 1) := by decide +kernel
theorem dX12_ends_61 : decode cX12_ends 61 = .ok (.sipush 1410, 3) := by decide +kernel
theorem dX12_ends_64 : decode cX12_ends 64 = .ok (.invokestatic 99, 3) := by decide +kernel
theorem dX12_ends_67 : decode cX12_ends 67 = .ok (.aload_n 0, 1) := by decide +kernel
theorem dX12_ends_68 : decode cX12_ends 68 = .ok (.getfield 38, 3) := by decide +kernel
theorem dX12_ends_71 : decode cX12_ends 71 = .ok (.bipush 6, 2) := by decide +kernel
theorem dX12_ends_73 : decode cX12_ends 73 = .ok (.aload_n 0, 1) := by decide +kernel
theorem dX12_ends_74 : decode cX12_ends 74 = .ok (.getfield 38, 3) := by decide +kernel
theorem dX12_ends_77 : decode cX12_ends 77 = .ok (.iconst 0, 1) := by decide +kernel
theorem dX12_ends_78 : decode cX12_ends 78 = .ok (.bipush 30, 2) := by decide +kernel
theorem dX12_ends_80 : decode cX12_ends 80 = .ok (.invokestatic 99, 3) := by decide +kernel
theorem dX12_ends_83 : decode cX12_ends 83 = .ok (.aload_n 0, 1) := by decide +kernel
theorem dX12_ends_84 : decode cX12_ends 84 = .ok (.dup, 1) := by decide +kernel
theorem dX12_ends_85 : decode cX12_ends 85 = .ok (.getfield 105, 3) := by decide +kernel
theorem dX12_ends_88 : decode cX12_ends 88 = .ok (.iconst 1, 1) := by decide +kernel
theorem dX12_ends_89 : decode cX12_ends 89 = .ok (.isub, 1) := by decide +kernel
theorem dX12_ends_90 : decode cX12_ends 90 = .ok (.putfield 105, 3) := by decide +kernel
theorem dX12_ends_93 : decode cX12_ends 93 = .ok (.aload_n 0, 1) := by decide +kernel
theorem dX12_ends_94 : decode cX12_ends 94 = .ok (.getfield 17, 3) := by decide +kernel
theorem dX12_ends_97 : decode cX12_ends 97 = .ok (.iconst 0, 1) := by decide +kernel
theorem dX12_ends_98 : decode cX12_ends 98 = .ok (.aload_n 0, 1) := by decide +kernel
theorem dX12_ends_99 : decode cX12_ends 99 = .ok (.getfield 35, 3) := by decide +kernel
theorem dX12_ends_102 : decode cX12_ends 102 = .ok (.sipush 282, 3) := by decide +kernel
theorem dX12_ends_105 : decode cX12_ends 105 = .ok (.aload_n 0, 1) := by decide +kernel
theorem dX12_ends_106 : decode cX12_ends 106 = .ok (.getfield 105, 3) := by decide +kernel
theorem dX12_ends_109 : decode cX12_ends 109 = .ok (.imul, 1) := by decide +kernel
theorem dX12_ends_110 : decode cX12_ends 110 = .ok (.sipush 282, 3) := by decide +kernel
theorem dX12_ends_113 : decode cX12_ends 113 = .ok (.invokestatic 99, 3) := by decide +kernel
theorem dX12_ends_116 : decode cX12_ends 116 = .ok (.aload_n 0, 1) := by decide +kernel
theorem dX12_ends_117 : decode cX12_ends 117 = .ok (.getfield 20, 3) := by decide +kernel
theorem dX12_ends_120 : decode cX12_ends 120 = .ok (.iconst 0, 1) := by decide +kernel
theorem dX12_ends_121 : decode cX12_ends 121 = .ok (.aload_n 0, 1) := by decide +kernel
theorem dX12_ends_122 : decode cX12_ends 122 = .ok (.getfield 38, 3) := by decide +kernel
theorem dX12_ends_125 : decode cX12_ends 125 = .ok (.bipush 6, 2) := by decide +kernel
theorem dX12_ends_127 : decode cX12_ends 127 = .ok (.aload_n 0, 1) := by decide +kernel
theorem dX12_ends_128 : decode cX12_ends 128 = .ok (.getfield 105, 3) := by decide +kernel
theorem dX12_ends_131 : decode cX12_ends 131 = .ok (.imul, 1) := by decide +kernel
theorem dX12_ends_132 : decode cX12_ends 132 = .ok (.bipush 6, 2) := by decide +kernel
theorem dX12_ends_134 : decode cX12_ends 134 = .ok (.invokestatic 99, 3) := by decide +kernel
theorem dX12_ends_137 : decode cX12_ends 137 = .ok (.aload_n 0, 1) := by decide +kernel
theorem dX12_ends_138 : decode cX12_ends 138 = .ok (.dup, 1) := by decide +kernel
theorem dX12_ends_139 : decode cX12_ends 139 = .ok (.getfield 105, 3) := by decide +kernel
theorem dX12_ends_142 : decode cX12_ends 142 = .ok (.iconst 1, 1) := by decide +kernel
theorem dX12_ends_143 : decode cX12_ends 143 = .ok (.iadd, 1) := by decide +kernel
theorem dX12_ends_144 : decode cX12_ends 144 = .ok (.putfield 105, 3) := by decide +kernel
theorem dX12_ends_147 : decode cX12_ends 147 = .ok (.iload_n 1, 1) := by decide +kernel
theorem dX12_ends_148 : decode cX12_ends 148 = .ok (.ireturn, 1) := by decide +kernel
theorem dX12_fails_0 : decode cX12_fails 0 = .ok (.aload_n 0, 1) := by decide +kernel
theorem dX12_fails_1 : decode cX12_fails 1 = .ok (.iload_n 1, 1) := by decide +kernel
theorem dX12_fails_2 : decode cX12_fails 2 = .ok (.putfield 96, 3) := by decide +kernel
theorem dX12_fails_5 : decode cX12_fails 5 = .ok (.iconst 0, 1) := by decide +kernel
theorem dX12_fails_6 : decode cX12_fails 6 = .ok (.ireturn, 1) := by decide +kernel
theorem dX12_refuseFor_0 : decode cX12_refuseFor 0 = .ok (.aload_n 0, 1) := by decide +kernel
theorem dX12_refuseFor_1 : decode cX12_refuseFor 1 = .ok (.iload_n 1, 1) := by decide +kernel
theorem dX12_refuseFor_2 : decode cX12_refuseFor 2 = .ok (.putfield 96, 3) := by decide +kernel
theorem dX12_refuseFor_5 : decode cX12_refuseFor 5 = .ok (.aload_n 0, 1) := by decide +kernel
theorem dX12_refuseFor_6 : decode cX12_refuseFor 6 = .ok (.getfield 41, 3) := by decide +kernel
theorem dX12_refuseFor_9 : decode cX12_refuseFor 9 = .ok (.iconst 0, 1) := by decide +kernel
theorem dX12_refuseFor_10 : decode cX12_refuseFor 10 = .ok (.iload_n 2, 1) := by decide +kernel
theorem dX12_refuseFor_11 : decode cX12_refuseFor 11 = .ok (.iastore, 1) := by decide +kernel
theorem dX12_refuseFor_12 : decode cX12_refuseFor 12 = .ok (.aload_n 0, 1) := by decide +kernel
theorem dX12_refuseFor_13 : decode cX12_refuseFor 13 = .ok (.getfield 41, 3) := by decide +kernel
theorem dX12_refuseFor_16 : decode cX12_refuseFor 16 = .ok (.iconst 1, 1) := by decide +kernel
theorem dX12_refuseFor_17 : decode cX12_refuseFor 17 = .ok (.iload_n 3, 1) := by decide +kernel
theorem dX12_refuseFor_18 : decode cX12_refuseFor 18 = .ok (.iastore, 1) := by decide +kernel
theorem dX12_refuseFor_19 : decode cX12_refuseFor 19 = .ok (.aload_n 0, 1) := by decide +kernel
theorem dX12_refuseFor_20 : decode cX12_refuseFor 20 = .ok (.getfield 41, 3) := by decide +kernel
theorem dX12_refuseFor_23 : decode cX12_refuseFor 23 = .ok (.iconst 2, 1) := by decide +kernel
theorem dX12_refuseFor_24 : decode cX12_refuseFor 24 = .ok (.iload 4, 2) := by decide +kernel
theorem dX12_refuseFor_26 : decode cX12_refuseFor 26 = .ok (.iastore, 1) := by decide +kernel
theorem dX12_refuseFor_27 : decode cX12_refuseFor 27 = .ok (.aload_n 0, 1) := by decide +kernel
theorem dX12_refuseFor_28 : decode cX12_refuseFor 28 = .ok (.getfield 41, 3) := by decide +kernel
theorem dX12_refuseFor_31 : decode cX12_refuseFor 31 = .ok (.iconst 3, 1) := by decide +kernel
theorem dX12_refuseFor_32 : decode cX12_refuseFor 32 = .ok (.iload 5, 2) := by decide +kernel
theorem dX12_refuseFor_34 : decode cX12_refuseFor 34 = .ok (.iastore, 1) := by decide +kernel
theorem dX12_refuseFor_35 : decode cX12_refuseFor 35 = .ok (.iconst 0, 1) := by decide +kernel
theorem dX12_refuseFor_36 : decode cX12_refuseFor 36 = .ok (.ireturn, 1) := by decide +kernel
theorem dX12_refuse_0 : decode cX12_refuse 0 = .ok (.aload_n 0, 1) := by decide +kernel
theorem dX12_refuse_1 : decode cX12_refuse 1 = .ok (.iload_n 1, 1) := by decide +kernel
theorem dX12_refuse_2 : decode cX12_refuse 2 = .ok (.iload_n 2, 1) := by decide +kernel
theorem dX12_refuse_3 : decode cX12_refuse 3 = .ok (.iload_n 3, 1) := by decide +kernel
theorem dX12_refuse_4 : decode cX12_refuse 4 = .ok (.iconst 0, 1) := by decide +kernel
theorem dX12_refuse_5 : decode cX12_refuse 5 = .ok (.iconst 0, 1) := by decide +kernel
theorem dX12_refuse_6 : decode cX12_refuse 6 = .ok (.invokevirtual 108, 3) := by decide +kernel
theorem dX12_refuse_9 : decode cX12_refuse 9 = .ok (.ireturn, 1) := by decide +kernel
theorem dX12_reason_0 : decode cX12_reason 0 = .ok (.iload_n 1, 1) := by decide +kernel
theorem dX12_reason_1 : decode cX12_reason 1 = .ok (.ifCond .eq 7, 3) := by decide +kernel
theorem dX12_reason_4 : decode cX12_reason 4 = .ok (.iconst 2, 1) := by decide +kernel
theorem dX12_reason_5 : decode cX12_reason 5 = .ok (.goto 4, 3) := by decide +kernel
theorem dX12_reason_8 : decode cX12_reason 8 = .ok (.iconst 0, 1) := by decide +kernel
theorem dX12_reason_9 : decode cX12_reason 9 = .ok (.istore_n 3, 1) := by decide +kernel
theorem dX12_reason_10 : decode cX12_reason 10 = .ok (.aload_n 0, 1) := by decide +kernel
theorem dX12_reason_11 : decode cX12_reason 11 = .ok (.aload_n 0, 1) := by decide +kernel
theorem dX12_reason_12 : decode cX12_reason 12 = .ok (.getfield 41, 3) := by decide +kernel
theorem dX12_reason_15 : decode cX12_reason 15 = .ok (.iload_n 3, 1) := by decide +kernel
theorem dX12_reason_16 : decode cX12_reason 16 = .ok (.iaload, 1) := by decide +kernel
theorem dX12_reason_17 : decode cX12_reason 17 = .ok (.ifCond .ne 7, 3) := by decide +kernel
theorem dX12_reason_20 : decode cX12_reason 20 = .ok (.iconst 1, 1) := by decide +kernel
theorem dX12_reason_21 : decode cX12_reason 21 = .ok (.goto 4, 3) := by decide +kernel
theorem dX12_reason_24 : decode cX12_reason 24 = .ok (.iconst 0, 1) := by decide +kernel
theorem dX12_reason_25 : decode cX12_reason 25 = .ok (.putfield 96, 3) := by decide +kernel
theorem dX12_reason_28 : decode cX12_reason 28 = .ok (.aload_n 0, 1) := by decide +kernel
theorem dX12_reason_29 : decode cX12_reason 29 = .ok (.getfield 96, 3) := by decide +kernel
theorem dX12_reason_32 : decode cX12_reason 32 = .ok (.ifCond .le 7, 3) := by decide +kernel
theorem dX12_reason_35 : decode cX12_reason 35 = .ok (.iconst 0, 1) := by decide +kernel
theorem dX12_reason_36 : decode cX12_reason 36 = .ok (.goto 19, 3) := by decide +kernel
theorem dX12_reason_39 : decode cX12_reason 39 = .ok (.aload_n 0, 1) := by decide +kernel
theorem dX12_reason_40 : decode cX12_reason 40 = .ok (.getfield 41, 3) := by decide +kernel
theorem dX12_reason_43 : decode cX12_reason 43 = .ok (.iload_n 3, 1) := by decide +kernel
theorem dX12_reason_44 : decode cX12_reason 44 = .ok (.iload_n 2, 1) := by decide +kernel
theorem dX12_reason_45 : decode cX12_reason 45 = .ok (.ifCond .eq 7, 3) := by decide +kernel
theorem dX12_reason_48 : decode cX12_reason 48 = .ok (.iconst 1, 1) := by decide +kernel
theorem dX12_reason_49 : decode cX12_reason 49 = .ok (.goto 4, 3) := by decide +kernel
theorem dX12_reason_52 : decode cX12_reason 52 = .ok (.iconst 0, 1) := by decide +kernel
theorem dX12_reason_53 : decode cX12_reason 53 = .ok (.iadd, 1) := by decide +kernel
theorem dX12_reason_54 : decode cX12_reason 54 = .ok (.iaload, 1) := by decide +kernel
theorem dX12_reason_55 : decode cX12_reason 55 = .ok (.ireturn, 1) := by decide +kernel
theorem dX12_isCauldron_0 : decode cX12_isCauldron 0 = .ok (.iload_n 1, 1) := by decide +kernel
theorem dX12_isCauldron_1 : decode cX12_isCauldron 1 = .ok (.i2l, 1) := by decide +kernel
theorem dX12_isCauldron_2 : decode cX12_isCauldron 2 = .ok (.lconst 0, 1) := by decide +kernel
theorem dX12_isCauldron_3 : decode cX12_isCauldron 3 = .ok (.aload_n 0, 1) := by decide +kernel
theorem dX12_isCauldron_4 : decode cX12_isCauldron 4 = .ok (.getfield 9, 3) := by decide +kernel
theorem dX12_isCauldron_7 : decode cX12_isCauldron 7 = .ok (.iconst 0, 1) := by decide +kernel
theorem dX12_isCauldron_8 : decode cX12_isCauldron 8 = .ok (.iaload, 1) := by decide +kernel
theorem dX12_isCauldron_9 : decode cX12_isCauldron 9 = .ok (.iconst 1, 1) := by decide +kernel
theorem dX12_isCauldron_10 : decode cX12_isCauldron 10 = .ok (.isub, 1) := by decide +kernel
theorem dX12_isCauldron_11 : decode cX12_isCauldron 11 = .ok (.i2l, 1) := by decide +kernel
theorem dX12_isCauldron_12 : decode cX12_isCauldron 12 = .ok (.invokestatic 112, 3) := by decide +kernel
theorem dX12_isCauldron_15 : decode cX12_isCauldron 15 = .ok (.ireturn, 1) := by decide +kernel
theorem dX12_isSpell_0 : decode cX12_isSpell 0 = .ok (.iload_n 1, 1) := by decide +kernel
theorem dX12_isSpell_1 : decode cX12_isSpell 1 = .ok (.i2l, 1) := by decide +kernel
theorem dX12_isSpell_2 : decode cX12_isSpell 2 = .ok (.lconst 0, 1) := by decide +kernel
theorem dX12_isSpell_3 : decode cX12_isSpell 3 = .ok (.aload_n 0, 1) := by decide +kernel
theorem dX12_isSpell_4 : decode cX12_isSpell 4 = .ok (.getfield 9, 3) := by decide +kernel
theorem dX12_isSpell_7 : decode cX12_isSpell 7 = .ok (.iconst 1, 1) := by decide +kernel
theorem dX12_isSpell_8 : decode cX12_isSpell 8 = .ok (.iaload, 1) := by decide +kernel
theorem dX12_isSpell_9 : decode cX12_isSpell 9 = .ok (.iconst 1, 1) := by decide +kernel
theorem dX12_isSpell_10 : decode cX12_isSpell 10 = .ok (.isub, 1) := by decide +kernel
theorem dX12_isSpell_11 : decode cX12_isSpell 11 = .ok (.i2l, 1) := by decide +kernel
theorem dX12_isSpell_12 : decode cX12_isSpell 12 = .ok (.invokestatic 112, 3) := by decide +kernel
theorem dX12_isSpell_15 : decode cX12_isSpell 15 = .ok (.ireturn, 1) := by decide +kernel
theorem dX12_of_0 : decode cX12_of 0 = .ok (.aload_n 0, 1) := by decide +kernel
theorem dX12_of_1 : decode cX12_of 1 = .ok (.getfield 9, 3) := by decide +kernel
theorem dX12_of_4 : decode cX12_of 4 = .ok (.iconst 4, 1) := by decide +kernel
theorem dX12_of_5 : decode cX12_of 5 = .ok (.iconst 5, 1) := by decide +kernel
theorem dX12_of_6 : decode cX12_of 6 = .ok (.iload_n 1, 1) := by decide +kernel
theorem dX12_of_7 : decode cX12_of 7 = .ok (.imul, 1) := by decide +kernel
theorem dX12_of_8 : decode cX12_of 8 = .ok (.iadd, 1) := by decide +kernel
theorem dX12_of_9 : decode cX12_of 9 = .ok (.iload_n 2, 1) := by decide +kernel
theorem dX12_of_10 : decode cX12_of 10 = .ok (.iadd, 1) := by decide +kernel
theorem dX12_of_11 : decode cX12_of 11 = .ok (.iaload, 1) := by decide +kernel
theorem dX12_of_12 : decode cX12_of 12 = .ok (.ireturn, 1) := by decide +kernel
theorem dX12_sets_0 : decode cX12_sets 0 = .ok (.aload_n 0, 1) := by decide +kernel
theorem dX12_sets_1 : decode cX12_sets 1 = .ok (.getfield 9, 3) := by decide +kernel
theorem dX12_sets_4 : decode cX12_sets 4 = .ok (.iconst 4, 1) := by decide +kernel
theorem dX12_sets_5 : decode cX12_sets 5 = .ok (.iconst 5, 1) := by decide +kernel
theorem dX12_sets_6 : decode cX12_sets 6 = .ok (.iload_n 1, 1) := by decide +kernel
theorem dX12_sets_7 : decode cX12_sets 7 = .ok (.imul, 1) := by decide +kernel
theorem dX12_sets_8 : decode cX12_sets 8 = .ok (.iadd, 1) := by decide +kernel
theorem dX12_sets_9 : decode cX12_sets 9 = .ok (.iload_n 2, 1) := by decide +kernel
theorem dX12_sets_10 : decode cX12_sets 10 = .ok (.iadd, 1) := by decide +kernel
theorem dX12_sets_11 : decode cX12_sets 11 = .ok (.iload_n 3, 1) := by decide +kernel
theorem dX12_sets_12 : decode cX12_sets 12 = .ok (.iastore, 1) := by decide +kernel
theorem dX12_sets_13 : decode cX12_sets 13 = .ok (.return_, 1) := by decide +kernel
theorem dX12_isBroth_0 : decode cX12_isBroth 0 = .ok (.aload_n 0, 1) := by decide +kernel
theorem dX12_isBroth_1 : decode cX12_isBroth 1 = .ok (.iload_n 1, 1) := by decide +kernel
theorem dX12_isBroth_2 : decode cX12_isBroth 2 = .ok (.iconst 0, 1) := by decide +kernel
theorem dX12_isBroth_3 : decode cX12_isBroth 3 = .ok (.invokevirtual 116, 3) := by decide +kernel
theorem dX12_isBroth_6 : decode cX12_isBroth 6 = .ok (.iconst 1, 1) := by decide +kernel
theorem dX12_isBroth_7 : decode cX12_isBroth 7 = .ok (.if_icmp .ne 7, 3) := by decide +kernel
theorem dX12_isBroth_10 : decode cX12_isBroth 10 = .ok (.iconst 1, 1) := by decide +kernel
theorem dX12_isBroth_11 : decode cX12_isBroth 11 = .ok (.goto 4, 3) := by decide +kernel
theorem dX12_isBroth_14 : decode cX12_isBroth 14 = .ok (.iconst 0, 1) := by decide +kernel
theorem dX12_isBroth_15 : decode cX12_isBroth 15 = .ok (.ireturn, 1) := by decide +kernel
theorem dX12_areBounds_0 : decode cX12_areBounds 0 = .ok (.iload_n 0, 1) := by decide +kernel
theorem dX12_areBounds_1 : decode cX12_areBounds 1 = .ok (.i2l, 1) := by decide +kernel
theorem dX12_areBounds_2 : decode cX12_areBounds 2 = .ok (.ldc2_w 120, 3) := by decide +kernel
theorem dX12_areBounds_5 : decode cX12_areBounds 5 = .ok (.iload_n 1, 1) := by decide +kernel
theorem dX12_areBounds_6 : decode cX12_areBounds 6 = .ok (.i2l, 1) := by decide +kernel
theorem dX12_areBounds_7 : decode cX12_areBounds 7 = .ok (.invokestatic 112, 3) := by decide +kernel
theorem dX12_areBounds_10 : decode cX12_areBounds 10 = .ok (.ifCond .eq 13, 3) := by decide +kernel
theorem dX12_areBounds_13 : decode cX12_areBounds 13 = .ok (.iload_n 1, 1) := by decide +kernel
theorem dX12_areBounds_14 : decode cX12_areBounds 14 = .ok (.bipush 99, 2) := by decide +kernel
theorem dX12_areBounds_16 : decode cX12_areBounds 16 = .ok (.if_icmp .gt 7, 3) := by decide +kernel
theorem dX12_areBounds_19 : decode cX12_areBounds 19 = .ok (.iconst 1, 1) := by decide +kernel
theorem dX12_areBounds_20 : decode cX12_areBounds 20 = .ok (.goto 4, 3) := by decide +kernel
theorem dX12_areBounds_23 : decode cX12_areBounds 23 = .ok (.iconst 0, 1) := by decide +kernel
theorem dX12_areBounds_24 : decode cX12_areBounds 24 = .ok (.ireturn, 1) := by decide +kernel
theorem dX12_comes_0 : decode cX12_comes 0 = .ok (.aload_n 0, 1) := by decide +kernel
theorem dX12_comes_1 : decode cX12_comes 1 = .ok (.getfield 9, 3) := by decide +kernel
theorem dX12_comes_4 : decode cX12_comes 4 = .ok (.iconst 0, 1) := by decide +kernel
theorem dX12_comes_5 : decode cX12_comes 5 = .ok (.iaload, 1) := by decide +kernel
theorem dX12_comes_6 : decode cX12_comes 6 = .ok (.istore 5, 2) := by decide +kernel
theorem dX12_comes_8 : decode cX12_comes 8 = .ok (.iload 5, 2) := by decide +kernel
theorem dX12_comes_10 : decode cX12_comes 10 = .ok (.bipush 6, 2) := by decide +kernel
theorem dX12_comes_12 : decode cX12_comes 12 = .ok (.if_icmp .ne 13, 3) := by decide +kernel
theorem dX12_comes_15 : decode cX12_comes 15 = .ok (.aload_n 0, 1) := by decide +kernel
theorem dX12_comes_16 : decode cX12_comes 16 = .ok (.iload 4, 2) := by decide +kernel
theorem dX12_comes_18 : decode cX12_comes 18 = .ok (.iconst 1, 1) := by decide +kernel
theorem dX12_comes_19 : decode cX12_comes 19 = .ok (.bipush 6, 2) := by decide +kernel
theorem dX12_comes_21 : decode cX12_comes 21 = .ok (.invokevirtual 122, 3) := by decide +kernel
theorem dX12_comes_24 : decode cX12_comes 24 = .ok (.ireturn, 1) := by decide +kernel
theorem dX12_comes_25 : decode cX12_comes 25 = .ok (.aload_n 0, 1) := by decide +kernel
theorem dX12_comes_26 : decode cX12_comes 26 = .ok (.iload 5, 2) := by decide +kernel
theorem dX12_comes_28 : decode cX12_comes 28 = .ok (.iconst 0, 1) := by decide +kernel
theorem dX12_comes_29 : decode cX12_comes 29 = .ok (.iload_n 1, 1) := by decide +kernel
theorem dX12_comes_30 : decode cX12_comes 30 = .ok (.invokevirtual 126, 3) := by decide +kernel
theorem dX12_comes_33 : decode cX12_comes 33 = .ok (.aload_n 0, 1) := by decide +kernel
theorem dX12_comes_34 : decode cX12_comes 34 = .ok (.iload 5, 2) := by decide +kernel
theorem dX12_comes_36 : decode cX12_comes 36 = .ok (.iconst 1, 1) := by decide +kernel
theorem dX12_comes_37 : decode cX12_comes 37 = .ok (.iload_n 2, 1) := by decide +kernel
theorem dX12_comes_38 : decode cX12_comes 38 = .ok (.invokevirtual 126, 3) := by decide +kernel
theorem dX12_comes_41 : decode cX12_comes 41 = .ok (.aload_n 0, 1) := by decide +kernel
theorem dX12_comes_42 : decode cX12_comes 42 = .ok (.iload 5, 2) := by decide +kernel
theorem dX12_comes_44 : decode cX12_comes 44 = .ok (.iconst 2, 1) := by decide +kernel
theorem dX12_comes_45 : decode cX12_comes 45 = .ok (.iload_n 3, 1) := by decide +kernel
theorem dX12_comes_46 : decode cX12_comes 46 = .ok (.invokevirtual 126, 3) := by decide +kernel
theorem dX12_comes_49 : decode cX12_comes 49 = .ok (.aload_n 0, 1) := by decide +kernel
theorem dX12_comes_50 : decode cX12_comes 50 = .ok (.iload 5, 2) := by decide +kernel
theorem dX12_comes_52 : decode cX12_comes 52 = .ok (.iconst 3, 1) := by decide +kernel
theorem dX12_comes_53 : decode cX12_comes 53 = .ok (.iload_n 1, 1) := by decide +kernel
theorem dX12_comes_54 : decode cX12_comes 54 = .ok (.iconst 1, 1) := by decide +kernel
theorem dX12_comes_55 : decode cX12_comes 55 = .ok (.if_icmp .ne 7, 3) := by decide +kernel
theorem dX12_comes_58 : decode cX12_comes 58 = .ok (.iconst 0, 1) := by decide +kernel
theorem dX12_comes_59 : decode cX12_comes 59 = .ok (.goto 12, 3) := by decide +kernel
theorem dX12_comes_62 : decode cX12_comes 62 = .ok (.iload_n 2, 1) := by decide +kernel
theorem dX12_comes_63 : decode cX12_comes 63 = .ok (.iload_n 3, 1) := by decide +kernel
theorem dX12_comes_64 : decode cX12_comes 64 = .ok (.iconst 0, 1) := by decide +kernel
theorem dX12_comes_65 : decode cX12_comes 65 = .ok (.invokestatic 130, 3) := by decide +kernel
theorem dX12_comes_68 : decode cX12_comes 68 = .ok (.invokestatic 135, 3) := by decide +kernel
theorem dX12_comes_71 : decode cX12_comes 71 = .ok (.invokevirtual 126, 3) := by decide +kernel
theorem dX12_comes_74 : decode cX12_comes 74 = .ok (.aload_n 0, 1) := by decide +kernel
theorem dX12_comes_75 : decode cX12_comes 75 = .ok (.iload 5, 2) := by decide +kernel
theorem dX12_comes_77 : decode cX12_comes 77 = .ok (.iconst 4, 1) := by decide +kernel
theorem dX12_comes_78 : decode cX12_comes 78 = .ok (.iconst 0, 1) := by decide +kernel
theorem dX12_comes_79 : decode cX12_comes 79 = .ok (.invokevirtual 126, 3) := by decide +kernel
theorem dX12_comes_82 : decode cX12_comes 82 = .ok (.aload_n 0, 1) := by decide +kernel
theorem dX12_comes_83 : decode cX12_comes 83 = .ok (.getfield 13, 3) := by decide +kernel
theorem dX12_comes_86 : decode cX12_comes 86 = .ok (.iload 5, 2) := by decide +kernel
theorem dX12_comes_88 : decode cX12_comes 88 = .ok (.fconst 0, 1) := by decide +kernel
theorem dX12_comes_89 : decode cX12_comes 89 = .ok (.fastore, 1) := by decide +kernel
theorem dX12_comes_90 : decode cX12_comes 90 = .ok (.aload_n 0, 1) := by decide +kernel
theorem dX12_comes_91 : decode cX12_comes 91 = .ok (.getfield 9, 3) := by decide +kernel
theorem dX12_comes_94 : decode cX12_comes 94 = .ok (.iconst 0, 1) := by decide +kernel
theorem dX12_comes_95 : decode cX12_comes 95 = .ok (.dup2, 1) := by decide +kernel
theorem dX12_comes_96 : decode cX12_comes 96 = .ok (.iaload, 1) := by decide +kernel
theorem dX12_comes_97 : decode cX12_comes 97 = .ok (.iconst 1, 1) := by decide +kernel
theorem dX12_comes_98 : decode cX12_comes 98 = .ok (.iadd, 1) := by decide +kernel
theorem dX12_comes_99 : decode cX12_comes 99 = .ok (.iastore, 1) := by decide +kernel
theorem dX12_comes_100 : decode cX12_comes 100 = .ok (.iload 5, 2) := by decide +kernel
theorem dX12_comes_102 : decode cX12_comes 102 = .ok (.ireturn, 1) := by decide +kernel
theorem dX12_drams_0 : decode cX12_drams 0 = .ok (.aload_n 0, 1) := by decide +kernel
theorem dX12_drams_1 : decode cX12_drams 1 = .ok (.invokevirtual 138, 3) := by decide +kernel
theorem dX12_drams_4 : decode cX12_drams 4 = .ok (.aload_n 0, 1) := by decide +kernel
theorem dX12_drams_5 : decode cX12_drams 5 = .ok (.iload_n 1, 1) := by decide +kernel
theorem dX12_drams_6 : decode cX12_drams 6 = .ok (.iload_n 2, 1) := by decide +kernel
theorem dX12_drams_7 : decode cX12_drams 7 = .ok (.invokestatic 141, 3) := by decide +kernel
theorem dX12_drams_10 : decode cX12_drams 10 = .ok (.ifCond .eq 14, 3) := by decide +kernel
theorem dX12_drams_13 : decode cX12_drams 13 = .ok (.aload_n 0, 1) := by decide +kernel
theorem dX12_drams_14 : decode cX12_drams 14 = .ok (.iconst 0, 1) := by decide +kernel
theorem dX12_drams_15 : decode cX12_drams 15 = .ok (.iload_n 1, 1) := by decide +kernel
theorem dX12_drams_16 : decode cX12_drams 16 = .ok (.iload_n 2, 1) := by decide +kernel
theorem dX12_drams_17 : decode cX12_drams 17 = .ok (.iconst 2, 1) := by decide +kernel
theorem dX12_drams_18 : decode cX12_drams 18 = .ok (.invokevirtual 145, 3) := by decide +kernel
theorem dX12_drams_21 : decode cX12_drams 21 = .ok (.goto 8, 3) := by decide +kernel
theorem dX12_drams_24 : decode cX12_drams 24 = .ok (.aload_n 0, 1) := by decide +kernel
theorem dX12_drams_25 : decode cX12_drams 25 = .ok (.iconst 1, 1) := by decide +kernel
theorem dX12_drams_26 : decode cX12_drams 26 = .ok (.invokevirtual 149, 3) := by decide +kernel
theorem dX12_drams_29 : decode cX12_drams 29 = .ok (.invokevirtual 153, 3) := by decide +kernel
theorem dX12_drams_32 : decode cX12_drams 32 = .ok (.ireturn, 1) := by decide +kernel
theorem dX12_broth_0 : decode cX12_broth 0 = .ok (.aload_n 0, 1) := by decide +kernel
theorem dX12_broth_1 : decode cX12_broth 1 = .ok (.invokevirtual 138, 3) := by decide +kernel
theorem dX12_broth_4 : decode cX12_broth 4 = .ok (.aload_n 0, 1) := by decide +kernel
theorem dX12_broth_5 : decode cX12_broth 5 = .ok (.aload_n 0, 1) := by decide +kernel
theorem dX12_broth_6 : decode cX12_broth 6 = .ok (.iconst 1, 1) := by decide +kernel
theorem dX12_broth_7 : decode cX12_broth 7 = .ok (.bipush (-99), 2) := by decide +kernel
theorem dX12_broth_9 : decode cX12_broth 9 = .ok (.bipush 99, 2) := by decide +kernel
theorem dX12_broth_11 : decode cX12_broth 11 = .ok (.iconst 1, 1) := by decide +kernel
theorem dX12_broth_12 : decode cX12_broth 12 = .ok (.invokevirtual 145, 3) := by decide +kernel
theorem dX12_broth_15 : decode cX12_broth 15 = .ok (.invokevirtual 153, 3) := by decide +kernel
theorem dX12_broth_18 : decode cX12_broth 18 = .ok (.ireturn, 1) := by decide +kernel
theorem dX12_holds_0 : decode cX12_holds 0 = .ok (.lload_n 2, 1) := by decide +kernel
theorem dX12_holds_1 : decode cX12_holds 1 = .ok (.aload_n 0, 1) := by decide +kernel
theorem dX12_holds_2 : decode cX12_holds 2 = .ok (.iload_n 1, 1) := by decide +kernel
theorem dX12_holds_3 : decode cX12_holds 3 = .ok (.iconst 1, 1) := by decide +kernel
theorem dX12_holds_4 : decode cX12_holds 4 = .ok (.invokevirtual 116, 3) := by decide +kernel
theorem dX12_holds_7 : decode cX12_holds 7 = .ok (.i2l, 1) := by decide +kernel
theorem dX12_holds_8 : decode cX12_holds 8 = .ok (.aload_n 0, 1) := by decide +kernel
theorem dX12_holds_9 : decode cX12_holds 9 = .ok (.iload_n 1, 1) := by decide +kernel
theorem dX12_holds_10 : decode cX12_holds 10 = .ok (.iconst 2, 1) := by decide +kernel
theorem dX12_holds_11 : decode cX12_holds 11 = .ok (.invokevirtual 116, 3) := by decide +kernel
theorem dX12_holds_14 : decode cX12_holds 14 = .ok (.i2l, 1) := by decide +kernel
theorem dX12_holds_15 : decode cX12_holds 15 = .ok (.invokestatic 112, 3) := by decide +kernel
theorem dX12_holds_18 : decode cX12_holds 18 = .ok (.ireturn, 1) := by decide +kernel
theorem dX12_doPour_0 : decode cX12_doPour 0 = .ok (.aload_n 0, 1) := by decide +kernel
theorem dX12_doPour_1 : decode cX12_doPour 1 = .ok (.iload_n 1, 1) := by decide +kernel
theorem dX12_doPour_2 : decode cX12_doPour 2 = .ok (.invokevirtual 156, 3) := by decide +kernel
theorem dX12_doPour_5 : decode cX12_doPour 5 = .ok (.ifCond .ne 9, 3) := by decide +kernel
theorem dX12_doPour_8 : decode cX12_doPour 8 = .ok (.aload_n 0, 1) := by decide +kernel
theorem dX12_doPour_9 : decode cX12_doPour 9 = .ok (.iconst 1, 1) := by decide +kernel
theorem dX12_doPour_10 : decode cX12_doPour 10 = .ok (.invokevirtual 149, 3) := by decide +kernel
theorem dX12_doPour_13 : decode cX12_doPour 13 = .ok (.ireturn, 1) := by decide +kernel
theorem dX12_doPour_14 : decode cX12_doPour 14 = .ok (.aload_n 0, 1) := by decide +kernel
theorem dX12_doPour_15 : decode cX12_doPour 15 = .ok (.iload_n 1, 1) := by decide +kernel
theorem dX12_doPour_16 : decode cX12_doPour 16 = .ok (.invokevirtual 160, 3) := by decide +kernel
theorem dX12_doPour_19 : decode cX12_doPour 19 = .ok (.ifCond .eq 11, 3) := by decide +kernel
theorem dX12_doPour_22 : decode cX12_doPour 22 = .ok (.aload_n 0, 1) := by decide +kernel
theorem dX12_doPour_23 : decode cX12_doPour 23 = .ok (.iconst 2, 1) := by decide +kernel
theorem dX12_doPour_24 : decode cX12_doPour 24 = .ok (.iconst 2, 1) := by decide +kernel
theorem dX12_doPour_25 : decode cX12_doPour 25 = .ok (.iload_n 1, 1) := by decide +kernel
theorem dX12_doPour_26 : decode cX12_doPour 26 = .ok (.invokevirtual 122, 3) := by decide +kernel
theorem dX12_doPour_29 : decode cX12_doPour 29 = .ok (.ireturn, 1) := by decide +kernel
theorem dX12_doPour_30 : decode cX12_doPour 30 = .ok (.aload_n 0, 1) := by decide +kernel
theorem dX12_doPour_31 : decode cX12_doPour 31 = .ok (.iload_n 1, 1) := by decide +kernel
theorem dX12_doPour_32 : decode cX12_doPour 32 = .ok (.iload_n 2, 1) := by decide +kernel
theorem dX12_doPour_33 : decode cX12_doPour 33 = .ok (.i2l, 1) := by decide +kernel
theorem dX12_doPour_34 : decode cX12_doPour 34 = .ok (.invokevirtual 163, 3) := by decide +kernel
theorem dX12_doPour_37 : decode cX12_doPour 37 = .ok (.ifCond .ne 11, 3) := by decide +kernel
theorem dX12_doPour_40 : decode cX12_doPour 40 = .ok (.aload_n 0, 1) := by decide +kernel
theorem dX12_doPour_41 : decode cX12_doPour 41 = .ok (.iconst 2, 1) := by decide +kernel
theorem dX12_doPour_42 : decode cX12_doPour 42 = .ok (.iconst 3, 1) := by decide +kernel
theorem dX12_doPour_43 : decode cX12_doPour 43 = .ok (.iload_n 2, 1) := by decide +kernel
theorem dX12_doPour_44 : decode cX12_doPour 44 = .ok (.invokevirtual 122, 3) := by decide +kernel
theorem dX12_doPour_47 : decode cX12_doPour 47 = .ok (.ireturn, 1) := by decide +kernel
theorem dX12_doPour_48 : decode cX12_doPour 48 = .ok (.aload_n 0, 1) := by decide +kernel
theorem dX12_doPour_49 : decode cX12_doPour 49 = .ok (.iload_n 1, 1) := by decide +kernel
theorem dX12_doPour_50 : decode cX12_doPour 50 = .ok (.iconst 3, 1) := by decide +kernel
theorem dX12_doPour_51 : decode cX12_doPour 51 = .ok (.invokevirtual 116, 3) := by decide +kernel
theorem dX12_doPour_54 : decode cX12_doPour 54 = .ok (.istore_n 3, 1) := by decide +kernel
theorem dX12_doPour_55 : decode cX12_doPour 55 = .ok (.aload_n 0, 1) := by decide +kernel
theorem dX12_doPour_56 : decode cX12_doPour 56 = .ok (.iload_n 1, 1) := by decide +kernel
theorem dX12_doPour_57 : decode cX12_doPour 57 = .ok (.iconst 3, 1) := by decide +kernel
theorem dX12_doPour_58 : decode cX12_doPour 58 = .ok (.iload_n 2, 1) := by decide +kernel
theorem dX12_doPour_59 : decode cX12_doPour 59 = .ok (.invokevirtual 126, 3) := by decide +kernel
theorem dX12_doPour_62 : decode cX12_doPour 62 = .ok (.iload_n 3, 1) := by decide +kernel
theorem dX12_doPour_63 : decode cX12_doPour 63 = .ok (.ireturn, 1) := by decide +kernel
theorem dX12_pour_0 : decode cX12_pour 0 = .ok (.aload_n 0, 1) := by decide +kernel
theorem dX12_pour_1 : decode cX12_pour 1 = .ok (.invokevirtual 138, 3) := by decide +kernel
theorem dX12_pour_4 : decode cX12_pour 4 = .ok (.aload_n 0, 1) := by decide +kernel
theorem dX12_pour_5 : decode cX12_pour 5 = .ok (.aload_n 0, 1) := by decide +kernel
theorem dX12_pour_6 : decode cX12_pour 6 = .ok (.iload_n 1, 1) := by decide +kernel
theorem dX12_pour_7 : decode cX12_pour 7 = .ok (.iload_n 2, 1) := by decide +kernel
theorem dX12_pour_8 : decode cX12_pour 8 = .ok (.invokevirtual 167, 3) := by decide +kernel
theorem dX12_pour_11 : decode cX12_pour 11 = .ok (.invokevirtual 153, 3) := by decide +kernel
theorem dX12_pour_14 : decode cX12_pour 14 = .ok (.ireturn, 1) := by decide +kernel
theorem dX12_doLadle_0 : decode cX12_doLadle 0 = .ok (.aload_n 0, 1) := by decide +kernel
theorem dX12_doLadle_1 : decode cX12_doLadle 1 = .ok (.iload_n 1, 1) := by decide +kernel
theorem dX12_doLadle_2 : decode cX12_doLadle 2 = .ok (.invokevirtual 156, 3) := by decide +kernel
theorem dX12_doLadle_5 : decode cX12_doLadle 5 = .ok (.ifCond .ne 9, 3) := by decide +kernel
theorem dX12_doLadle_8 : decode cX12_doLadle 8 = .ok (.aload_n 0, 1) := by decide +kernel
theorem dX12_doLadle_9 : decode cX12_doLadle 9 = .ok (.iconst 1, 1) := by decide +kernel
theorem dX12_doLadle_10 : decode cX12_doLadle 10 = .ok (.invokevirtual 149, 3) := by decide +kernel
theorem dX12_doLadle_13 : decode cX12_doLadle 13 = .ok (.ireturn, 1) := by decide +kernel
theorem dX12_doLadle_14 : decode cX12_doLadle 14 = .ok (.iload_n 2, 1) := by decide +kernel
theorem dX12_doLadle_15 : decode cX12_doLadle 15 = .ok (.i2l, 1) := by decide +kernel
theorem dX12_doLadle_16 : decode cX12_doLadle 16 = .ok (.ldc2_w 170, 3) := by decide +kernel
theorem dX12_doLadle_19 : decode cX12_doLadle 19 = .ok (.ldc2_w 172, 3) := by decide +kernel
theorem dX12_doLadle_22 : decode cX12_doLadle 22 = .ok (.invokestatic 112, 3) := by decide +kernel
theorem dX12_doLadle_25 : decode cX12_doLadle 25 = .ok (.ifCond .ne 9, 3) := by decide +kernel
theorem dX12_doLadle_28 : decode cX12_doLadle 28 = .ok (.aload_n 0, 1) := by decide +kernel
theorem dX12_doLadle_29 : decode cX12_doLadle 29 = .ok (.iconst 2, 1) := by decide +kernel
theorem dX12_doLadle_30 : decode cX12_doLadle 30 = .ok (.invokevirtual 149, 3) := by decide +kernel
theorem dX12_doLadle_33 : decode cX12_doLadle 33 = .ok (.ireturn, 1) := by decide +kernel
theorem dX12_doLadle_34 : decode cX12_doLadle 34 = .ok (.aload_n 0, 1) := by decide +kernel
theorem dX12_doLadle_35 : decode cX12_doLadle 35 = .ok (.iload_n 1, 1) := by decide +kernel
theorem dX12_doLadle_36 : decode cX12_doLadle 36 = .ok (.invokevirtual 160, 3) := by decide +kernel
theorem dX12_doLadle_39 : decode cX12_doLadle 39 = .ok (.ifCond .ne 11, 3) := by decide +kernel
theorem dX12_doLadle_42 : decode cX12_doLadle 42 = .ok (.aload_n 0, 1) := by decide +kernel
theorem dX12_doLadle_43 : decode cX12_doLadle 43 = .ok (.iconst 3, 1) := by decide +kernel
theorem dX12_doLadle_44 : decode cX12_doLadle 44 = .ok (.iconst 4, 1) := by decide +kernel
theorem dX12_doLadle_45 : decode cX12_doLadle 45 = .ok (.iload_n 1, 1) := by decide +kernel
theorem dX12_doLadle_46 : decode cX12_doLadle 46 = .ok (.invokevirtual 122, 3) := by decide +kernel
theorem dX12_doLadle_49 : decode cX12_doLadle 49 = .ok (.ireturn, 1) := by decide +kernel
theorem dX12_doLadle_50 : decode cX12_doLadle 50 = .ok (.aload_n 0, 1) := by decide +kernel
theorem dX12_doLadle_51 : decode cX12_doLadle 51 = .ok (.getfield 13, 3) := by decide +kernel
theorem dX12_doLadle_54 : decode cX12_doLadle 54 = .ok (.iload_n 1, 1) := by decide +kernel
theorem dX12_doLadle_55 : decode cX12_doLadle 55 = .ok (.faload, 1) := by decide +kernel
theorem dX12_doLadle_56 : decode cX12_doLadle 56 = .ok (.invokestatic 174, 3) := by decide +kernel
theorem dX12_doLadle_59 : decode cX12_doLadle 59 = .ok (.istore_n 3, 1) := by decide +kernel
theorem dX12_doLadle_60 : decode cX12_doLadle 60 = .ok (.aload_n 0, 1) := by decide +kernel
theorem dX12_doLadle_61 : decode cX12_doLadle 61 = .ok (.getfield 13, 3) := by decide +kernel
theorem dX12_doLadle_64 : decode cX12_doLadle 64 = .ok (.iload_n 1, 1) := by decide +kernel
theorem dX12_doLadle_65 : decode cX12_doLadle 65 = .ok (.iload_n 2, 1) := by decide +kernel
theorem dX12_doLadle_66 : decode cX12_doLadle 66 = .ok (.i2f, 1) := by decide +kernel
theorem dX12_doLadle_67 : decode cX12_doLadle 67 = .ok (.ldc 180, 2) := by decide +kernel
theorem dX12_doLadle_69 : decode cX12_doLadle 69 = .ok (.fdiv, 1) := by decide +kernel
theorem dX12_doLadle_70 : decode cX12_doLadle 70 = .ok (.fastore, 1) := by decide +kernel
theorem dX12_doLadle_71 : decode cX12_doLadle 71 = .ok (.iload_n 3, 1) := by decide +kernel
theorem dX12_doLadle_72 : decode cX12_doLadle 72 = .ok (.ireturn, 1) := by decide +kernel
theorem dX12_ladle_0 : decode cX12_ladle 0 = .ok (.aload_n 0, 1) := by decide +kernel
theorem dX12_ladle_1 : decode cX12_ladle 1 = .ok (.invokevirtual 138, 3) := by decide +kernel
theorem dX12_ladle_4 : decode cX12_ladle 4 = .ok (.aload_n 0, 1) := by decide +kernel
theorem dX12_ladle_5 : decode cX12_ladle 5 = .ok (.aload_n 0, 1) := by decide +kernel
theorem dX12_ladle_6 : decode cX12_ladle 6 = .ok (.iload_n 1, 1) := by decide +kernel
theorem dX12_ladle_7 : decode cX12_ladle 7 = .ok (.iload_n 2, 1) := by decide +kernel
theorem dX12_ladle_8 : decode cX12_ladle 8 = .ok (.invokevirtual 181, 3) := by decide +kernel
theorem dX12_ladle_11 : decode cX12_ladle 11 = .ok (.invokevirtual 153, 3) := by decide +kernel
theorem dX12_ladle_14 : decode cX12_ladle 14 = .ok (.ireturn, 1) := by decide +kernel
theorem dX12_doBounds_0 : decode cX12_doBounds 0 = .ok (.aload_n 0, 1) := by decide +kernel
theorem dX12_doBounds_1 : decode cX12_doBounds 1 = .ok (.iload_n 1, 1) := by decide +kernel
theorem dX12_doBounds_2 : decode cX12_doBounds 2 = .ok (.invokevirtual 156, 3) := by decide +kernel
theorem dX12_doBounds_5 : decode cX12_doBounds 5 = .ok (.ifCond .ne 9, 3) := by decide +kernel
theorem dX12_doBounds_8 : decode cX12_doBounds 8 = .ok (.aload_n 0, 1) := by decide +kernel
theorem dX12_doBounds_9 : decode cX12_doBounds 9 = .ok (.iconst 1, 1) := by decide +kernel
theorem dX12_doBounds_10 : decode cX12_doBounds 10 = .ok (.invokevirtual 149, 3) := by decide +kernel
theorem dX12_doBounds_13 : decode cX12_doBounds 13 = .ok (.ireturn, 1) := by decide +kernel
theorem dX12_doBounds_14 : decode cX12_doBounds 14 = .ok (.iload_n 2, 1) := by decide +kernel
theorem dX12_doBounds_15 : decode cX12_doBounds 15 = .ok (.iload_n 3, 1) := by decide +kernel
theorem dX12_doBounds_16 : decode cX12_doBounds 16 = .ok (.invokestatic 141, 3) := by decide +kernel
theorem dX12_doBounds_19 : decode cX12_doBounds 19 = .ok (.ifCond .ne 9, 3) := by decide +kernel
theorem dX12_doBounds_22 : decode cX12_doBounds 22 = .ok (.aload_n 0, 1) := by decide +kernel
theorem dX12_doBounds_23 : decode cX12_doBounds 23 = .ok (.iconst 2, 1) := by decide +kernel
theorem dX12_doBounds_24 : decode cX12_doBounds 24 = .ok (.invokevirtual 149, 3) := by decide +kernel
theorem dX12_doBounds_27 : decode cX12_doBounds 27 = .ok (.ireturn, 1) := by decide +kernel
theorem dX12_doBounds_28 : decode cX12_doBounds 28 = .ok (.aload_n 0, 1) := by decide +kernel
theorem dX12_doBounds_29 : decode cX12_doBounds 29 = .ok (.iload_n 1, 1) := by decide +kernel
theorem dX12_doBounds_30 : decode cX12_doBounds 30 = .ok (.invokevirtual 160, 3) := by decide +kernel
theorem dX12_doBounds_33 : decode cX12_doBounds 33 = .ok (.ifCond .eq 11, 3) := by decide +kernel
theorem dX12_doBounds_36 : decode cX12_doBounds 36 = .ok (.aload_n 0, 1) := by decide +kernel
theorem dX12_doBounds_37 : decode cX12_doBounds 37 = .ok (.iconst 3, 1) := by decide +kernel
theorem dX12_doBounds_38 : decode cX12_doBounds 38 = .ok (.iconst 2, 1) := by decide +kernel
theorem dX12_doBounds_39 : decode cX12_doBounds 39 = .ok (.iload_n 1, 1) := by decide +kernel
theorem dX12_doBounds_40 : decode cX12_doBounds 40 = .ok (.invokevirtual 122, 3) := by decide +kernel
theorem dX12_doBounds_43 : decode cX12_doBounds 43 = .ok (.ireturn, 1) := by decide +kernel
theorem dX12_doBounds_44 : decode cX12_doBounds 44 = .ok (.aload_n 0, 1) := by decide +kernel
theorem dX12_doBounds_45 : decode cX12_doBounds 45 = .ok (.iload_n 1, 1) := by decide +kernel
theorem dX12_doBounds_46 : decode cX12_doBounds 46 = .ok (.iconst 3, 1) := by decide +kernel
theorem dX12_doBounds_47 : decode cX12_doBounds 47 = .ok (.invokevirtual 116, 3) := by decide +kernel
theorem dX12_doBounds_50 : decode cX12_doBounds 50 = .ok (.i2l, 1) := by decide +kernel
theorem dX12_doBounds_51 : decode cX12_doBounds 51 = .ok (.iload_n 2, 1) := by decide +kernel
theorem dX12_doBounds_52 : decode cX12_doBounds 52 = .ok (.i2l, 1) := by decide +kernel
theorem dX12_doBounds_53 : decode cX12_doBounds 53 = .ok (.iload_n 3, 1) := by decide +kernel
theorem dX12_doBounds_54 : decode cX12_doBounds 54 = .ok (.i2l, 1) := by decide +kernel
theorem dX12_doBounds_55 : decode cX12_doBounds 55 = .ok (.invokestatic 112, 3) := by decide +kernel
theorem dX12_doBounds_58 : decode cX12_doBounds 58 = .ok (.ifCond .ne 16, 3) := by decide +kernel
theorem dX12_doBounds_61 : decode cX12_doBounds 61 = .ok (.aload_n 0, 1) := by decide +kernel
theorem dX12_doBounds_62 : decode cX12_doBounds 62 = .ok (.iconst 3, 1) := by decide +kernel
theorem dX12_doBounds_63 : decode cX12_doBounds 63 = .ok (.iconst 3, 1) := by decide +kernel
theorem dX12_doBounds_64 : decode cX12_doBounds 64 = .ok (.aload_n 0, 1) := by decide +kernel
theorem dX12_doBounds_65 : decode cX12_doBounds 65 = .ok (.iload_n 1, 1) := by decide +kernel
theorem dX12_doBounds_66 : decode cX12_doBounds 66 = .ok (.iconst 3, 1) := by decide +kernel
theorem dX12_doBounds_67 : decode cX12_doBounds 67 = .ok (.invokevirtual 116, 3) := by decide +kernel
theorem dX12_doBounds_70 : decode cX12_doBounds 70 = .ok (.invokevirtual 122, 3) := by decide +kernel
theorem dX12_doBounds_73 : decode cX12_doBounds 73 = .ok (.ireturn, 1) := by decide +kernel
theorem dX12_doBounds_74 : decode cX12_doBounds 74 = .ok (.aload_n 0, 1) := by decide +kernel
theorem dX12_doBounds_75 : decode cX12_doBounds 75 = .ok (.invokevirtual 184, 3) := by decide +kernel
theorem dX12_doBounds_78 : decode cX12_doBounds 78 = .ok (.istore 4, 2) := by decide +kernel
theorem dX12_doBounds_80 : decode cX12_doBounds 80 = .ok (.aload_n 0, 1) := by decide +kernel
theorem dX12_doBounds_81 : decode cX12_doBounds 81 = .ok (.iload_n 1, 1) := by decide +kernel
theorem dX12_doBounds_82 : decode cX12_doBounds 82 = .ok (.iconst 1, 1) := by decide +kernel
theorem dX12_doBounds_83 : decode cX12_doBounds 83 = .ok (.iload_n 2, 1) := by decide +kernel
theorem dX12_doBounds_84 : decode cX12_doBounds 84 = .ok (.invokevirtual 126, 3) := by decide +kernel
theorem dX12_doBounds_87 : decode cX12_doBounds 87 = .ok (.aload_n 0, 1) := by decide +kernel
theorem dX12_doBounds_88 : decode cX12_doBounds 88 = .ok (.iload_n 1, 1) := by decide +kernel
theorem dX12_doBounds_89 : decode cX12_doBounds 89 = .ok (.iconst 2, 1) := by decide +kernel
theorem dX12_doBounds_90 : decode cX12_doBounds 90 = .ok (.iload_n 3, 1) := by decide +kernel
theorem dX12_doBounds_91 : decode cX12_doBounds 91 = .ok (.invokevirtual 126, 3) := by decide +kernel
theorem dX12_doBounds_94 : decode cX12_doBounds 94 = .ok (.aload_n 0, 1) := by decide +kernel
theorem dX12_doBounds_95 : decode cX12_doBounds 95 = .ok (.invokevirtual 184, 3) := by decide +kernel
theorem dX12_doBounds_98 : decode cX12_doBounds 98 = .ok (.iload 4, 2) := by decide +kernel
theorem dX12_doBounds_100 : decode cX12_doBounds 100 = .ok (.isub, 1) := by decide +kernel
theorem dX12_doBounds_101 : decode cX12_doBounds 101 = .ok (.ireturn, 1) := by decide +kernel
theorem dX12_bounds_0 : decode cX12_bounds 0 = .ok (.aload_n 0, 1) := by decide +kernel
theorem dX12_bounds_1 : decode cX12_bounds 1 = .ok (.invokevirtual 138, 3) := by decide +kernel
theorem dX12_bounds_4 : decode cX12_bounds 4 = .ok (.aload_n 0, 1) := by decide +kernel
theorem dX12_bounds_5 : decode cX12_bounds 5 = .ok (.aload_n 0, 1) := by decide +kernel
theorem dX12_bounds_6 : decode cX12_bounds 6 = .ok (.iload_n 1, 1) := by decide +kernel
theorem dX12_bounds_7 : decode cX12_bounds 7 = .ok (.iload_n 2, 1) := by decide +kernel
theorem dX12_bounds_8 : decode cX12_bounds 8 = .ok (.iload_n 3, 1) := by decide +kernel
theorem dX12_bounds_9 : decode cX12_bounds 9 = .ok (.invokevirtual 188, 3) := by decide +kernel
theorem dX12_bounds_12 : decode cX12_bounds 12 = .ok (.invokevirtual 153, 3) := by decide +kernel
theorem dX12_bounds_15 : decode cX12_bounds 15 = .ok (.ireturn, 1) := by decide +kernel
theorem dX12_append_0 : decode cX12_append 0 = .ok (.aload_n 0, 1) := by decide +kernel
theorem dX12_append_1 : decode cX12_append 1 = .ok (.iload_n 1, 1) := by decide +kernel
theorem dX12_append_2 : decode cX12_append 2 = .ok (.i2l, 1) := by decide +kernel
theorem dX12_append_3 : decode cX12_append 3 = .ok (.ldc2_w 191, 3) := by decide +kernel
theorem dX12_append_6 : decode cX12_append 6 = .ok (.ldc2_w 193, 3) := by decide +kernel
theorem dX12_append_9 : decode cX12_append 9 = .ok (.invokestatic 112, 3) := by decide +kernel
theorem dX12_append_12 : decode cX12_append 12 = .ok (.ifCond .ne 7, 3) := by decide +kernel
theorem dX12_append_15 : decode cX12_append 15 = .ok (.iconst 1, 1) := by decide +kernel
theorem dX12_append_16 : decode cX12_append 16 = .ok (.goto 17, 3) := by decide +kernel
theorem dX12_append_19 : decode cX12_append 19 = .ok (.aload_n 0, 1) := by decide +kernel
theorem dX12_append_20 : decode cX12_append 20 = .ok (.getfield 195, 3) := by decide +kernel
theorem dX12_append_23 : decode cX12_append 23 = .ok (.bipush 60, 2) := by decide +kernel
theorem dX12_append_25 : decode cX12_append 25 = .ok (.if_icmp .ne 7, 3) := by decide +kernel
theorem dX12_append_28 : decode cX12_append 28 = .ok (.iconst 2, 1) := by decide +kernel
theorem dX12_append_29 : decode cX12_append 29 = .ok (.goto 4, 3) := by decide +kernel
theorem dX12_append_32 : decode cX12_append 32 = .ok (.iconst 0, 1) := by decide +kernel
theorem dX12_append_33 : decode cX12_append 33 = .ok (.putfield 96, 3) := by decide +kernel
theorem dX12_append_36 : decode cX12_append 36 = .ok (.aload_n 0, 1) := by decide +kernel
theorem dX12_append_37 : decode cX12_append 37 = .ok (.getfield 96, 3) := by decide +kernel
theorem dX12_append_40 : decode cX12_append 40 = .ok (.ifCond .le 5, 3) := by decide +kernel
theorem dX12_append_43 : decode cX12_append 43 = .ok (.iconst 0, 1) := by decide +kernel
theorem dX12_append_44 : decode cX12_append 44 = .ok (.ireturn, 1) := by decide +kernel
theorem dX12_append_45 : decode cX12_append 45 = .ok (.aload_n 0, 1) := by decide +kernel
theorem dX12_append_46 : decode cX12_append 46 = .ok (.getfield 44, 3) := by decide +kernel
theorem dX12_append_49 : decode cX12_append 49 = .ok (.aload_n 0, 1) := by decide +kernel
theorem dX12_append_50 : decode cX12_append 50 = .ok (.getfield 195, 3) := by decide +kernel
theorem dX12_append_53 : decode cX12_append 53 = .ok (.iload_n 1, 1) := by decide +kernel
theorem dX12_append_54 : decode cX12_append 54 = .ok (.castore, 1) := by decide +kernel
theorem dX12_append_55 : decode cX12_append 55 = .ok (.aload_n 0, 1) := by decide +kernel
theorem dX12_append_56 : decode cX12_append 56 = .ok (.dup, 1) := by decide +kernel
theorem dX12_append_57 : decode cX12_append 57 = .ok (.getfield 195, 3) := by decide +kernel
theorem dX12_append_60 : decode cX12_append 60 = .ok (.iconst 1, 1) := by decide +kernel
theorem dX12_append_61 : decode cX12_append 61 = .ok (.iadd, 1) := by decide +kernel
theorem dX12_append_62 : decode cX12_append 62 = .ok (.putfield 195, 3) := by decide +kernel
theorem dX12_append_65 : decode cX12_append 65 = .ok (.aload_n 0, 1) := by decide +kernel
theorem dX12_append_66 : decode cX12_append 66 = .ok (.getfield 195, 3) := by decide +kernel
theorem dX12_append_69 : decode cX12_append 69 = .ok (.ireturn, 1) := by decide +kernel
theorem dX12_adds_0 : decode cX12_adds 0 = .ok (.aload_n 0, 1) := by decide +kernel
theorem dX12_adds_1 : decode cX12_adds 1 = .ok (.getfield 198, 3) := by decide +kernel
theorem dX12_adds_4 : decode cX12_adds 4 = .ok (.iload_n 3, 1) := by decide +kernel
theorem dX12_adds_5 : decode cX12_adds 5 = .ok (.if_icmp .lt 37, 3) := by decide +kernel
theorem dX12_adds_8 : decode cX12_adds 8 = .ok (.aload_n 0, 1) := by decide +kernel
theorem dX12_adds_9 : decode cX12_adds 9 = .ok (.getfield 198, 3) := by decide +kernel
theorem dX12_adds_12 : decode cX12_adds 12 = .ok (.iload 4, 2) := by decide +kernel
theorem dX12_adds_14 : decode cX12_adds 14 = .ok (.iadd, 1) := by decide +kernel
theorem dX12_adds_15 : decode cX12_adds 15 = .ok (.iconst 5, 1) := by decide +kernel
theorem dX12_adds_16 : decode cX12_adds 16 = .ok (.if_icmp .gt 26, 3) := by decide +kernel
theorem dX12_adds_19 : decode cX12_adds 19 = .ok (.aload_n 0, 1) := by decide +kernel
theorem dX12_adds_20 : decode cX12_adds 20 = .ok (.getfield 201, 3) := by decide +kernel
theorem dX12_adds_23 : decode cX12_adds 23 = .ok (.iconst 1, 1) := by decide +kernel
theorem dX12_adds_24 : decode cX12_adds 24 = .ok (.iadd, 1) := by decide +kernel
theorem dX12_adds_25 : decode cX12_adds 25 = .ok (.aload_n 0, 1) := by decide +kernel
theorem dX12_adds_26 : decode cX12_adds 26 = .ok (.getfield 198, 3) := by decide +kernel
theorem dX12_adds_29 : decode cX12_adds 29 = .ok (.iadd, 1) := by decide +kernel
theorem dX12_adds_30 : decode cX12_adds 30 = .ok (.iload 4, 2) := by decide +kernel
theorem dX12_adds_32 : decode cX12_adds 32 = .ok (.iadd, 1) := by decide +kernel
theorem dX12_adds_33 : decode cX12_adds 33 = .ok (.bipush 24, 2) := by decide +kernel
theorem dX12_adds_35 : decode cX12_adds 35 = .ok (.if_icmp .gt 7, 3) := by decide +kernel
theorem dX12_adds_38 : decode cX12_adds 38 = .ok (.iconst 1, 1) := by decide +kernel
theorem dX12_adds_39 : decode cX12_adds 39 = .ok (.goto 4, 3) := by decide +kernel
theorem dX12_adds_42 : decode cX12_adds 42 = .ok (.iconst 0, 1) := by decide +kernel
theorem dX12_adds_43 : decode cX12_adds 43 = .ok (.istore 5, 2) := by decide +kernel
theorem dX12_adds_45 : decode cX12_adds 45 = .ok (.aload_n 0, 1) := by decide +kernel
theorem dX12_adds_46 : decode cX12_adds 46 = .ok (.getfield 52, 3) := by decide +kernel
theorem dX12_adds_49 : decode cX12_adds 49 = .ok (.aload_n 0, 1) := by decide +kernel
theorem dX12_adds_50 : decode cX12_adds 50 = .ok (.getfield 201, 3) := by decide +kernel
theorem dX12_adds_53 : decode cX12_adds 53 = .ok (.iload_n 1, 1) := by decide +kernel
theorem dX12_adds_54 : decode cX12_adds 54 = .ok (.castore, 1) := by decide +kernel
theorem dX12_adds_55 : decode cX12_adds 55 = .ok (.aload_n 0, 1) := by decide +kernel
theorem dX12_adds_56 : decode cX12_adds 56 = .ok (.getfield 55, 3) := by decide +kernel
theorem dX12_adds_59 : decode cX12_adds 59 = .ok (.aload_n 0, 1) := by decide +kernel
theorem dX12_adds_60 : decode cX12_adds 60 = .ok (.getfield 201, 3) := by decide +kernel
theorem dX12_adds_63 : decode cX12_adds 63 = .ok (.iload_n 2, 1) := by decide +kernel
theorem dX12_adds_64 : decode cX12_adds 64 = .ok (.iastore, 1) := by decide +kernel
theorem dX12_adds_65 : decode cX12_adds 65 = .ok (.aload_n 0, 1) := by decide +kernel
theorem dX12_adds_66 : decode cX12_adds 66 = .ok (.dup, 1) := by decide +kernel
theorem dX12_adds_67 : decode cX12_adds 67 = .ok (.getfield 201, 3) := by decide +kernel
theorem dX12_adds_70 : decode cX12_adds 70 = .ok (.iload 5, 2) := by decide +kernel
theorem dX12_adds_72 : decode cX12_adds 72 = .ok (.ifCond .eq 7, 3) := by decide +kernel
theorem dX12_adds_75 : decode cX12_adds 75 = .ok (.iconst 1, 1) := by decide +kernel
theorem dX12_adds_76 : decode cX12_adds 76 = .ok (.goto 4, 3) := by decide +kernel
theorem dX12_adds_79 : decode cX12_adds 79 = .ok (.iconst 0, 1) := by decide +kernel
theorem dX12_adds_80 : decode cX12_adds 80 = .ok (.iadd, 1) := by decide +kernel
theorem dX12_adds_81 : decode cX12_adds 81 = .ok (.putfield 201, 3) := by decide +kernel
theorem dX12_adds_84 : decode cX12_adds 84 = .ok (.aload_n 0, 1) := by decide +kernel
theorem dX12_adds_85 : decode cX12_adds 85 = .ok (.dup, 1) := by decide +kernel
theorem dX12_adds_86 : decode cX12_adds 86 = .ok (.getfield 198, 3) := by decide +kernel
theorem dX12_adds_89 : decode cX12_adds 89 = .ok (.iload 5, 2) := by decide +kernel
theorem dX12_adds_91 : decode cX12_adds 91 = .ok (.ifCond .eq 8, 3) := by decide +kernel
theorem dX12_adds_94 : decode cX12_adds 94 = .ok (.iload 4, 2) := by decide +kernel
theorem dX12_adds_96 : decode cX12_adds 96 = .ok (.goto 4, 3) := by decide +kernel
theorem dX12_adds_99 : decode cX12_adds 99 = .ok (.iconst 0, 1) := by decide +kernel
theorem dX12_adds_100 : decode cX12_adds 100 = .ok (.iadd, 1) := by decide +kernel
theorem dX12_adds_101 : decode cX12_adds 101 = .ok (.putfield 198, 3) := by decide +kernel
theorem dX12_adds_104 : decode cX12_adds 104 = .ok (.aload_n 0, 1) := by decide +kernel
theorem dX12_adds_105 : decode cX12_adds 105 = .ok (.aload_n 0, 1) := by decide +kernel
theorem dX12_adds_106 : decode cX12_adds 106 = .ok (.getfield 204, 3) := by decide +kernel
theorem dX12_adds_109 : decode cX12_adds 109 = .ok (.aload_n 0, 1) := by decide +kernel
theorem dX12_adds_110 : decode cX12_adds 110 = .ok (.getfield 198, 3) := by decide +kernel
theorem dX12_adds_113 : decode cX12_adds 113 = .ok (.invokestatic 135, 3) := by decide +kernel
theorem dX12_adds_116 : decode cX12_adds 116 = .ok (.putfield 204, 3) := by decide +kernel
theorem dX12_adds_119 : decode cX12_adds 119 = .ok (.iload 5, 2) := by decide +kernel
theorem dX12_adds_121 : decode cX12_adds 121 = .ok (.ireturn, 1) := by decide +kernel
theorem dX12_reads_0 : decode cX12_reads 0 = .ok (.aload_n 0, 1) := by decide +kernel
theorem dX12_reads_1 : decode cX12_reads 1 = .ok (.iconst 0, 1) := by decide +kernel
theorem dX12_reads_2 : decode cX12_reads 2 = .ok (.putfield 201, 3) := by decide +kernel
theorem dX12_reads_5 : decode cX12_reads 5 = .ok (.aload_n 0, 1) := by decide +kernel
theorem dX12_reads_6 : decode cX12_reads 6 = .ok (.iconst 0, 1) := by decide +kernel
theorem dX12_reads_7 : decode cX12_reads 7 = .ok (.putfield 198, 3) := by decide +kernel
theorem dX12_reads_10 : decode cX12_reads 10 = .ok (.aload_n 0, 1) := by decide +kernel
theorem dX12_reads_11 : decode cX12_reads 11 = .ok (.iconst 0, 1) := by decide +kernel
theorem dX12_reads_12 : decode cX12_reads 12 = .ok (.putfield 204, 3) := by decide +kernel
theorem dX12_reads_15 : decode cX12_reads 15 = .ok (.iconst 0, 1) := by decide +kernel
theorem dX12_reads_16 : decode cX12_reads 16 = .ok (.istore 4, 2) := by decide +kernel
theorem dX12_reads_18 : decode cX12_reads 18 = .ok (.iconst 0, 1) := by decide +kernel
theorem dX12_reads_19 : decode cX12_reads 19 = .ok (.istore 5, 2) := by decide +kernel
theorem dX12_reads_21 : decode cX12_reads 21 = .ok (.iconst 0, 1) := by decide +kernel
theorem dX12_reads_22 : decode cX12_reads 22 = .ok (.istore 6, 2) := by decide +kernel
theorem dX12_reads_24 : decode cX12_reads 24 = .ok (.iload 6, 2) := by decide +kernel
theorem dX12_reads_26 : decode cX12_reads 26 = .ok (.iload_n 3, 1) := by decide +kernel
theorem dX12_reads_27 : decode cX12_reads 27 = .ok (.if_icmp .ge 282, 3) := by decide +kernel
theorem dX12_reads_30 : decode cX12_reads 30 = .ok (.aload_n 1, 1) := by decide +kernel
theorem dX12_reads_31 : decode cX12_reads 31 = .ok (.iload_n 2, 1) := by decide +kernel
theorem dX12_reads_32 : decode cX12_reads 32 = .ok (.iload 6, 2) := by decide +kernel
theorem dX12_reads_34 : decode cX12_reads 34 = .ok (.iadd, 1) := by decide +kernel
theorem dX12_reads_35 : decode cX12_reads 35 = .ok (.iaload, 1) := by decide +kernel
theorem dX12_reads_36 : decode cX12_reads 36 = .ok (.i2c, 1) := by decide +kernel
theorem dX12_reads_37 : decode cX12_reads 37 = .ok (.istore 7, 2) := by decide +kernel
theorem dX12_reads_39 : decode cX12_reads 39 = .ok (.iload 7, 2) := by decide +kernel
theorem dX12_reads_41 : decode cX12_reads 41 = .ok (.i2l, 1) := by decide +kernel
theorem dX12_reads_42 : decode cX12_reads 42 = .ok (.ldc2_w 207, 3) := by decide +kernel
theorem dX12_reads_45 : decode cX12_reads 45 = .ok (.ldc2_w 209, 3) := by decide +kernel
theorem dX12_reads_48 : decode cX12_reads 48 = .ok (.invokestatic 112, 3) := by decide +kernel
theorem dX12_reads_51 : decode cX12_reads 51 = .ok (.istore 8, 2) := by decide +kernel
theorem dX12_reads_53 : decode cX12_reads 53 = .ok (.iload 7, 2) := by decide +kernel
theorem dX12_reads_55 : decode cX12_reads 55 = .ok (.i2l, 1) := by decide +kernel
theorem dX12_reads_56 : decode cX12_reads 56 = .ok (.ldc2_w 211, 3) := by decide +kernel
theorem dX12_reads_59 : decode cX12_reads 59 = .ok (.ldc2_w 213, 3) := by decide +kernel
theorem dX12_reads_62 : decode cX12_reads 62 = .ok (.invokestatic 112, 3) := by decide +kernel
theorem dX12_reads_65 : decode cX12_reads 65 = .ok (.istore 9, 2) := by decide +kernel
theorem dX12_reads_67 : decode cX12_reads 67 = .ok (.iload 5, 2) := by decide +kernel
theorem dX12_reads_69 : decode cX12_reads 69 = .ok (.ifCond .eq 29, 3) := by decide +kernel
theorem dX12_reads_72 : decode cX12_reads 72 = .ok (.iload 8, 2) := by decide +kernel
theorem dX12_reads_74 : decode cX12_reads 74 = .ok (.istore 10, 2) := by decide +kernel
theorem dX12_reads_76 : decode cX12_reads 76 = .ok (.aload_n 0, 1) := by decide +kernel
theorem dX12_reads_77 : decode cX12_reads 77 = .ok (.getfield 55, 3) := by decide +kernel
theorem dX12_reads_80 : decode cX12_reads 80 = .ok (.aload_n 0, 1) := by decide +kernel
theorem dX12_reads_81 : decode cX12_reads 81 = .ok (.getfield 201, 3) := by decide +kernel
theorem dX12_reads_84 : decode cX12_reads 84 = .ok (.iconst 1, 1) := by decide +kernel
theorem dX12_reads_85 : decode cX12_reads 85 = .ok (.isub, 1) := by decide +kernel
theorem dX12_reads_86 : decode cX12_reads 86 = .ok (.iload 7, 2) := by decide +kernel
theorem dX12_reads_88 : decode cX12_reads 88 = .ok (.bipush 97, 2) := by decide +kernel
theorem dX12_reads_90 : decode cX12_reads 90 = .ok (.isub, 1) := by decide +kernel
theorem dX12_reads_91 : decode cX12_reads 91 = .ok (.iastore, 1) := by decide +kernel
theorem dX12_reads_92 : decode cX12_reads 92 = .ok (.iconst 0, 1) := by decide +kernel
theorem dX12_reads_93 : decode cX12_reads 93 = .ok (.istore 5, 2) := by decide +kernel
theorem dX12_reads_95 : decode cX12_reads 95 = .ok (.goto 200, 3) := by decide +kernel
theorem dX12_reads_98 : decode cX12_reads 98 = .ok (.iload 9, 2) := by decide +kernel
theorem dX12_reads_100 : decode cX12_reads 100 = .ok (.ifCond .eq 48, 3) := by decide +kernel
theorem dX12_reads_103 : decode cX12_reads 103 = .ok (.iload 4, 2) := by decide +kernel
theorem dX12_reads_105 : decode cX12_reads 105 = .ok (.ifCond .eq 43, 3) := by decide +kernel
theorem dX12_reads_108 : decode cX12_reads 108 = .ok (.iconst 1, 1) := by decide +kernel
theorem dX12_reads_109 : decode cX12_reads 109 = .ok (.istore 10, 2) := by decide +kernel
theorem dX12_reads_111 : decode cX12_reads 111 = .ok (.aload_n 0, 1) := by decide +kernel
theorem dX12_reads_112 : decode cX12_reads 112 = .ok (.getfield 55, 3) := by decide +kernel
theorem dX12_reads_115 : decode cX12_reads 115 = .ok (.aload_n 0, 1) := by decide +kernel
theorem dX12_reads_116 : decode cX12_reads 116 = .ok (.getfield 201, 3) := by decide +kernel
theorem dX12_reads_119 : decode cX12_reads 119 = .ok (.iconst 1, 1) := by decide +kernel
theorem dX12_reads_120 : decode cX12_reads 120 = .ok (.isub, 1) := by decide +kernel
theorem dX12_reads_121 : decode cX12_reads 121 = .ok (.bipush 10, 2) := by decide +kernel
theorem dX12_reads_123 : decode cX12_reads 123 = .ok (.aload_n 0, 1) := by decide +kernel
theorem dX12_reads_124 : decode cX12_reads 124 = .ok (.getfield 55, 3) := by decide +kernel
theorem dX12_reads_127 : decode cX12_reads 127 = .ok (.aload_n 0, 1) := by decide +kernel
theorem dX12_reads_128 : decode cX12_reads 128 = .ok (.getfield 201, 3) := by decide +kernel
theorem dX12_reads_131 : decode cX12_reads 131 = .ok (.iconst 1, 1) := by decide +kernel
theorem dX12_reads_132 : decode cX12_reads 132 = .ok (.isub, 1) := by decide +kernel
theorem dX12_reads_133 : decode cX12_reads 133 = .ok (.iaload, 1) := by decide +kernel
theorem dX12_reads_134 : decode cX12_reads 134 = .ok (.imul, 1) := by decide +kernel
theorem dX12_reads_135 : decode cX12_reads 135 = .ok (.iload 7, 2) := by decide +kernel
theorem dX12_reads_137 : decode cX12_reads 137 = .ok (.iadd, 1) := by decide +kernel
theorem dX12_reads_138 : decode cX12_reads 138 = .ok (.bipush 48, 2) := by decide +kernel
theorem dX12_reads_140 : decode cX12_reads 140 = .ok (.isub, 1) := by decide +kernel
theorem dX12_reads_141 : decode cX12_reads 141 = .ok (.iastore, 1) := by decide +kernel
theorem dX12_reads_142 : decode cX12_reads 142 = .ok (.iconst 0, 1) := by decide +kernel
theorem dX12_reads_143 : decode cX12_reads 143 = .ok (.istore 4, 2) := by decide +kernel
theorem dX12_reads_145 : decode cX12_reads 145 = .ok (.goto 150, 3) := by decide +kernel
theorem dX12_reads_148 : decode cX12_reads 148 = .ok (.iload 8, 2) := by decide +kernel
theorem dX12_reads_150 : decode cX12_reads 150 = .ok (.ifCond .ne 8, 3) := by decide +kernel
theorem dX12_reads_153 : decode cX12_reads 153 = .ok (.iload 9, 2) := by decide +kernel
theorem dX12_reads_155 : decode cX12_reads 155 = .ok (.ifCond .eq 38, 3) := by decide +kernel
theorem dX12_reads_158 : decode cX12_reads 158 = .ok (.aload_n 0, 1) := by decide +kernel
theorem dX12_reads_159 : decode cX12_reads 159 = .ok (.iload 7, 2) := by decide +kernel
theorem dX12_reads_161 : decode cX12_reads 161 = .ok (.iload 8, 2) := by decide +kernel
theorem dX12_reads_163 : decode cX12_reads 163 = .ok (.ifCond .eq 11, 3) := by decide +kernel
theorem dX12_reads_166 : decode cX12_reads 166 = .ok (.iload 7, 2) := by decide +kernel
theorem dX12_reads_168 : decode cX12_reads 168 = .ok (.bipush 97, 2) := by decide +kernel
theorem dX12_reads_170 : decode cX12_reads 170 = .ok (.isub, 1) := by decide +kernel
theorem dX12_reads_171 : decode cX12_reads 171 = .ok (.goto 8, 3) := by decide +kernel
theorem dX12_reads_174 : decode cX12_reads 174 = .ok (.iload 7, 2) := by decide +kernel
theorem dX12_reads_176 : decode cX12_reads 176 = .ok (.bipush 48, 2) := by decide +kernel
theorem dX12_reads_178 : decode cX12_reads 178 = .ok (.isub, 1) := by decide +kernel
theorem dX12_reads_179 : decode cX12_reads 179 = .ok (.iconst 0, 1) := by decide +kernel
theorem dX12_reads_180 : decode cX12_reads 180 = .ok (.iconst 1, 1) := by decide +kernel
theorem dX12_reads_181 : decode cX12_reads 181 = .ok (.invokevirtual 215, 3) := by decide +kernel
theorem dX12_reads_184 : decode cX12_reads 184 = .ok (.istore 10, 2) := by decide +kernel
theorem dX12_reads_186 : decode cX12_reads 186 = .ok (.iload 9, 2) := by decide +kernel
theorem dX12_reads_188 : decode cX12_reads 188 = .ok (.istore 4, 2) := by decide +kernel
theorem dX12_reads_190 : decode cX12_reads 190 = .ok (.goto 105, 3) := by decide +kernel
theorem dX12_reads_193 : decode cX12_reads 193 = .ok (.iload 7, 2) := by decide +kernel
theorem dX12_reads_195 : decode cX12_reads 195 = .ok (.bipush 43, 2) := by decide +kernel
theorem dX12_reads_197 : decode cX12_reads 197 = .ok (.if_icmp .eq 17, 3) := by decide +kernel
theorem dX12_reads_200 : decode cX12_reads 200 = .ok (.iload 7, 2) := by decide +kernel
theorem dX12_reads_202 : decode cX12_reads 202 = .ok (.bipush 45, 2) := by decide +kernel
theorem dX12_reads_204 : decode cX12_reads 204 = .ok (.if_icmp .eq 10, 3) := by decide +kernel
theorem dX12_reads_207 : decode cX12_reads 207 = .ok (.iload 7, 2) := by decide +kernel
theorem dX12_reads_209 : decode cX12_reads 209 = .ok (.bipush 42, 2) := by decide +kernel
theorem dX12_reads_211 : decode cX12_reads 211 = .ok (.if_icmp .ne 15, 3) := by decide +kernel
theorem dX12_reads_214 : decode cX12_reads 214 = .ok (.aload_n 0, 1) := by decide +kernel
theorem dX12_reads_215 : decode cX12_reads 215 = .ok (.iload 7, 2) := by decide +kernel
theorem dX12_reads_217 : decode cX12_reads 217 = .ok (.iconst 0, 1) := by decide +kernel
theorem dX12_reads_218 : decode cX12_reads 218 = .ok (.iconst 2, 1) := by decide +kernel
theorem dX12_reads_219 : decode cX12_reads 219 = .ok (.iconst (-1), 1) := by decide +kernel
theorem dX12_reads_220 : decode cX12_reads 220 = .ok (.invokevirtual 215, 3) := by decide +kernel
theorem dX12_reads_223 : decode cX12_reads 223 = .ok (.goto 53, 3) := by decide +kernel
theorem dX12_reads_226 : decode cX12_reads 226 = .ok (.iload 7, 2) := by decide +kernel
theorem dX12_reads_228 : decode cX12_reads 228 = .ok (.bipush 61, 2) := by decide +kernel
theorem dX12_reads_230 : decode cX12_reads 230 = .ok (.if_icmp .ne 15, 3) := by decide +kernel
theorem dX12_reads_233 : decode cX12_reads 233 = .ok (.aload_n 0, 1) := by decide +kernel
theorem dX12_reads_234 : decode cX12_reads 234 = .ok (.iload 7, 2) := by decide +kernel
theorem dX12_reads_236 : decode cX12_reads 236 = .ok (.iconst 0, 1) := by decide +kernel
theorem dX12_reads_237 : decode cX12_reads 237 = .ok (.iconst 1, 1) := by decide +kernel
theorem dX12_reads_238 : decode cX12_reads 238 = .ok (.iconst (-1), 1) := by decide +kernel
theorem dX12_reads_239 : decode cX12_reads 239 = .ok (.invokevirtual 215, 3) := by decide +kernel
theorem dX12_reads_242 : decode cX12_reads 242 = .ok (.goto 34, 3) := by decide +kernel
theorem dX12_reads_245 : decode cX12_reads 245 = .ok (.iload 7, 2) := by decide +kernel
theorem dX12_reads_247 : decode cX12_reads 247 = .ok (.bipush 126, 2) := by decide +kernel
theorem dX12_reads_249 : decode cX12_reads 249 = .ok (.if_icmp .eq 10, 3) := by decide +kernel
theorem dX12_reads_252 : decode cX12_reads 252 = .ok (.iload 7, 2) := by decide +kernel
theorem dX12_reads_254 : decode cX12_reads 254 = .ok (.bipush 33, 2) := by decide +kernel
theorem dX12_reads_256 : decode cX12_reads 256 = .ok (.if_icmp .ne 19, 3) := by decide +kernel
theorem dX12_reads_259 : decode cX12_reads 259 = .ok (.aload_n 0, 1) := by decide +kernel
theorem dX12_reads_260 : decode cX12_reads 260 = .ok (.iload 7, 2) := by decide +kernel
theorem dX12_reads_262 : decode cX12_reads 262 = .ok (.iconst 0, 1) := by decide +kernel
theorem dX12_reads_263 : decode cX12_reads 263 = .ok (.iconst 1, 1) := by decide +kernel
theorem dX12_reads_264 : decode cX12_reads 264 = .ok (.iconst 0, 1) := by decide +kernel
theorem dX12_reads_265 : decode cX12_reads 265 = .ok (.invokevirtual 215, 3) := by decide +kernel
theorem dX12_reads_268 : decode cX12_reads 268 = .ok (.ifCond .eq 7, 3) := by decide +kernel
theorem dX12_reads_271 : decode cX12_reads 271 = .ok (.iconst 1, 1) := by decide +kernel
theorem dX12_reads_272 : decode cX12_reads 272 = .ok (.goto 4, 3) := by decide +kernel
theorem dX12_reads_275 : decode cX12_reads 275 = .ok (.iconst 0, 1) := by decide +kernel
theorem dX12_reads_276 : decode cX12_reads 276 = .ok (.istore 10, 2) := by decide +kernel
theorem dX12_reads_278 : decode cX12_reads 278 = .ok (.iconst 0, 1) := by decide +kernel
theorem dX12_reads_279 : decode cX12_reads 279 = .ok (.istore 4, 2) := by decide +kernel
theorem dX12_reads_281 : decode cX12_reads 281 = .ok (.iload 7, 2) := by decide +kernel
theorem dX12_reads_283 : decode cX12_reads 283 = .ok (.bipush 61, 2) := by decide +kernel
theorem dX12_reads_285 : decode cX12_reads 285 = .ok (.if_icmp .ne 7, 3) := by decide +kernel
theorem dX12_reads_288 : decode cX12_reads 288 = .ok (.iconst 1, 1) := by decide +kernel
theorem dX12_reads_289 : decode cX12_reads 289 = .ok (.goto 4, 3) := by decide +kernel
theorem dX12_reads_292 : decode cX12_reads 292 = .ok (.iconst 0, 1) := by decide +kernel
theorem dX12_reads_293 : decode cX12_reads 293 = .ok (.istore 5, 2) := by decide +kernel
theorem dX12_reads_295 : decode cX12_reads 295 = .ok (.iload 10, 2) := by decide +kernel
theorem dX12_reads_297 : decode cX12_reads 297 = .ok (.ifCond .ne 6, 3) := by decide +kernel
theorem dX12_reads_300 : decode cX12_reads 300 = .ok (.iload 6, 2) := by decide +kernel
theorem dX12_reads_302 : decode cX12_reads 302 = .ok (.ireturn, 1) := by decide +kernel
theorem dX12_reads_303 : decode cX12_reads 303 = .ok (.iinc 6 1, 3) := by decide +kernel
theorem dX12_reads_306 : decode cX12_reads 306 = .ok (.goto (-282), 3) := by decide +kernel
theorem dX12_reads_309 : decode cX12_reads 309 = .ok (.iload 5, 2) := by decide +kernel
theorem dX12_reads_311 : decode cX12_reads 311 = .ok (.ifCond .ne 17, 3) := by decide +kernel
theorem dX12_reads_314 : decode cX12_reads 314 = .ok (.aload_n 0, 1) := by decide +kernel
theorem dX12_reads_315 : decode cX12_reads 315 = .ok (.getfield 198, 3) := by decide +kernel
theorem dX12_reads_318 : decode cX12_reads 318 = .ok (.ifCond .gt 10, 3) := by decide +kernel
theorem dX12_reads_321 : decode cX12_reads 321 = .ok (.aload_n 0, 1) := by decide +kernel
theorem dX12_reads_322 : decode cX12_reads 322 = .ok (.getfield 201, 3) := by decide +kernel
theorem dX12_reads_325 : decode cX12_reads 325 = .ok (.ifCond .ne 7, 3) := by decide +kernel
theorem dX12_reads_328 : decode cX12_reads 328 = .ok (.iload_n 3, 1) := by decide +kernel
theorem dX12_reads_329 : decode cX12_reads 329 = .ok (.goto 4, 3) := by decide +kernel
theorem dX12_reads_332 : decode cX12_reads 332 = .ok (.iconst (-1), 1) := by decide +kernel
theorem dX12_reads_333 : decode cX12_reads 333 = .ok (.ireturn, 1) := by decide +kernel
theorem dX12_tells_0 : decode cX12_tells 0 = .ok (.bipush 34, 2) := by decide +kernel
theorem dX12_tells_2 : decode cX12_tells 2 = .ok (.bipush 62, 2) := by decide +kernel
theorem dX12_tells_4 : decode cX12_tells 4 = .ok (.iload_n 1, 1) := by decide +kernel
theorem dX12_tells_5 : decode cX12_tells 5 = .ok (.imul, 1) := by decide +kernel
theorem dX12_tells_6 : decode cX12_tells 6 = .ok (.iadd, 1) := by decide +kernel
theorem dX12_tells_7 : decode cX12_tells 7 = .ok (.istore_n 2, 1) := by decide +kernel
theorem dX12_tells_8 : decode cX12_tells 8 = .ok (.aload_n 0, 1) := by decide +kernel
theorem dX12_tells_9 : decode cX12_tells 9 = .ok (.aload_n 0, 1) := by decide +kernel
theorem dX12_tells_10 : decode cX12_tells 10 = .ok (.getfield 9, 3) := by decide +kernel
theorem dX12_tells_13 : decode cX12_tells 13 = .ok (.iload_n 2, 1) := by decide +kernel
theorem dX12_tells_14 : decode cX12_tells 14 = .ok (.iconst 2, 1) := by decide +kernel
theorem dX12_tells_15 : decode cX12_tells 15 = .ok (.iadd, 1) := by decide +kernel
theorem dX12_tells_16 : decode cX12_tells 16 = .ok (.aload_n 0, 1) := by decide +kernel
theorem dX12_tells_17 : decode cX12_tells 17 = .ok (.getfield 9, 3) := by decide +kernel
theorem dX12_tells_20 : decode cX12_tells 20 = .ok (.iload_n 2, 1) := by decide +kernel
theorem dX12_tells_21 : decode cX12_tells 21 = .ok (.iconst 1, 1) := by decide +kernel
theorem dX12_tells_22 : decode cX12_tells 22 = .ok (.iadd, 1) := by decide +kernel
theorem dX12_tells_23 : decode cX12_tells 23 = .ok (.iaload, 1) := by decide +kernel
theorem dX12_tells_24 : decode cX12_tells 24 = .ok (.invokevirtual 219, 3) := by decide +kernel
theorem dX12_tells_27 : decode cX12_tells 27 = .ok (.istore_n 3, 1) := by decide +kernel
theorem dX12_tells_28 : decode cX12_tells 28 = .ok (.return_, 1) := by decide +kernel
theorem dX12_isLetter_0 : decode cX12_isLetter 0 = .ok (.aload_n 0, 1) := by decide +kernel
theorem dX12_isLetter_1 : decode cX12_isLetter 1 = .ok (.getfield 52, 3) := by decide +kernel
theorem dX12_isLetter_4 : decode cX12_isLetter 4 = .ok (.iload_n 1, 1) := by decide +kernel
theorem dX12_isLetter_5 : decode cX12_isLetter 5 = .ok (.caload, 1) := by decide +kernel
theorem dX12_isLetter_6 : decode cX12_isLetter 6 = .ok (.i2l, 1) := by decide +kernel
theorem dX12_isLetter_7 : decode cX12_isLetter 7 = .ok (.ldc2_w 207, 3) := by decide +kernel
theorem dX12_isLetter_10 : decode cX12_isLetter 10 = .ok (.ldc2_w 209, 3) := by decide +kernel
theorem dX12_isLetter_13 : decode cX12_isLetter 13 = .ok (.invokestatic 112, 3) := by decide +kernel
theorem dX12_isLetter_16 : decode cX12_isLetter 16 = .ok (.ireturn, 1) := by decide +kernel
theorem dX12_isNumber_0 : decode cX12_isNumber 0 = .ok (.aload_n 0, 1) := by decide +kernel
theorem dX12_isNumber_1 : decode cX12_isNumber 1 = .ok (.getfield 52, 3) := by decide +kernel
theorem dX12_isNumber_4 : decode cX12_isNumber 4 = .ok (.iload_n 1, 1) := by decide +kernel
theorem dX12_isNumber_5 : decode cX12_isNumber 5 = .ok (.caload, 1) := by decide +kernel
theorem dX12_isNumber_6 : decode cX12_isNumber 6 = .ok (.i2l, 1) := by decide +kernel
theorem dX12_isNumber_7 : decode cX12_isNumber 7 = .ok (.ldc2_w 211, 3) := by decide +kernel
theorem dX12_isNumber_10 : decode cX12_isNumber 10 = .ok (.ldc2_w 213, 3) := by decide +kernel
theorem dX12_isNumber_13 : decode cX12_isNumber 13 = .ok (.invokestatic 112, 3) := by decide +kernel
theorem dX12_isNumber_16 : decode cX12_isNumber 16 = .ok (.ireturn, 1) := by decide +kernel
theorem dX12_doWrite_0 : decode cX12_doWrite 0 = .ok (.aload_n 0, 1) := by decide +kernel
theorem dX12_doWrite_1 : decode cX12_doWrite 1 = .ok (.aload_n 0, 1) := by decide +kernel
theorem dX12_doWrite_2 : decode cX12_doWrite 2 = .ok (.getfield 58, 3) := by decide +kernel
theorem dX12_doWrite_5 : decode cX12_doWrite 5 = .ok (.iconst 0, 1) := by decide +kernel
theorem dX12_doWrite_6 : decode cX12_doWrite 6 = .ok (.iload_n 1, 1) := by decide +kernel
theorem dX12_doWrite_7 : decode cX12_doWrite 7 = .ok (.invokevirtual 219, 3) := by decide +kernel
theorem dX12_doWrite_10 : decode cX12_doWrite 10 = .ok (.istore_n 2, 1) := by decide +kernel
theorem dX12_doWrite_11 : decode cX12_doWrite 11 = .ok (.iload_n 2, 1) := by decide +kernel
theorem dX12_doWrite_12 : decode cX12_doWrite 12 = .ok (.ifCond .lt 14, 3) := by decide +kernel
theorem dX12_doWrite_15 : decode cX12_doWrite 15 = .ok (.aload_n 0, 1) := by decide +kernel
theorem dX12_doWrite_16 : decode cX12_doWrite 16 = .ok (.iload_n 2, 1) := by decide +kernel
theorem dX12_doWrite_17 : decode cX12_doWrite 17 = .ok (.putfield 48, 3) := by decide +kernel
theorem dX12_doWrite_20 : decode cX12_doWrite 20 = .ok (.aload_n 0, 1) := by decide +kernel
theorem dX12_doWrite_21 : decode cX12_doWrite 21 = .ok (.iconst 1, 1) := by decide +kernel
theorem dX12_doWrite_22 : decode cX12_doWrite 22 = .ok (.invokevirtual 149, 3) := by decide +kernel
theorem dX12_doWrite_25 : decode cX12_doWrite 25 = .ok (.ireturn, 1) := by decide +kernel
theorem dX12_doWrite_26 : decode cX12_doWrite 26 = .ok (.aload_n 0, 1) := by decide +kernel
theorem dX12_doWrite_27 : decode cX12_doWrite 27 = .ok (.getfield 9, 3) := by decide +kernel
theorem dX12_doWrite_30 : decode cX12_doWrite 30 = .ok (.iconst 1, 1) := by decide +kernel
theorem dX12_doWrite_31 : decode cX12_doWrite 31 = .ok (.iaload, 1) := by decide +kernel
theorem dX12_doWrite_32 : decode cX12_doWrite 32 = .ok (.istore_n 3, 1) := by decide +kernel
theorem dX12_doWrite_33 : decode cX12_doWrite 33 = .ok (.iload_n 3, 1) := by decide +kernel
theorem dX12_doWrite_34 : decode cX12_doWrite 34 = .ok (.iconst 4, 1) := by decide +kernel
theorem dX12_doWrite_35 : decode cX12_doWrite 35 = .ok (.if_icmp .ne 11, 3) := by decide +kernel
theorem dX12_doWrite_38 : decode cX12_doWrite 38 = .ok (.aload_n 0, 1) := by decide +kernel
theorem dX12_doWrite_39 : decode cX12_doWrite 39 = .ok (.iconst 2, 1) := by decide +kernel
theorem dX12_doWrite_40 : decode cX12_doWrite 40 = .ok (.iconst 1, 1) := by decide +kernel
theorem dX12_doWrite_41 : decode cX12_doWrite 41 = .ok (.iconst 4, 1) := by decide +kernel
theorem dX12_doWrite_42 : decode cX12_doWrite 42 = .ok (.invokevirtual 122, 3) := by decide +kernel
theorem dX12_doWrite_45 : decode cX12_doWrite 45 = .ok (.ireturn, 1) := by decide +kernel
theorem dX12_doWrite_46 : decode cX12_doWrite 46 = .ok (.iconst 0, 1) := by decide +kernel
theorem dX12_doWrite_47 : decode cX12_doWrite 47 = .ok (.istore 4, 2) := by decide +kernel
theorem dX12_doWrite_49 : decode cX12_doWrite 49 = .ok (.iload 4, 2) := by decide +kernel
theorem dX12_doWrite_51 : decode cX12_doWrite 51 = .ok (.aload_n 0, 1) := by decide +kernel
theorem dX12_doWrite_52 : decode cX12_doWrite 52 = .ok (.getfield 201, 3) := by decide +kernel
theorem dX12_doWrite_55 : decode cX12_doWrite 55 = .ok (.if_icmp .ge 53, 3) := by decide +kernel
theorem dX12_doWrite_58 : decode cX12_doWrite 58 = .ok (.aload_n 0, 1) := by decide +kernel
theorem dX12_doWrite_59 : decode cX12_doWrite 59 = .ok (.iload 4, 2) := by decide +kernel
theorem dX12_doWrite_61 : decode cX12_doWrite 61 = .ok (.invokevirtual 223, 3) := by decide +kernel
theorem dX12_doWrite_64 : decode cX12_doWrite 64 = .ok (.ifCond .ne 15, 3) := by decide +kernel
theorem dX12_doWrite_67 : decode cX12_doWrite 67 = .ok (.aload_n 0, 1) := by decide +kernel
theorem dX12_doWrite_68 : decode cX12_doWrite 68 = .ok (.getfield 52, 3) := by decide +kernel
theorem dX12_doWrite_71 : decode cX12_doWrite 71 = .ok (.iload 4, 2) := by decide +kernel
theorem dX12_doWrite_73 : decode cX12_doWrite 73 = .ok (.caload, 1) := by decide +kernel
theorem dX12_doWrite_74 : decode cX12_doWrite 74 = .ok (.bipush 61, 2) := by decide +kernel
theorem dX12_doWrite_76 : decode cX12_doWrite 76 = .ok (.if_icmp .ne 26, 3) := by decide +kernel
theorem dX12_doWrite_79 : decode cX12_doWrite 79 = .ok (.aload_n 0, 1) := by decide +kernel
theorem dX12_doWrite_80 : decode cX12_doWrite 80 = .ok (.aload_n 0, 1) := by decide +kernel
theorem dX12_doWrite_81 : decode cX12_doWrite 81 = .ok (.getfield 55, 3) := by decide +kernel
theorem dX12_doWrite_84 : decode cX12_doWrite 84 = .ok (.iload 4, 2) := by decide +kernel
theorem dX12_doWrite_86 : decode cX12_doWrite 86 = .ok (.iaload, 1) := by decide +kernel
theorem dX12_doWrite_87 : decode cX12_doWrite 87 = .ok (.invokevirtual 156, 3) := by decide +kernel
theorem dX12_doWrite_90 : decode cX12_doWrite 90 = .ok (.ifCond .ne 12, 3) := by decide +kernel
theorem dX12_doWrite_93 : decode cX12_doWrite 93 = .ok (.aload_n 0, 1) := by decide +kernel
theorem dX12_doWrite_94 : decode cX12_doWrite 94 = .ok (.iconst 2, 1) := by decide +kernel
theorem dX12_doWrite_95 : decode cX12_doWrite 95 = .ok (.iconst 5, 1) := by decide +kernel
theorem dX12_doWrite_96 : decode cX12_doWrite 96 = .ok (.iload 4, 2) := by decide +kernel
theorem dX12_doWrite_98 : decode cX12_doWrite 98 = .ok (.invokevirtual 122, 3) := by decide +kernel
theorem dX12_doWrite_101 : decode cX12_doWrite 101 = .ok (.ireturn, 1) := by decide +kernel
theorem dX12_doWrite_102 : decode cX12_doWrite 102 = .ok (.iinc 4 1, 3) := by decide +kernel
theorem dX12_doWrite_105 : decode cX12_doWrite 105 = .ok (.goto (-56), 3) := by decide +kernel
theorem dX12_doWrite_108 : decode cX12_doWrite 108 = .ok (.bipush 34, 2) := by decide +kernel
theorem dX12_doWrite_110 : decode cX12_doWrite 110 = .ok (.bipush 62, 2) := by decide +kernel
theorem dX12_doWrite_112 : decode cX12_doWrite 112 = .ok (.iload_n 3, 1) := by decide +kernel
theorem dX12_doWrite_113 : decode cX12_doWrite 113 = .ok (.imul, 1) := by decide +kernel
theorem dX12_doWrite_114 : decode cX12_doWrite 114 = .ok (.iadd, 1) := by decide +kernel
theorem dX12_doWrite_115 : decode cX12_doWrite 115 = .ok (.istore 4, 2) := by decide +kernel
theorem dX12_doWrite_117 : decode cX12_doWrite 117 = .ok (.aload_n 0, 1) := by decide +kernel
theorem dX12_doWrite_118 : decode cX12_doWrite 118 = .ok (.getfield 9, 3) := by decide +kernel
theorem dX12_doWrite_121 : decode cX12_doWrite 121 = .ok (.iload 4, 2) := by decide +kernel
theorem dX12_doWrite_123 : decode cX12_doWrite 123 = .ok (.iconst 0, 1) := by decide +kernel
theorem dX12_doWrite_124 : decode cX12_doWrite 124 = .ok (.iastore, 1) := by decide +kernel
theorem dX12_doWrite_125 : decode cX12_doWrite 125 = .ok (.aload_n 0, 1) := by decide +kernel
theorem dX12_doWrite_126 : decode cX12_doWrite 126 = .ok (.getfield 9, 3) := by decide +kernel
theorem dX12_doWrite_129 : decode cX12_doWrite 129 = .ok (.iload 4, 2) := by decide +kernel
theorem dX12_doWrite_131 : decode cX12_doWrite 131 = .ok (.iconst 1, 1) := by decide +kernel
theorem dX12_doWrite_132 : decode cX12_doWrite 132 = .ok (.iadd, 1) := by decide +kernel
theorem dX12_doWrite_133 : decode cX12_doWrite 133 = .ok (.iload_n 1, 1) := by decide +kernel
theorem dX12_doWrite_134 : decode cX12_doWrite 134 = .ok (.iastore, 1) := by decide +kernel
theorem dX12_doWrite_135 : decode cX12_doWrite 135 = .ok (.aload_n 0, 1) := by decide +kernel
theorem dX12_doWrite_136 : decode cX12_doWrite 136 = .ok (.getfield 58, 3) := by decide +kernel
theorem dX12_doWrite_139 : decode cX12_doWrite 139 = .ok (.iconst 0, 1) := by decide +kernel
theorem dX12_doWrite_140 : decode cX12_doWrite 140 = .ok (.aload_n 0, 1) := by decide +kernel
theorem dX12_doWrite_141 : decode cX12_doWrite 141 = .ok (.getfield 9, 3) := by decide +kernel
theorem dX12_doWrite_144 : decode cX12_doWrite 144 = .ok (.iload 4, 2) := by decide +kernel
theorem dX12_doWrite_146 : decode cX12_doWrite 146 = .ok (.iconst 2, 1) := by decide +kernel
theorem dX12_doWrite_147 : decode cX12_doWrite 147 = .ok (.iadd, 1) := by decide +kernel
theorem dX12_doWrite_148 : decode cX12_doWrite 148 = .ok (.iload_n 1, 1) := by decide +kernel
theorem dX12_doWrite_149 : decode cX12_doWrite 149 = .ok (.invokestatic 99, 3) := by decide +kernel
theorem dX12_doWrite_152 : decode cX12_doWrite 152 = .ok (.aload_n 0, 1) := by decide +kernel
theorem dX12_doWrite_153 : decode cX12_doWrite 153 = .ok (.getfield 9, 3) := by decide +kernel
theorem dX12_doWrite_156 : decode cX12_doWrite 156 = .ok (.iconst 1, 1) := by decide +kernel
theorem dX12_doWrite_157 : decode cX12_doWrite 157 = .ok (.dup2, 1) := by decide +kernel
theorem dX12_doWrite_158 : decode cX12_doWrite 158 = .ok (.iaload, 1) := by decide +kernel
theorem dX12_doWrite_159 : decode cX12_doWrite 159 = .ok (.iconst 1, 1) := by decide +kernel
theorem dX12_doWrite_160 : decode cX12_doWrite 160 = .ok (.iadd, 1) := by decide +kernel
theorem dX12_doWrite_161 : decode cX12_doWrite 161 = .ok (.iastore, 1) := by decide +kernel
theorem dX12_doWrite_162 : decode cX12_doWrite 162 = .ok (.iload_n 3, 1) := by decide +kernel
theorem dX12_doWrite_163 : decode cX12_doWrite 163 = .ok (.ireturn, 1) := by decide +kernel
theorem dX12_write_0 : decode cX12_write 0 = .ok (.aload_n 0, 1) := by decide +kernel
theorem dX12_write_1 : decode cX12_write 1 = .ok (.getfield 195, 3) := by decide +kernel
theorem dX12_write_4 : decode cX12_write 4 = .ok (.istore_n 1, 1) := by decide +kernel
theorem dX12_write_5 : decode cX12_write 5 = .ok (.iconst 0, 1) := by decide +kernel
theorem dX12_write_6 : decode cX12_write 6 = .ok (.istore_n 2, 1) := by decide +kernel
theorem dX12_write_7 : decode cX12_write 7 = .ok (.iload_n 2, 1) := by decide +kernel
theorem dX12_write_8 : decode cX12_write 8 = .ok (.iload_n 1, 1) := by decide +kernel
theorem dX12_write_9 : decode cX12_write 9 = .ok (.if_icmp .ge 21, 3) := by decide +kernel
theorem dX12_write_12 : decode cX12_write 12 = .ok (.aload_n 0, 1) := by decide +kernel
theorem dX12_write_13 : decode cX12_write 13 = .ok (.getfield 58, 3) := by decide +kernel
theorem dX12_write_16 : decode cX12_write 16 = .ok (.iload_n 2, 1) := by decide +kernel
theorem dX12_write_17 : decode cX12_write 17 = .ok (.aload_n 0, 1) := by decide +kernel
theorem dX12_write_18 : decode cX12_write 18 = .ok (.getfield 44, 3) := by decide +kernel
theorem dX12_write_21 : decode cX12_write 21 = .ok (.iload_n 2, 1) := by decide +kernel
theorem dX12_write_22 : decode cX12_write 22 = .ok (.caload, 1) := by decide +kernel
theorem dX12_write_23 : decode cX12_write 23 = .ok (.iastore, 1) := by decide +kernel
theorem dX12_write_24 : decode cX12_write 24 = .ok (.iinc 2 1, 3) := by decide +kernel
theorem dX12_write_27 : decode cX12_write 27 = .ok (.goto (-20), 3) := by decide +kernel
theorem dX12_write_30 : decode cX12_write 30 = .ok (.aload_n 0, 1) := by decide +kernel
theorem dX12_write_31 : decode cX12_write 31 = .ok (.invokevirtual 138, 3) := by decide +kernel
theorem dX12_write_34 : decode cX12_write 34 = .ok (.aload_n 0, 1) := by decide +kernel
theorem dX12_write_35 : decode cX12_write 35 = .ok (.iconst 0, 1) := by decide +kernel
theorem dX12_write_36 : decode cX12_write 36 = .ok (.putfield 195, 3) := by decide +kernel
theorem dX12_write_39 : decode cX12_write 39 = .ok (.aload_n 0, 1) := by decide +kernel
theorem dX12_write_40 : decode cX12_write 40 = .ok (.aload_n 0, 1) := by decide +kernel
theorem dX12_write_41 : decode cX12_write 41 = .ok (.iload_n 1, 1) := by decide +kernel
theorem dX12_write_42 : decode cX12_write 42 = .ok (.invokevirtual 226, 3) := by decide +kernel
theorem dX12_write_45 : decode cX12_write 45 = .ok (.invokevirtual 153, 3) := by decide +kernel
theorem dX12_write_48 : decode cX12_write 48 = .ok (.ireturn, 1) := by decide +kernel
theorem dX12_errorPosition_0 : decode cX12_errorPosition 0 = .ok (.aload_n 0, 1) := by decide +kernel
theorem dX12_errorPosition_1 : decode cX12_errorPosition 1 = .ok (.aload_n 0, 1) := by decide +kernel
theorem dX12_errorPosition_2 : decode cX12_errorPosition 2 = .ok (.getfield 48, 3) := by decide +kernel
theorem dX12_errorPosition_5 : decode cX12_errorPosition 5 = .ok (.ifCond .ge 7, 3) := by decide +kernel
theorem dX12_errorPosition_8 : decode cX12_errorPosition 8 = .ok (.iconst 1, 1) := by decide +kernel
theorem dX12_errorPosition_9 : decode cX12_errorPosition 9 = .ok (.goto 4, 3) := by decide +kernel
theorem dX12_errorPosition_12 : decode cX12_errorPosition 12 = .ok (.iconst 0, 1) := by decide +kernel
theorem dX12_errorPosition_13 : decode cX12_errorPosition 13 = .ok (.putfield 96, 3) := by decide +kernel
theorem dX12_errorPosition_16 : decode cX12_errorPosition 16 = .ok (.aload_n 0, 1) := by decide +kernel
theorem dX12_errorPosition_17 : decode cX12_errorPosition 17 = .ok (.getfield 96, 3) := by decide +kernel
theorem dX12_errorPosition_20 : decode cX12_errorPosition 20 = .ok (.ifCond .le 7, 3) := by decide +kernel
theorem dX12_errorPosition_23 : decode cX12_errorPosition 23 = .ok (.iconst 0, 1) := by decide +kernel
theorem dX12_errorPosition_24 : decode cX12_errorPosition 24 = .ok (.goto 7, 3) := by decide +kernel
theorem dX12_errorPosition_27 : decode cX12_errorPosition 27 = .ok (.aload_n 0, 1) := by decide +kernel
theorem dX12_errorPosition_28 : decode cX12_errorPosition 28 = .ok (.getfield 48, 3) := by decide +kernel
theorem dX12_errorPosition_31 : decode cX12_errorPosition 31 = .ok (.ireturn, 1) := by decide +kernel
theorem dX12_doErase_0 : decode cX12_doErase 0 = .ok (.aload_n 0, 1) := by decide +kernel
theorem dX12_doErase_1 : decode cX12_doErase 1 = .ok (.iload_n 1, 1) := by decide +kernel
theorem dX12_doErase_2 : decode cX12_doErase 2 = .ok (.invokevirtual 229, 3) := by decide +kernel
theorem dX12_doErase_5 : decode cX12_doErase 5 = .ok (.ifCond .ne 9, 3) := by decide +kernel
theorem dX12_doErase_8 : decode cX12_doErase 8 = .ok (.aload_n 0, 1) := by decide +kernel
theorem dX12_doErase_9 : decode cX12_doErase 9 = .ok (.iconst 1, 1) := by decide +kernel
theorem dX12_doErase_10 : decode cX12_doErase 10 = .ok (.invokevirtual 149, 3) := by decide +kernel
theorem dX12_doErase_13 : decode cX12_doErase 13 = .ok (.ireturn, 1) := by decide +kernel
theorem dX12_doErase_14 : decode cX12_doErase 14 = .ok (.aload_n 0, 1) := by decide +kernel
theorem dX12_doErase_15 : decode cX12_doErase 15 = .ok (.getfield 9, 3) := by decide +kernel
theorem dX12_doErase_18 : decode cX12_doErase 18 = .ok (.iconst 1, 1) := by decide +kernel
theorem dX12_doErase_19 : decode cX12_doErase 19 = .ok (.iaload, 1) := by decide +kernel
theorem dX12_doErase_20 : decode cX12_doErase 20 = .ok (.iconst 1, 1) := by decide +kernel
theorem dX12_doErase_21 : decode cX12_doErase 21 = .ok (.isub, 1) := by decide +kernel
theorem dX12_doErase_22 : decode cX12_doErase 22 = .ok (.istore_n 2, 1) := by decide +kernel
theorem dX12_doErase_23 : decode cX12_doErase 23 = .ok (.bipush 34, 2) := by decide +kernel
theorem dX12_doErase_25 : decode cX12_doErase 25 = .ok (.bipush 62, 2) := by decide +kernel
theorem dX12_doErase_27 : decode cX12_doErase 27 = .ok (.iload_n 1, 1) := by decide +kernel
theorem dX12_doErase_28 : decode cX12_doErase 28 = .ok (.imul, 1) := by decide +kernel
theorem dX12_doErase_29 : decode cX12_doErase 29 = .ok (.iadd, 1) := by decide +kernel
theorem dX12_doErase_30 : decode cX12_doErase 30 = .ok (.istore_n 3, 1) := by decide +kernel
theorem dX12_doErase_31 : decode cX12_doErase 31 = .ok (.aload_n 0, 1) := by decide +kernel
theorem dX12_doErase_32 : decode cX12_doErase 32 = .ok (.getfield 9, 3) := by decide +kernel
theorem dX12_doErase_35 : decode cX12_doErase 35 = .ok (.iload_n 3, 1) := by decide +kernel
theorem dX12_doErase_36 : decode cX12_doErase 36 = .ok (.bipush 62, 2) := by decide +kernel
theorem dX12_doErase_38 : decode cX12_doErase 38 = .ok (.iadd, 1) := by decide +kernel
theorem dX12_doErase_39 : decode cX12_doErase 39 = .ok (.aload_n 0, 1) := by decide +kernel
theorem dX12_doErase_40 : decode cX12_doErase 40 = .ok (.getfield 9, 3) := by decide +kernel
theorem dX12_doErase_43 : decode cX12_doErase 43 = .ok (.iload_n 3, 1) := by decide +kernel
theorem dX12_doErase_44 : decode cX12_doErase 44 = .ok (.bipush 62, 2) := by decide +kernel
theorem dX12_doErase_46 : decode cX12_doErase 46 = .ok (.iload_n 2, 1) := by decide +kernel
theorem dX12_doErase_47 : decode cX12_doErase 47 = .ok (.iload_n 1, 1) := by decide +kernel
theorem dX12_doErase_48 : decode cX12_doErase 48 = .ok (.isub, 1) := by decide +kernel
theorem dX12_doErase_49 : decode cX12_doErase 49 = .ok (.imul, 1) := by decide +kernel
theorem dX12_doErase_50 : decode cX12_doErase 50 = .ok (.invokestatic 99, 3) := by decide +kernel
theorem dX12_doErase_53 : decode cX12_doErase 53 = .ok (.aload_n 0, 1) := by decide +kernel
theorem dX12_doErase_54 : decode cX12_doErase 54 = .ok (.getfield 9, 3) := by decide +kernel
theorem dX12_doErase_57 : decode cX12_doErase 57 = .ok (.iconst 1, 1) := by decide +kernel
theorem dX12_doErase_58 : decode cX12_doErase 58 = .ok (.iload_n 2, 1) := by decide +kernel
theorem dX12_doErase_59 : decode cX12_doErase 59 = .ok (.iastore, 1) := by decide +kernel
theorem dX12_doErase_60 : decode cX12_doErase 60 = .ok (.iload_n 2, 1) := by decide +kernel
theorem dX12_doErase_61 : decode cX12_doErase 61 = .ok (.ireturn, 1) := by decide +kernel
theorem dX12_erase_0 : decode cX12_erase 0 = .ok (.aload_n 0, 1) := by decide +kernel
theorem dX12_erase_1 : decode cX12_erase 1 = .ok (.invokevirtual 138, 3) := by decide +kernel
theorem dX12_erase_4 : decode cX12_erase 4 = .ok (.aload_n 0, 1) := by decide +kernel
theorem dX12_erase_5 : decode cX12_erase 5 = .ok (.aload_n 0, 1) := by decide +kernel
theorem dX12_erase_6 : decode cX12_erase 6 = .ok (.iload_n 1, 1) := by decide +kernel
theorem dX12_erase_7 : decode cX12_erase 7 = .ok (.invokevirtual 232, 3) := by decide +kernel
theorem dX12_erase_10 : decode cX12_erase 10 = .ok (.invokevirtual 153, 3) := by decide +kernel
theorem dX12_erase_13 : decode cX12_erase 13 = .ok (.ireturn, 1) := by decide +kernel
theorem dX12_boilsBy_0 : decode cX12_boilsBy 0 = .ok (.aload_n 0, 1) := by decide +kernel
theorem dX12_boilsBy_1 : decode cX12_boilsBy 1 = .ok (.iload_n 1, 1) := by decide +kernel
theorem dX12_boilsBy_2 : decode cX12_boilsBy 2 = .ok (.putfield 235, 3) := by decide +kernel
theorem dX12_boilsBy_5 : decode cX12_boilsBy 5 = .ok (.aload_n 0, 1) := by decide +kernel
theorem dX12_boilsBy_6 : decode cX12_boilsBy 6 = .ok (.iload_n 2, 1) := by decide +kernel
theorem dX12_boilsBy_7 : decode cX12_boilsBy 7 = .ok (.putfield 238, 3) := by decide +kernel
theorem dX12_boilsBy_10 : decode cX12_boilsBy 10 = .ok (.iconst 1, 1) := by decide +kernel
theorem dX12_boilsBy_11 : decode cX12_boilsBy 11 = .ok (.ireturn, 1) := by decide +kernel
theorem dX12_reckons_0 : decode cX12_reckons 0 = .ok (.aload_n 0, 1) := by decide +kernel
theorem dX12_reckons_1 : decode cX12_reckons 1 = .ok (.getfield 61, 3) := by decide +kernel
theorem dX12_reckons_4 : decode cX12_reckons 4 = .ok (.iload_n 2, 1) := by decide +kernel
theorem dX12_reckons_5 : decode cX12_reckons 5 = .ok (.baload, 1) := by decide +kernel
theorem dX12_reckons_6 : decode cX12_reckons 6 = .ok (.aload_n 0, 1) := by decide +kernel
theorem dX12_reckons_7 : decode cX12_reckons 7 = .ok (.getfield 61, 3) := by decide +kernel
theorem dX12_reckons_10 : decode cX12_reckons 10 = .ok (.iload_n 2, 1) := by decide +kernel
theorem dX12_reckons_11 : decode cX12_reckons 11 = .ok (.iconst 1, 1) := by decide +kernel
theorem dX12_reckons_12 : decode cX12_reckons 12 = .ok (.isub, 1) := by decide +kernel
theorem dX12_reckons_13 : decode cX12_reckons 13 = .ok (.baload, 1) := by decide +kernel
theorem dX12_reckons_14 : decode cX12_reckons 14 = .ok (.if_icmp .eq 11, 3) := by decide +kernel
theorem dX12_reckons_17 : decode cX12_reckons 17 = .ok (.aload_n 0, 1) := by decide +kernel
theorem dX12_reckons_18 : decode cX12_reckons 18 = .ok (.bipush 7, 2) := by decide +kernel
theorem dX12_reckons_20 : decode cX12_reckons 20 = .ok (.iconst (-1), 1) := by decide +kernel
theorem dX12_reckons_21 : decode cX12_reckons 21 = .ok (.invokevirtual 241, 3) := by decide +kernel
theorem dX12_reckons_24 : decode cX12_reckons 24 = .ok (.ireturn, 1) := by decide +kernel
theorem dX12_reckons_25 : decode cX12_reckons 25 = .ok (.aload_n 0, 1) := by decide +kernel
theorem dX12_reckons_26 : decode cX12_reckons 26 = .ok (.getfield 65, 3) := by decide +kernel
theorem dX12_reckons_29 : decode cX12_reckons 29 = .ok (.iload_n 2, 1) := by decide +kernel
theorem dX12_reckons_30 : decode cX12_reckons 30 = .ok (.iconst 1, 1) := by decide +kernel
theorem dX12_reckons_31 : decode cX12_reckons 31 = .ok (.isub, 1) := by decide +kernel
theorem dX12_reckons_32 : decode cX12_reckons 32 = .ok (.laload, 1) := by decide +kernel
theorem dX12_reckons_33 : decode cX12_reckons 33 = .ok (.lstore_n 3, 1) := by decide +kernel
theorem dX12_reckons_34 : decode cX12_reckons 34 = .ok (.aload_n 0, 1) := by decide +kernel
theorem dX12_reckons_35 : decode cX12_reckons 35 = .ok (.getfield 65, 3) := by decide +kernel
theorem dX12_reckons_38 : decode cX12_reckons 38 = .ok (.iload_n 2, 1) := by decide +kernel
theorem dX12_reckons_39 : decode cX12_reckons 39 = .ok (.laload, 1) := by decide +kernel
theorem dX12_reckons_40 : decode cX12_reckons 40 = .ok (.lstore 5, 2) := by decide +kernel
theorem dX12_reckons_42 : decode cX12_reckons 42 = .ok (.aload_n 0, 1) := by decide +kernel
theorem dX12_reckons_43 : decode cX12_reckons 43 = .ok (.getfield 69, 3) := by decide +kernel
theorem dX12_reckons_46 : decode cX12_reckons 46 = .ok (.iload_n 2, 1) := by decide +kernel
theorem dX12_reckons_47 : decode cX12_reckons 47 = .ok (.iconst 1, 1) := by decide +kernel
theorem dX12_reckons_48 : decode cX12_reckons 48 = .ok (.isub, 1) := by decide +kernel
theorem dX12_reckons_49 : decode cX12_reckons 49 = .ok (.faload, 1) := by decide +kernel
theorem dX12_reckons_50 : decode cX12_reckons 50 = .ok (.fstore 7, 2) := by decide +kernel
theorem dX12_reckons_52 : decode cX12_reckons 52 = .ok (.aload_n 0, 1) := by decide +kernel
theorem dX12_reckons_53 : decode cX12_reckons 53 = .ok (.getfield 69, 3) := by decide +kernel
theorem dX12_reckons_56 : decode cX12_reckons 56 = .ok (.iload_n 2, 1) := by decide +kernel
theorem dX12_reckons_57 : decode cX12_reckons 57 = .ok (.faload, 1) := by decide +kernel
theorem dX12_reckons_58 : decode cX12_reckons 58 = .ok (.fstore 8, 2) := by decide +kernel
theorem dX12_reckons_60 : decode cX12_reckons 60 = .ok (.aload_n 0, 1) := by decide +kernel
theorem dX12_reckons_61 : decode cX12_reckons 61 = .ok (.getfield 65, 3) := by decide +kernel
theorem dX12_reckons_64 : decode cX12_reckons 64 = .ok (.iload_n 2, 1) := by decide +kernel
theorem dX12_reckons_65 : decode cX12_reckons 65 = .ok (.iconst 1, 1) := by decide +kernel
theorem dX12_reckons_66 : decode cX12_reckons 66 = .ok (.isub, 1) := by decide +kernel
theorem dX12_reckons_67 : decode cX12_reckons 67 = .ok (.iload_n 1, 1) := by decide +kernel
theorem dX12_reckons_68 : decode cX12_reckons 68 = .ok (.bipush 43, 2) := by decide +kernel
theorem dX12_reckons_70 : decode cX12_reckons 70 = .ok (.if_icmp .ne 10, 3) := by decide +kernel
theorem dX12_reckons_73 : decode cX12_reckons 73 = .ok (.lload_n 3, 1) := by decide +kernel
theorem dX12_reckons_74 : decode cX12_reckons 74 = .ok (.lload 5, 2) := by decide +kernel
theorem dX12_reckons_76 : decode cX12_reckons 76 = .ok (.ladd, 1) := by decide +kernel
theorem dX12_reckons_77 : decode cX12_reckons 77 = .ok (.goto 20, 3) := by decide +kernel
theorem dX12_reckons_80 : decode cX12_reckons 80 = .ok (.iload_n 1, 1) := by decide +kernel
theorem dX12_reckons_81 : decode cX12_reckons 81 = .ok (.bipush 45, 2) := by decide +kernel
theorem dX12_reckons_83 : decode cX12_reckons 83 = .ok (.if_icmp .ne 10, 3) := by decide +kernel
theorem dX12_reckons_86 : decode cX12_reckons 86 = .ok (.lload_n 3, 1) := by decide +kernel
theorem dX12_reckons_87 : decode cX12_reckons 87 = .ok (.lload 5, 2) := by decide +kernel
theorem dX12_reckons_89 : decode cX12_reckons 89 = .ok (.lsub, 1) := by decide +kernel
theorem dX12_reckons_90 : decode cX12_reckons 90 = .ok (.goto 7, 3) := by decide +kernel
theorem dX12_reckons_93 : decode cX12_reckons 93 = .ok (.lload_n 3, 1) := by decide +kernel
theorem dX12_reckons_94 : decode cX12_reckons 94 = .ok (.lload 5, 2) := by decide +kernel
theorem dX12_reckons_96 : decode cX12_reckons 96 = .ok (.lmul, 1) := by decide +kernel
theorem dX12_reckons_97 : decode cX12_reckons 97 = .ok (.lastore, 1) := by decide +kernel
theorem dX12_reckons_98 : decode cX12_reckons 98 = .ok (.aload_n 0, 1) := by decide +kernel
theorem dX12_reckons_99 : decode cX12_reckons 99 = .ok (.getfield 69, 3) := by decide +kernel
theorem dX12_reckons_102 : decode cX12_reckons 102 = .ok (.iload_n 2, 1) := by decide +kernel
theorem dX12_reckons_103 : decode cX12_reckons 103 = .ok (.iconst 1, 1) := by decide +kernel
theorem dX12_reckons_104 : decode cX12_reckons 104 = .ok (.isub, 1) := by decide +kernel
theorem dX12_reckons_105 : decode cX12_reckons 105 = .ok (.iload_n 1, 1) := by decide +kernel
theorem dX12_reckons_106 : decode cX12_reckons 106 = .ok (.bipush 43, 2) := by decide +kernel
theorem dX12_reckons_108 : decode cX12_reckons 108 = .ok (.if_icmp .ne 11, 3) := by decide +kernel
theorem dX12_reckons_111 : decode cX12_reckons 111 = .ok (.fload 7, 2) := by decide +kernel
theorem dX12_reckons_113 : decode cX12_reckons 113 = .ok (.fload 8, 2) := by decide +kernel
theorem dX12_reckons_115 : decode cX12_reckons 115 = .ok (.fadd, 1) := by decide +kernel
theorem dX12_reckons_116 : decode cX12_reckons 116 = .ok (.goto 22, 3) := by decide +kernel
theorem dX12_reckons_119 : decode cX12_reckons 119 = .ok (.iload_n 1, 1) := by decide +kernel
theorem dX12_reckons_120 : decode cX12_reckons 120 = .ok (.bipush 45, 2) := by decide +kernel
theorem dX12_reckons_122 : decode cX12_reckons 122 = .ok (.if_icmp .ne 11, 3) := by decide +kernel
theorem dX12_reckons_125 : decode cX12_reckons 125 = .ok (.fload 7, 2) := by decide +kernel
theorem dX12_reckons_127 : decode cX12_reckons 127 = .ok (.fload 8, 2) := by decide +kernel
theorem dX12_reckons_129 : decode cX12_reckons 129 = .ok (.fsub, 1) := by decide +kernel
theorem dX12_reckons_130 : decode cX12_reckons 130 = .ok (.goto 8, 3) := by decide +kernel
theorem dX12_reckons_133 : decode cX12_reckons 133 = .ok (.fload 7, 2) := by decide +kernel
theorem dX12_reckons_135 : decode cX12_reckons 135 = .ok (.fload 8, 2) := by decide +kernel
theorem dX12_reckons_137 : decode cX12_reckons 137 = .ok (.fmul, 1) := by decide +kernel
theorem dX12_reckons_138 : decode cX12_reckons 138 = .ok (.invokestatic 244, 3) := by decide +kernel
theorem dX12_reckons_141 : decode cX12_reckons 141 = .ok (.fastore, 1) := by decide +kernel
theorem dX12_reckons_142 : decode cX12_reckons 142 = .ok (.aload_n 0, 1) := by decide +kernel
theorem dX12_reckons_143 : decode cX12_reckons 143 = .ok (.getfield 61, 3) := by decide +kernel
theorem dX12_reckons_146 : decode cX12_reckons 146 = .ok (.iload_n 2, 1) := by decide +kernel
theorem dX12_reckons_147 : decode cX12_reckons 147 = .ok (.baload, 1) := by decide +kernel
theorem dX12_reckons_148 : decode cX12_reckons 148 = .ok (.ifCond .ne 23, 3) := by decide +kernel
theorem dX12_reckons_151 : decode cX12_reckons 151 = .ok (.aload_n 0, 1) := by decide +kernel
theorem dX12_reckons_152 : decode cX12_reckons 152 = .ok (.getfield 65, 3) := by decide +kernel
theorem dX12_reckons_155 : decode cX12_reckons 155 = .ok (.iload_n 2, 1) := by decide +kernel
theorem dX12_reckons_156 : decode cX12_reckons 156 = .ok (.iconst 1, 1) := by decide +kernel
theorem dX12_reckons_157 : decode cX12_reckons 157 = .ok (.isub, 1) := by decide +kernel
theorem dX12_reckons_158 : decode cX12_reckons 158 = .ok (.laload, 1) := by decide +kernel
theorem dX12_reckons_159 : decode cX12_reckons 159 = .ok (.ldc2_w 248, 3) := by decide +kernel
theorem dX12_reckons_162 : decode cX12_reckons 162 = .ok (.ldc2_w 250, 3) := by decide +kernel
theorem dX12_reckons_165 : decode cX12_reckons 165 = .ok (.invokestatic 112, 3) := by decide +kernel
theorem dX12_reckons_168 : decode cX12_reckons 168 = .ok (.ifCond .eq 7, 3) := by decide +kernel
theorem dX12_reckons_171 : decode cX12_reckons 171 = .ok (.iconst 1, 1) := by decide +kernel
theorem dX12_reckons_172 : decode cX12_reckons 172 = .ok (.goto 4, 3) := by decide +kernel
theorem dX12_reckons_175 : decode cX12_reckons 175 = .ok (.iconst 0, 1) := by decide +kernel
theorem dX12_reckons_176 : decode cX12_reckons 176 = .ok (.istore 9, 2) := by decide +kernel
theorem dX12_reckons_178 : decode cX12_reckons 178 = .ok (.iload 9, 2) := by decide +kernel
theorem dX12_reckons_180 : decode cX12_reckons 180 = .ok (.ifCond .ne 34, 3) := by decide +kernel
theorem dX12_reckons_183 : decode cX12_reckons 183 = .ok (.aload_n 0, 1) := by decide +kernel
theorem dX12_reckons_184 : decode cX12_reckons 184 = .ok (.bipush 8, 2) := by decide +kernel
theorem dX12_reckons_186 : decode cX12_reckons 186 = .ok (.aload_n 0, 1) := by decide +kernel
theorem dX12_reckons_187 : decode cX12_reckons 187 = .ok (.getfield 65, 3) := by decide +kernel
theorem dX12_reckons_190 : decode cX12_reckons 190 = .ok (.iload_n 2, 1) := by decide +kernel
theorem dX12_reckons_191 : decode cX12_reckons 191 = .ok (.iconst 1, 1) := by decide +kernel
theorem dX12_reckons_192 : decode cX12_reckons 192 = .ok (.isub, 1) := by decide +kernel
theorem dX12_reckons_193 : decode cX12_reckons 193 = .ok (.laload, 1) := by decide +kernel
theorem dX12_reckons_194 : decode cX12_reckons 194 = .ok (.lconst 0, 1) := by decide +kernel
theorem dX12_reckons_195 : decode cX12_reckons 195 = .ok (.lcmp, 1) := by decide +kernel
theorem dX12_reckons_196 : decode cX12_reckons 196 = .ok (.ifCond .ge 7, 3) := by decide +kernel
theorem dX12_reckons_199 : decode cX12_reckons 199 = .ok (.iconst (-1), 1) := by decide +kernel
theorem dX12_reckons_200 : decode cX12_reckons 200 = .ok (.goto 4, 3) := by decide +kernel
theorem dX12_reckons_203 : decode cX12_reckons 203 = .ok (.iconst 1, 1) := by decide +kernel
theorem dX12_reckons_204 : decode cX12_reckons 204 = .ok (.invokevirtual 241, 3) := by decide +kernel
theorem dX12_reckons_207 : decode cX12_reckons 207 = .ok (.ifCond .eq 7, 3) := by decide +kernel
theorem dX12_reckons_210 : decode cX12_reckons 210 = .ok (.iconst 1, 1) := by decide +kernel
theorem dX12_reckons_211 : decode cX12_reckons 211 = .ok (.goto 4, 3) := by decide +kernel
theorem dX12_reckons_214 : decode cX12_reckons 214 = .ok (.iconst 0, 1) := by decide +kernel
theorem dX12_reckons_215 : decode cX12_reckons 215 = .ok (.ireturn, 1) := by decide +kernel
theorem dX12_held_0 : decode cX12_held 0 = .ok (.fload_n 0, 1) := by decide +kernel
theorem dX12_held_1 : decode cX12_held 1 = .ok (.ldc 252, 2) := by decide +kernel
theorem dX12_held_3 : decode cX12_held 3 = .ok (.fcmp .g, 1) := by decide +kernel
theorem dX12_held_4 : decode cX12_held 4 = .ok (.ifCond .ge 8, 3) := by decide +kernel
theorem dX12_held_7 : decode cX12_held 7 = .ok (.ldc 252, 2) := by decide +kernel
theorem dX12_held_9 : decode cX12_held 9 = .ok (.goto 16, 3) := by decide +kernel
theorem dX12_held_12 : decode cX12_held 12 = .ok (.fload_n 0, 1) := by decide +kernel
theorem dX12_held_13 : decode cX12_held 13 = .ok (.ldc 253, 2) := by decide +kernel
theorem dX12_held_15 : decode cX12_held 15 = .ok (.fcmp .l, 1) := by decide +kernel
theorem dX12_held_16 : decode cX12_held 16 = .ok (.ifCond .le 8, 3) := by decide +kernel
theorem dX12_held_19 : decode cX12_held 19 = .ok (.ldc 253, 2) := by decide +kernel
theorem dX12_held_21 : decode cX12_held 21 = .ok (.goto 4, 3) := by decide +kernel
theorem dX12_held_24 : decode cX12_held 24 = .ok (.fload_n 0, 1) := by decide +kernel
theorem dX12_held_25 : decode cX12_held 25 = .ok (.freturn, 1) := by decide +kernel
theorem dX12_cut_0 : decode cX12_cut 0 = .ok (.bipush (-99), 2) := by decide +kernel
theorem dX12_cut_2 : decode cX12_cut 2 = .ok (.bipush 99, 2) := by decide +kernel
theorem dX12_cut_4 : decode cX12_cut 4 = .ok (.fload_n 0, 1) := by decide +kernel
theorem dX12_cut_5 : decode cX12_cut 5 = .ok (.f2i, 1) := by decide +kernel
theorem dX12_cut_6 : decode cX12_cut 6 = .ok (.invokestatic 130, 3) := by decide +kernel
theorem dX12_cut_9 : decode cX12_cut 9 = .ok (.invokestatic 135, 3) := by decide +kernel
theorem dX12_cut_12 : decode cX12_cut 12 = .ok (.ireturn, 1) := by decide +kernel
theorem dX12_casts_0 : decode cX12_casts 0 = .ok (.aload_n 0, 1) := by decide +kernel
theorem dX12_casts_1 : decode cX12_casts 1 = .ok (.getfield 61, 3) := by decide +kernel
theorem dX12_casts_4 : decode cX12_casts 4 = .ok (.iload_n 2, 1) := by decide +kernel
theorem dX12_casts_5 : decode cX12_casts 5 = .ok (.baload, 1) := by decide +kernel
theorem dX12_casts_6 : decode cX12_casts 6 = .ok (.iload_n 1, 1) := by decide +kernel
theorem dX12_casts_7 : decode cX12_casts 7 = .ok (.bipush 33, 2) := by decide +kernel
theorem dX12_casts_9 : decode cX12_casts 9 = .ok (.if_icmp .ne 7, 3) := by decide +kernel
theorem dX12_casts_12 : decode cX12_casts 12 = .ok (.iconst 1, 1) := by decide +kernel
theorem dX12_casts_13 : decode cX12_casts 13 = .ok (.goto 4, 3) := by decide +kernel
theorem dX12_casts_16 : decode cX12_casts 16 = .ok (.iconst 0, 1) := by decide +kernel
theorem dX12_casts_17 : decode cX12_casts 17 = .ok (.if_icmp .eq 11, 3) := by decide +kernel
theorem dX12_casts_20 : decode cX12_casts 20 = .ok (.aload_n 0, 1) := by decide +kernel
theorem dX12_casts_21 : decode cX12_casts 21 = .ok (.bipush 7, 2) := by decide +kernel
theorem dX12_casts_23 : decode cX12_casts 23 = .ok (.iconst (-1), 1) := by decide +kernel
theorem dX12_casts_24 : decode cX12_casts 24 = .ok (.invokevirtual 241, 3) := by decide +kernel
theorem dX12_casts_27 : decode cX12_casts 27 = .ok (.ireturn, 1) := by decide +kernel
theorem dX12_casts_28 : decode cX12_casts 28 = .ok (.iload_n 1, 1) := by decide +kernel
theorem dX12_casts_29 : decode cX12_casts 29 = .ok (.bipush 33, 2) := by decide +kernel
theorem dX12_casts_31 : decode cX12_casts 31 = .ok (.if_icmp .ne 22, 3) := by decide +kernel
theorem dX12_casts_34 : decode cX12_casts 34 = .ok (.aload_n 0, 1) := by decide +kernel
theorem dX12_casts_35 : decode cX12_casts 35 = .ok (.getfield 65, 3) := by decide +kernel
theorem dX12_casts_38 : decode cX12_casts 38 = .ok (.iload_n 2, 1) := by decide +kernel
theorem dX12_casts_39 : decode cX12_casts 39 = .ok (.aload_n 0, 1) := by decide +kernel
theorem dX12_casts_40 : decode cX12_casts 40 = .ok (.getfield 69, 3) := by decide +kernel
theorem dX12_casts_43 : decode cX12_casts 43 = .ok (.iload_n 2, 1) := by decide +kernel
theorem dX12_casts_44 : decode cX12_casts 44 = .ok (.faload, 1) := by decide +kernel
theorem dX12_casts_45 : decode cX12_casts 45 = .ok (.invokestatic 254, 3) := by decide +kernel
theorem dX12_casts_48 : decode cX12_casts 48 = .ok (.i2l, 1) := by decide +kernel
theorem dX12_casts_49 : decode cX12_casts 49 = .ok (.lastore, 1) := by decide +kernel
theorem dX12_casts_50 : decode cX12_casts 50 = .ok (.goto 20, 3) := by decide +kernel
theorem dX12_casts_53 : decode cX12_casts 53 = .ok (.aload_n 0, 1) := by decide +kernel
theorem dX12_casts_54 : decode cX12_casts 54 = .ok (.getfield 69, 3) := by decide +kernel
theorem dX12_casts_57 : decode cX12_casts 57 = .ok (.iload_n 2, 1) := by decide +kernel
theorem dX12_casts_58 : decode cX12_casts 58 = .ok (.aload_n 0, 1) := by decide +kernel
theorem dX12_casts_59 : decode cX12_casts 59 = .ok (.getfield 65, 3) := by decide +kernel
theorem dX12_casts_62 : decode cX12_casts 62 = .ok (.iload_n 2, 1) := by decide +kernel
theorem dX12_casts_63 : decode cX12_casts 63 = .ok (.laload, 1) := by decide +kernel
theorem dX12_casts_64 : decode cX12_casts 64 = .ok (.l2i, 1) := by decide +kernel
theorem dX12_casts_65 : decode cX12_casts 65 = .ok (.i2f, 1) := by decide +kernel
theorem dX12_casts_66 : decode cX12_casts 66 = .ok (.invokestatic 244, 3) := by decide +kernel
theorem dX12_casts_69 : decode cX12_casts 69 = .ok (.fastore, 1) := by decide +kernel
theorem dX12_casts_70 : decode cX12_casts 70 = .ok (.aload_n 0, 1) := by decide +kernel
theorem dX12_casts_71 : decode cX12_casts 71 = .ok (.getfield 61, 3) := by decide +kernel
theorem dX12_casts_74 : decode cX12_casts 74 = .ok (.iload_n 2, 1) := by decide +kernel
theorem dX12_casts_75 : decode cX12_casts 75 = .ok (.iload_n 1, 1) := by decide +kernel
theorem dX12_casts_76 : decode cX12_casts 76 = .ok (.bipush 126, 2) := by decide +kernel
theorem dX12_casts_78 : decode cX12_casts 78 = .ok (.if_icmp .ne 7, 3) := by decide +kernel
theorem dX12_casts_81 : decode cX12_casts 81 = .ok (.iconst 1, 1) := by decide +kernel
theorem dX12_casts_82 : decode cX12_casts 82 = .ok (.goto 4, 3) := by decide +kernel
theorem dX12_casts_85 : decode cX12_casts 85 = .ok (.iconst 0, 1) := by decide +kernel
theorem dX12_casts_86 : decode cX12_casts 86 = .ok (.bastore, 1) := by decide +kernel
theorem dX12_casts_87 : decode cX12_casts 87 = .ok (.iconst 0, 1) := by decide +kernel
theorem dX12_casts_88 : decode cX12_casts 88 = .ok (.ireturn, 1) := by decide +kernel
theorem dX12_stores_0 : decode cX12_stores 0 = .ok (.aload_n 0, 1) := by decide +kernel
theorem dX12_stores_1 : decode cX12_stores 1 = .ok (.getfield 61, 3) := by decide +kernel
theorem dX12_stores_4 : decode cX12_stores 4 = .ok (.iload_n 2, 1) := by decide +kernel
theorem dX12_stores_5 : decode cX12_stores 5 = .ok (.baload, 1) := by decide +kernel
theorem dX12_stores_6 : decode cX12_stores 6 = .ok (.aload_n 0, 1) := by decide +kernel
theorem dX12_stores_7 : decode cX12_stores 7 = .ok (.iload_n 1, 1) := by decide +kernel
theorem dX12_stores_8 : decode cX12_stores 8 = .ok (.invokevirtual 160, 3) := by decide +kernel
theorem dX12_stores_11 : decode cX12_stores 11 = .ok (.if_icmp .eq 11, 3) := by decide +kernel
theorem dX12_stores_14 : decode cX12_stores 14 = .ok (.aload_n 0, 1) := by decide +kernel
theorem dX12_stores_15 : decode cX12_stores 15 = .ok (.bipush 7, 2) := by decide +kernel
theorem dX12_stores_17 : decode cX12_stores 17 = .ok (.iload_n 1, 1) := by decide +kernel
theorem dX12_stores_18 : decode cX12_stores 18 = .ok (.invokevirtual 241, 3) := by decide +kernel
theorem dX12_stores_21 : decode cX12_stores 21 = .ok (.ireturn, 1) := by decide +kernel
theorem dX12_stores_22 : decode cX12_stores 22 = .ok (.aload_n 0, 1) := by decide +kernel
theorem dX12_stores_23 : decode cX12_stores 23 = .ok (.getfield 61, 3) := by decide +kernel
theorem dX12_stores_26 : decode cX12_stores 26 = .ok (.iload_n 2, 1) := by decide +kernel
theorem dX12_stores_27 : decode cX12_stores 27 = .ok (.baload, 1) := by decide +kernel
theorem dX12_stores_28 : decode cX12_stores 28 = .ok (.ifCond .ne 30, 3) := by decide +kernel
theorem dX12_stores_31 : decode cX12_stores 31 = .ok (.aload_n 0, 1) := by decide +kernel
theorem dX12_stores_32 : decode cX12_stores 32 = .ok (.iload_n 1, 1) := by decide +kernel
theorem dX12_stores_33 : decode cX12_stores 33 = .ok (.aload_n 0, 1) := by decide +kernel
theorem dX12_stores_34 : decode cX12_stores 34 = .ok (.getfield 65, 3) := by decide +kernel
theorem dX12_stores_37 : decode cX12_stores 37 = .ok (.iload_n 2, 1) := by decide +kernel
theorem dX12_stores_38 : decode cX12_stores 38 = .ok (.laload, 1) := by decide +kernel
theorem dX12_stores_39 : decode cX12_stores 39 = .ok (.invokevirtual 163, 3) := by decide +kernel
theorem dX12_stores_42 : decode cX12_stores 42 = .ok (.ifCond .ne 16, 3) := by decide +kernel
theorem dX12_stores_45 : decode cX12_stores 45 = .ok (.aload_n 0, 1) := by decide +kernel
theorem dX12_stores_46 : decode cX12_stores 46 = .ok (.iconst 3, 1) := by decide +kernel
theorem dX12_stores_47 : decode cX12_stores 47 = .ok (.aload_n 0, 1) := by decide +kernel
theorem dX12_stores_48 : decode cX12_stores 48 = .ok (.getfield 65, 3) := by decide +kernel
theorem dX12_stores_51 : decode cX12_stores 51 = .ok (.iload_n 2, 1) := by decide +kernel
theorem dX12_stores_52 : decode cX12_stores 52 = .ok (.laload, 1) := by decide +kernel
theorem dX12_stores_53 : decode cX12_stores 53 = .ok (.l2i, 1) := by decide +kernel
theorem dX12_stores_54 : decode cX12_stores 54 = .ok (.invokevirtual 241, 3) := by decide +kernel
theorem dX12_stores_57 : decode cX12_stores 57 = .ok (.ireturn, 1) := by decide +kernel
theorem dX12_stores_58 : decode cX12_stores 58 = .ok (.aload_n 0, 1) := by decide +kernel
theorem dX12_stores_59 : decode cX12_stores 59 = .ok (.iload_n 1, 1) := by decide +kernel
theorem dX12_stores_60 : decode cX12_stores 60 = .ok (.iconst 3, 1) := by decide +kernel
theorem dX12_stores_61 : decode cX12_stores 61 = .ok (.aload_n 0, 1) := by decide +kernel
theorem dX12_stores_62 : decode cX12_stores 62 = .ok (.getfield 61, 3) := by decide +kernel
theorem dX12_stores_65 : decode cX12_stores 65 = .ok (.iload_n 2, 1) := by decide +kernel
theorem dX12_stores_66 : decode cX12_stores 66 = .ok (.baload, 1) := by decide +kernel
theorem dX12_stores_67 : decode cX12_stores 67 = .ok (.ifCond .eq 7, 3) := by decide +kernel
theorem dX12_stores_70 : decode cX12_stores 70 = .ok (.iconst 0, 1) := by decide +kernel
theorem dX12_stores_71 : decode cX12_stores 71 = .ok (.goto 10, 3) := by decide +kernel
theorem dX12_stores_74 : decode cX12_stores 74 = .ok (.aload_n 0, 1) := by decide +kernel
theorem dX12_stores_75 : decode cX12_stores 75 = .ok (.getfield 65, 3) := by decide +kernel
theorem dX12_stores_78 : decode cX12_stores 78 = .ok (.iload_n 2, 1) := by decide +kernel
theorem dX12_stores_79 : decode cX12_stores 79 = .ok (.laload, 1) := by decide +kernel
theorem dX12_stores_80 : decode cX12_stores 80 = .ok (.l2i, 1) := by decide +kernel
theorem dX12_stores_81 : decode cX12_stores 81 = .ok (.invokevirtual 126, 3) := by decide +kernel
theorem dX12_stores_84 : decode cX12_stores 84 = .ok (.aload_n 0, 1) := by decide +kernel
theorem dX12_stores_85 : decode cX12_stores 85 = .ok (.getfield 13, 3) := by decide +kernel
theorem dX12_stores_88 : decode cX12_stores 88 = .ok (.iload_n 1, 1) := by decide +kernel
theorem dX12_stores_89 : decode cX12_stores 89 = .ok (.aload_n 0, 1) := by decide +kernel
theorem dX12_stores_90 : decode cX12_stores 90 = .ok (.getfield 61, 3) := by decide +kernel
theorem dX12_stores_93 : decode cX12_stores 93 = .ok (.iload_n 2, 1) := by decide +kernel
theorem dX12_stores_94 : decode cX12_stores 94 = .ok (.baload, 1) := by decide +kernel
theorem dX12_stores_95 : decode cX12_stores 95 = .ok (.ifCond .eq 12, 3) := by decide +kernel
theorem dX12_stores_98 : decode cX12_stores 98 = .ok (.aload_n 0, 1) := by decide +kernel
theorem dX12_stores_99 : decode cX12_stores 99 = .ok (.getfield 69, 3) := by decide +kernel
theorem dX12_stores_102 : decode cX12_stores 102 = .ok (.iload_n 2, 1) := by decide +kernel
theorem dX12_stores_103 : decode cX12_stores 103 = .ok (.faload, 1) := by decide +kernel
theorem dX12_stores_104 : decode cX12_stores 104 = .ok (.goto 4, 3) := by decide +kernel
theorem dX12_stores_107 : decode cX12_stores 107 = .ok (.fconst 0, 1) := by decide +kernel
theorem dX12_stores_108 : decode cX12_stores 108 = .ok (.fastore, 1) := by decide +kernel
theorem dX12_stores_109 : decode cX12_stores 109 = .ok (.aload_n 0, 1) := by decide +kernel
theorem dX12_stores_110 : decode cX12_stores 110 = .ok (.iload_n 1, 1) := by decide +kernel
theorem dX12_stores_111 : decode cX12_stores 111 = .ok (.iconst 4, 1) := by decide +kernel
theorem dX12_stores_112 : decode cX12_stores 112 = .ok (.aload_n 0, 1) := by decide +kernel
theorem dX12_stores_113 : decode cX12_stores 113 = .ok (.iload_n 1, 1) := by decide +kernel
theorem dX12_stores_114 : decode cX12_stores 114 = .ok (.iconst 4, 1) := by decide +kernel
theorem dX12_stores_115 : decode cX12_stores 115 = .ok (.invokevirtual 116, 3) := by decide +kernel
theorem dX12_stores_118 : decode cX12_stores 118 = .ok (.iconst 1, 1) := by decide +kernel
theorem dX12_stores_119 : decode cX12_stores 119 = .ok (.iadd, 1) := by decide +kernel
theorem dX12_stores_120 : decode cX12_stores 120 = .ok (.invokevirtual 126, 3) := by decide +kernel
theorem dX12_stores_123 : decode cX12_stores 123 = .ok (.aload_n 0, 1) := by decide +kernel
theorem dX12_stores_124 : decode cX12_stores 124 = .ok (.getfield 9, 3) := by decide +kernel
theorem dX12_stores_127 : decode cX12_stores 127 = .ok (.iconst 3, 1) := by decide +kernel
theorem dX12_stores_128 : decode cX12_stores 128 = .ok (.dup2, 1) := by decide +kernel
theorem dX12_stores_129 : decode cX12_stores 129 = .ok (.iaload, 1) := by decide +kernel
theorem dX12_stores_130 : decode cX12_stores 130 = .ok (.iconst 1, 1) := by decide +kernel
theorem dX12_stores_131 : decode cX12_stores 131 = .ok (.iadd, 1) := by decide +kernel
theorem dX12_stores_132 : decode cX12_stores 132 = .ok (.iastore, 1) := by decide +kernel
theorem dX12_stores_133 : decode cX12_stores 133 = .ok (.iconst 0, 1) := by decide +kernel
theorem dX12_stores_134 : decode cX12_stores 134 = .ok (.ireturn, 1) := by decide +kernel
theorem dX12_does_0 : decode cX12_does 0 = .ok (.aload_n 0, 1) := by decide +kernel
theorem dX12_does_1 : decode cX12_does 1 = .ok (.iload_n 1, 1) := by decide +kernel
theorem dX12_does_2 : decode cX12_does 2 = .ok (.invokevirtual 223, 3) := by decide +kernel
theorem dX12_does_5 : decode cX12_does 5 = .ok (.ifCond .ne 11, 3) := by decide +kernel
theorem dX12_does_8 : decode cX12_does 8 = .ok (.aload_n 0, 1) := by decide +kernel
theorem dX12_does_9 : decode cX12_does 9 = .ok (.iload_n 1, 1) := by decide +kernel
theorem dX12_does_10 : decode cX12_does 10 = .ok (.invokevirtual 257, 3) := by decide +kernel
theorem dX12_does_13 : decode cX12_does 13 = .ok (.ifCond .eq 88, 3) := by decide +kernel
theorem dX12_does_16 : decode cX12_does 16 = .ok (.aload_n 0, 1) := by decide +kernel
theorem dX12_does_17 : decode cX12_does 17 = .ok (.iload_n 1, 1) := by decide +kernel
theorem dX12_does_18 : decode cX12_does 18 = .ok (.invokevirtual 223, 3) := by decide +kernel
theorem dX12_does_21 : decode cX12_does 21 = .ok (.istore_n 3, 1) := by decide +kernel
theorem dX12_does_22 : decode cX12_does 22 = .ok (.aload_n 0, 1) := by decide +kernel
theorem dX12_does_23 : decode cX12_does 23 = .ok (.getfield 55, 3) := by decide +kernel
theorem dX12_does_26 : decode cX12_does 26 = .ok (.iload_n 1, 1) := by decide +kernel
theorem dX12_does_27 : decode cX12_does 27 = .ok (.iaload, 1) := by decide +kernel
theorem dX12_does_28 : decode cX12_does 28 = .ok (.istore 4, 2) := by decide +kernel
theorem dX12_does_30 : decode cX12_does 30 = .ok (.aload_n 0, 1) := by decide +kernel
theorem dX12_does_31 : decode cX12_does 31 = .ok (.getfield 61, 3) := by decide +kernel
theorem dX12_does_34 : decode cX12_does 34 = .ok (.iload_n 2, 1) := by decide +kernel
theorem dX12_does_35 : decode cX12_does 35 = .ok (.iload_n 3, 1) := by decide +kernel
theorem dX12_does_36 : decode cX12_does 36 = .ok (.ifCond .eq 16, 3) := by decide +kernel
theorem dX12_does_39 : decode cX12_does 39 = .ok (.aload_n 0, 1) := by decide +kernel
theorem dX12_does_40 : decode cX12_does 40 = .ok (.iload 4, 2) := by decide +kernel
theorem dX12_does_42 : decode cX12_does 42 = .ok (.invokevirtual 160, 3) := by decide +kernel
theorem dX12_does_45 : decode cX12_does 45 = .ok (.ifCond .eq 7, 3) := by decide +kernel
theorem dX12_does_48 : decode cX12_does 48 = .ok (.iconst 1, 1) := by decide +kernel
theorem dX12_does_49 : decode cX12_does 49 = .ok (.goto 4, 3) := by decide +kernel
theorem dX12_does_52 : decode cX12_does 52 = .ok (.iconst 0, 1) := by decide +kernel
theorem dX12_does_53 : decode cX12_does 53 = .ok (.bastore, 1) := by decide +kernel
theorem dX12_does_54 : decode cX12_does 54 = .ok (.aload_n 0, 1) := by decide +kernel
theorem dX12_does_55 : decode cX12_does 55 = .ok (.getfield 65, 3) := by decide +kernel
theorem dX12_does_58 : decode cX12_does 58 = .ok (.iload_n 2, 1) := by decide +kernel
theorem dX12_does_59 : decode cX12_does 59 = .ok (.iload_n 3, 1) := by decide +kernel
theorem dX12_does_60 : decode cX12_does 60 = .ok (.ifCond .eq 14, 3) := by decide +kernel
theorem dX12_does_63 : decode cX12_does 63 = .ok (.aload_n 0, 1) := by decide +kernel
theorem dX12_does_64 : decode cX12_does 64 = .ok (.iload 4, 2) := by decide +kernel
theorem dX12_does_66 : decode cX12_does 66 = .ok (.iconst 3, 1) := by decide +kernel
theorem dX12_does_67 : decode cX12_does 67 = .ok (.invokevirtual 116, 3) := by decide +kernel
theorem dX12_does_70 : decode cX12_does 70 = .ok (.i2l, 1) := by decide +kernel
theorem dX12_does_71 : decode cX12_does 71 = .ok (.goto 6, 3) := by decide +kernel
theorem dX12_does_74 : decode cX12_does 74 = .ok (.iload 4, 2) := by decide +kernel
theorem dX12_does_76 : decode cX12_does 76 = .ok (.i2l, 1) := by decide +kernel
theorem dX12_does_77 : decode cX12_does 77 = .ok (.lastore, 1) := by decide +kernel
theorem dX12_does_78 : decode cX12_does 78 = .ok (.aload_n 0, 1) := by decide +kernel
theorem dX12_does_79 : decode cX12_does 79 = .ok (.getfield 69, 3) := by decide +kernel
theorem dX12_does_82 : decode cX12_does 82 = .ok (.iload_n 2, 1) := by decide +kernel
theorem dX12_does_83 : decode cX12_does 83 = .ok (.iload_n 3, 1) := by decide +kernel
theorem dX12_does_84 : decode cX12_does 84 = .ok (.ifCond .eq 13, 3) := by decide +kernel
theorem dX12_does_87 : decode cX12_does 87 = .ok (.aload_n 0, 1) := by decide +kernel
theorem dX12_does_88 : decode cX12_does 88 = .ok (.getfield 13, 3) := by decide +kernel
theorem dX12_does_91 : decode cX12_does 91 = .ok (.iload 4, 2) := by decide +kernel
theorem dX12_does_93 : decode cX12_does 93 = .ok (.faload, 1) := by decide +kernel
theorem dX12_does_94 : decode cX12_does 94 = .ok (.goto 4, 3) := by decide +kernel
theorem dX12_does_97 : decode cX12_does 97 = .ok (.fconst 0, 1) := by decide +kernel
theorem dX12_does_98 : decode cX12_does 98 = .ok (.fastore, 1) := by decide +kernel
theorem dX12_does_99 : decode cX12_does 99 = .ok (.iconst 0, 1) := by decide +kernel
theorem dX12_does_100 : decode cX12_does 100 = .ok (.ireturn, 1) := by decide +kernel
theorem dX12_does_101 : decode cX12_does 101 = .ok (.aload_n 0, 1) := by decide +kernel
theorem dX12_does_102 : decode cX12_does 102 = .ok (.getfield 52, 3) := by decide +kernel
theorem dX12_does_105 : decode cX12_does 105 = .ok (.iload_n 1, 1) := by decide +kernel
theorem dX12_does_106 : decode cX12_does 106 = .ok (.caload, 1) := by decide +kernel
theorem dX12_does_107 : decode cX12_does 107 = .ok (.lookupswitch 61 #[(33, 47), (61, 33), (126, 47)], 33) := by decide +kernel
theorem dX12_does_140 : decode cX12_does 140 = .ok (.aload_n 0, 1) := by decide +kernel
theorem dX12_does_141 : decode cX12_does 141 = .ok (.aload_n 0, 1) := by decide +kernel
theorem dX12_does_142 : decode cX12_does 142 = .ok (.getfield 55, 3) := by decide +kernel
theorem dX12_does_145 : decode cX12_does 145 = .ok (.iload_n 1, 1) := by decide +kernel
theorem dX12_does_146 : decode cX12_does 146 = .ok (.iaload, 1) := by decide +kernel
theorem dX12_does_147 : decode cX12_does 147 = .ok (.iload_n 2, 1) := by decide +kernel
theorem dX12_does_148 : decode cX12_does 148 = .ok (.iconst 1, 1) := by decide +kernel
theorem dX12_does_149 : decode cX12_does 149 = .ok (.isub, 1) := by decide +kernel
theorem dX12_does_150 : decode cX12_does 150 = .ok (.invokevirtual 260, 3) := by decide +kernel
theorem dX12_does_153 : decode cX12_does 153 = .ok (.ireturn, 1) := by decide +kernel
theorem dX12_does_154 : decode cX12_does 154 = .ok (.aload_n 0, 1) := by decide +kernel
theorem dX12_does_155 : decode cX12_does 155 = .ok (.aload_n 0, 1) := by decide +kernel
theorem dX12_does_156 : decode cX12_does 156 = .ok (.getfield 52, 3) := by decide +kernel
theorem dX12_does_159 : decode cX12_does 159 = .ok (.iload_n 1, 1) := by decide +kernel
theorem dX12_does_160 : decode cX12_does 160 = .ok (.caload, 1) := by decide +kernel
theorem dX12_does_161 : decode cX12_does 161 = .ok (.iload_n 2, 1) := by decide +kernel
theorem dX12_does_162 : decode cX12_does 162 = .ok (.iconst 1, 1) := by decide +kernel
theorem dX12_does_163 : decode cX12_does 163 = .ok (.isub, 1) := by decide +kernel
theorem dX12_does_164 : decode cX12_does 164 = .ok (.invokevirtual 263, 3) := by decide +kernel
theorem dX12_does_167 : decode cX12_does 167 = .ok (.ireturn, 1) := by decide +kernel
theorem dX12_does_168 : decode cX12_does 168 = .ok (.aload_n 0, 1) := by decide +kernel
theorem dX12_does_169 : decode cX12_does 169 = .ok (.aload_n 0, 1) := by decide +kernel
theorem dX12_does_170 : decode cX12_does 170 = .ok (.getfield 52, 3) := by decide +kernel
theorem dX12_does_173 : decode cX12_does 173 = .ok (.iload_n 1, 1) := by decide +kernel
theorem dX12_does_174 : decode cX12_does 174 = .ok (.caload, 1) := by decide +kernel
theorem dX12_does_175 : decode cX12_does 175 = .ok (.iload_n 2, 1) := by decide +kernel
theorem dX12_does_176 : decode cX12_does 176 = .ok (.iconst 1, 1) := by decide +kernel
theorem dX12_does_177 : decode cX12_does 177 = .ok (.isub, 1) := by decide +kernel
theorem dX12_does_178 : decode cX12_does 178 = .ok (.invokevirtual 267, 3) := by decide +kernel
theorem dX12_does_181 : decode cX12_does 181 = .ok (.ireturn, 1) := by decide +kernel
theorem dX12_more_0 : decode cX12_more 0 = .ok (.aload_n 0, 1) := by decide +kernel
theorem dX12_more_1 : decode cX12_more 1 = .ok (.iload_n 1, 1) := by decide +kernel
theorem dX12_more_2 : decode cX12_more 2 = .ok (.invokevirtual 223, 3) := by decide +kernel
theorem dX12_more_5 : decode cX12_more 5 = .ok (.ifCond .ne 11, 3) := by decide +kernel
theorem dX12_more_8 : decode cX12_more 8 = .ok (.aload_n 0, 1) := by decide +kernel
theorem dX12_more_9 : decode cX12_more 9 = .ok (.iload_n 1, 1) := by decide +kernel
theorem dX12_more_10 : decode cX12_more 10 = .ok (.invokevirtual 257, 3) := by decide +kernel
theorem dX12_more_13 : decode cX12_more 13 = .ok (.ifCond .eq 7, 3) := by decide +kernel
theorem dX12_more_16 : decode cX12_more 16 = .ok (.iconst 1, 1) := by decide +kernel
theorem dX12_more_17 : decode cX12_more 17 = .ok (.goto 30, 3) := by decide +kernel
theorem dX12_more_20 : decode cX12_more 20 = .ok (.aload_n 0, 1) := by decide +kernel
theorem dX12_more_21 : decode cX12_more 21 = .ok (.getfield 52, 3) := by decide +kernel
theorem dX12_more_24 : decode cX12_more 24 = .ok (.iload_n 1, 1) := by decide +kernel
theorem dX12_more_25 : decode cX12_more 25 = .ok (.caload, 1) := by decide +kernel
theorem dX12_more_26 : decode cX12_more 26 = .ok (.bipush 126, 2) := by decide +kernel
theorem dX12_more_28 : decode cX12_more 28 = .ok (.if_icmp .eq 14, 3) := by decide +kernel
theorem dX12_more_31 : decode cX12_more 31 = .ok (.aload_n 0, 1) := by decide +kernel
theorem dX12_more_32 : decode cX12_more 32 = .ok (.getfield 52, 3) := by decide +kernel
theorem dX12_more_35 : decode cX12_more 35 = .ok (.iload_n 1, 1) := by decide +kernel
theorem dX12_more_36 : decode cX12_more 36 = .ok (.caload, 1) := by decide +kernel
theorem dX12_more_37 : decode cX12_more 37 = .ok (.bipush 33, 2) := by decide +kernel
theorem dX12_more_39 : decode cX12_more 39 = .ok (.if_icmp .ne 7, 3) := by decide +kernel
theorem dX12_more_42 : decode cX12_more 42 = .ok (.iconst 0, 1) := by decide +kernel
theorem dX12_more_43 : decode cX12_more 43 = .ok (.goto 4, 3) := by decide +kernel
theorem dX12_more_46 : decode cX12_more 46 = .ok (.iconst (-1), 1) := by decide +kernel
theorem dX12_more_47 : decode cX12_more 47 = .ok (.ireturn, 1) := by decide +kernel
theorem dX12_cooks_0 : decode cX12_cooks 0 = .ok (.aload_n 0, 1) := by decide +kernel
theorem dX12_cooks_1 : decode cX12_cooks 1 = .ok (.iload_n 1, 1) := by decide +kernel
theorem dX12_cooks_2 : decode cX12_cooks 2 = .ok (.invokevirtual 270, 3) := by decide +kernel
theorem dX12_cooks_5 : decode cX12_cooks 5 = .ok (.iconst 0, 1) := by decide +kernel
theorem dX12_cooks_6 : decode cX12_cooks 6 = .ok (.istore_n 2, 1) := by decide +kernel
theorem dX12_cooks_7 : decode cX12_cooks 7 = .ok (.iconst 0, 1) := by decide +kernel
theorem dX12_cooks_8 : decode cX12_cooks 8 = .ok (.istore_n 3, 1) := by decide +kernel
theorem dX12_cooks_9 : decode cX12_cooks 9 = .ok (.iload_n 3, 1) := by decide +kernel
theorem dX12_cooks_10 : decode cX12_cooks 10 = .ok (.aload_n 0, 1) := by decide +kernel
theorem dX12_cooks_11 : decode cX12_cooks 11 = .ok (.getfield 201, 3) := by decide +kernel
theorem dX12_cooks_14 : decode cX12_cooks 14 = .ok (.if_icmp .ge 28, 3) := by decide +kernel
theorem dX12_cooks_17 : decode cX12_cooks 17 = .ok (.aload_n 0, 1) := by decide +kernel
theorem dX12_cooks_18 : decode cX12_cooks 18 = .ok (.iload_n 3, 1) := by decide +kernel
theorem dX12_cooks_19 : decode cX12_cooks 19 = .ok (.iload_n 2, 1) := by decide +kernel
theorem dX12_cooks_20 : decode cX12_cooks 20 = .ok (.invokevirtual 274, 3) := by decide +kernel
theorem dX12_cooks_23 : decode cX12_cooks 23 = .ok (.ifCond .eq 5, 3) := by decide +kernel
theorem dX12_cooks_26 : decode cX12_cooks 26 = .ok (.iload_n 3, 1) := by decide +kernel
theorem dX12_cooks_27 : decode cX12_cooks 27 = .ok (.ireturn, 1) := by decide +kernel
theorem dX12_cooks_28 : decode cX12_cooks 28 = .ok (.iload_n 2, 1) := by decide +kernel
theorem dX12_cooks_29 : decode cX12_cooks 29 = .ok (.aload_n 0, 1) := by decide +kernel
theorem dX12_cooks_30 : decode cX12_cooks 30 = .ok (.iload_n 3, 1) := by decide +kernel
theorem dX12_cooks_31 : decode cX12_cooks 31 = .ok (.invokevirtual 277, 3) := by decide +kernel
theorem dX12_cooks_34 : decode cX12_cooks 34 = .ok (.iadd, 1) := by decide +kernel
theorem dX12_cooks_35 : decode cX12_cooks 35 = .ok (.istore_n 2, 1) := by decide +kernel
theorem dX12_cooks_36 : decode cX12_cooks 36 = .ok (.iinc 3 1, 3) := by decide +kernel
theorem dX12_cooks_39 : decode cX12_cooks 39 = .ok (.goto (-30), 3) := by decide +kernel
theorem dX12_cooks_42 : decode cX12_cooks 42 = .ok (.aload_n 0, 1) := by decide +kernel
theorem dX12_cooks_43 : decode cX12_cooks 43 = .ok (.getfield 9, 3) := by decide +kernel
theorem dX12_cooks_46 : decode cX12_cooks 46 = .ok (.bipush 34, 2) := by decide +kernel
theorem dX12_cooks_48 : decode cX12_cooks 48 = .ok (.bipush 62, 2) := by decide +kernel
theorem dX12_cooks_50 : decode cX12_cooks 50 = .ok (.iload_n 1, 1) := by decide +kernel
theorem dX12_cooks_51 : decode cX12_cooks 51 = .ok (.imul, 1) := by decide +kernel
theorem dX12_cooks_52 : decode cX12_cooks 52 = .ok (.iadd, 1) := by decide +kernel
theorem dX12_cooks_53 : decode cX12_cooks 53 = .ok (.dup2, 1) := by decide +kernel
theorem dX12_cooks_54 : decode cX12_cooks 54 = .ok (.iaload, 1) := by decide +kernel
theorem dX12_cooks_55 : decode cX12_cooks 55 = .ok (.iconst 1, 1) := by decide +kernel
theorem dX12_cooks_56 : decode cX12_cooks 56 = .ok (.iadd, 1) := by decide +kernel
theorem dX12_cooks_57 : decode cX12_cooks 57 = .ok (.iastore, 1) := by decide +kernel
theorem dX12_cooks_58 : decode cX12_cooks 58 = .ok (.aload_n 0, 1) := by decide +kernel
theorem dX12_cooks_59 : decode cX12_cooks 59 = .ok (.getfield 9, 3) := by decide +kernel
theorem dX12_cooks_62 : decode cX12_cooks 62 = .ok (.iconst 2, 1) := by decide +kernel
theorem dX12_cooks_63 : decode cX12_cooks 63 = .ok (.dup2, 1) := by decide +kernel
theorem dX12_cooks_64 : decode cX12_cooks 64 = .ok (.iaload, 1) := by decide +kernel
theorem dX12_cooks_65 : decode cX12_cooks 65 = .ok (.iconst 1, 1) := by decide +kernel
theorem dX12_cooks_66 : decode cX12_cooks 66 = .ok (.iadd, 1) := by decide +kernel
theorem dX12_cooks_67 : decode cX12_cooks 67 = .ok (.iastore, 1) := by decide +kernel
theorem dX12_cooks_68 : decode cX12_cooks 68 = .ok (.iconst (-1), 1) := by decide +kernel
theorem dX12_cooks_69 : decode cX12_cooks 69 = .ok (.ireturn, 1) := by decide +kernel
theorem dX12_unlike_0 : decode cX12_unlike 0 = .ok (.iconst 0, 1) := by decide +kernel
theorem dX12_unlike_1 : decode cX12_unlike 1 = .ok (.istore_n 3, 1) := by decide +kernel
theorem dX12_unlike_2 : decode cX12_unlike 2 = .ok (.iconst 0, 1) := by decide +kernel
theorem dX12_unlike_3 : decode cX12_unlike 3 = .ok (.istore 4, 2) := by decide +kernel
theorem dX12_unlike_5 : decode cX12_unlike 5 = .ok (.iload 4, 2) := by decide +kernel
theorem dX12_unlike_7 : decode cX12_unlike 7 = .ok (.aload_n 0, 1) := by decide +kernel
theorem dX12_unlike_8 : decode cX12_unlike 8 = .ok (.getfield 9, 3) := by decide +kernel
theorem dX12_unlike_11 : decode cX12_unlike 11 = .ok (.iconst 0, 1) := by decide +kernel
theorem dX12_unlike_12 : decode cX12_unlike 12 = .ok (.iaload, 1) := by decide +kernel
theorem dX12_unlike_13 : decode cX12_unlike 13 = .ok (.if_icmp .ge 69, 3) := by decide +kernel
theorem dX12_unlike_16 : decode cX12_unlike 16 = .ok (.aload_n 0, 1) := by decide +kernel
theorem dX12_unlike_17 : decode cX12_unlike 17 = .ok (.iload 4, 2) := by decide +kernel
theorem dX12_unlike_19 : decode cX12_unlike 19 = .ok (.iconst 3, 1) := by decide +kernel
theorem dX12_unlike_20 : decode cX12_unlike 20 = .ok (.invokevirtual 116, 3) := by decide +kernel
theorem dX12_unlike_23 : decode cX12_unlike 23 = .ok (.aload_n 1, 1) := by decide +kernel
theorem dX12_unlike_24 : decode cX12_unlike 24 = .ok (.iconst 4, 1) := by decide +kernel
theorem dX12_unlike_25 : decode cX12_unlike 25 = .ok (.iconst 5, 1) := by decide +kernel
theorem dX12_unlike_26 : decode cX12_unlike 26 = .ok (.iload 4, 2) := by decide +kernel
theorem dX12_unlike_28 : decode cX12_unlike 28 = .ok (.imul, 1) := by decide +kernel
theorem dX12_unlike_29 : decode cX12_unlike 29 = .ok (.iadd, 1) := by decide +kernel
theorem dX12_unlike_30 : decode cX12_unlike 30 = .ok (.iconst 3, 1) := by decide +kernel
theorem dX12_unlike_31 : decode cX12_unlike 31 = .ok (.iadd, 1) := by decide +kernel
theorem dX12_unlike_32 : decode cX12_unlike 32 = .ok (.iaload, 1) := by decide +kernel
theorem dX12_unlike_33 : decode cX12_unlike 33 = .ok (.if_icmp .eq 7, 3) := by decide +kernel
theorem dX12_unlike_36 : decode cX12_unlike 36 = .ok (.iconst 1, 1) := by decide +kernel
theorem dX12_unlike_37 : decode cX12_unlike 37 = .ok (.goto 4, 3) := by decide +kernel
theorem dX12_unlike_40 : decode cX12_unlike 40 = .ok (.iconst 0, 1) := by decide +kernel
theorem dX12_unlike_41 : decode cX12_unlike 41 = .ok (.istore 5, 2) := by decide +kernel
theorem dX12_unlike_43 : decode cX12_unlike 43 = .ok (.iload_n 3, 1) := by decide +kernel
theorem dX12_unlike_44 : decode cX12_unlike 44 = .ok (.iload 5, 2) := by decide +kernel
theorem dX12_unlike_46 : decode cX12_unlike 46 = .ok (.ifCond .ne 23, 3) := by decide +kernel
theorem dX12_unlike_49 : decode cX12_unlike 49 = .ok (.aload_n 0, 1) := by decide +kernel
theorem dX12_unlike_50 : decode cX12_unlike 50 = .ok (.getfield 13, 3) := by decide +kernel
theorem dX12_unlike_53 : decode cX12_unlike 53 = .ok (.iload 4, 2) := by decide +kernel
theorem dX12_unlike_55 : decode cX12_unlike 55 = .ok (.faload, 1) := by decide +kernel
theorem dX12_unlike_56 : decode cX12_unlike 56 = .ok (.invokestatic 174, 3) := by decide +kernel
theorem dX12_unlike_59 : decode cX12_unlike 59 = .ok (.aload_n 2, 1) := by decide +kernel
theorem dX12_unlike_60 : decode cX12_unlike 60 = .ok (.iload 4, 2) := by decide +kernel
theorem dX12_unlike_62 : decode cX12_unlike 62 = .ok (.faload, 1) := by decide +kernel
theorem dX12_unlike_63 : decode cX12_unlike 63 = .ok (.invokestatic 174, 3) := by decide +kernel
theorem dX12_unlike_66 : decode cX12_unlike 66 = .ok (.if_icmp .eq 7, 3) := by decide +kernel
theorem dX12_unlike_69 : decode cX12_unlike 69 = .ok (.iconst 1, 1) := by decide +kernel
theorem dX12_unlike_70 : decode cX12_unlike 70 = .ok (.goto 4, 3) := by decide +kernel
theorem dX12_unlike_73 : decode cX12_unlike 73 = .ok (.iconst 0, 1) := by decide +kernel
theorem dX12_unlike_74 : decode cX12_unlike 74 = .ok (.iadd, 1) := by decide +kernel
theorem dX12_unlike_75 : decode cX12_unlike 75 = .ok (.istore_n 3, 1) := by decide +kernel
theorem dX12_unlike_76 : decode cX12_unlike 76 = .ok (.iinc 4 1, 3) := by decide +kernel
theorem dX12_unlike_79 : decode cX12_unlike 79 = .ok (.goto (-74), 3) := by decide +kernel
theorem dX12_unlike_82 : decode cX12_unlike 82 = .ok (.iload_n 3, 1) := by decide +kernel
theorem dX12_unlike_83 : decode cX12_unlike 83 = .ok (.ireturn, 1) := by decide +kernel
theorem dX12_doCook_0 : decode cX12_doCook 0 = .ok (.aload_n 0, 1) := by decide +kernel
theorem dX12_doCook_1 : decode cX12_doCook 1 = .ok (.iload_n 1, 1) := by decide +kernel
theorem dX12_doCook_2 : decode cX12_doCook 2 = .ok (.invokevirtual 229, 3) := by decide +kernel
theorem dX12_doCook_5 : decode cX12_doCook 5 = .ok (.ifCond .ne 9, 3) := by decide +kernel
theorem dX12_doCook_8 : decode cX12_doCook 8 = .ok (.aload_n 0, 1) := by decide +kernel
theorem dX12_doCook_9 : decode cX12_doCook 9 = .ok (.iconst 1, 1) := by decide +kernel
theorem dX12_doCook_10 : decode cX12_doCook 10 = .ok (.invokevirtual 149, 3) := by decide +kernel
theorem dX12_doCook_13 : decode cX12_doCook 13 = .ok (.ireturn, 1) := by decide +kernel
theorem dX12_doCook_14 : decode cX12_doCook 14 = .ok (.aload_n 0, 1) := by decide +kernel
theorem dX12_doCook_15 : decode cX12_doCook 15 = .ok (.iload_n 1, 1) := by decide +kernel
theorem dX12_doCook_16 : decode cX12_doCook 16 = .ok (.invokevirtual 280, 3) := by decide +kernel
theorem dX12_doCook_19 : decode cX12_doCook 19 = .ok (.istore_n 2, 1) := by decide +kernel
theorem dX12_doCook_20 : decode cX12_doCook 20 = .ok (.iload_n 2, 1) := by decide +kernel
theorem dX12_doCook_21 : decode cX12_doCook 21 = .ok (.ifCond .lt 30, 3) := by decide +kernel
theorem dX12_doCook_24 : decode cX12_doCook 24 = .ok (.aload_n 0, 1) := by decide +kernel
theorem dX12_doCook_25 : decode cX12_doCook 25 = .ok (.dup, 1) := by decide +kernel
theorem dX12_doCook_26 : decode cX12_doCook 26 = .ok (.getfield 283, 3) := by decide +kernel
theorem dX12_doCook_29 : decode cX12_doCook 29 = .ok (.iconst 1, 1) := by decide +kernel
theorem dX12_doCook_30 : decode cX12_doCook 30 = .ok (.iadd, 1) := by decide +kernel
theorem dX12_doCook_31 : decode cX12_doCook 31 = .ok (.putfield 283, 3) := by decide +kernel
theorem dX12_doCook_34 : decode cX12_doCook 34 = .ok (.aload_n 0, 1) := by decide +kernel
theorem dX12_doCook_35 : decode cX12_doCook 35 = .ok (.iconst 2, 1) := by decide +kernel
theorem dX12_doCook_36 : decode cX12_doCook 36 = .ok (.bipush 6, 2) := by decide +kernel
theorem dX12_doCook_38 : decode cX12_doCook 38 = .ok (.iload_n 2, 1) := by decide +kernel
theorem dX12_doCook_39 : decode cX12_doCook 39 = .ok (.aload_n 0, 1) := by decide +kernel
theorem dX12_doCook_40 : decode cX12_doCook 40 = .ok (.getfield 235, 3) := by decide +kernel
theorem dX12_doCook_43 : decode cX12_doCook 43 = .ok (.aload_n 0, 1) := by decide +kernel
theorem dX12_doCook_44 : decode cX12_doCook 44 = .ok (.getfield 238, 3) := by decide +kernel
theorem dX12_doCook_47 : decode cX12_doCook 47 = .ok (.invokevirtual 108, 3) := by decide +kernel
theorem dX12_doCook_50 : decode cX12_doCook 50 = .ok (.ireturn, 1) := by decide +kernel
theorem dX12_doCook_51 : decode cX12_doCook 51 = .ok (.aload_n 0, 1) := by decide +kernel
theorem dX12_doCook_52 : decode cX12_doCook 52 = .ok (.aload_n 0, 1) := by decide +kernel
theorem dX12_doCook_53 : decode cX12_doCook 53 = .ok (.getfield 17, 3) := by decide +kernel
theorem dX12_doCook_56 : decode cX12_doCook 56 = .ok (.aload_n 0, 1) := by decide +kernel
theorem dX12_doCook_57 : decode cX12_doCook 57 = .ok (.getfield 20, 3) := by decide +kernel
theorem dX12_doCook_60 : decode cX12_doCook 60 = .ok (.invokevirtual 286, 3) := by decide +kernel
theorem dX12_doCook_63 : decode cX12_doCook 63 = .ok (.ireturn, 1) := by decide +kernel
theorem dX12_cook_0 : decode cX12_cook 0 = .ok (.aload_n 0, 1) := by decide +kernel
theorem dX12_cook_1 : decode cX12_cook 1 = .ok (.invokevirtual 138, 3) := by decide +kernel
theorem dX12_cook_4 : decode cX12_cook 4 = .ok (.aload_n 0, 1) := by decide +kernel
theorem dX12_cook_5 : decode cX12_cook 5 = .ok (.aload_n 0, 1) := by decide +kernel
theorem dX12_cook_6 : decode cX12_cook 6 = .ok (.iload_n 1, 1) := by decide +kernel
theorem dX12_cook_7 : decode cX12_cook 7 = .ok (.invokevirtual 290, 3) := by decide +kernel
theorem dX12_cook_10 : decode cX12_cook 10 = .ok (.invokevirtual 153, 3) := by decide +kernel
theorem dX12_cook_13 : decode cX12_cook 13 = .ok (.ireturn, 1) := by decide +kernel
theorem dX12_doCookAll_0 : decode cX12_doCookAll 0 = .ok (.aload_n 0, 1) := by decide +kernel
theorem dX12_doCookAll_1 : decode cX12_doCookAll 1 = .ok (.invokevirtual 184, 3) := by decide +kernel
theorem dX12_doCookAll_4 : decode cX12_doCookAll 4 = .ok (.istore_n 1, 1) := by decide +kernel
theorem dX12_doCookAll_5 : decode cX12_doCookAll 5 = .ok (.iload_n 1, 1) := by decide +kernel
theorem dX12_doCookAll_6 : decode cX12_doCookAll 6 = .ok (.ifCond .ne 17, 3) := by decide +kernel
theorem dX12_doCookAll_9 : decode cX12_doCookAll 9 = .ok (.aload_n 0, 1) := by decide +kernel
theorem dX12_doCookAll_10 : decode cX12_doCookAll 10 = .ok (.iconst 1, 1) := by decide +kernel
theorem dX12_doCookAll_11 : decode cX12_doCookAll 11 = .ok (.bipush 9, 2) := by decide +kernel
theorem dX12_doCookAll_13 : decode cX12_doCookAll 13 = .ok (.aload_n 0, 1) := by decide +kernel
theorem dX12_doCookAll_14 : decode cX12_doCookAll 14 = .ok (.getfield 9, 3) := by decide +kernel
theorem dX12_doCookAll_17 : decode cX12_doCookAll 17 = .ok (.iconst 1, 1) := by decide +kernel
theorem dX12_doCookAll_18 : decode cX12_doCookAll 18 = .ok (.iaload, 1) := by decide +kernel
theorem dX12_doCookAll_19 : decode cX12_doCookAll 19 = .ok (.invokevirtual 122, 3) := by decide +kernel
theorem dX12_doCookAll_22 : decode cX12_doCookAll 22 = .ok (.ireturn, 1) := by decide +kernel
theorem dX12_doCookAll_23 : decode cX12_doCookAll 23 = .ok (.iconst 0, 1) := by decide +kernel
theorem dX12_doCookAll_24 : decode cX12_doCookAll 24 = .ok (.istore_n 2, 1) := by decide +kernel
theorem dX12_doCookAll_25 : decode cX12_doCookAll 25 = .ok (.iload_n 2, 1) := by decide +kernel
theorem dX12_doCookAll_26 : decode cX12_doCookAll 26 = .ok (.aload_n 0, 1) := by decide +kernel
theorem dX12_doCookAll_27 : decode cX12_doCookAll 27 = .ok (.getfield 9, 3) := by decide +kernel
theorem dX12_doCookAll_30 : decode cX12_doCookAll 30 = .ok (.iconst 1, 1) := by decide +kernel
theorem dX12_doCookAll_31 : decode cX12_doCookAll 31 = .ok (.iaload, 1) := by decide +kernel
theorem dX12_doCookAll_32 : decode cX12_doCookAll 32 = .ok (.if_icmp .ge 23, 3) := by decide +kernel
theorem dX12_doCookAll_35 : decode cX12_doCookAll 35 = .ok (.aload_n 0, 1) := by decide +kernel
theorem dX12_doCookAll_36 : decode cX12_doCookAll 36 = .ok (.iload_n 2, 1) := by decide +kernel
theorem dX12_doCookAll_37 : decode cX12_doCookAll 37 = .ok (.invokevirtual 293, 3) := by decide +kernel
theorem dX12_doCookAll_40 : decode cX12_doCookAll 40 = .ok (.ifCond .ge 9, 3) := by decide +kernel
theorem dX12_doCookAll_43 : decode cX12_doCookAll 43 = .ok (.aload_n 0, 1) := by decide +kernel
theorem dX12_doCookAll_44 : decode cX12_doCookAll 44 = .ok (.iload_n 2, 1) := by decide +kernel
theorem dX12_doCookAll_45 : decode cX12_doCookAll 45 = .ok (.invokevirtual 280, 3) := by decide +kernel
theorem dX12_doCookAll_48 : decode cX12_doCookAll 48 = .ok (.istore_n 3, 1) := by decide +kernel
theorem dX12_doCookAll_49 : decode cX12_doCookAll 49 = .ok (.iinc 2 1, 3) := by decide +kernel
theorem dX12_doCookAll_52 : decode cX12_doCookAll 52 = .ok (.goto (-27), 3) := by decide +kernel
theorem dX12_doCookAll_55 : decode cX12_doCookAll 55 = .ok (.iload_n 1, 1) := by decide +kernel
theorem dX12_doCookAll_56 : decode cX12_doCookAll 56 = .ok (.ireturn, 1) := by decide +kernel
theorem dX12_cookAll_0 : decode cX12_cookAll 0 = .ok (.aload_n 0, 1) := by decide +kernel
theorem dX12_cookAll_1 : decode cX12_cookAll 1 = .ok (.invokevirtual 138, 3) := by decide +kernel
theorem dX12_cookAll_4 : decode cX12_cookAll 4 = .ok (.aload_n 0, 1) := by decide +kernel
theorem dX12_cookAll_5 : decode cX12_cookAll 5 = .ok (.aload_n 0, 1) := by decide +kernel
theorem dX12_cookAll_6 : decode cX12_cookAll 6 = .ok (.invokevirtual 296, 3) := by decide +kernel
theorem dX12_cookAll_9 : decode cX12_cookAll 9 = .ok (.invokevirtual 153, 3) := by decide +kernel
theorem dX12_cookAll_12 : decode cX12_cookAll 12 = .ok (.ireturn, 1) := by decide +kernel
theorem dX12_laysBounds_0 : decode cX12_laysBounds 0 = .ok (.aload_n 0, 1) := by decide +kernel
theorem dX12_laysBounds_1 : decode cX12_laysBounds 1 = .ok (.getfield 72, 3) := by decide +kernel
theorem dX12_laysBounds_4 : decode cX12_laysBounds 4 = .ok (.iload_n 1, 1) := by decide +kernel
theorem dX12_laysBounds_5 : decode cX12_laysBounds 5 = .ok (.lload_n 2, 1) := by decide +kernel
theorem dX12_laysBounds_6 : decode cX12_laysBounds 6 = .ok (.lastore, 1) := by decide +kernel
theorem dX12_laysBounds_7 : decode cX12_laysBounds 7 = .ok (.aload_n 0, 1) := by decide +kernel
theorem dX12_laysBounds_8 : decode cX12_laysBounds 8 = .ok (.getfield 75, 3) := by decide +kernel
theorem dX12_laysBounds_11 : decode cX12_laysBounds 11 = .ok (.iload_n 1, 1) := by decide +kernel
theorem dX12_laysBounds_12 : decode cX12_laysBounds 12 = .ok (.lload 4, 2) := by decide +kernel
theorem dX12_laysBounds_14 : decode cX12_laysBounds 14 = .ok (.lastore, 1) := by decide +kernel
theorem dX12_laysBounds_15 : decode cX12_laysBounds 15 = .ok (.return_, 1) := by decide +kernel
theorem dX12_typesReckoning_0 : decode cX12_typesReckoning 0 = .ok (.aload_n 0, 1) := by decide +kernel
theorem dX12_typesReckoning_1 : decode cX12_typesReckoning 1 = .ok (.getfield 72, 3) := by decide +kernel
theorem dX12_typesReckoning_4 : decode cX12_typesReckoning 4 = .ok (.iload_n 2, 1) := by decide +kernel
theorem dX12_typesReckoning_5 : decode cX12_typesReckoning 5 = .ok (.iconst 1, 1) := by decide +kernel
theorem dX12_typesReckoning_6 : decode cX12_typesReckoning 6 = .ok (.isub, 1) := by decide +kernel
theorem dX12_typesReckoning_7 : decode cX12_typesReckoning 7 = .ok (.laload, 1) := by decide +kernel
theorem dX12_typesReckoning_8 : decode cX12_typesReckoning 8 = .ok (.lstore_n 3, 1) := by decide +kernel
theorem dX12_typesReckoning_9 : decode cX12_typesReckoning 9 = .ok (.aload_n 0, 1) := by decide +kernel
theorem dX12_typesReckoning_10 : decode cX12_typesReckoning 10 = .ok (.getfield 75, 3) := by decide +kernel
theorem dX12_typesReckoning_13 : decode cX12_typesReckoning 13 = .ok (.iload_n 2, 1) := by decide +kernel
theorem dX12_typesReckoning_14 : decode cX12_typesReckoning 14 = .ok (.iconst 1, 1) := by decide +kernel
theorem dX12_typesReckoning_15 : decode cX12_typesReckoning 15 = .ok (.isub, 1) := by decide +kernel
theorem dX12_typesReckoning_16 : decode cX12_typesReckoning 16 = .ok (.laload, 1) := by decide +kernel
theorem dX12_typesReckoning_17 : decode cX12_typesReckoning 17 = .ok (.lstore 5, 2) := by decide +kernel
theorem dX12_typesReckoning_19 : decode cX12_typesReckoning 19 = .ok (.aload_n 0, 1) := by decide +kernel
theorem dX12_typesReckoning_20 : decode cX12_typesReckoning 20 = .ok (.getfield 72, 3) := by decide +kernel
theorem dX12_typesReckoning_23 : decode cX12_typesReckoning 23 = .ok (.iload_n 2, 1) := by decide +kernel
theorem dX12_typesReckoning_24 : decode cX12_typesReckoning 24 = .ok (.laload, 1) := by decide +kernel
theorem dX12_typesReckoning_25 : decode cX12_typesReckoning 25 = .ok (.lstore 7, 2) := by decide +kernel
theorem dX12_typesReckoning_27 : decode cX12_typesReckoning 27 = .ok (.aload_n 0, 1) := by decide +kernel
theorem dX12_typesReckoning_28 : decode cX12_typesReckoning 28 = .ok (.getfield 75, 3) := by decide +kernel
theorem dX12_typesReckoning_31 : decode cX12_typesReckoning 31 = .ok (.iload_n 2, 1) := by decide +kernel
theorem dX12_typesReckoning_32 : decode cX12_typesReckoning 32 = .ok (.laload, 1) := by decide +kernel
theorem dX12_typesReckoning_33 : decode cX12_typesReckoning 33 = .ok (.lstore 9, 2) := by decide +kernel
theorem dX12_typesReckoning_35 : decode cX12_typesReckoning 35 = .ok (.iload_n 1, 1) := by decide +kernel
theorem dX12_typesReckoning_36 : decode cX12_typesReckoning 36 = .ok (.bipush 43, 2) := by decide +kernel
theorem dX12_typesReckoning_38 : decode cX12_typesReckoning 38 = .ok (.if_icmp .ne 22, 3) := by decide +kernel
theorem dX12_typesReckoning_41 : decode cX12_typesReckoning 41 = .ok (.aload_n 0, 1) := by decide +kernel
theorem dX12_typesReckoning_42 : decode cX12_typesReckoning 42 = .ok (.iload_n 2, 1) := by decide +kernel
theorem dX12_typesReckoning_43 : decode cX12_typesReckoning 43 = .ok (.iconst 1, 1) := by decide +kernel
theorem dX12_typesReckoning_44 : decode cX12_typesReckoning 44 = .ok (.isub, 1) := by decide +kernel
theorem dX12_typesReckoning_45 : decode cX12_typesReckoning 45 = .ok (.lload_n 3, 1) := by decide +kernel
theorem dX12_typesReckoning_46 : decode cX12_typesReckoning 46 = .ok (.lload 7, 2) := by decide +kernel
theorem dX12_typesReckoning_48 : decode cX12_typesReckoning 48 = .ok (.ladd, 1) := by decide +kernel
theorem dX12_typesReckoning_49 : decode cX12_typesReckoning 49 = .ok (.lload 5, 2) := by decide +kernel
theorem dX12_typesReckoning_51 : decode cX12_typesReckoning 51 = .ok (.lload 9, 2) := by decide +kernel
theorem dX12_typesReckoning_53 : decode cX12_typesReckoning 53 = .ok (.ladd, 1) := by decide +kernel
theorem dX12_typesReckoning_54 : decode cX12_typesReckoning 54 = .ok (.invokevirtual 299, 3) := by decide +kernel
theorem dX12_typesReckoning_57 : decode cX12_typesReckoning 57 = .ok (.goto 97, 3) := by decide +kernel
theorem dX12_typesReckoning_60 : decode cX12_typesReckoning 60 = .ok (.iload_n 1, 1) := by decide +kernel
theorem dX12_typesReckoning_61 : decode cX12_typesReckoning 61 = .ok (.bipush 45, 2) := by decide +kernel
theorem dX12_typesReckoning_63 : decode cX12_typesReckoning 63 = .ok (.if_icmp .ne 22, 3) := by decide +kernel
theorem dX12_typesReckoning_66 : decode cX12_typesReckoning 66 = .ok (.aload_n 0, 1) := by decide +kernel
theorem dX12_typesReckoning_67 : decode cX12_typesReckoning 67 = .ok (.iload_n 2, 1) := by decide +kernel
theorem dX12_typesReckoning_68 : decode cX12_typesReckoning 68 = .ok (.iconst 1, 1) := by decide +kernel
theorem dX12_typesReckoning_69 : decode cX12_typesReckoning 69 = .ok (.isub, 1) := by decide +kernel
theorem dX12_typesReckoning_70 : decode cX12_typesReckoning 70 = .ok (.lload_n 3, 1) := by decide +kernel
theorem dX12_typesReckoning_71 : decode cX12_typesReckoning 71 = .ok (.lload 9, 2) := by decide +kernel
theorem dX12_typesReckoning_73 : decode cX12_typesReckoning 73 = .ok (.lsub, 1) := by decide +kernel
theorem dX12_typesReckoning_74 : decode cX12_typesReckoning 74 = .ok (.lload 5, 2) := by decide +kernel
theorem dX12_typesReckoning_76 : decode cX12_typesReckoning 76 = .ok (.lload 7, 2) := by decide +kernel
theorem dX12_typesReckoning_78 : decode cX12_typesReckoning 78 = .ok (.lsub, 1) := by decide +kernel
theorem dX12_typesReckoning_79 : decode cX12_typesReckoning 79 = .ok (.invokevirtual 299, 3) := by decide +kernel
theorem dX12_typesReckoning_82 : decode cX12_typesReckoning 82 = .ok (.goto 72, 3) := by decide +kernel
theorem dX12_typesReckoning_85 : decode cX12_typesReckoning 85 = .ok (.lload_n 3, 1) := by decide +kernel
theorem dX12_typesReckoning_86 : decode cX12_typesReckoning 86 = .ok (.lload 7, 2) := by decide +kernel
theorem dX12_typesReckoning_88 : decode cX12_typesReckoning 88 = .ok (.lmul, 1) := by decide +kernel
theorem dX12_typesReckoning_89 : decode cX12_typesReckoning 89 = .ok (.lload_n 3, 1) := by decide +kernel
theorem dX12_typesReckoning_90 : decode cX12_typesReckoning 90 = .ok (.lload 9, 2) := by decide +kernel
theorem dX12_typesReckoning_92 : decode cX12_typesReckoning 92 = .ok (.lmul, 1) := by decide +kernel
theorem dX12_typesReckoning_93 : decode cX12_typesReckoning 93 = .ok (.invokestatic 303, 3) := by decide +kernel
theorem dX12_typesReckoning_96 : decode cX12_typesReckoning 96 = .ok (.lload 5, 2) := by decide +kernel
theorem dX12_typesReckoning_98 : decode cX12_typesReckoning 98 = .ok (.lload 7, 2) := by decide +kernel
theorem dX12_typesReckoning_100 : decode cX12_typesReckoning 100 = .ok (.lmul, 1) := by decide +kernel
theorem dX12_typesReckoning_101 : decode cX12_typesReckoning 101 = .ok (.lload 5, 2) := by decide +kernel
theorem dX12_typesReckoning_103 : decode cX12_typesReckoning 103 = .ok (.lload 9, 2) := by decide +kernel
theorem dX12_typesReckoning_105 : decode cX12_typesReckoning 105 = .ok (.lmul, 1) := by decide +kernel
theorem dX12_typesReckoning_106 : decode cX12_typesReckoning 106 = .ok (.invokestatic 303, 3) := by decide +kernel
theorem dX12_typesReckoning_109 : decode cX12_typesReckoning 109 = .ok (.invokestatic 303, 3) := by decide +kernel
theorem dX12_typesReckoning_112 : decode cX12_typesReckoning 112 = .ok (.lstore 11, 2) := by decide +kernel
theorem dX12_typesReckoning_114 : decode cX12_typesReckoning 114 = .ok (.lload_n 3, 1) := by decide +kernel
theorem dX12_typesReckoning_115 : decode cX12_typesReckoning 115 = .ok (.lload 7, 2) := by decide +kernel
theorem dX12_typesReckoning_117 : decode cX12_typesReckoning 117 = .ok (.lmul, 1) := by decide +kernel
theorem dX12_typesReckoning_118 : decode cX12_typesReckoning 118 = .ok (.lload_n 3, 1) := by decide +kernel
theorem dX12_typesReckoning_119 : decode cX12_typesReckoning 119 = .ok (.lload 9, 2) := by decide +kernel
theorem dX12_typesReckoning_121 : decode cX12_typesReckoning 121 = .ok (.lmul, 1) := by decide +kernel
theorem dX12_typesReckoning_122 : decode cX12_typesReckoning 122 = .ok (.invokestatic 306, 3) := by decide +kernel
theorem dX12_typesReckoning_125 : decode cX12_typesReckoning 125 = .ok (.lload 5, 2) := by decide +kernel
theorem dX12_typesReckoning_127 : decode cX12_typesReckoning 127 = .ok (.lload 7, 2) := by decide +kernel
theorem dX12_typesReckoning_129 : decode cX12_typesReckoning 129 = .ok (.lmul, 1) := by decide +kernel
theorem dX12_typesReckoning_130 : decode cX12_typesReckoning 130 = .ok (.lload 5, 2) := by decide +kernel
theorem dX12_typesReckoning_132 : decode cX12_typesReckoning 132 = .ok (.lload 9, 2) := by decide +kernel
theorem dX12_typesReckoning_134 : decode cX12_typesReckoning 134 = .ok (.lmul, 1) := by decide +kernel
theorem dX12_typesReckoning_135 : decode cX12_typesReckoning 135 = .ok (.invokestatic 306, 3) := by decide +kernel
theorem dX12_typesReckoning_138 : decode cX12_typesReckoning 138 = .ok (.invokestatic 306, 3) := by decide +kernel
theorem dX12_typesReckoning_141 : decode cX12_typesReckoning 141 = .ok (.lstore 13, 2) := by decide +kernel
theorem dX12_typesReckoning_143 : decode cX12_typesReckoning 143 = .ok (.aload_n 0, 1) := by decide +kernel
theorem dX12_typesReckoning_144 : decode cX12_typesReckoning 144 = .ok (.iload_n 2, 1) := by decide +kernel
theorem dX12_typesReckoning_145 : decode cX12_typesReckoning 145 = .ok (.iconst 1, 1) := by decide +kernel
theorem dX12_typesReckoning_146 : decode cX12_typesReckoning 146 = .ok (.isub, 1) := by decide +kernel
theorem dX12_typesReckoning_147 : decode cX12_typesReckoning 147 = .ok (.lload 11, 2) := by decide +kernel
theorem dX12_typesReckoning_149 : decode cX12_typesReckoning 149 = .ok (.lload 13, 2) := by decide +kernel
theorem dX12_typesReckoning_151 : decode cX12_typesReckoning 151 = .ok (.invokevirtual 299, 3) := by decide +kernel
theorem dX12_typesReckoning_154 : decode cX12_typesReckoning 154 = .ok (.aload_n 0, 1) := by decide +kernel
theorem dX12_typesReckoning_155 : decode cX12_typesReckoning 155 = .ok (.getfield 72, 3) := by decide +kernel
theorem dX12_typesReckoning_158 : decode cX12_typesReckoning 158 = .ok (.iload_n 2, 1) := by decide +kernel
theorem dX12_typesReckoning_159 : decode cX12_typesReckoning 159 = .ok (.iconst 1, 1) := by decide +kernel
theorem dX12_typesReckoning_160 : decode cX12_typesReckoning 160 = .ok (.isub, 1) := by decide +kernel
theorem dX12_typesReckoning_161 : decode cX12_typesReckoning 161 = .ok (.laload, 1) := by decide +kernel
theorem dX12_typesReckoning_162 : decode cX12_typesReckoning 162 = .ok (.ldc2_w 248, 3) := by decide +kernel
theorem dX12_typesReckoning_165 : decode cX12_typesReckoning 165 = .ok (.ldc2_w 250, 3) := by decide +kernel
theorem dX12_typesReckoning_168 : decode cX12_typesReckoning 168 = .ok (.invokestatic 112, 3) := by decide +kernel
theorem dX12_typesReckoning_171 : decode cX12_typesReckoning 171 = .ok (.ifCond .eq 27, 3) := by decide +kernel
theorem dX12_typesReckoning_174 : decode cX12_typesReckoning 174 = .ok (.aload_n 0, 1) := by decide +kernel
theorem dX12_typesReckoning_175 : decode cX12_typesReckoning 175 = .ok (.getfield 75, 3) := by decide +kernel
theorem dX12_typesReckoning_178 : decode cX12_typesReckoning 178 = .ok (.iload_n 2, 1) := by decide +kernel
theorem dX12_typesReckoning_179 : decode cX12_typesReckoning 179 = .ok (.iconst 1, 1) := by decide +kernel
theorem dX12_typesReckoning_180 : decode cX12_typesReckoning 180 = .ok (.isub, 1) := by decide +kernel
theorem dX12_typesReckoning_181 : decode cX12_typesReckoning 181 = .ok (.laload, 1) := by decide +kernel
theorem dX12_typesReckoning_182 : decode cX12_typesReckoning 182 = .ok (.ldc2_w 248, 3) := by decide +kernel
theorem dX12_typesReckoning_185 : decode cX12_typesReckoning 185 = .ok (.ldc2_w 250, 3) := by decide +kernel
theorem dX12_typesReckoning_188 : decode cX12_typesReckoning 188 = .ok (.invokestatic 112, 3) := by decide +kernel
theorem dX12_typesReckoning_191 : decode cX12_typesReckoning 191 = .ok (.ifCond .eq 7, 3) := by decide +kernel
theorem dX12_typesReckoning_194 : decode cX12_typesReckoning 194 = .ok (.iconst 1, 1) := by decide +kernel
theorem dX12_typesReckoning_195 : decode cX12_typesReckoning 195 = .ok (.goto 4, 3) := by decide +kernel
theorem dX12_typesReckoning_198 : decode cX12_typesReckoning 198 = .ok (.iconst 0, 1) := by decide +kernel
theorem dX12_typesReckoning_199 : decode cX12_typesReckoning 199 = .ok (.istore 11, 2) := by decide +kernel
theorem dX12_typesReckoning_201 : decode cX12_typesReckoning 201 = .ok (.aload_n 0, 1) := by decide +kernel
theorem dX12_typesReckoning_202 : decode cX12_typesReckoning 202 = .ok (.getfield 61, 3) := by decide +kernel
theorem dX12_typesReckoning_205 : decode cX12_typesReckoning 205 = .ok (.iload_n 2, 1) := by decide +kernel
theorem dX12_typesReckoning_206 : decode cX12_typesReckoning 206 = .ok (.baload, 1) := by decide +kernel
theorem dX12_typesReckoning_207 : decode cX12_typesReckoning 207 = .ok (.aload_n 0, 1) := by decide +kernel
theorem dX12_typesReckoning_208 : decode cX12_typesReckoning 208 = .ok (.getfield 61, 3) := by decide +kernel
theorem dX12_typesReckoning_211 : decode cX12_typesReckoning 211 = .ok (.iload_n 2, 1) := by decide +kernel
theorem dX12_typesReckoning_212 : decode cX12_typesReckoning 212 = .ok (.iconst 1, 1) := by decide +kernel
theorem dX12_typesReckoning_213 : decode cX12_typesReckoning 213 = .ok (.isub, 1) := by decide +kernel
theorem dX12_typesReckoning_214 : decode cX12_typesReckoning 214 = .ok (.baload, 1) := by decide +kernel
theorem dX12_typesReckoning_215 : decode cX12_typesReckoning 215 = .ok (.if_icmp .ne 17, 3) := by decide +kernel
theorem dX12_typesReckoning_218 : decode cX12_typesReckoning 218 = .ok (.aload_n 0, 1) := by decide +kernel
theorem dX12_typesReckoning_219 : decode cX12_typesReckoning 219 = .ok (.getfield 61, 3) := by decide +kernel
theorem dX12_typesReckoning_222 : decode cX12_typesReckoning 222 = .ok (.iload_n 2, 1) := by decide +kernel
theorem dX12_typesReckoning_223 : decode cX12_typesReckoning 223 = .ok (.baload, 1) := by decide +kernel
theorem dX12_typesReckoning_224 : decode cX12_typesReckoning 224 = .ok (.ifCond .ne 12, 3) := by decide +kernel
theorem dX12_typesReckoning_227 : decode cX12_typesReckoning 227 = .ok (.iload 11, 2) := by decide +kernel
theorem dX12_typesReckoning_229 : decode cX12_typesReckoning 229 = .ok (.ifCond .ne 7, 3) := by decide +kernel
theorem dX12_typesReckoning_232 : decode cX12_typesReckoning 232 = .ok (.iconst 1, 1) := by decide +kernel
theorem dX12_typesReckoning_233 : decode cX12_typesReckoning 233 = .ok (.goto 4, 3) := by decide +kernel
theorem dX12_typesReckoning_236 : decode cX12_typesReckoning 236 = .ok (.iconst 0, 1) := by decide +kernel
theorem dX12_typesReckoning_237 : decode cX12_typesReckoning 237 = .ok (.ireturn, 1) := by decide +kernel
theorem dX12_isFault_0 : decode cX12_isFault 0 = .ok (.aload_n 0, 1) := by decide +kernel
theorem dX12_isFault_1 : decode cX12_isFault 1 = .ok (.getfield 55, 3) := by decide +kernel
theorem dX12_isFault_4 : decode cX12_isFault 4 = .ok (.iload_n 1, 1) := by decide +kernel
theorem dX12_isFault_5 : decode cX12_isFault 5 = .ok (.iaload, 1) := by decide +kernel
theorem dX12_isFault_6 : decode cX12_isFault 6 = .ok (.istore_n 3, 1) := by decide +kernel
theorem dX12_isFault_7 : decode cX12_isFault 7 = .ok (.aload_n 0, 1) := by decide +kernel
theorem dX12_isFault_8 : decode cX12_isFault 8 = .ok (.iload_n 1, 1) := by decide +kernel
theorem dX12_isFault_9 : decode cX12_isFault 9 = .ok (.invokevirtual 223, 3) := by decide +kernel
theorem dX12_isFault_12 : decode cX12_isFault 12 = .ok (.ifCond .eq 59, 3) := by decide +kernel
theorem dX12_isFault_15 : decode cX12_isFault 15 = .ok (.aload_n 0, 1) := by decide +kernel
theorem dX12_isFault_16 : decode cX12_isFault 16 = .ok (.getfield 61, 3) := by decide +kernel
theorem dX12_isFault_19 : decode cX12_isFault 19 = .ok (.iload_n 2, 1) := by decide +kernel
theorem dX12_isFault_20 : decode cX12_isFault 20 = .ok (.aload_n 0, 1) := by decide +kernel
theorem dX12_isFault_21 : decode cX12_isFault 21 = .ok (.iload_n 3, 1) := by decide +kernel
theorem dX12_isFault_22 : decode cX12_isFault 22 = .ok (.invokevirtual 160, 3) := by decide +kernel
theorem dX12_isFault_25 : decode cX12_isFault 25 = .ok (.bastore, 1) := by decide +kernel
theorem dX12_isFault_26 : decode cX12_isFault 26 = .ok (.aload_n 0, 1) := by decide +kernel
theorem dX12_isFault_27 : decode cX12_isFault 27 = .ok (.iload_n 2, 1) := by decide +kernel
theorem dX12_isFault_28 : decode cX12_isFault 28 = .ok (.aload_n 0, 1) := by decide +kernel
theorem dX12_isFault_29 : decode cX12_isFault 29 = .ok (.iload_n 3, 1) := by decide +kernel
theorem dX12_isFault_30 : decode cX12_isFault 30 = .ok (.invokevirtual 160, 3) := by decide +kernel
theorem dX12_isFault_33 : decode cX12_isFault 33 = .ok (.ifCond .eq 7, 3) := by decide +kernel
theorem dX12_isFault_36 : decode cX12_isFault 36 = .ok (.lconst 0, 1) := by decide +kernel
theorem dX12_isFault_37 : decode cX12_isFault 37 = .ok (.goto 10, 3) := by decide +kernel
theorem dX12_isFault_40 : decode cX12_isFault 40 = .ok (.aload_n 0, 1) := by decide +kernel
theorem dX12_isFault_41 : decode cX12_isFault 41 = .ok (.iload_n 3, 1) := by decide +kernel
theorem dX12_isFault_42 : decode cX12_isFault 42 = .ok (.iconst 1, 1) := by decide +kernel
theorem dX12_isFault_43 : decode cX12_isFault 43 = .ok (.invokevirtual 116, 3) := by decide +kernel
theorem dX12_isFault_46 : decode cX12_isFault 46 = .ok (.i2l, 1) := by decide +kernel
theorem dX12_isFault_47 : decode cX12_isFault 47 = .ok (.aload_n 0, 1) := by decide +kernel
theorem dX12_isFault_48 : decode cX12_isFault 48 = .ok (.iload_n 3, 1) := by decide +kernel
theorem dX12_isFault_49 : decode cX12_isFault 49 = .ok (.invokevirtual 160, 3) := by decide +kernel
theorem dX12_isFault_52 : decode cX12_isFault 52 = .ok (.ifCond .eq 7, 3) := by decide +kernel
theorem dX12_isFault_55 : decode cX12_isFault 55 = .ok (.lconst 0, 1) := by decide +kernel
theorem dX12_isFault_56 : decode cX12_isFault 56 = .ok (.goto 10, 3) := by decide +kernel
theorem dX12_isFault_59 : decode cX12_isFault 59 = .ok (.aload_n 0, 1) := by decide +kernel
theorem dX12_isFault_60 : decode cX12_isFault 60 = .ok (.iload_n 3, 1) := by decide +kernel
theorem dX12_isFault_61 : decode cX12_isFault 61 = .ok (.iconst 2, 1) := by decide +kernel
theorem dX12_isFault_62 : decode cX12_isFault 62 = .ok (.invokevirtual 116, 3) := by decide +kernel
theorem dX12_isFault_65 : decode cX12_isFault 65 = .ok (.i2l, 1) := by decide +kernel
theorem dX12_isFault_66 : decode cX12_isFault 66 = .ok (.invokevirtual 299, 3) := by decide +kernel
theorem dX12_isFault_69 : decode cX12_isFault 69 = .ok (.iconst 0, 1) := by decide +kernel
theorem dX12_isFault_70 : decode cX12_isFault 70 = .ok (.ireturn, 1) := by decide +kernel
theorem dX12_isFault_71 : decode cX12_isFault 71 = .ok (.aload_n 0, 1) := by decide +kernel
theorem dX12_isFault_72 : decode cX12_isFault 72 = .ok (.iload_n 1, 1) := by decide +kernel
theorem dX12_isFault_73 : decode cX12_isFault 73 = .ok (.invokevirtual 257, 3) := by decide +kernel
theorem dX12_isFault_76 : decode cX12_isFault 76 = .ok (.ifCond .eq 21, 3) := by decide +kernel
theorem dX12_isFault_79 : decode cX12_isFault 79 = .ok (.aload_n 0, 1) := by decide +kernel
theorem dX12_isFault_80 : decode cX12_isFault 80 = .ok (.getfield 61, 3) := by decide +kernel
theorem dX12_isFault_83 : decode cX12_isFault 83 = .ok (.iload_n 2, 1) := by decide +kernel
theorem dX12_isFault_84 : decode cX12_isFault 84 = .ok (.iconst 0, 1) := by decide +kernel
theorem dX12_isFault_85 : decode cX12_isFault 85 = .ok (.bastore, 1) := by decide +kernel
theorem dX12_isFault_86 : decode cX12_isFault 86 = .ok (.aload_n 0, 1) := by decide +kernel
theorem dX12_isFault_87 : decode cX12_isFault 87 = .ok (.iload_n 2, 1) := by decide +kernel
theorem dX12_isFault_88 : decode cX12_isFault 88 = .ok (.iload_n 3, 1) := by decide +kernel
theorem dX12_isFault_89 : decode cX12_isFault 89 = .ok (.i2l, 1) := by decide +kernel
theorem dX12_isFault_90 : decode cX12_isFault 90 = .ok (.iload_n 3, 1) := by decide +kernel
theorem dX12_isFault_91 : decode cX12_isFault 91 = .ok (.i2l, 1) := by decide +kernel
theorem dX12_isFault_92 : decode cX12_isFault 92 = .ok (.invokevirtual 299, 3) := by decide +kernel
theorem dX12_isFault_95 : decode cX12_isFault 95 = .ok (.iconst 0, 1) := by decide +kernel
theorem dX12_isFault_96 : decode cX12_isFault 96 = .ok (.ireturn, 1) := by decide +kernel
theorem dX12_isFault_97 : decode cX12_isFault 97 = .ok (.iload_n 2, 1) := by decide +kernel
theorem dX12_isFault_98 : decode cX12_isFault 98 = .ok (.iconst 1, 1) := by decide +kernel
theorem dX12_isFault_99 : decode cX12_isFault 99 = .ok (.isub, 1) := by decide +kernel
theorem dX12_isFault_100 : decode cX12_isFault 100 = .ok (.istore 4, 2) := by decide +kernel
theorem dX12_isFault_102 : decode cX12_isFault 102 = .ok (.aload_n 0, 1) := by decide +kernel
theorem dX12_isFault_103 : decode cX12_isFault 103 = .ok (.getfield 52, 3) := by decide +kernel
theorem dX12_isFault_106 : decode cX12_isFault 106 = .ok (.iload_n 1, 1) := by decide +kernel
theorem dX12_isFault_107 : decode cX12_isFault 107 = .ok (.caload, 1) := by decide +kernel
theorem dX12_isFault_108 : decode cX12_isFault 108 = .ok (.istore 5, 2) := by decide +kernel
theorem dX12_isFault_110 : decode cX12_isFault 110 = .ok (.iload 5, 2) := by decide +kernel
theorem dX12_isFault_112 : decode cX12_isFault 112 = .ok (.bipush 126, 2) := by decide +kernel
theorem dX12_isFault_114 : decode cX12_isFault 114 = .ok (.if_icmp .eq 10, 3) := by decide +kernel
theorem dX12_isFault_117 : decode cX12_isFault 117 = .ok (.iload 5, 2) := by decide +kernel
theorem dX12_isFault_119 : decode cX12_isFault 119 = .ok (.bipush 33, 2) := by decide +kernel
theorem dX12_isFault_121 : decode cX12_isFault 121 = .ok (.if_icmp .ne 88, 3) := by decide +kernel
theorem dX12_isFault_124 : decode cX12_isFault 124 = .ok (.aload_n 0, 1) := by decide +kernel
theorem dX12_isFault_125 : decode cX12_isFault 125 = .ok (.getfield 61, 3) := by decide +kernel
theorem dX12_isFault_128 : decode cX12_isFault 128 = .ok (.iload 4, 2) := by decide +kernel
theorem dX12_isFault_130 : decode cX12_isFault 130 = .ok (.baload, 1) := by decide +kernel
theorem dX12_isFault_131 : decode cX12_isFault 131 = .ok (.iload 5, 2) := by decide +kernel
theorem dX12_isFault_133 : decode cX12_isFault 133 = .ok (.bipush 126, 2) := by decide +kernel
theorem dX12_isFault_135 : decode cX12_isFault 135 = .ok (.if_icmp .ne 7, 3) := by decide +kernel
theorem dX12_isFault_138 : decode cX12_isFault 138 = .ok (.iconst 1, 1) := by decide +kernel
theorem dX12_isFault_139 : decode cX12_isFault 139 = .ok (.goto 4, 3) := by decide +kernel
theorem dX12_isFault_142 : decode cX12_isFault 142 = .ok (.iconst 0, 1) := by decide +kernel
theorem dX12_isFault_143 : decode cX12_isFault 143 = .ok (.if_icmp .ne 7, 3) := by decide +kernel
theorem dX12_isFault_146 : decode cX12_isFault 146 = .ok (.iconst 1, 1) := by decide +kernel
theorem dX12_isFault_147 : decode cX12_isFault 147 = .ok (.goto 4, 3) := by decide +kernel
theorem dX12_isFault_150 : decode cX12_isFault 150 = .ok (.iconst 0, 1) := by decide +kernel
theorem dX12_isFault_151 : decode cX12_isFault 151 = .ok (.istore 6, 2) := by decide +kernel
theorem dX12_isFault_153 : decode cX12_isFault 153 = .ok (.aload_n 0, 1) := by decide +kernel
theorem dX12_isFault_154 : decode cX12_isFault 154 = .ok (.getfield 61, 3) := by decide +kernel
theorem dX12_isFault_157 : decode cX12_isFault 157 = .ok (.iload 4, 2) := by decide +kernel
theorem dX12_isFault_159 : decode cX12_isFault 159 = .ok (.iload 5, 2) := by decide +kernel
theorem dX12_isFault_161 : decode cX12_isFault 161 = .ok (.bipush 126, 2) := by decide +kernel
theorem dX12_isFault_163 : decode cX12_isFault 163 = .ok (.if_icmp .ne 7, 3) := by decide +kernel
theorem dX12_isFault_166 : decode cX12_isFault 166 = .ok (.iconst 1, 1) := by decide +kernel
theorem dX12_isFault_167 : decode cX12_isFault 167 = .ok (.goto 4, 3) := by decide +kernel
theorem dX12_isFault_170 : decode cX12_isFault 170 = .ok (.iconst 0, 1) := by decide +kernel
theorem dX12_isFault_171 : decode cX12_isFault 171 = .ok (.bastore, 1) := by decide +kernel
theorem dX12_isFault_172 : decode cX12_isFault 172 = .ok (.aload_n 0, 1) := by decide +kernel
theorem dX12_isFault_173 : decode cX12_isFault 173 = .ok (.iload 4, 2) := by decide +kernel
theorem dX12_isFault_175 : decode cX12_isFault 175 = .ok (.iload 5, 2) := by decide +kernel
theorem dX12_isFault_177 : decode cX12_isFault 177 = .ok (.bipush 126, 2) := by decide +kernel
theorem dX12_isFault_179 : decode cX12_isFault 179 = .ok (.if_icmp .ne 7, 3) := by decide +kernel
theorem dX12_isFault_182 : decode cX12_isFault 182 = .ok (.lconst 0, 1) := by decide +kernel
theorem dX12_isFault_183 : decode cX12_isFault 183 = .ok (.goto 6, 3) := by decide +kernel
theorem dX12_isFault_186 : decode cX12_isFault 186 = .ok (.ldc2_w 120, 3) := by decide +kernel
theorem dX12_isFault_189 : decode cX12_isFault 189 = .ok (.iload 5, 2) := by decide +kernel
theorem dX12_isFault_191 : decode cX12_isFault 191 = .ok (.bipush 126, 2) := by decide +kernel
theorem dX12_isFault_193 : decode cX12_isFault 193 = .ok (.if_icmp .ne 7, 3) := by decide +kernel
theorem dX12_isFault_196 : decode cX12_isFault 196 = .ok (.lconst 0, 1) := by decide +kernel
theorem dX12_isFault_197 : decode cX12_isFault 197 = .ok (.goto 6, 3) := by decide +kernel
theorem dX12_isFault_200 : decode cX12_isFault 200 = .ok (.ldc2_w 308, 3) := by decide +kernel
theorem dX12_isFault_203 : decode cX12_isFault 203 = .ok (.invokevirtual 299, 3) := by decide +kernel
theorem dX12_isFault_206 : decode cX12_isFault 206 = .ok (.iload 6, 2) := by decide +kernel
theorem dX12_isFault_208 : decode cX12_isFault 208 = .ok (.ireturn, 1) := by decide +kernel
theorem dX12_isFault_209 : decode cX12_isFault 209 = .ok (.iload 5, 2) := by decide +kernel
theorem dX12_isFault_211 : decode cX12_isFault 211 = .ok (.bipush 61, 2) := by decide +kernel
theorem dX12_isFault_213 : decode cX12_isFault 213 = .ok (.if_icmp .ne 76, 3) := by decide +kernel
theorem dX12_isFault_216 : decode cX12_isFault 216 = .ok (.aload_n 0, 1) := by decide +kernel
theorem dX12_isFault_217 : decode cX12_isFault 217 = .ok (.iload_n 3, 1) := by decide +kernel
theorem dX12_isFault_218 : decode cX12_isFault 218 = .ok (.aload_n 0, 1) := by decide +kernel
theorem dX12_isFault_219 : decode cX12_isFault 219 = .ok (.getfield 72, 3) := by decide +kernel
theorem dX12_isFault_222 : decode cX12_isFault 222 = .ok (.iload 4, 2) := by decide +kernel
theorem dX12_isFault_224 : decode cX12_isFault 224 = .ok (.laload, 1) := by decide +kernel
theorem dX12_isFault_225 : decode cX12_isFault 225 = .ok (.invokevirtual 163, 3) := by decide +kernel
theorem dX12_isFault_228 : decode cX12_isFault 228 = .ok (.ifCond .eq 22, 3) := by decide +kernel
theorem dX12_isFault_231 : decode cX12_isFault 231 = .ok (.aload_n 0, 1) := by decide +kernel
theorem dX12_isFault_232 : decode cX12_isFault 232 = .ok (.iload_n 3, 1) := by decide +kernel
theorem dX12_isFault_233 : decode cX12_isFault 233 = .ok (.aload_n 0, 1) := by decide +kernel
theorem dX12_isFault_234 : decode cX12_isFault 234 = .ok (.getfield 75, 3) := by decide +kernel
theorem dX12_isFault_237 : decode cX12_isFault 237 = .ok (.iload 4, 2) := by decide +kernel
theorem dX12_isFault_239 : decode cX12_isFault 239 = .ok (.laload, 1) := by decide +kernel
theorem dX12_isFault_240 : decode cX12_isFault 240 = .ok (.invokevirtual 163, 3) := by decide +kernel
theorem dX12_isFault_243 : decode cX12_isFault 243 = .ok (.ifCond .eq 7, 3) := by decide +kernel
theorem dX12_isFault_246 : decode cX12_isFault 246 = .ok (.iconst 1, 1) := by decide +kernel
theorem dX12_isFault_247 : decode cX12_isFault 247 = .ok (.goto 4, 3) := by decide +kernel
theorem dX12_isFault_250 : decode cX12_isFault 250 = .ok (.iconst 0, 1) := by decide +kernel
theorem dX12_isFault_251 : decode cX12_isFault 251 = .ok (.istore 6, 2) := by decide +kernel
theorem dX12_isFault_253 : decode cX12_isFault 253 = .ok (.aload_n 0, 1) := by decide +kernel
theorem dX12_isFault_254 : decode cX12_isFault 254 = .ok (.getfield 61, 3) := by decide +kernel
theorem dX12_isFault_257 : decode cX12_isFault 257 = .ok (.iload 4, 2) := by decide +kernel
theorem dX12_isFault_259 : decode cX12_isFault 259 = .ok (.baload, 1) := by decide +kernel
theorem dX12_isFault_260 : decode cX12_isFault 260 = .ok (.aload_n 0, 1) := by decide +kernel
theorem dX12_isFault_261 : decode cX12_isFault 261 = .ok (.iload_n 3, 1) := by decide +kernel
theorem dX12_isFault_262 : decode cX12_isFault 262 = .ok (.invokevirtual 160, 3) := by decide +kernel
theorem dX12_isFault_265 : decode cX12_isFault 265 = .ok (.if_icmp .ne 18, 3) := by decide +kernel
theorem dX12_isFault_268 : decode cX12_isFault 268 = .ok (.aload_n 0, 1) := by decide +kernel
theorem dX12_isFault_269 : decode cX12_isFault 269 = .ok (.getfield 61, 3) := by decide +kernel
theorem dX12_isFault_272 : decode cX12_isFault 272 = .ok (.iload 4, 2) := by decide +kernel
theorem dX12_isFault_274 : decode cX12_isFault 274 = .ok (.baload, 1) := by decide +kernel
theorem dX12_isFault_275 : decode cX12_isFault 275 = .ok (.ifCond .ne 12, 3) := by decide +kernel
theorem dX12_isFault_278 : decode cX12_isFault 278 = .ok (.iload 6, 2) := by decide +kernel
theorem dX12_isFault_280 : decode cX12_isFault 280 = .ok (.ifCond .ne 7, 3) := by decide +kernel
theorem dX12_isFault_283 : decode cX12_isFault 283 = .ok (.iconst 1, 1) := by decide +kernel
theorem dX12_isFault_284 : decode cX12_isFault 284 = .ok (.goto 4, 3) := by decide +kernel
theorem dX12_isFault_287 : decode cX12_isFault 287 = .ok (.iconst 0, 1) := by decide +kernel
theorem dX12_isFault_288 : decode cX12_isFault 288 = .ok (.ireturn, 1) := by decide +kernel
theorem dX12_isFault_289 : decode cX12_isFault 289 = .ok (.aload_n 0, 1) := by decide +kernel
theorem dX12_isFault_290 : decode cX12_isFault 290 = .ok (.iload 5, 2) := by decide +kernel
theorem dX12_isFault_292 : decode cX12_isFault 292 = .ok (.iload 4, 2) := by decide +kernel
theorem dX12_isFault_294 : decode cX12_isFault 294 = .ok (.invokevirtual 310, 3) := by decide +kernel
theorem dX12_isFault_297 : decode cX12_isFault 297 = .ok (.ireturn, 1) := by decide +kernel
theorem dX12_faultOf_0 : decode cX12_faultOf 0 = .ok (.aload_n 0, 1) := by decide +kernel
theorem dX12_faultOf_1 : decode cX12_faultOf 1 = .ok (.iload_n 1, 1) := by decide +kernel
theorem dX12_faultOf_2 : decode cX12_faultOf 2 = .ok (.invokevirtual 270, 3) := by decide +kernel
theorem dX12_faultOf_5 : decode cX12_faultOf 5 = .ok (.iconst 0, 1) := by decide +kernel
theorem dX12_faultOf_6 : decode cX12_faultOf 6 = .ok (.istore_n 2, 1) := by decide +kernel
theorem dX12_faultOf_7 : decode cX12_faultOf 7 = .ok (.aload_n 0, 1) := by decide +kernel
theorem dX12_faultOf_8 : decode cX12_faultOf 8 = .ok (.iconst 0, 1) := by decide +kernel
theorem dX12_faultOf_9 : decode cX12_faultOf 9 = .ok (.putfield 313, 3) := by decide +kernel
theorem dX12_faultOf_12 : decode cX12_faultOf 12 = .ok (.iconst 0, 1) := by decide +kernel
theorem dX12_faultOf_13 : decode cX12_faultOf 13 = .ok (.istore_n 3, 1) := by decide +kernel
theorem dX12_faultOf_14 : decode cX12_faultOf 14 = .ok (.iload_n 3, 1) := by decide +kernel
theorem dX12_faultOf_15 : decode cX12_faultOf 15 = .ok (.aload_n 0, 1) := by decide +kernel
theorem dX12_faultOf_16 : decode cX12_faultOf 16 = .ok (.getfield 201, 3) := by decide +kernel
theorem dX12_faultOf_19 : decode cX12_faultOf 19 = .ok (.if_icmp .ge 94, 3) := by decide +kernel
theorem dX12_faultOf_22 : decode cX12_faultOf 22 = .ok (.aload_n 0, 1) := by decide +kernel
theorem dX12_faultOf_23 : decode cX12_faultOf 23 = .ok (.iload_n 3, 1) := by decide +kernel
theorem dX12_faultOf_24 : decode cX12_faultOf 24 = .ok (.iload_n 2, 1) := by decide +kernel
theorem dX12_faultOf_25 : decode cX12_faultOf 25 = .ok (.invokevirtual 316, 3) := by decide +kernel
theorem dX12_faultOf_28 : decode cX12_faultOf 28 = .ok (.ifCond .eq 5, 3) := by decide +kernel
theorem dX12_faultOf_31 : decode cX12_faultOf 31 = .ok (.iload_n 3, 1) := by decide +kernel
theorem dX12_faultOf_32 : decode cX12_faultOf 32 = .ok (.ireturn, 1) := by decide +kernel
theorem dX12_faultOf_33 : decode cX12_faultOf 33 = .ok (.iload_n 2, 1) := by decide +kernel
theorem dX12_faultOf_34 : decode cX12_faultOf 34 = .ok (.aload_n 0, 1) := by decide +kernel
theorem dX12_faultOf_35 : decode cX12_faultOf 35 = .ok (.iload_n 3, 1) := by decide +kernel
theorem dX12_faultOf_36 : decode cX12_faultOf 36 = .ok (.invokevirtual 277, 3) := by decide +kernel
theorem dX12_faultOf_39 : decode cX12_faultOf 39 = .ok (.iadd, 1) := by decide +kernel
theorem dX12_faultOf_40 : decode cX12_faultOf 40 = .ok (.istore_n 2, 1) := by decide +kernel
theorem dX12_faultOf_41 : decode cX12_faultOf 41 = .ok (.aload_n 0, 1) := by decide +kernel
theorem dX12_faultOf_42 : decode cX12_faultOf 42 = .ok (.getfield 52, 3) := by decide +kernel
theorem dX12_faultOf_45 : decode cX12_faultOf 45 = .ok (.iload_n 3, 1) := by decide +kernel
theorem dX12_faultOf_46 : decode cX12_faultOf 46 = .ok (.caload, 1) := by decide +kernel
theorem dX12_faultOf_47 : decode cX12_faultOf 47 = .ok (.bipush 61, 2) := by decide +kernel
theorem dX12_faultOf_49 : decode cX12_faultOf 49 = .ok (.if_icmp .ne 58, 3) := by decide +kernel
theorem dX12_faultOf_52 : decode cX12_faultOf 52 = .ok (.aload_n 0, 1) := by decide +kernel
theorem dX12_faultOf_53 : decode cX12_faultOf 53 = .ok (.getfield 78, 3) := by decide +kernel
theorem dX12_faultOf_56 : decode cX12_faultOf 56 = .ok (.aload_n 0, 1) := by decide +kernel
theorem dX12_faultOf_57 : decode cX12_faultOf 57 = .ok (.getfield 313, 3) := by decide +kernel
theorem dX12_faultOf_60 : decode cX12_faultOf 60 = .ok (.aload_n 0, 1) := by decide +kernel
theorem dX12_faultOf_61 : decode cX12_faultOf 61 = .ok (.getfield 72, 3) := by decide +kernel
theorem dX12_faultOf_64 : decode cX12_faultOf 64 = .ok (.iload_n 2, 1) := by decide +kernel
theorem dX12_faultOf_65 : decode cX12_faultOf 65 = .ok (.laload, 1) := by decide +kernel
theorem dX12_faultOf_66 : decode cX12_faultOf 66 = .ok (.lastore, 1) := by decide +kernel
theorem dX12_faultOf_67 : decode cX12_faultOf 67 = .ok (.aload_n 0, 1) := by decide +kernel
theorem dX12_faultOf_68 : decode cX12_faultOf 68 = .ok (.getfield 81, 3) := by decide +kernel
theorem dX12_faultOf_71 : decode cX12_faultOf 71 = .ok (.aload_n 0, 1) := by decide +kernel
theorem dX12_faultOf_72 : decode cX12_faultOf 72 = .ok (.getfield 313, 3) := by decide +kernel
theorem dX12_faultOf_75 : decode cX12_faultOf 75 = .ok (.aload_n 0, 1) := by decide +kernel
theorem dX12_faultOf_76 : decode cX12_faultOf 76 = .ok (.getfield 75, 3) := by decide +kernel
theorem dX12_faultOf_79 : decode cX12_faultOf 79 = .ok (.iload_n 2, 1) := by decide +kernel
theorem dX12_faultOf_80 : decode cX12_faultOf 80 = .ok (.laload, 1) := by decide +kernel
theorem dX12_faultOf_81 : decode cX12_faultOf 81 = .ok (.lastore, 1) := by decide +kernel
theorem dX12_faultOf_82 : decode cX12_faultOf 82 = .ok (.aload_n 0, 1) := by decide +kernel
theorem dX12_faultOf_83 : decode cX12_faultOf 83 = .ok (.getfield 84, 3) := by decide +kernel
theorem dX12_faultOf_86 : decode cX12_faultOf 86 = .ok (.aload_n 0, 1) := by decide +kernel
theorem dX12_faultOf_87 : decode cX12_faultOf 87 = .ok (.getfield 313, 3) := by decide +kernel
theorem dX12_faultOf_90 : decode cX12_faultOf 90 = .ok (.aload_n 0, 1) := by decide +kernel
theorem dX12_faultOf_91 : decode cX12_faultOf 91 = .ok (.getfield 61, 3) := by decide +kernel
theorem dX12_faultOf_94 : decode cX12_faultOf 94 = .ok (.iload_n 2, 1) := by decide +kernel
theorem dX12_faultOf_95 : decode cX12_faultOf 95 = .ok (.baload, 1) := by decide +kernel
theorem dX12_faultOf_96 : decode cX12_faultOf 96 = .ok (.bastore, 1) := by decide +kernel
theorem dX12_faultOf_97 : decode cX12_faultOf 97 = .ok (.aload_n 0, 1) := by decide +kernel
theorem dX12_faultOf_98 : decode cX12_faultOf 98 = .ok (.dup, 1) := by decide +kernel
theorem dX12_faultOf_99 : decode cX12_faultOf 99 = .ok (.getfield 313, 3) := by decide +kernel
theorem dX12_faultOf_102 : decode cX12_faultOf 102 = .ok (.iconst 1, 1) := by decide +kernel
theorem dX12_faultOf_103 : decode cX12_faultOf 103 = .ok (.iadd, 1) := by decide +kernel
theorem dX12_faultOf_104 : decode cX12_faultOf 104 = .ok (.putfield 313, 3) := by decide +kernel
theorem dX12_faultOf_107 : decode cX12_faultOf 107 = .ok (.iinc 3 1, 3) := by decide +kernel
theorem dX12_faultOf_110 : decode cX12_faultOf 110 = .ok (.goto (-96), 3) := by decide +kernel
theorem dX12_faultOf_113 : decode cX12_faultOf 113 = .ok (.iconst (-1), 1) := by decide +kernel
theorem dX12_faultOf_114 : decode cX12_faultOf 114 = .ok (.ireturn, 1) := by decide +kernel
theorem dX12_typedMany_0 : decode cX12_typedMany 0 = .ok (.iconst 0, 1) := by decide +kernel
theorem dX12_typedMany_1 : decode cX12_typedMany 1 = .ok (.istore_n 1, 1) := by decide +kernel
theorem dX12_typedMany_2 : decode cX12_typedMany 2 = .ok (.iconst 0, 1) := by decide +kernel
theorem dX12_typedMany_3 : decode cX12_typedMany 3 = .ok (.istore_n 2, 1) := by decide +kernel
theorem dX12_typedMany_4 : decode cX12_typedMany 4 = .ok (.iload_n 2, 1) := by decide +kernel
theorem dX12_typedMany_5 : decode cX12_typedMany 5 = .ok (.aload_n 0, 1) := by decide +kernel
theorem dX12_typedMany_6 : decode cX12_typedMany 6 = .ok (.getfield 9, 3) := by decide +kernel
theorem dX12_typedMany_9 : decode cX12_typedMany 9 = .ok (.iconst 1, 1) := by decide +kernel
theorem dX12_typedMany_10 : decode cX12_typedMany 10 = .ok (.iaload, 1) := by decide +kernel
theorem dX12_typedMany_11 : decode cX12_typedMany 11 = .ok (.if_icmp .ge 25, 3) := by decide +kernel
theorem dX12_typedMany_14 : decode cX12_typedMany 14 = .ok (.iload_n 1, 1) := by decide +kernel
theorem dX12_typedMany_15 : decode cX12_typedMany 15 = .ok (.aload_n 0, 1) := by decide +kernel
theorem dX12_typedMany_16 : decode cX12_typedMany 16 = .ok (.iload_n 2, 1) := by decide +kernel
theorem dX12_typedMany_17 : decode cX12_typedMany 17 = .ok (.invokevirtual 293, 3) := by decide +kernel
theorem dX12_typedMany_20 : decode cX12_typedMany 20 = .ok (.ifCond .ge 7, 3) := by decide +kernel
theorem dX12_typedMany_23 : decode cX12_typedMany 23 = .ok (.iconst 1, 1) := by decide +kernel
theorem dX12_typedMany_24 : decode cX12_typedMany 24 = .ok (.goto 4, 3) := by decide +kernel
theorem dX12_typedMany_27 : decode cX12_typedMany 27 = .ok (.iconst 0, 1) := by decide +kernel
theorem dX12_typedMany_28 : decode cX12_typedMany 28 = .ok (.iadd, 1) := by decide +kernel
theorem dX12_typedMany_29 : decode cX12_typedMany 29 = .ok (.istore_n 1, 1) := by decide +kernel
theorem dX12_typedMany_30 : decode cX12_typedMany 30 = .ok (.iinc 2 1, 3) := by decide +kernel
theorem dX12_typedMany_33 : decode cX12_typedMany 33 = .ok (.goto (-29), 3) := by decide +kernel
theorem dX12_typedMany_36 : decode cX12_typedMany 36 = .ok (.iload_n 1, 1) := by decide +kernel
theorem dX12_typedMany_37 : decode cX12_typedMany 37 = .ok (.ireturn, 1) := by decide +kernel
theorem dX12_types_0 : decode cX12_types 0 = .ok (.aload_n 0, 1) := by decide +kernel
theorem dX12_types_1 : decode cX12_types 1 = .ok (.aload_n 0, 1) := by decide +kernel
theorem dX12_types_2 : decode cX12_types 2 = .ok (.iload_n 1, 1) := by decide +kernel
theorem dX12_types_3 : decode cX12_types 3 = .ok (.invokevirtual 229, 3) := by decide +kernel
theorem dX12_types_6 : decode cX12_types 6 = .ok (.ifCond .eq 7, 3) := by decide +kernel
theorem dX12_types_9 : decode cX12_types 9 = .ok (.iconst 0, 1) := by decide +kernel
theorem dX12_types_10 : decode cX12_types 10 = .ok (.goto 4, 3) := by decide +kernel
theorem dX12_types_13 : decode cX12_types 13 = .ok (.iconst 1, 1) := by decide +kernel
theorem dX12_types_14 : decode cX12_types 14 = .ok (.putfield 96, 3) := by decide +kernel
theorem dX12_types_17 : decode cX12_types 17 = .ok (.aload_n 0, 1) := by decide +kernel
theorem dX12_types_18 : decode cX12_types 18 = .ok (.getfield 96, 3) := by decide +kernel
theorem dX12_types_21 : decode cX12_types 21 = .ok (.ifCond .ne 15, 3) := by decide +kernel
theorem dX12_types_24 : decode cX12_types 24 = .ok (.aload_n 0, 1) := by decide +kernel
theorem dX12_types_25 : decode cX12_types 25 = .ok (.iload_n 1, 1) := by decide +kernel
theorem dX12_types_26 : decode cX12_types 26 = .ok (.invokevirtual 293, 3) := by decide +kernel
theorem dX12_types_29 : decode cX12_types 29 = .ok (.ifCond .ge 7, 3) := by decide +kernel
theorem dX12_types_32 : decode cX12_types 32 = .ok (.iconst 1, 1) := by decide +kernel
theorem dX12_types_33 : decode cX12_types 33 = .ok (.goto 4, 3) := by decide +kernel
theorem dX12_types_36 : decode cX12_types 36 = .ok (.iconst 0, 1) := by decide +kernel
theorem dX12_types_37 : decode cX12_types 37 = .ok (.ireturn, 1) := by decide +kernel
theorem dX12_typesAgain_0 : decode cX12_typesAgain 0 = .ok (.aload_n 0, 1) := by decide +kernel
theorem dX12_typesAgain_1 : decode cX12_typesAgain 1 = .ok (.iload_n 1, 1) := by decide +kernel
theorem dX12_typesAgain_2 : decode cX12_typesAgain 2 = .ok (.invokevirtual 319, 3) := by decide +kernel
theorem dX12_typesAgain_5 : decode cX12_typesAgain 5 = .ok (.ireturn, 1) := by decide +kernel
theorem dX12_fault_0 : decode cX12_fault 0 = .ok (.aload_n 0, 1) := by decide +kernel
theorem dX12_fault_1 : decode cX12_fault 1 = .ok (.iload_n 1, 1) := by decide +kernel
theorem dX12_fault_2 : decode cX12_fault 2 = .ok (.invokevirtual 229, 3) := by decide +kernel
theorem dX12_fault_5 : decode cX12_fault 5 = .ok (.ifCond .ne 9, 3) := by decide +kernel
theorem dX12_fault_8 : decode cX12_fault 8 = .ok (.aload_n 0, 1) := by decide +kernel
theorem dX12_fault_9 : decode cX12_fault 9 = .ok (.iconst 1, 1) := by decide +kernel
theorem dX12_fault_10 : decode cX12_fault 10 = .ok (.invokevirtual 149, 3) := by decide +kernel
theorem dX12_fault_13 : decode cX12_fault 13 = .ok (.ireturn, 1) := by decide +kernel
theorem dX12_fault_14 : decode cX12_fault 14 = .ok (.aload_n 0, 1) := by decide +kernel
theorem dX12_fault_15 : decode cX12_fault 15 = .ok (.iload_n 1, 1) := by decide +kernel
theorem dX12_fault_16 : decode cX12_fault 16 = .ok (.invokevirtual 293, 3) := by decide +kernel
theorem dX12_fault_19 : decode cX12_fault 19 = .ok (.istore_n 2, 1) := by decide +kernel
theorem dX12_fault_20 : decode cX12_fault 20 = .ok (.aload_n 0, 1) := by decide +kernel
theorem dX12_fault_21 : decode cX12_fault 21 = .ok (.iload_n 2, 1) := by decide +kernel
theorem dX12_fault_22 : decode cX12_fault 22 = .ok (.ifCond .ge 7, 3) := by decide +kernel
theorem dX12_fault_25 : decode cX12_fault 25 = .ok (.iconst 2, 1) := by decide +kernel
theorem dX12_fault_26 : decode cX12_fault 26 = .ok (.goto 4, 3) := by decide +kernel
theorem dX12_fault_29 : decode cX12_fault 29 = .ok (.iconst 0, 1) := by decide +kernel
theorem dX12_fault_30 : decode cX12_fault 30 = .ok (.putfield 96, 3) := by decide +kernel
theorem dX12_fault_33 : decode cX12_fault 33 = .ok (.aload_n 0, 1) := by decide +kernel
theorem dX12_fault_34 : decode cX12_fault 34 = .ok (.getfield 96, 3) := by decide +kernel
theorem dX12_fault_37 : decode cX12_fault 37 = .ok (.ifCond .le 7, 3) := by decide +kernel
theorem dX12_fault_40 : decode cX12_fault 40 = .ok (.iconst 0, 1) := by decide +kernel
theorem dX12_fault_41 : decode cX12_fault 41 = .ok (.goto 4, 3) := by decide +kernel
theorem dX12_fault_44 : decode cX12_fault 44 = .ok (.iload_n 2, 1) := by decide +kernel
theorem dX12_fault_45 : decode cX12_fault 45 = .ok (.ireturn, 1) := by decide +kernel
theorem dX12_bound_0 : decode cX12_bound 0 = .ok (.aload_n 0, 1) := by decide +kernel
theorem dX12_bound_1 : decode cX12_bound 1 = .ok (.iload_n 1, 1) := by decide +kernel
theorem dX12_bound_2 : decode cX12_bound 2 = .ok (.invokevirtual 229, 3) := by decide +kernel
theorem dX12_bound_5 : decode cX12_bound 5 = .ok (.ifCond .ne 9, 3) := by decide +kernel
theorem dX12_bound_8 : decode cX12_bound 8 = .ok (.aload_n 0, 1) := by decide +kernel
theorem dX12_bound_9 : decode cX12_bound 9 = .ok (.iconst 1, 1) := by decide +kernel
theorem dX12_bound_10 : decode cX12_bound 10 = .ok (.invokevirtual 149, 3) := by decide +kernel
theorem dX12_bound_13 : decode cX12_bound 13 = .ok (.ireturn, 1) := by decide +kernel
theorem dX12_bound_14 : decode cX12_bound 14 = .ok (.aload_n 0, 1) := by decide +kernel
theorem dX12_bound_15 : decode cX12_bound 15 = .ok (.iload_n 1, 1) := by decide +kernel
theorem dX12_bound_16 : decode cX12_bound 16 = .ok (.invokevirtual 293, 3) := by decide +kernel
theorem dX12_bound_19 : decode cX12_bound 19 = .ok (.ifCond .ge 32, 3) := by decide +kernel
theorem dX12_bound_22 : decode cX12_bound 22 = .ok (.iload_n 2, 1) := by decide +kernel
theorem dX12_bound_23 : decode cX12_bound 23 = .ok (.i2l, 1) := by decide +kernel
theorem dX12_bound_24 : decode cX12_bound 24 = .ok (.lconst 0, 1) := by decide +kernel
theorem dX12_bound_25 : decode cX12_bound 25 = .ok (.aload_n 0, 1) := by decide +kernel
theorem dX12_bound_26 : decode cX12_bound 26 = .ok (.getfield 313, 3) := by decide +kernel
theorem dX12_bound_29 : decode cX12_bound 29 = .ok (.iconst 1, 1) := by decide +kernel
theorem dX12_bound_30 : decode cX12_bound 30 = .ok (.isub, 1) := by decide +kernel
theorem dX12_bound_31 : decode cX12_bound 31 = .ok (.i2l, 1) := by decide +kernel
theorem dX12_bound_32 : decode cX12_bound 32 = .ok (.invokestatic 112, 3) := by decide +kernel
theorem dX12_bound_35 : decode cX12_bound 35 = .ok (.ifCond .eq 16, 3) := by decide +kernel
theorem dX12_bound_38 : decode cX12_bound 38 = .ok (.aload_n 0, 1) := by decide +kernel
theorem dX12_bound_39 : decode cX12_bound 39 = .ok (.getfield 84, 3) := by decide +kernel
theorem dX12_bound_42 : decode cX12_bound 42 = .ok (.iload_n 2, 1) := by decide +kernel
theorem dX12_bound_43 : decode cX12_bound 43 = .ok (.baload, 1) := by decide +kernel
theorem dX12_bound_44 : decode cX12_bound 44 = .ok (.ifCond .ne 7, 3) := by decide +kernel
theorem dX12_bound_47 : decode cX12_bound 47 = .ok (.iconst 1, 1) := by decide +kernel
theorem dX12_bound_48 : decode cX12_bound 48 = .ok (.goto 4, 3) := by decide +kernel
theorem dX12_bound_51 : decode cX12_bound 51 = .ok (.iconst 0, 1) := by decide +kernel
theorem dX12_bound_52 : decode cX12_bound 52 = .ok (.istore 4, 2) := by decide +kernel
theorem dX12_bound_54 : decode cX12_bound 54 = .ok (.aload_n 0, 1) := by decide +kernel
theorem dX12_bound_55 : decode cX12_bound 55 = .ok (.iload 4, 2) := by decide +kernel
theorem dX12_bound_57 : decode cX12_bound 57 = .ok (.ifCond .eq 7, 3) := by decide +kernel
theorem dX12_bound_60 : decode cX12_bound 60 = .ok (.iconst 0, 1) := by decide +kernel
theorem dX12_bound_61 : decode cX12_bound 61 = .ok (.goto 4, 3) := by decide +kernel
theorem dX12_bound_64 : decode cX12_bound 64 = .ok (.iconst 2, 1) := by decide +kernel
theorem dX12_bound_65 : decode cX12_bound 65 = .ok (.putfield 96, 3) := by decide +kernel
theorem dX12_bound_68 : decode cX12_bound 68 = .ok (.aload_n 0, 1) := by decide +kernel
theorem dX12_bound_69 : decode cX12_bound 69 = .ok (.getfield 96, 3) := by decide +kernel
theorem dX12_bound_72 : decode cX12_bound 72 = .ok (.ifCond .le 7, 3) := by decide +kernel
theorem dX12_bound_75 : decode cX12_bound 75 = .ok (.iconst 0, 1) := by decide +kernel
theorem dX12_bound_76 : decode cX12_bound 76 = .ok (.goto 23, 3) := by decide +kernel
theorem dX12_bound_79 : decode cX12_bound 79 = .ok (.iload_n 3, 1) := by decide +kernel
theorem dX12_bound_80 : decode cX12_bound 80 = .ok (.ifCond .eq 12, 3) := by decide +kernel
theorem dX12_bound_83 : decode cX12_bound 83 = .ok (.aload_n 0, 1) := by decide +kernel
theorem dX12_bound_84 : decode cX12_bound 84 = .ok (.getfield 81, 3) := by decide +kernel
theorem dX12_bound_87 : decode cX12_bound 87 = .ok (.iload_n 2, 1) := by decide +kernel
theorem dX12_bound_88 : decode cX12_bound 88 = .ok (.laload, 1) := by decide +kernel
theorem dX12_bound_89 : decode cX12_bound 89 = .ok (.goto 9, 3) := by decide +kernel
theorem dX12_bound_92 : decode cX12_bound 92 = .ok (.aload_n 0, 1) := by decide +kernel
theorem dX12_bound_93 : decode cX12_bound 93 = .ok (.getfield 78, 3) := by decide +kernel
theorem dX12_bound_96 : decode cX12_bound 96 = .ok (.iload_n 2, 1) := by decide +kernel
theorem dX12_bound_97 : decode cX12_bound 97 = .ok (.laload, 1) := by decide +kernel
theorem dX12_bound_98 : decode cX12_bound 98 = .ok (.l2i, 1) := by decide +kernel
theorem dX12_bound_99 : decode cX12_bound 99 = .ok (.ireturn, 1) := by decide +kernel
theorem dX12_typed_0 : decode cX12_typed 0 = .ok (.aload_n 0, 1) := by decide +kernel
theorem dX12_typed_1 : decode cX12_typed 1 = .ok (.iconst 0, 1) := by decide +kernel
theorem dX12_typed_2 : decode cX12_typed 2 = .ok (.putfield 96, 3) := by decide +kernel
theorem dX12_typed_5 : decode cX12_typed 5 = .ok (.aload_n 0, 1) := by decide +kernel
theorem dX12_typed_6 : decode cX12_typed 6 = .ok (.invokevirtual 184, 3) := by decide +kernel
theorem dX12_typed_9 : decode cX12_typed 9 = .ok (.ireturn, 1) := by decide +kernel
theorem dX12_content_0 : decode cX12_content 0 = .ok (.aload_n 0, 1) := by decide +kernel
theorem dX12_content_1 : decode cX12_content 1 = .ok (.iload_n 1, 1) := by decide +kernel
theorem dX12_content_2 : decode cX12_content 2 = .ok (.invokevirtual 160, 3) := by decide +kernel
theorem dX12_content_5 : decode cX12_content 5 = .ok (.ifCond .eq 13, 3) := by decide +kernel
theorem dX12_content_8 : decode cX12_content 8 = .ok (.aload_n 0, 1) := by decide +kernel
theorem dX12_content_9 : decode cX12_content 9 = .ok (.getfield 13, 3) := by decide +kernel
theorem dX12_content_12 : decode cX12_content 12 = .ok (.iload_n 1, 1) := by decide +kernel
theorem dX12_content_13 : decode cX12_content 13 = .ok (.faload, 1) := by decide +kernel
theorem dX12_content_14 : decode cX12_content 14 = .ok (.f2i, 1) := by decide +kernel
theorem dX12_content_15 : decode cX12_content 15 = .ok (.goto 9, 3) := by decide +kernel
theorem dX12_content_18 : decode cX12_content 18 = .ok (.aload_n 0, 1) := by decide +kernel
theorem dX12_content_19 : decode cX12_content 19 = .ok (.iload_n 1, 1) := by decide +kernel
theorem dX12_content_20 : decode cX12_content 20 = .ok (.iconst 3, 1) := by decide +kernel
theorem dX12_content_21 : decode cX12_content 21 = .ok (.invokevirtual 116, 3) := by decide +kernel
theorem dX12_content_24 : decode cX12_content 24 = .ok (.ireturn, 1) := by decide +kernel
theorem dX12_spellsWith_0 : decode cX12_spellsWith 0 = .ok (.iconst 0, 1) := by decide +kernel
theorem dX12_spellsWith_1 : decode cX12_spellsWith 1 = .ok (.istore_n 3, 1) := by decide +kernel
theorem dX12_spellsWith_2 : decode cX12_spellsWith 2 = .ok (.iconst 0, 1) := by decide +kernel
theorem dX12_spellsWith_3 : decode cX12_spellsWith 3 = .ok (.istore 4, 2) := by decide +kernel
theorem dX12_spellsWith_5 : decode cX12_spellsWith 5 = .ok (.iload 4, 2) := by decide +kernel
theorem dX12_spellsWith_7 : decode cX12_spellsWith 7 = .ok (.aload_n 0, 1) := by decide +kernel
theorem dX12_spellsWith_8 : decode cX12_spellsWith 8 = .ok (.getfield 9, 3) := by decide +kernel
theorem dX12_spellsWith_11 : decode cX12_spellsWith 11 = .ok (.iconst 1, 1) := by decide +kernel
theorem dX12_spellsWith_12 : decode cX12_spellsWith 12 = .ok (.iaload, 1) := by decide +kernel
theorem dX12_spellsWith_13 : decode cX12_spellsWith 13 = .ok (.if_icmp .ge 100, 3) := by decide +kernel
theorem dX12_spellsWith_16 : decode cX12_spellsWith 16 = .ok (.iconst 0, 1) := by decide +kernel
theorem dX12_spellsWith_17 : decode cX12_spellsWith 17 = .ok (.istore 5, 2) := by decide +kernel
theorem dX12_spellsWith_19 : decode cX12_spellsWith 19 = .ok (.aload_n 0, 1) := by decide +kernel
theorem dX12_spellsWith_20 : decode cX12_spellsWith 20 = .ok (.iload 4, 2) := by decide +kernel
theorem dX12_spellsWith_22 : decode cX12_spellsWith 22 = .ok (.invokevirtual 270, 3) := by decide +kernel
theorem dX12_spellsWith_25 : decode cX12_spellsWith 25 = .ok (.iconst 0, 1) := by decide +kernel
theorem dX12_spellsWith_26 : decode cX12_spellsWith 26 = .ok (.istore 6, 2) := by decide +kernel
theorem dX12_spellsWith_28 : decode cX12_spellsWith 28 = .ok (.iload 6, 2) := by decide +kernel
theorem dX12_spellsWith_30 : decode cX12_spellsWith 30 = .ok (.aload_n 0, 1) := by decide +kernel
theorem dX12_spellsWith_31 : decode cX12_spellsWith 31 = .ok (.getfield 201, 3) := by decide +kernel
theorem dX12_spellsWith_34 : decode cX12_spellsWith 34 = .ok (.if_icmp .ge 60, 3) := by decide +kernel
theorem dX12_spellsWith_37 : decode cX12_spellsWith 37 = .ok (.iload 5, 2) := by decide +kernel
theorem dX12_spellsWith_39 : decode cX12_spellsWith 39 = .ok (.ifCond .ne 42, 3) := by decide +kernel
theorem dX12_spellsWith_42 : decode cX12_spellsWith 42 = .ok (.iload_n 2, 1) := by decide +kernel
theorem dX12_spellsWith_43 : decode cX12_spellsWith 43 = .ok (.ifCond .eq 18, 3) := by decide +kernel
theorem dX12_spellsWith_46 : decode cX12_spellsWith 46 = .ok (.aload_n 0, 1) := by decide +kernel
theorem dX12_spellsWith_47 : decode cX12_spellsWith 47 = .ok (.getfield 52, 3) := by decide +kernel
theorem dX12_spellsWith_50 : decode cX12_spellsWith 50 = .ok (.iload 6, 2) := by decide +kernel
theorem dX12_spellsWith_52 : decode cX12_spellsWith 52 = .ok (.caload, 1) := by decide +kernel
theorem dX12_spellsWith_53 : decode cX12_spellsWith 53 = .ok (.bipush 61, 2) := by decide +kernel
theorem dX12_spellsWith_55 : decode cX12_spellsWith 55 = .ok (.if_icmp .ne 30, 3) := by decide +kernel
theorem dX12_spellsWith_58 : decode cX12_spellsWith 58 = .ok (.goto 12, 3) := by decide +kernel
theorem dX12_spellsWith_61 : decode cX12_spellsWith 61 = .ok (.aload_n 0, 1) := by decide +kernel
theorem dX12_spellsWith_62 : decode cX12_spellsWith 62 = .ok (.iload 6, 2) := by decide +kernel
theorem dX12_spellsWith_64 : decode cX12_spellsWith 64 = .ok (.invokevirtual 223, 3) := by decide +kernel
theorem dX12_spellsWith_67 : decode cX12_spellsWith 67 = .ok (.ifCond .eq 18, 3) := by decide +kernel
theorem dX12_spellsWith_70 : decode cX12_spellsWith 70 = .ok (.aload_n 0, 1) := by decide +kernel
theorem dX12_spellsWith_71 : decode cX12_spellsWith 71 = .ok (.getfield 55, 3) := by decide +kernel
theorem dX12_spellsWith_74 : decode cX12_spellsWith 74 = .ok (.iload 6, 2) := by decide +kernel
theorem dX12_spellsWith_76 : decode cX12_spellsWith 76 = .ok (.iaload, 1) := by decide +kernel
theorem dX12_spellsWith_77 : decode cX12_spellsWith 77 = .ok (.iload_n 1, 1) := by decide +kernel
theorem dX12_spellsWith_78 : decode cX12_spellsWith 78 = .ok (.if_icmp .ne 7, 3) := by decide +kernel
theorem dX12_spellsWith_81 : decode cX12_spellsWith 81 = .ok (.iconst 1, 1) := by decide +kernel
theorem dX12_spellsWith_82 : decode cX12_spellsWith 82 = .ok (.goto 4, 3) := by decide +kernel
theorem dX12_spellsWith_85 : decode cX12_spellsWith 85 = .ok (.iconst 0, 1) := by decide +kernel
theorem dX12_spellsWith_86 : decode cX12_spellsWith 86 = .ok (.istore 5, 2) := by decide +kernel
theorem dX12_spellsWith_88 : decode cX12_spellsWith 88 = .ok (.iinc 6 1, 3) := by decide +kernel
theorem dX12_spellsWith_91 : decode cX12_spellsWith 91 = .ok (.goto (-63), 3) := by decide +kernel
theorem dX12_spellsWith_94 : decode cX12_spellsWith 94 = .ok (.iload_n 3, 1) := by decide +kernel
theorem dX12_spellsWith_95 : decode cX12_spellsWith 95 = .ok (.iload 5, 2) := by decide +kernel
theorem dX12_spellsWith_97 : decode cX12_spellsWith 97 = .ok (.ifCond .eq 7, 3) := by decide +kernel
theorem dX12_spellsWith_100 : decode cX12_spellsWith 100 = .ok (.iconst 1, 1) := by decide +kernel
theorem dX12_spellsWith_101 : decode cX12_spellsWith 101 = .ok (.goto 4, 3) := by decide +kernel
theorem dX12_spellsWith_104 : decode cX12_spellsWith 104 = .ok (.iconst 0, 1) := by decide +kernel
theorem dX12_spellsWith_105 : decode cX12_spellsWith 105 = .ok (.iadd, 1) := by decide +kernel
theorem dX12_spellsWith_106 : decode cX12_spellsWith 106 = .ok (.istore_n 3, 1) := by decide +kernel
theorem dX12_spellsWith_107 : decode cX12_spellsWith 107 = .ok (.iinc 4 1, 3) := by decide +kernel
theorem dX12_spellsWith_110 : decode cX12_spellsWith 110 = .ok (.goto (-105), 3) := by decide +kernel
theorem dX12_spellsWith_113 : decode cX12_spellsWith 113 = .ok (.iload_n 3, 1) := by decide +kernel
theorem dX12_spellsWith_114 : decode cX12_spellsWith 114 = .ok (.ireturn, 1) := by decide +kernel
theorem dX12_cauldronOf_0 : decode cX12_cauldronOf 0 = .ok (.aload_n 0, 1) := by decide +kernel
theorem dX12_cauldronOf_1 : decode cX12_cauldronOf 1 = .ok (.aload_n 0, 1) := by decide +kernel
theorem dX12_cauldronOf_2 : decode cX12_cauldronOf 2 = .ok (.iload_n 1, 1) := by decide +kernel
theorem dX12_cauldronOf_3 : decode cX12_cauldronOf 3 = .ok (.invokevirtual 156, 3) := by decide +kernel
theorem dX12_cauldronOf_6 : decode cX12_cauldronOf 6 = .ok (.ifCond .ne 7, 3) := by decide +kernel
theorem dX12_cauldronOf_9 : decode cX12_cauldronOf 9 = .ok (.iconst 1, 1) := by decide +kernel
theorem dX12_cauldronOf_10 : decode cX12_cauldronOf 10 = .ok (.goto 20, 3) := by decide +kernel
theorem dX12_cauldronOf_13 : decode cX12_cauldronOf 13 = .ok (.iload_n 2, 1) := by decide +kernel
theorem dX12_cauldronOf_14 : decode cX12_cauldronOf 14 = .ok (.i2l, 1) := by decide +kernel
theorem dX12_cauldronOf_15 : decode cX12_cauldronOf 15 = .ok (.lconst 0, 1) := by decide +kernel
theorem dX12_cauldronOf_16 : decode cX12_cauldronOf 16 = .ok (.ldc2_w 322, 3) := by decide +kernel
theorem dX12_cauldronOf_19 : decode cX12_cauldronOf 19 = .ok (.invokestatic 112, 3) := by decide +kernel
theorem dX12_cauldronOf_22 : decode cX12_cauldronOf 22 = .ok (.ifCond .ne 7, 3) := by decide +kernel
theorem dX12_cauldronOf_25 : decode cX12_cauldronOf 25 = .ok (.iconst 2, 1) := by decide +kernel
theorem dX12_cauldronOf_26 : decode cX12_cauldronOf 26 = .ok (.goto 4, 3) := by decide +kernel
theorem dX12_cauldronOf_29 : decode cX12_cauldronOf 29 = .ok (.iconst 0, 1) := by decide +kernel
theorem dX12_cauldronOf_30 : decode cX12_cauldronOf 30 = .ok (.putfield 96, 3) := by decide +kernel
theorem dX12_cauldronOf_33 : decode cX12_cauldronOf 33 = .ok (.aload_n 0, 1) := by decide +kernel
theorem dX12_cauldronOf_34 : decode cX12_cauldronOf 34 = .ok (.getfield 96, 3) := by decide +kernel
theorem dX12_cauldronOf_37 : decode cX12_cauldronOf 37 = .ok (.ifCond .le 5, 3) := by decide +kernel
theorem dX12_cauldronOf_40 : decode cX12_cauldronOf 40 = .ok (.iconst 0, 1) := by decide +kernel
theorem dX12_cauldronOf_41 : decode cX12_cauldronOf 41 = .ok (.ireturn, 1) := by decide +kernel
theorem dX12_cauldronOf_42 : decode cX12_cauldronOf 42 = .ok (.iload_n 2, 1) := by decide +kernel
theorem dX12_cauldronOf_43 : decode cX12_cauldronOf 43 = .ok (.tableswitch 52 3 6 #[29, 52, 35, 35], 29) := by decide +kernel
theorem dX12_cauldronOf_72 : decode cX12_cauldronOf 72 = .ok (.aload_n 0, 1) := by decide +kernel
theorem dX12_cauldronOf_73 : decode cX12_cauldronOf 73 = .ok (.iload_n 1, 1) := by decide +kernel
theorem dX12_cauldronOf_74 : decode cX12_cauldronOf 74 = .ok (.invokevirtual 324, 3) := by decide +kernel
theorem dX12_cauldronOf_77 : decode cX12_cauldronOf 77 = .ok (.ireturn, 1) := by decide +kernel
theorem dX12_cauldronOf_78 : decode cX12_cauldronOf 78 = .ok (.aload_n 0, 1) := by decide +kernel
theorem dX12_cauldronOf_79 : decode cX12_cauldronOf 79 = .ok (.iload_n 1, 1) := by decide +kernel
theorem dX12_cauldronOf_80 : decode cX12_cauldronOf 80 = .ok (.iload_n 2, 1) := by decide +kernel
theorem dX12_cauldronOf_81 : decode cX12_cauldronOf 81 = .ok (.bipush 6, 2) := by decide +kernel
theorem dX12_cauldronOf_83 : decode cX12_cauldronOf 83 = .ok (.if_icmp .ne 7, 3) := by decide +kernel
theorem dX12_cauldronOf_86 : decode cX12_cauldronOf 86 = .ok (.iconst 1, 1) := by decide +kernel
theorem dX12_cauldronOf_87 : decode cX12_cauldronOf 87 = .ok (.goto 4, 3) := by decide +kernel
theorem dX12_cauldronOf_90 : decode cX12_cauldronOf 90 = .ok (.iconst 0, 1) := by decide +kernel
theorem dX12_cauldronOf_91 : decode cX12_cauldronOf 91 = .ok (.invokevirtual 327, 3) := by decide +kernel
theorem dX12_cauldronOf_94 : decode cX12_cauldronOf 94 = .ok (.ireturn, 1) := by decide +kernel
theorem dX12_cauldronOf_95 : decode cX12_cauldronOf 95 = .ok (.aload_n 0, 1) := by decide +kernel
theorem dX12_cauldronOf_96 : decode cX12_cauldronOf 96 = .ok (.iload_n 1, 1) := by decide +kernel
theorem dX12_cauldronOf_97 : decode cX12_cauldronOf 97 = .ok (.iload_n 2, 1) := by decide +kernel
theorem dX12_cauldronOf_98 : decode cX12_cauldronOf 98 = .ok (.invokevirtual 116, 3) := by decide +kernel
theorem dX12_cauldronOf_101 : decode cX12_cauldronOf 101 = .ok (.ireturn, 1) := by decide +kernel
theorem dX12_cups_0 : decode cX12_cups 0 = .ok (.aload_n 0, 1) := by decide +kernel
theorem dX12_cups_1 : decode cX12_cups 1 = .ok (.aload_n 0, 1) := by decide +kernel
theorem dX12_cups_2 : decode cX12_cups 2 = .ok (.iload_n 1, 1) := by decide +kernel
theorem dX12_cups_3 : decode cX12_cups 3 = .ok (.invokevirtual 156, 3) := by decide +kernel
theorem dX12_cups_6 : decode cX12_cups 6 = .ok (.ifCond .ne 7, 3) := by decide +kernel
theorem dX12_cups_9 : decode cX12_cups 9 = .ok (.iconst 1, 1) := by decide +kernel
theorem dX12_cups_10 : decode cX12_cups 10 = .ok (.goto 16, 3) := by decide +kernel
theorem dX12_cups_13 : decode cX12_cups 13 = .ok (.aload_n 0, 1) := by decide +kernel
theorem dX12_cups_14 : decode cX12_cups 14 = .ok (.iload_n 1, 1) := by decide +kernel
theorem dX12_cups_15 : decode cX12_cups 15 = .ok (.invokevirtual 160, 3) := by decide +kernel
theorem dX12_cups_18 : decode cX12_cups 18 = .ok (.ifCond .ne 7, 3) := by decide +kernel
theorem dX12_cups_21 : decode cX12_cups 21 = .ok (.iconst 2, 1) := by decide +kernel
theorem dX12_cups_22 : decode cX12_cups 22 = .ok (.goto 4, 3) := by decide +kernel
theorem dX12_cups_25 : decode cX12_cups 25 = .ok (.iconst 0, 1) := by decide +kernel
theorem dX12_cups_26 : decode cX12_cups 26 = .ok (.putfield 96, 3) := by decide +kernel
theorem dX12_cups_29 : decode cX12_cups 29 = .ok (.aload_n 0, 1) := by decide +kernel
theorem dX12_cups_30 : decode cX12_cups 30 = .ok (.getfield 96, 3) := by decide +kernel
theorem dX12_cups_33 : decode cX12_cups 33 = .ok (.ifCond .le 7, 3) := by decide +kernel
theorem dX12_cups_36 : decode cX12_cups 36 = .ok (.fconst 0, 1) := by decide +kernel
theorem dX12_cups_37 : decode cX12_cups 37 = .ok (.goto 9, 3) := by decide +kernel
theorem dX12_cups_40 : decode cX12_cups 40 = .ok (.aload_n 0, 1) := by decide +kernel
theorem dX12_cups_41 : decode cX12_cups 41 = .ok (.getfield 13, 3) := by decide +kernel
theorem dX12_cups_44 : decode cX12_cups 44 = .ok (.iload_n 1, 1) := by decide +kernel
theorem dX12_cups_45 : decode cX12_cups 45 = .ok (.faload, 1) := by decide +kernel
theorem dX12_cups_46 : decode cX12_cups 46 = .ok (.freturn, 1) := by decide +kernel
theorem dX12_asFloat_0 : decode cX12_asFloat 0 = .ok (.aload_n 0, 1) := by decide +kernel
theorem dX12_asFloat_1 : decode cX12_asFloat 1 = .ok (.iload_n 1, 1) := by decide +kernel
theorem dX12_asFloat_2 : decode cX12_asFloat 2 = .ok (.invokevirtual 160, 3) := by decide +kernel
theorem dX12_asFloat_5 : decode cX12_asFloat 5 = .ok (.ifCond .eq 12, 3) := by decide +kernel
theorem dX12_asFloat_8 : decode cX12_asFloat 8 = .ok (.aload_n 0, 1) := by decide +kernel
theorem dX12_asFloat_9 : decode cX12_asFloat 9 = .ok (.getfield 13, 3) := by decide +kernel
theorem dX12_asFloat_12 : decode cX12_asFloat 12 = .ok (.iload_n 1, 1) := by decide +kernel
theorem dX12_asFloat_13 : decode cX12_asFloat 13 = .ok (.faload, 1) := by decide +kernel
theorem dX12_asFloat_14 : decode cX12_asFloat 14 = .ok (.goto 10, 3) := by decide +kernel
theorem dX12_asFloat_17 : decode cX12_asFloat 17 = .ok (.aload_n 0, 1) := by decide +kernel
theorem dX12_asFloat_18 : decode cX12_asFloat 18 = .ok (.iload_n 1, 1) := by decide +kernel
theorem dX12_asFloat_19 : decode cX12_asFloat 19 = .ok (.iconst 3, 1) := by decide +kernel
theorem dX12_asFloat_20 : decode cX12_asFloat 20 = .ok (.invokevirtual 116, 3) := by decide +kernel
theorem dX12_asFloat_23 : decode cX12_asFloat 23 = .ok (.i2f, 1) := by decide +kernel
theorem dX12_asFloat_24 : decode cX12_asFloat 24 = .ok (.freturn, 1) := by decide +kernel
theorem dX12_bits_0 : decode cX12_bits 0 = .ok (.aload_n 0, 1) := by decide +kernel
theorem dX12_bits_1 : decode cX12_bits 1 = .ok (.aload_n 0, 1) := by decide +kernel
theorem dX12_bits_2 : decode cX12_bits 2 = .ok (.iload_n 1, 1) := by decide +kernel
theorem dX12_bits_3 : decode cX12_bits 3 = .ok (.invokevirtual 156, 3) := by decide +kernel
theorem dX12_bits_6 : decode cX12_bits 6 = .ok (.ifCond .eq 7, 3) := by decide +kernel
theorem dX12_bits_9 : decode cX12_bits 9 = .ok (.iconst 0, 1) := by decide +kernel
theorem dX12_bits_10 : decode cX12_bits 10 = .ok (.goto 4, 3) := by decide +kernel
theorem dX12_bits_13 : decode cX12_bits 13 = .ok (.iconst 1, 1) := by decide +kernel
theorem dX12_bits_14 : decode cX12_bits 14 = .ok (.putfield 96, 3) := by decide +kernel
theorem dX12_bits_17 : decode cX12_bits 17 = .ok (.aload_n 0, 1) := by decide +kernel
theorem dX12_bits_18 : decode cX12_bits 18 = .ok (.getfield 96, 3) := by decide +kernel
theorem dX12_bits_21 : decode cX12_bits 21 = .ok (.ifCond .le 7, 3) := by decide +kernel
theorem dX12_bits_24 : decode cX12_bits 24 = .ok (.iconst 0, 1) := by decide +kernel
theorem dX12_bits_25 : decode cX12_bits 25 = .ok (.goto 11, 3) := by decide +kernel
theorem dX12_bits_28 : decode cX12_bits 28 = .ok (.aload_n 0, 1) := by decide +kernel
theorem dX12_bits_29 : decode cX12_bits 29 = .ok (.iload_n 1, 1) := by decide +kernel
theorem dX12_bits_30 : decode cX12_bits 30 = .ok (.invokevirtual 331, 3) := by decide +kernel
theorem dX12_bits_33 : decode cX12_bits 33 = .ok (.invokestatic 174, 3) := by decide +kernel
theorem dX12_bits_36 : decode cX12_bits 36 = .ok (.ireturn, 1) := by decide +kernel
theorem dX12_storesOf_0 : decode cX12_storesOf 0 = .ok (.iconst 0, 1) := by decide +kernel
theorem dX12_storesOf_1 : decode cX12_storesOf 1 = .ok (.istore_n 2, 1) := by decide +kernel
theorem dX12_storesOf_2 : decode cX12_storesOf 2 = .ok (.aload_n 0, 1) := by decide +kernel
theorem dX12_storesOf_3 : decode cX12_storesOf 3 = .ok (.iload_n 1, 1) := by decide +kernel
theorem dX12_storesOf_4 : decode cX12_storesOf 4 = .ok (.invokevirtual 270, 3) := by decide +kernel
theorem dX12_storesOf_7 : decode cX12_storesOf 7 = .ok (.iconst 0, 1) := by decide +kernel
theorem dX12_storesOf_8 : decode cX12_storesOf 8 = .ok (.istore_n 3, 1) := by decide +kernel
theorem dX12_storesOf_9 : decode cX12_storesOf 9 = .ok (.iload_n 3, 1) := by decide +kernel
theorem dX12_storesOf_10 : decode cX12_storesOf 10 = .ok (.aload_n 0, 1) := by decide +kernel
theorem dX12_storesOf_11 : decode cX12_storesOf 11 = .ok (.getfield 201, 3) := by decide +kernel
theorem dX12_storesOf_14 : decode cX12_storesOf 14 = .ok (.if_icmp .ge 28, 3) := by decide +kernel
theorem dX12_storesOf_17 : decode cX12_storesOf 17 = .ok (.iload_n 2, 1) := by decide +kernel
theorem dX12_storesOf_18 : decode cX12_storesOf 18 = .ok (.aload_n 0, 1) := by decide +kernel
theorem dX12_storesOf_19 : decode cX12_storesOf 19 = .ok (.getfield 52, 3) := by decide +kernel
theorem dX12_storesOf_22 : decode cX12_storesOf 22 = .ok (.iload_n 3, 1) := by decide +kernel
theorem dX12_storesOf_23 : decode cX12_storesOf 23 = .ok (.caload, 1) := by decide +kernel
theorem dX12_storesOf_24 : decode cX12_storesOf 24 = .ok (.bipush 61, 2) := by decide +kernel
theorem dX12_storesOf_26 : decode cX12_storesOf 26 = .ok (.if_icmp .ne 7, 3) := by decide +kernel
theorem dX12_storesOf_29 : decode cX12_storesOf 29 = .ok (.iconst 1, 1) := by decide +kernel
theorem dX12_storesOf_30 : decode cX12_storesOf 30 = .ok (.goto 4, 3) := by decide +kernel
theorem dX12_storesOf_33 : decode cX12_storesOf 33 = .ok (.iconst 0, 1) := by decide +kernel
theorem dX12_storesOf_34 : decode cX12_storesOf 34 = .ok (.iadd, 1) := by decide +kernel
theorem dX12_storesOf_35 : decode cX12_storesOf 35 = .ok (.istore_n 2, 1) := by decide +kernel
theorem dX12_storesOf_36 : decode cX12_storesOf 36 = .ok (.iinc 3 1, 3) := by decide +kernel
theorem dX12_storesOf_39 : decode cX12_storesOf 39 = .ok (.goto (-30), 3) := by decide +kernel
theorem dX12_storesOf_42 : decode cX12_storesOf 42 = .ok (.iload_n 2, 1) := by decide +kernel
theorem dX12_storesOf_43 : decode cX12_storesOf 43 = .ok (.ireturn, 1) := by decide +kernel
theorem dX12_spellOf_0 : decode cX12_spellOf 0 = .ok (.aload_n 0, 1) := by decide +kernel
theorem dX12_spellOf_1 : decode cX12_spellOf 1 = .ok (.aload_n 0, 1) := by decide +kernel
theorem dX12_spellOf_2 : decode cX12_spellOf 2 = .ok (.iload_n 1, 1) := by decide +kernel
theorem dX12_spellOf_3 : decode cX12_spellOf 3 = .ok (.invokevirtual 229, 3) := by decide +kernel
theorem dX12_spellOf_6 : decode cX12_spellOf 6 = .ok (.ifCond .ne 7, 3) := by decide +kernel
theorem dX12_spellOf_9 : decode cX12_spellOf 9 = .ok (.iconst 1, 1) := by decide +kernel
theorem dX12_spellOf_10 : decode cX12_spellOf 10 = .ok (.goto 20, 3) := by decide +kernel
theorem dX12_spellOf_13 : decode cX12_spellOf 13 = .ok (.iload_n 2, 1) := by decide +kernel
theorem dX12_spellOf_14 : decode cX12_spellOf 14 = .ok (.i2l, 1) := by decide +kernel
theorem dX12_spellOf_15 : decode cX12_spellOf 15 = .ok (.lconst 0, 1) := by decide +kernel
theorem dX12_spellOf_16 : decode cX12_spellOf 16 = .ok (.ldc2_w 335, 3) := by decide +kernel
theorem dX12_spellOf_19 : decode cX12_spellOf 19 = .ok (.invokestatic 112, 3) := by decide +kernel
theorem dX12_spellOf_22 : decode cX12_spellOf 22 = .ok (.ifCond .ne 7, 3) := by decide +kernel
theorem dX12_spellOf_25 : decode cX12_spellOf 25 = .ok (.iconst 2, 1) := by decide +kernel
theorem dX12_spellOf_26 : decode cX12_spellOf 26 = .ok (.goto 4, 3) := by decide +kernel
theorem dX12_spellOf_29 : decode cX12_spellOf 29 = .ok (.iconst 0, 1) := by decide +kernel
theorem dX12_spellOf_30 : decode cX12_spellOf 30 = .ok (.putfield 96, 3) := by decide +kernel
theorem dX12_spellOf_33 : decode cX12_spellOf 33 = .ok (.aload_n 0, 1) := by decide +kernel
theorem dX12_spellOf_34 : decode cX12_spellOf 34 = .ok (.getfield 96, 3) := by decide +kernel
theorem dX12_spellOf_37 : decode cX12_spellOf 37 = .ok (.ifCond .le 5, 3) := by decide +kernel
theorem dX12_spellOf_40 : decode cX12_spellOf 40 = .ok (.iconst 0, 1) := by decide +kernel
theorem dX12_spellOf_41 : decode cX12_spellOf 41 = .ok (.ireturn, 1) := by decide +kernel
theorem dX12_spellOf_42 : decode cX12_spellOf 42 = .ok (.aload_n 0, 1) := by decide +kernel
theorem dX12_spellOf_43 : decode cX12_spellOf 43 = .ok (.iload_n 1, 1) := by decide +kernel
theorem dX12_spellOf_44 : decode cX12_spellOf 44 = .ok (.invokevirtual 337, 3) := by decide +kernel
theorem dX12_spellOf_47 : decode cX12_spellOf 47 = .ok (.istore_n 3, 1) := by decide +kernel
theorem dX12_spellOf_48 : decode cX12_spellOf 48 = .ok (.iload_n 2, 1) := by decide +kernel
theorem dX12_spellOf_49 : decode cX12_spellOf 49 = .ok (.tableswitch 57 0 3 #[31, 36, 38, 43], 31) := by decide +kernel
theorem dX12_spellOf_80 : decode cX12_spellOf 80 = .ok (.aload_n 0, 1) := by decide +kernel
theorem dX12_spellOf_81 : decode cX12_spellOf 81 = .ok (.getfield 201, 3) := by decide +kernel
theorem dX12_spellOf_84 : decode cX12_spellOf 84 = .ok (.ireturn, 1) := by decide +kernel
theorem dX12_spellOf_85 : decode cX12_spellOf 85 = .ok (.iload_n 3, 1) := by decide +kernel
theorem dX12_spellOf_86 : decode cX12_spellOf 86 = .ok (.ireturn, 1) := by decide +kernel
theorem dX12_spellOf_87 : decode cX12_spellOf 87 = .ok (.aload_n 0, 1) := by decide +kernel
theorem dX12_spellOf_88 : decode cX12_spellOf 88 = .ok (.getfield 204, 3) := by decide +kernel
theorem dX12_spellOf_91 : decode cX12_spellOf 91 = .ok (.ireturn, 1) := by decide +kernel
theorem dX12_spellOf_92 : decode cX12_spellOf 92 = .ok (.aload_n 0, 1) := by decide +kernel
theorem dX12_spellOf_93 : decode cX12_spellOf 93 = .ok (.iload_n 1, 1) := by decide +kernel
theorem dX12_spellOf_94 : decode cX12_spellOf 94 = .ok (.invokevirtual 293, 3) := by decide +kernel
theorem dX12_spellOf_97 : decode cX12_spellOf 97 = .ok (.ifCond .ge 7, 3) := by decide +kernel
theorem dX12_spellOf_100 : decode cX12_spellOf 100 = .ok (.iconst 1, 1) := by decide +kernel
theorem dX12_spellOf_101 : decode cX12_spellOf 101 = .ok (.goto 4, 3) := by decide +kernel
theorem dX12_spellOf_104 : decode cX12_spellOf 104 = .ok (.iconst 0, 1) := by decide +kernel
theorem dX12_spellOf_105 : decode cX12_spellOf 105 = .ok (.ireturn, 1) := by decide +kernel
theorem dX12_spellOf_106 : decode cX12_spellOf 106 = .ok (.aload_n 0, 1) := by decide +kernel
theorem dX12_spellOf_107 : decode cX12_spellOf 107 = .ok (.getfield 9, 3) := by decide +kernel
theorem dX12_spellOf_110 : decode cX12_spellOf 110 = .ok (.bipush 34, 2) := by decide +kernel
theorem dX12_spellOf_112 : decode cX12_spellOf 112 = .ok (.bipush 62, 2) := by decide +kernel
theorem dX12_spellOf_114 : decode cX12_spellOf 114 = .ok (.iload_n 1, 1) := by decide +kernel
theorem dX12_spellOf_115 : decode cX12_spellOf 115 = .ok (.imul, 1) := by decide +kernel
theorem dX12_spellOf_116 : decode cX12_spellOf 116 = .ok (.iadd, 1) := by decide +kernel
theorem dX12_spellOf_117 : decode cX12_spellOf 117 = .ok (.iaload, 1) := by decide +kernel
theorem dX12_spellOf_118 : decode cX12_spellOf 118 = .ok (.ireturn, 1) := by decide +kernel
theorem dX12_token_0 : decode cX12_token 0 = .ok (.aload_n 0, 1) := by decide +kernel
theorem dX12_token_1 : decode cX12_token 1 = .ok (.aload_n 0, 1) := by decide +kernel
theorem dX12_token_2 : decode cX12_token 2 = .ok (.iload_n 1, 1) := by decide +kernel
theorem dX12_token_3 : decode cX12_token 3 = .ok (.invokevirtual 229, 3) := by decide +kernel
theorem dX12_token_6 : decode cX12_token 6 = .ok (.ifCond .eq 7, 3) := by decide +kernel
theorem dX12_token_9 : decode cX12_token 9 = .ok (.iconst 0, 1) := by decide +kernel
theorem dX12_token_10 : decode cX12_token 10 = .ok (.goto 4, 3) := by decide +kernel
theorem dX12_token_13 : decode cX12_token 13 = .ok (.iconst 1, 1) := by decide +kernel
theorem dX12_token_14 : decode cX12_token 14 = .ok (.putfield 96, 3) := by decide +kernel
theorem dX12_token_17 : decode cX12_token 17 = .ok (.aload_n 0, 1) := by decide +kernel
theorem dX12_token_18 : decode cX12_token 18 = .ok (.getfield 96, 3) := by decide +kernel
theorem dX12_token_21 : decode cX12_token 21 = .ok (.ifCond .le 6, 3) := by decide +kernel
theorem dX12_token_24 : decode cX12_token 24 = .ok (.bipush 32, 2) := by decide +kernel
theorem dX12_token_26 : decode cX12_token 26 = .ok (.ireturn, 1) := by decide +kernel
theorem dX12_token_27 : decode cX12_token 27 = .ok (.aload_n 0, 1) := by decide +kernel
theorem dX12_token_28 : decode cX12_token 28 = .ok (.iload_n 1, 1) := by decide +kernel
theorem dX12_token_29 : decode cX12_token 29 = .ok (.invokevirtual 270, 3) := by decide +kernel
theorem dX12_token_32 : decode cX12_token 32 = .ok (.aload_n 0, 1) := by decide +kernel
theorem dX12_token_33 : decode cX12_token 33 = .ok (.iload_n 2, 1) := by decide +kernel
theorem dX12_token_34 : decode cX12_token 34 = .ok (.i2l, 1) := by decide +kernel
theorem dX12_token_35 : decode cX12_token 35 = .ok (.lconst 0, 1) := by decide +kernel
theorem dX12_token_36 : decode cX12_token 36 = .ok (.aload_n 0, 1) := by decide +kernel
theorem dX12_token_37 : decode cX12_token 37 = .ok (.getfield 201, 3) := by decide +kernel
theorem dX12_token_40 : decode cX12_token 40 = .ok (.iconst 1, 1) := by decide +kernel
theorem dX12_token_41 : decode cX12_token 41 = .ok (.isub, 1) := by decide +kernel
theorem dX12_token_42 : decode cX12_token 42 = .ok (.i2l, 1) := by decide +kernel
theorem dX12_token_43 : decode cX12_token 43 = .ok (.invokestatic 112, 3) := by decide +kernel
theorem dX12_token_46 : decode cX12_token 46 = .ok (.ifCond .eq 7, 3) := by decide +kernel
theorem dX12_token_49 : decode cX12_token 49 = .ok (.iconst 0, 1) := by decide +kernel
theorem dX12_token_50 : decode cX12_token 50 = .ok (.goto 4, 3) := by decide +kernel
theorem dX12_token_53 : decode cX12_token 53 = .ok (.iconst 2, 1) := by decide +kernel
theorem dX12_token_54 : decode cX12_token 54 = .ok (.putfield 96, 3) := by decide +kernel
theorem dX12_token_57 : decode cX12_token 57 = .ok (.aload_n 0, 1) := by decide +kernel
theorem dX12_token_58 : decode cX12_token 58 = .ok (.getfield 96, 3) := by decide +kernel
theorem dX12_token_61 : decode cX12_token 61 = .ok (.ifCond .le 8, 3) := by decide +kernel
theorem dX12_token_64 : decode cX12_token 64 = .ok (.bipush 32, 2) := by decide +kernel
theorem dX12_token_66 : decode cX12_token 66 = .ok (.goto 9, 3) := by decide +kernel
theorem dX12_token_69 : decode cX12_token 69 = .ok (.aload_n 0, 1) := by decide +kernel
theorem dX12_token_70 : decode cX12_token 70 = .ok (.getfield 52, 3) := by decide +kernel
theorem dX12_token_73 : decode cX12_token 73 = .ok (.iload_n 2, 1) := by decide +kernel
theorem dX12_token_74 : decode cX12_token 74 = .ok (.caload, 1) := by decide +kernel
theorem dX12_token_75 : decode cX12_token 75 = .ok (.ireturn, 1) := by decide +kernel
theorem dX12_thinks_0 : decode cX12_thinks 0 = .ok (.aload_n 0, 1) := by decide +kernel
theorem dX12_thinks_1 : decode cX12_thinks 1 = .ok (.getfield 9, 3) := by decide +kernel
theorem dX12_thinks_4 : decode cX12_thinks 4 = .ok (.iconst 0, 1) := by decide +kernel
theorem dX12_thinks_5 : decode cX12_thinks 5 = .ok (.aload_n 0, 1) := by decide +kernel
theorem dX12_thinks_6 : decode cX12_thinks 6 = .ok (.getfield 23, 3) := by decide +kernel
theorem dX12_thinks_9 : decode cX12_thinks 9 = .ok (.iconst 0, 1) := by decide +kernel
theorem dX12_thinks_10 : decode cX12_thinks 10 = .ok (.sipush 282, 3) := by decide +kernel
theorem dX12_thinks_13 : decode cX12_thinks 13 = .ok (.invokestatic 99, 3) := by decide +kernel
theorem dX12_thinks_16 : decode cX12_thinks 16 = .ok (.aload_n 0, 1) := by decide +kernel
theorem dX12_thinks_17 : decode cX12_thinks 17 = .ok (.getfield 13, 3) := by decide +kernel
theorem dX12_thinks_20 : decode cX12_thinks 20 = .ok (.iconst 0, 1) := by decide +kernel
theorem dX12_thinks_21 : decode cX12_thinks 21 = .ok (.aload_n 0, 1) := by decide +kernel
theorem dX12_thinks_22 : decode cX12_thinks 22 = .ok (.getfield 26, 3) := by decide +kernel
theorem dX12_thinks_25 : decode cX12_thinks 25 = .ok (.iconst 0, 1) := by decide +kernel
theorem dX12_thinks_26 : decode cX12_thinks 26 = .ok (.bipush 6, 2) := by decide +kernel
theorem dX12_thinks_28 : decode cX12_thinks 28 = .ok (.invokestatic 99, 3) := by decide +kernel
theorem dX12_thinks_31 : decode cX12_thinks 31 = .ok (.return_, 1) := by decide +kernel
theorem dX12_forgets_0 : decode cX12_forgets 0 = .ok (.aload_n 0, 1) := by decide +kernel
theorem dX12_forgets_1 : decode cX12_forgets 1 = .ok (.getfield 23, 3) := by decide +kernel
theorem dX12_forgets_4 : decode cX12_forgets 4 = .ok (.iconst 0, 1) := by decide +kernel
theorem dX12_forgets_5 : decode cX12_forgets 5 = .ok (.aload_n 0, 1) := by decide +kernel
theorem dX12_forgets_6 : decode cX12_forgets 6 = .ok (.getfield 9, 3) := by decide +kernel
theorem dX12_forgets_9 : decode cX12_forgets 9 = .ok (.iconst 0, 1) := by decide +kernel
theorem dX12_forgets_10 : decode cX12_forgets 10 = .ok (.sipush 282, 3) := by decide +kernel
theorem dX12_forgets_13 : decode cX12_forgets 13 = .ok (.invokestatic 99, 3) := by decide +kernel
theorem dX12_forgets_16 : decode cX12_forgets 16 = .ok (.aload_n 0, 1) := by decide +kernel
theorem dX12_forgets_17 : decode cX12_forgets 17 = .ok (.getfield 26, 3) := by decide +kernel
theorem dX12_forgets_20 : decode cX12_forgets 20 = .ok (.iconst 0, 1) := by decide +kernel
theorem dX12_forgets_21 : decode cX12_forgets 21 = .ok (.aload_n 0, 1) := by decide +kernel
theorem dX12_forgets_22 : decode cX12_forgets 22 = .ok (.getfield 13, 3) := by decide +kernel
theorem dX12_forgets_25 : decode cX12_forgets 25 = .ok (.iconst 0, 1) := by decide +kernel
theorem dX12_forgets_26 : decode cX12_forgets 26 = .ok (.bipush 6, 2) := by decide +kernel
theorem dX12_forgets_28 : decode cX12_forgets 28 = .ok (.invokestatic 99, 3) := by decide +kernel
theorem dX12_forgets_31 : decode cX12_forgets 31 = .ok (.return_, 1) := by decide +kernel
theorem dX12_would_0 : decode cX12_would 0 = .ok (.aload_n 0, 1) := by decide +kernel
theorem dX12_would_1 : decode cX12_would 1 = .ok (.iload_n 1, 1) := by decide +kernel
theorem dX12_would_2 : decode cX12_would 2 = .ok (.invokevirtual 229, 3) := by decide +kernel
theorem dX12_would_5 : decode cX12_would 5 = .ok (.ifCond .eq 11, 3) := by decide +kernel
theorem dX12_would_8 : decode cX12_would 8 = .ok (.aload_n 0, 1) := by decide +kernel
theorem dX12_would_9 : decode cX12_would 9 = .ok (.iload_n 2, 1) := by decide +kernel
theorem dX12_would_10 : decode cX12_would 10 = .ok (.invokevirtual 156, 3) := by decide +kernel
theorem dX12_would_13 : decode cX12_would 13 = .ok (.ifCond .ne 9, 3) := by decide +kernel
theorem dX12_would_16 : decode cX12_would 16 = .ok (.aload_n 0, 1) := by decide +kernel
theorem dX12_would_17 : decode cX12_would 17 = .ok (.iconst 1, 1) := by decide +kernel
theorem dX12_would_18 : decode cX12_would 18 = .ok (.invokevirtual 149, 3) := by decide +kernel
theorem dX12_would_21 : decode cX12_would 21 = .ok (.ireturn, 1) := by decide +kernel
theorem dX12_would_22 : decode cX12_would 22 = .ok (.aload_n 0, 1) := by decide +kernel
theorem dX12_would_23 : decode cX12_would 23 = .ok (.invokevirtual 340, 3) := by decide +kernel
theorem dX12_would_26 : decode cX12_would 26 = .ok (.aload_n 0, 1) := by decide +kernel
theorem dX12_would_27 : decode cX12_would 27 = .ok (.aload_n 0, 1) := by decide +kernel
theorem dX12_would_28 : decode cX12_would 28 = .ok (.iload_n 1, 1) := by decide +kernel
theorem dX12_would_29 : decode cX12_would 29 = .ok (.invokevirtual 280, 3) := by decide +kernel
theorem dX12_would_32 : decode cX12_would 32 = .ok (.ifCond .ge 7, 3) := by decide +kernel
theorem dX12_would_35 : decode cX12_would 35 = .ok (.iconst 0, 1) := by decide +kernel
theorem dX12_would_36 : decode cX12_would 36 = .ok (.goto 4, 3) := by decide +kernel
theorem dX12_would_39 : decode cX12_would 39 = .ok (.iconst 2, 1) := by decide +kernel
theorem dX12_would_40 : decode cX12_would 40 = .ok (.putfield 96, 3) := by decide +kernel
theorem dX12_would_43 : decode cX12_would 43 = .ok (.aload_n 0, 1) := by decide +kernel
theorem dX12_would_44 : decode cX12_would 44 = .ok (.iload_n 2, 1) := by decide +kernel
theorem dX12_would_45 : decode cX12_would 45 = .ok (.invokevirtual 324, 3) := by decide +kernel
theorem dX12_would_48 : decode cX12_would 48 = .ok (.istore_n 3, 1) := by decide +kernel
theorem dX12_would_49 : decode cX12_would 49 = .ok (.aload_n 0, 1) := by decide +kernel
theorem dX12_would_50 : decode cX12_would 50 = .ok (.invokevirtual 343, 3) := by decide +kernel
theorem dX12_would_53 : decode cX12_would 53 = .ok (.aload_n 0, 1) := by decide +kernel
theorem dX12_would_54 : decode cX12_would 54 = .ok (.getfield 96, 3) := by decide +kernel
theorem dX12_would_57 : decode cX12_would 57 = .ok (.ifCond .le 7, 3) := by decide +kernel
theorem dX12_would_60 : decode cX12_would 60 = .ok (.iconst 0, 1) := by decide +kernel
theorem dX12_would_61 : decode cX12_would 61 = .ok (.goto 4, 3) := by decide +kernel
theorem dX12_would_64 : decode cX12_would 64 = .ok (.iload_n 3, 1) := by decide +kernel
theorem dX12_would_65 : decode cX12_would 65 = .ok (.ireturn, 1) := by decide +kernel
theorem dX12_wouldAgain_0 : decode cX12_wouldAgain 0 = .ok (.aload_n 0, 1) := by decide +kernel
theorem dX12_wouldAgain_1 : decode cX12_wouldAgain 1 = .ok (.iload_n 1, 1) := by decide +kernel
theorem dX12_wouldAgain_2 : decode cX12_wouldAgain 2 = .ok (.iload_n 2, 1) := by decide +kernel
theorem dX12_wouldAgain_3 : decode cX12_wouldAgain 3 = .ok (.invokevirtual 346, 3) := by decide +kernel
theorem dX12_wouldAgain_6 : decode cX12_wouldAgain 6 = .ok (.ireturn, 1) := by decide +kernel
theorem dX12_boils_0 : decode cX12_boils 0 = .ok (.aload_n 0, 1) := by decide +kernel
theorem dX12_boils_1 : decode cX12_boils 1 = .ok (.iload_n 1, 1) := by decide +kernel
theorem dX12_boils_2 : decode cX12_boils 2 = .ok (.invokevirtual 229, 3) := by decide +kernel
theorem dX12_boils_5 : decode cX12_boils 5 = .ok (.ifCond .ne 9, 3) := by decide +kernel
theorem dX12_boils_8 : decode cX12_boils 8 = .ok (.aload_n 0, 1) := by decide +kernel
theorem dX12_boils_9 : decode cX12_boils 9 = .ok (.iconst 1, 1) := by decide +kernel
theorem dX12_boils_10 : decode cX12_boils 10 = .ok (.invokevirtual 149, 3) := by decide +kernel
theorem dX12_boils_13 : decode cX12_boils 13 = .ok (.ireturn, 1) := by decide +kernel
theorem dX12_boils_14 : decode cX12_boils 14 = .ok (.aload_n 0, 1) := by decide +kernel
theorem dX12_boils_15 : decode cX12_boils 15 = .ok (.invokevirtual 340, 3) := by decide +kernel
theorem dX12_boils_18 : decode cX12_boils 18 = .ok (.aload_n 0, 1) := by decide +kernel
theorem dX12_boils_19 : decode cX12_boils 19 = .ok (.iload_n 1, 1) := by decide +kernel
theorem dX12_boils_20 : decode cX12_boils 20 = .ok (.invokevirtual 280, 3) := by decide +kernel
theorem dX12_boils_23 : decode cX12_boils 23 = .ok (.istore_n 2, 1) := by decide +kernel
theorem dX12_boils_24 : decode cX12_boils 24 = .ok (.aload_n 0, 1) := by decide +kernel
theorem dX12_boils_25 : decode cX12_boils 25 = .ok (.invokevirtual 343, 3) := by decide +kernel
theorem dX12_boils_28 : decode cX12_boils 28 = .ok (.aload_n 0, 1) := by decide +kernel
theorem dX12_boils_29 : decode cX12_boils 29 = .ok (.iload_n 2, 1) := by decide +kernel
theorem dX12_boils_30 : decode cX12_boils 30 = .ok (.ifCond .ge 7, 3) := by decide +kernel
theorem dX12_boils_33 : decode cX12_boils 33 = .ok (.iconst 2, 1) := by decide +kernel
theorem dX12_boils_34 : decode cX12_boils 34 = .ok (.goto 4, 3) := by decide +kernel
theorem dX12_boils_37 : decode cX12_boils 37 = .ok (.iconst 0, 1) := by decide +kernel
theorem dX12_boils_38 : decode cX12_boils 38 = .ok (.putfield 96, 3) := by decide +kernel
theorem dX12_boils_41 : decode cX12_boils 41 = .ok (.aload_n 0, 1) := by decide +kernel
theorem dX12_boils_42 : decode cX12_boils 42 = .ok (.getfield 96, 3) := by decide +kernel
theorem dX12_boils_45 : decode cX12_boils 45 = .ok (.ifCond .le 7, 3) := by decide +kernel
theorem dX12_boils_48 : decode cX12_boils 48 = .ok (.iconst 0, 1) := by decide +kernel
theorem dX12_boils_49 : decode cX12_boils 49 = .ok (.goto 4, 3) := by decide +kernel
theorem dX12_boils_52 : decode cX12_boils 52 = .ok (.iload_n 2, 1) := by decide +kernel
theorem dX12_boils_53 : decode cX12_boils 53 = .ok (.ireturn, 1) := by decide +kernel
theorem dX12_lasts_0 : decode cX12_lasts 0 = .ok (.aload_n 0, 1) := by decide +kernel
theorem dX12_lasts_1 : decode cX12_lasts 1 = .ok (.aload_n 0, 1) := by decide +kernel
theorem dX12_lasts_2 : decode cX12_lasts 2 = .ok (.iload_n 1, 1) := by decide +kernel
theorem dX12_lasts_3 : decode cX12_lasts 3 = .ok (.invokevirtual 229, 3) := by decide +kernel
theorem dX12_lasts_6 : decode cX12_lasts 6 = .ok (.ifCond .eq 7, 3) := by decide +kernel
theorem dX12_lasts_9 : decode cX12_lasts 9 = .ok (.iconst 0, 1) := by decide +kernel
theorem dX12_lasts_10 : decode cX12_lasts 10 = .ok (.goto 4, 3) := by decide +kernel
theorem dX12_lasts_13 : decode cX12_lasts 13 = .ok (.iconst 1, 1) := by decide +kernel
theorem dX12_lasts_14 : decode cX12_lasts 14 = .ok (.putfield 96, 3) := by decide +kernel
theorem dX12_lasts_17 : decode cX12_lasts 17 = .ok (.aload_n 0, 1) := by decide +kernel
theorem dX12_lasts_18 : decode cX12_lasts 18 = .ok (.getfield 96, 3) := by decide +kernel
theorem dX12_lasts_21 : decode cX12_lasts 21 = .ok (.ifCond .le 5, 3) := by decide +kernel
theorem dX12_lasts_24 : decode cX12_lasts 24 = .ok (.iconst 0, 1) := by decide +kernel
theorem dX12_lasts_25 : decode cX12_lasts 25 = .ok (.ireturn, 1) := by decide +kernel
theorem dX12_lasts_26 : decode cX12_lasts 26 = .ok (.aload_n 0, 1) := by decide +kernel
theorem dX12_lasts_27 : decode cX12_lasts 27 = .ok (.invokevirtual 340, 3) := by decide +kernel
theorem dX12_lasts_30 : decode cX12_lasts 30 = .ok (.iconst 0, 1) := by decide +kernel
theorem dX12_lasts_31 : decode cX12_lasts 31 = .ok (.istore_n 2, 1) := by decide +kernel
theorem dX12_lasts_32 : decode cX12_lasts 32 = .ok (.iconst 1, 1) := by decide +kernel
theorem dX12_lasts_33 : decode cX12_lasts 33 = .ok (.istore_n 3, 1) := by decide +kernel
theorem dX12_lasts_34 : decode cX12_lasts 34 = .ok (.iload_n 3, 1) := by decide +kernel
theorem dX12_lasts_35 : decode cX12_lasts 35 = .ok (.ifCond .eq 84, 3) := by decide +kernel
theorem dX12_lasts_38 : decode cX12_lasts 38 = .ok (.iload_n 2, 1) := by decide +kernel
theorem dX12_lasts_39 : decode cX12_lasts 39 = .ok (.bipush 50, 2) := by decide +kernel
theorem dX12_lasts_41 : decode cX12_lasts 41 = .ok (.if_icmp .ge 78, 3) := by decide +kernel
theorem dX12_lasts_44 : decode cX12_lasts 44 = .ok (.aload_n 0, 1) := by decide +kernel
theorem dX12_lasts_45 : decode cX12_lasts 45 = .ok (.getfield 9, 3) := by decide +kernel
theorem dX12_lasts_48 : decode cX12_lasts 48 = .ok (.iconst 0, 1) := by decide +kernel
theorem dX12_lasts_49 : decode cX12_lasts 49 = .ok (.aload_n 0, 1) := by decide +kernel
theorem dX12_lasts_50 : decode cX12_lasts 50 = .ok (.getfield 87, 3) := by decide +kernel
theorem dX12_lasts_53 : decode cX12_lasts 53 = .ok (.iconst 0, 1) := by decide +kernel
theorem dX12_lasts_54 : decode cX12_lasts 54 = .ok (.sipush 282, 3) := by decide +kernel
theorem dX12_lasts_57 : decode cX12_lasts 57 = .ok (.invokestatic 99, 3) := by decide +kernel
theorem dX12_lasts_60 : decode cX12_lasts 60 = .ok (.aload_n 0, 1) := by decide +kernel
theorem dX12_lasts_61 : decode cX12_lasts 61 = .ok (.getfield 13, 3) := by decide +kernel
theorem dX12_lasts_64 : decode cX12_lasts 64 = .ok (.iconst 0, 1) := by decide +kernel
theorem dX12_lasts_65 : decode cX12_lasts 65 = .ok (.aload_n 0, 1) := by decide +kernel
theorem dX12_lasts_66 : decode cX12_lasts 66 = .ok (.getfield 90, 3) := by decide +kernel
theorem dX12_lasts_69 : decode cX12_lasts 69 = .ok (.iconst 0, 1) := by decide +kernel
theorem dX12_lasts_70 : decode cX12_lasts 70 = .ok (.bipush 6, 2) := by decide +kernel
theorem dX12_lasts_72 : decode cX12_lasts 72 = .ok (.invokestatic 99, 3) := by decide +kernel
theorem dX12_lasts_75 : decode cX12_lasts 75 = .ok (.aload_n 0, 1) := by decide +kernel
theorem dX12_lasts_76 : decode cX12_lasts 76 = .ok (.iload_n 1, 1) := by decide +kernel
theorem dX12_lasts_77 : decode cX12_lasts 77 = .ok (.invokevirtual 280, 3) := by decide +kernel
theorem dX12_lasts_80 : decode cX12_lasts 80 = .ok (.ifCond .ge 22, 3) := by decide +kernel
theorem dX12_lasts_83 : decode cX12_lasts 83 = .ok (.aload_n 0, 1) := by decide +kernel
theorem dX12_lasts_84 : decode cX12_lasts 84 = .ok (.aload_n 0, 1) := by decide +kernel
theorem dX12_lasts_85 : decode cX12_lasts 85 = .ok (.getfield 87, 3) := by decide +kernel
theorem dX12_lasts_88 : decode cX12_lasts 88 = .ok (.aload_n 0, 1) := by decide +kernel
theorem dX12_lasts_89 : decode cX12_lasts 89 = .ok (.getfield 90, 3) := by decide +kernel
theorem dX12_lasts_92 : decode cX12_lasts 92 = .ok (.invokevirtual 286, 3) := by decide +kernel
theorem dX12_lasts_95 : decode cX12_lasts 95 = .ok (.ifCond .le 7, 3) := by decide +kernel
theorem dX12_lasts_98 : decode cX12_lasts 98 = .ok (.iconst 1, 1) := by decide +kernel
theorem dX12_lasts_99 : decode cX12_lasts 99 = .ok (.goto 4, 3) := by decide +kernel
theorem dX12_lasts_102 : decode cX12_lasts 102 = .ok (.iconst 0, 1) := by decide +kernel
theorem dX12_lasts_103 : decode cX12_lasts 103 = .ok (.istore_n 3, 1) := by decide +kernel
theorem dX12_lasts_104 : decode cX12_lasts 104 = .ok (.iload_n 2, 1) := by decide +kernel
theorem dX12_lasts_105 : decode cX12_lasts 105 = .ok (.iload_n 3, 1) := by decide +kernel
theorem dX12_lasts_106 : decode cX12_lasts 106 = .ok (.ifCond .eq 7, 3) := by decide +kernel
theorem dX12_lasts_109 : decode cX12_lasts 109 = .ok (.iconst 1, 1) := by decide +kernel
theorem dX12_lasts_110 : decode cX12_lasts 110 = .ok (.goto 4, 3) := by decide +kernel
theorem dX12_lasts_113 : decode cX12_lasts 113 = .ok (.iconst 0, 1) := by decide +kernel
theorem dX12_lasts_114 : decode cX12_lasts 114 = .ok (.iadd, 1) := by decide +kernel
theorem dX12_lasts_115 : decode cX12_lasts 115 = .ok (.istore_n 2, 1) := by decide +kernel
theorem dX12_lasts_116 : decode cX12_lasts 116 = .ok (.goto (-82), 3) := by decide +kernel
theorem dX12_lasts_119 : decode cX12_lasts 119 = .ok (.aload_n 0, 1) := by decide +kernel
theorem dX12_lasts_120 : decode cX12_lasts 120 = .ok (.invokevirtual 343, 3) := by decide +kernel
theorem dX12_lasts_123 : decode cX12_lasts 123 = .ok (.iload_n 2, 1) := by decide +kernel
theorem dX12_lasts_124 : decode cX12_lasts 124 = .ok (.ireturn, 1) := by decide +kernel
theorem dX12_isAhead_0 : decode cX12_isAhead 0 = .ok (.aload_n 0, 1) := by decide +kernel
theorem dX12_isAhead_1 : decode cX12_isAhead 1 = .ok (.iload_n 1, 1) := by decide +kernel
theorem dX12_isAhead_2 : decode cX12_isAhead 2 = .ok (.invokevirtual 337, 3) := by decide +kernel
theorem dX12_isAhead_5 : decode cX12_isAhead 5 = .ok (.istore_n 3, 1) := by decide +kernel
theorem dX12_isAhead_6 : decode cX12_isAhead 6 = .ok (.aload_n 0, 1) := by decide +kernel
theorem dX12_isAhead_7 : decode cX12_isAhead 7 = .ok (.getfield 201, 3) := by decide +kernel
theorem dX12_isAhead_10 : decode cX12_isAhead 10 = .ok (.istore 4, 2) := by decide +kernel
theorem dX12_isAhead_12 : decode cX12_isAhead 12 = .ok (.aload_n 0, 1) := by decide +kernel
theorem dX12_isAhead_13 : decode cX12_isAhead 13 = .ok (.iload_n 2, 1) := by decide +kernel
theorem dX12_isAhead_14 : decode cX12_isAhead 14 = .ok (.invokevirtual 337, 3) := by decide +kernel
theorem dX12_isAhead_17 : decode cX12_isAhead 17 = .ok (.istore 5, 2) := by decide +kernel
theorem dX12_isAhead_19 : decode cX12_isAhead 19 = .ok (.aload_n 0, 1) := by decide +kernel
theorem dX12_isAhead_20 : decode cX12_isAhead 20 = .ok (.getfield 201, 3) := by decide +kernel
theorem dX12_isAhead_23 : decode cX12_isAhead 23 = .ok (.iload 4, 2) := by decide +kernel
theorem dX12_isAhead_25 : decode cX12_isAhead 25 = .ok (.if_icmp .eq 13, 3) := by decide +kernel
theorem dX12_isAhead_28 : decode cX12_isAhead 28 = .ok (.aload_n 0, 1) := by decide +kernel
theorem dX12_isAhead_29 : decode cX12_isAhead 29 = .ok (.getfield 201, 3) := by decide +kernel
theorem dX12_isAhead_32 : decode cX12_isAhead 32 = .ok (.iload 4, 2) := by decide +kernel
theorem dX12_isAhead_34 : decode cX12_isAhead 34 = .ok (.isub, 1) := by decide +kernel
theorem dX12_isAhead_35 : decode cX12_isAhead 35 = .ok (.goto 7, 3) := by decide +kernel
theorem dX12_isAhead_38 : decode cX12_isAhead 38 = .ok (.iload_n 3, 1) := by decide +kernel
theorem dX12_isAhead_39 : decode cX12_isAhead 39 = .ok (.iload 5, 2) := by decide +kernel
theorem dX12_isAhead_41 : decode cX12_isAhead 41 = .ok (.isub, 1) := by decide +kernel
theorem dX12_isAhead_42 : decode cX12_isAhead 42 = .ok (.istore 5, 2) := by decide +kernel
theorem dX12_isAhead_44 : decode cX12_isAhead 44 = .ok (.iload 5, 2) := by decide +kernel
theorem dX12_isAhead_46 : decode cX12_isAhead 46 = .ok (.ifCond .gt 13, 3) := by decide +kernel
theorem dX12_isAhead_49 : decode cX12_isAhead 49 = .ok (.iload 5, 2) := by decide +kernel
theorem dX12_isAhead_51 : decode cX12_isAhead 51 = .ok (.ifCond .ne 12, 3) := by decide +kernel
theorem dX12_isAhead_54 : decode cX12_isAhead 54 = .ok (.iload_n 1, 1) := by decide +kernel
theorem dX12_isAhead_55 : decode cX12_isAhead 55 = .ok (.iload_n 2, 1) := by decide +kernel
theorem dX12_isAhead_56 : decode cX12_isAhead 56 = .ok (.if_icmp .ge 7, 3) := by decide +kernel
theorem dX12_isAhead_59 : decode cX12_isAhead 59 = .ok (.iconst 1, 1) := by decide +kernel
theorem dX12_isAhead_60 : decode cX12_isAhead 60 = .ok (.goto 4, 3) := by decide +kernel
theorem dX12_isAhead_63 : decode cX12_isAhead 63 = .ok (.iconst 0, 1) := by decide +kernel
theorem dX12_isAhead_64 : decode cX12_isAhead 64 = .ok (.ireturn, 1) := by decide +kernel
theorem dX12_ranked_0 : decode cX12_ranked 0 = .ok (.aload_n 0, 1) := by decide +kernel
theorem dX12_ranked_1 : decode cX12_ranked 1 = .ok (.aload_n 0, 1) := by decide +kernel
theorem dX12_ranked_2 : decode cX12_ranked 2 = .ok (.iload_n 1, 1) := by decide +kernel
theorem dX12_ranked_3 : decode cX12_ranked 3 = .ok (.invokevirtual 229, 3) := by decide +kernel
theorem dX12_ranked_6 : decode cX12_ranked 6 = .ok (.ifCond .eq 7, 3) := by decide +kernel
theorem dX12_ranked_9 : decode cX12_ranked 9 = .ok (.iconst 0, 1) := by decide +kernel
theorem dX12_ranked_10 : decode cX12_ranked 10 = .ok (.goto 4, 3) := by decide +kernel
theorem dX12_ranked_13 : decode cX12_ranked 13 = .ok (.iconst 1, 1) := by decide +kernel
theorem dX12_ranked_14 : decode cX12_ranked 14 = .ok (.putfield 96, 3) := by decide +kernel
theorem dX12_ranked_17 : decode cX12_ranked 17 = .ok (.iconst 0, 1) := by decide +kernel
theorem dX12_ranked_18 : decode cX12_ranked 18 = .ok (.istore_n 2, 1) := by decide +kernel
theorem dX12_ranked_19 : decode cX12_ranked 19 = .ok (.iconst 0, 1) := by decide +kernel
theorem dX12_ranked_20 : decode cX12_ranked 20 = .ok (.istore_n 3, 1) := by decide +kernel
theorem dX12_ranked_21 : decode cX12_ranked 21 = .ok (.iload_n 3, 1) := by decide +kernel
theorem dX12_ranked_22 : decode cX12_ranked 22 = .ok (.aload_n 0, 1) := by decide +kernel
theorem dX12_ranked_23 : decode cX12_ranked 23 = .ok (.getfield 9, 3) := by decide +kernel
theorem dX12_ranked_26 : decode cX12_ranked 26 = .ok (.iconst 1, 1) := by decide +kernel
theorem dX12_ranked_27 : decode cX12_ranked 27 = .ok (.iaload, 1) := by decide +kernel
theorem dX12_ranked_28 : decode cX12_ranked 28 = .ok (.if_icmp .ge 71, 3) := by decide +kernel
theorem dX12_ranked_31 : decode cX12_ranked 31 = .ok (.aload_n 0, 1) := by decide +kernel
theorem dX12_ranked_32 : decode cX12_ranked 32 = .ok (.getfield 96, 3) := by decide +kernel
theorem dX12_ranked_35 : decode cX12_ranked 35 = .ok (.ifCond .ne 64, 3) := by decide +kernel
theorem dX12_ranked_38 : decode cX12_ranked 38 = .ok (.iconst 0, 1) := by decide +kernel
theorem dX12_ranked_39 : decode cX12_ranked 39 = .ok (.istore 4, 2) := by decide +kernel
theorem dX12_ranked_41 : decode cX12_ranked 41 = .ok (.iconst 0, 1) := by decide +kernel
theorem dX12_ranked_42 : decode cX12_ranked 42 = .ok (.istore 5, 2) := by decide +kernel
theorem dX12_ranked_44 : decode cX12_ranked 44 = .ok (.iload 5, 2) := by decide +kernel
theorem dX12_ranked_46 : decode cX12_ranked 46 = .ok (.aload_n 0, 1) := by decide +kernel
theorem dX12_ranked_47 : decode cX12_ranked 47 = .ok (.getfield 9, 3) := by decide +kernel
theorem dX12_ranked_50 : decode cX12_ranked 50 = .ok (.iconst 1, 1) := by decide +kernel
theorem dX12_ranked_51 : decode cX12_ranked 51 = .ok (.iaload, 1) := by decide +kernel
theorem dX12_ranked_52 : decode cX12_ranked 52 = .ok (.if_icmp .ge 29, 3) := by decide +kernel
theorem dX12_ranked_55 : decode cX12_ranked 55 = .ok (.iload 4, 2) := by decide +kernel
theorem dX12_ranked_57 : decode cX12_ranked 57 = .ok (.aload_n 0, 1) := by decide +kernel
theorem dX12_ranked_58 : decode cX12_ranked 58 = .ok (.iload 5, 2) := by decide +kernel
theorem dX12_ranked_60 : decode cX12_ranked 60 = .ok (.iload_n 3, 1) := by decide +kernel
theorem dX12_ranked_61 : decode cX12_ranked 61 = .ok (.invokevirtual 349, 3) := by decide +kernel
theorem dX12_ranked_64 : decode cX12_ranked 64 = .ok (.ifCond .eq 7, 3) := by decide +kernel
theorem dX12_ranked_67 : decode cX12_ranked 67 = .ok (.iconst 1, 1) := by decide +kernel
theorem dX12_ranked_68 : decode cX12_ranked 68 = .ok (.goto 4, 3) := by decide +kernel
theorem dX12_ranked_71 : decode cX12_ranked 71 = .ok (.iconst 0, 1) := by decide +kernel
theorem dX12_ranked_72 : decode cX12_ranked 72 = .ok (.iadd, 1) := by decide +kernel
theorem dX12_ranked_73 : decode cX12_ranked 73 = .ok (.istore 4, 2) := by decide +kernel
theorem dX12_ranked_75 : decode cX12_ranked 75 = .ok (.iinc 5 1, 3) := by decide +kernel
theorem dX12_ranked_78 : decode cX12_ranked 78 = .ok (.goto (-34), 3) := by decide +kernel
theorem dX12_ranked_81 : decode cX12_ranked 81 = .ok (.iload 4, 2) := by decide +kernel
theorem dX12_ranked_83 : decode cX12_ranked 83 = .ok (.iload_n 1, 1) := by decide +kernel
theorem dX12_ranked_84 : decode cX12_ranked 84 = .ok (.if_icmp .ne 7, 3) := by decide +kernel
theorem dX12_ranked_87 : decode cX12_ranked 87 = .ok (.iload_n 3, 1) := by decide +kernel
theorem dX12_ranked_88 : decode cX12_ranked 88 = .ok (.goto 4, 3) := by decide +kernel
theorem dX12_ranked_91 : decode cX12_ranked 91 = .ok (.iload_n 2, 1) := by decide +kernel
theorem dX12_ranked_92 : decode cX12_ranked 92 = .ok (.istore_n 2, 1) := by decide +kernel
theorem dX12_ranked_93 : decode cX12_ranked 93 = .ok (.iinc 3 1, 3) := by decide +kernel
theorem dX12_ranked_96 : decode cX12_ranked 96 = .ok (.goto (-75), 3) := by decide +kernel
theorem dX12_ranked_99 : decode cX12_ranked 99 = .ok (.iload_n 2, 1) := by decide +kernel
theorem dX12_ranked_100 : decode cX12_ranked 100 = .ok (.ireturn, 1) := by decide +kernel
theorem dX12_widest_0 : decode cX12_widest 0 = .ok (.iconst (-1), 1) := by decide +kernel
theorem dX12_widest_1 : decode cX12_widest 1 = .ok (.istore_n 1, 1) := by decide +kernel
theorem dX12_widest_2 : decode cX12_widest 2 = .ok (.iconst 0, 1) := by decide +kernel
theorem dX12_widest_3 : decode cX12_widest 3 = .ok (.istore_n 2, 1) := by decide +kernel
theorem dX12_widest_4 : decode cX12_widest 4 = .ok (.iload_n 2, 1) := by decide +kernel
theorem dX12_widest_5 : decode cX12_widest 5 = .ok (.aload_n 0, 1) := by decide +kernel
theorem dX12_widest_6 : decode cX12_widest 6 = .ok (.getfield 9, 3) := by decide +kernel
theorem dX12_widest_9 : decode cX12_widest 9 = .ok (.iconst 0, 1) := by decide +kernel
theorem dX12_widest_10 : decode cX12_widest 10 = .ok (.iaload, 1) := by decide +kernel
theorem dX12_widest_11 : decode cX12_widest 11 = .ok (.if_icmp .ge 70, 3) := by decide +kernel
theorem dX12_widest_14 : decode cX12_widest 14 = .ok (.aload_n 0, 1) := by decide +kernel
theorem dX12_widest_15 : decode cX12_widest 15 = .ok (.iload_n 2, 1) := by decide +kernel
theorem dX12_widest_16 : decode cX12_widest 16 = .ok (.iconst 2, 1) := by decide +kernel
theorem dX12_widest_17 : decode cX12_widest 17 = .ok (.invokevirtual 116, 3) := by decide +kernel
theorem dX12_widest_20 : decode cX12_widest 20 = .ok (.aload_n 0, 1) := by decide +kernel
theorem dX12_widest_21 : decode cX12_widest 21 = .ok (.iload_n 2, 1) := by decide +kernel
theorem dX12_widest_22 : decode cX12_widest 22 = .ok (.iconst 1, 1) := by decide +kernel
theorem dX12_widest_23 : decode cX12_widest 23 = .ok (.invokevirtual 116, 3) := by decide +kernel
theorem dX12_widest_26 : decode cX12_widest 26 = .ok (.isub, 1) := by decide +kernel
theorem dX12_widest_27 : decode cX12_widest 27 = .ok (.istore_n 3, 1) := by decide +kernel
theorem dX12_widest_28 : decode cX12_widest 28 = .ok (.iload_n 1, 1) := by decide +kernel
theorem dX12_widest_29 : decode cX12_widest 29 = .ok (.ifCond .lt 20, 3) := by decide +kernel
theorem dX12_widest_32 : decode cX12_widest 32 = .ok (.iload_n 3, 1) := by decide +kernel
theorem dX12_widest_33 : decode cX12_widest 33 = .ok (.aload_n 0, 1) := by decide +kernel
theorem dX12_widest_34 : decode cX12_widest 34 = .ok (.iload_n 1, 1) := by decide +kernel
theorem dX12_widest_35 : decode cX12_widest 35 = .ok (.iconst 2, 1) := by decide +kernel
theorem dX12_widest_36 : decode cX12_widest 36 = .ok (.invokevirtual 116, 3) := by decide +kernel
theorem dX12_widest_39 : decode cX12_widest 39 = .ok (.aload_n 0, 1) := by decide +kernel
theorem dX12_widest_40 : decode cX12_widest 40 = .ok (.iload_n 1, 1) := by decide +kernel
theorem dX12_widest_41 : decode cX12_widest 41 = .ok (.iconst 1, 1) := by decide +kernel
theorem dX12_widest_42 : decode cX12_widest 42 = .ok (.invokevirtual 116, 3) := by decide +kernel
theorem dX12_widest_45 : decode cX12_widest 45 = .ok (.isub, 1) := by decide +kernel
theorem dX12_widest_46 : decode cX12_widest 46 = .ok (.if_icmp .le 7, 3) := by decide +kernel
theorem dX12_widest_49 : decode cX12_widest 49 = .ok (.iconst 1, 1) := by decide +kernel
theorem dX12_widest_50 : decode cX12_widest 50 = .ok (.goto 4, 3) := by decide +kernel
theorem dX12_widest_53 : decode cX12_widest 53 = .ok (.iconst 0, 1) := by decide +kernel
theorem dX12_widest_54 : decode cX12_widest 54 = .ok (.istore 4, 2) := by decide +kernel
theorem dX12_widest_56 : decode cX12_widest 56 = .ok (.aload_n 0, 1) := by decide +kernel
theorem dX12_widest_57 : decode cX12_widest 57 = .ok (.iload_n 2, 1) := by decide +kernel
theorem dX12_widest_58 : decode cX12_widest 58 = .ok (.invokevirtual 160, 3) := by decide +kernel
theorem dX12_widest_61 : decode cX12_widest 61 = .ok (.ifCond .ne 12, 3) := by decide +kernel
theorem dX12_widest_64 : decode cX12_widest 64 = .ok (.iload 4, 2) := by decide +kernel
theorem dX12_widest_66 : decode cX12_widest 66 = .ok (.ifCond .eq 7, 3) := by decide +kernel
theorem dX12_widest_69 : decode cX12_widest 69 = .ok (.iload_n 2, 1) := by decide +kernel
theorem dX12_widest_70 : decode cX12_widest 70 = .ok (.goto 4, 3) := by decide +kernel
theorem dX12_widest_73 : decode cX12_widest 73 = .ok (.iload_n 1, 1) := by decide +kernel
theorem dX12_widest_74 : decode cX12_widest 74 = .ok (.istore_n 1, 1) := by decide +kernel
theorem dX12_widest_75 : decode cX12_widest 75 = .ok (.iinc 2 1, 3) := by decide +kernel
theorem dX12_widest_78 : decode cX12_widest 78 = .ok (.goto (-74), 3) := by decide +kernel
theorem dX12_widest_81 : decode cX12_widest 81 = .ok (.aload_n 0, 1) := by decide +kernel
theorem dX12_widest_82 : decode cX12_widest 82 = .ok (.iload_n 1, 1) := by decide +kernel
theorem dX12_widest_83 : decode cX12_widest 83 = .ok (.ifCond .ge 7, 3) := by decide +kernel
theorem dX12_widest_86 : decode cX12_widest 86 = .ok (.iconst 1, 1) := by decide +kernel
theorem dX12_widest_87 : decode cX12_widest 87 = .ok (.goto 4, 3) := by decide +kernel
theorem dX12_widest_90 : decode cX12_widest 90 = .ok (.iconst 0, 1) := by decide +kernel
theorem dX12_widest_91 : decode cX12_widest 91 = .ok (.putfield 96, 3) := by decide +kernel
theorem dX12_widest_94 : decode cX12_widest 94 = .ok (.aload_n 0, 1) := by decide +kernel
theorem dX12_widest_95 : decode cX12_widest 95 = .ok (.getfield 96, 3) := by decide +kernel
theorem dX12_widest_98 : decode cX12_widest 98 = .ok (.ifCond .le 7, 3) := by decide +kernel
theorem dX12_widest_101 : decode cX12_widest 101 = .ok (.iconst 0, 1) := by decide +kernel
theorem dX12_widest_102 : decode cX12_widest 102 = .ok (.goto 4, 3) := by decide +kernel
theorem dX12_widest_105 : decode cX12_widest 105 = .ok (.iload_n 1, 1) := by decide +kernel
theorem dX12_widest_106 : decode cX12_widest 106 = .ok (.ireturn, 1) := by decide +kernel
theorem dX12_isSafe_0 : decode cX12_isSafe 0 = .ok (.aload_n 0, 1) := by decide +kernel
theorem dX12_isSafe_1 : decode cX12_isSafe 1 = .ok (.iconst 0, 1) := by decide +kernel
theorem dX12_isSafe_2 : decode cX12_isSafe 2 = .ok (.putfield 96, 3) := by decide +kernel
theorem dX12_isSafe_5 : decode cX12_isSafe 5 = .ok (.iconst 1, 1) := by decide +kernel
theorem dX12_isSafe_6 : decode cX12_isSafe 6 = .ok (.ireturn, 1) := by decide +kernel
theorem dX12_says_0 : decode cX12_says 0 = .ok (.aload_n 0, 1) := by decide +kernel
theorem dX12_says_1 : decode cX12_says 1 = .ok (.getfield 93, 3) := by decide +kernel
theorem dX12_says_4 : decode cX12_says 4 = .ok (.aload_n 0, 1) := by decide +kernel
theorem dX12_says_5 : decode cX12_says 5 = .ok (.getfield 352, 3) := by decide +kernel
theorem dX12_says_8 : decode cX12_says 8 = .ok (.iload_n 1, 1) := by decide +kernel
theorem dX12_says_9 : decode cX12_says 9 = .ok (.castore, 1) := by decide +kernel
theorem dX12_says_10 : decode cX12_says 10 = .ok (.aload_n 0, 1) := by decide +kernel
theorem dX12_says_11 : decode cX12_says 11 = .ok (.dup, 1) := by decide +kernel
theorem dX12_says_12 : decode cX12_says 12 = .ok (.getfield 352, 3) := by decide +kernel
theorem dX12_says_15 : decode cX12_says 15 = .ok (.iconst 1, 1) := by decide +kernel
theorem dX12_says_16 : decode cX12_says 16 = .ok (.iadd, 1) := by decide +kernel
theorem dX12_says_17 : decode cX12_says 17 = .ok (.putfield 352, 3) := by decide +kernel
theorem dX12_says_20 : decode cX12_says 20 = .ok (.return_, 1) := by decide +kernel
theorem dX12_saysNumber_0 : decode cX12_saysNumber 0 = .ok (.lload_n 1, 1) := by decide +kernel
theorem dX12_saysNumber_1 : decode cX12_saysNumber 1 = .ok (.lconst 0, 1) := by decide +kernel
theorem dX12_saysNumber_2 : decode cX12_saysNumber 2 = .ok (.lcmp, 1) := by decide +kernel
theorem dX12_saysNumber_3 : decode cX12_saysNumber 3 = .ok (.ifCond .ge 9, 3) := by decide +kernel
theorem dX12_saysNumber_6 : decode cX12_saysNumber 6 = .ok (.aload_n 0, 1) := by decide +kernel
theorem dX12_saysNumber_7 : decode cX12_saysNumber 7 = .ok (.bipush 45, 2) := by decide +kernel
theorem dX12_saysNumber_9 : decode cX12_saysNumber 9 = .ok (.invokevirtual 355, 3) := by decide +kernel
theorem dX12_saysNumber_12 : decode cX12_saysNumber 12 = .ok (.lload_n 1, 1) := by decide +kernel
theorem dX12_saysNumber_13 : decode cX12_saysNumber 13 = .ok (.invokestatic 359, 3) := by decide +kernel
theorem dX12_saysNumber_16 : decode cX12_saysNumber 16 = .ok (.lstore_n 3, 1) := by decide +kernel
theorem dX12_saysNumber_17 : decode cX12_saysNumber 17 = .ok (.lload_n 3, 1) := by decide +kernel
theorem dX12_saysNumber_18 : decode cX12_saysNumber 18 = .ok (.ldc2_w 363, 3) := by decide +kernel
theorem dX12_saysNumber_21 : decode cX12_saysNumber 21 = .ok (.lcmp, 1) := by decide +kernel
theorem dX12_saysNumber_22 : decode cX12_saysNumber 22 = .ok (.ifCond .le 12, 3) := by decide +kernel
theorem dX12_saysNumber_25 : decode cX12_saysNumber 25 = .ok (.aload_n 0, 1) := by decide +kernel
theorem dX12_saysNumber_26 : decode cX12_saysNumber 26 = .ok (.lload_n 3, 1) := by decide +kernel
theorem dX12_saysNumber_27 : decode cX12_saysNumber 27 = .ok (.ldc2_w 365, 3) := by decide +kernel
theorem dX12_saysNumber_30 : decode cX12_saysNumber 30 = .ok (.ldiv, 1) := by decide +kernel
theorem dX12_saysNumber_31 : decode cX12_saysNumber 31 = .ok (.invokevirtual 367, 3) := by decide +kernel
theorem dX12_saysNumber_34 : decode cX12_saysNumber 34 = .ok (.aload_n 0, 1) := by decide +kernel
theorem dX12_saysNumber_35 : decode cX12_saysNumber 35 = .ok (.ldc2_w 211, 3) := by decide +kernel
theorem dX12_saysNumber_38 : decode cX12_saysNumber 38 = .ok (.lload_n 3, 1) := by decide +kernel
theorem dX12_saysNumber_39 : decode cX12_saysNumber 39 = .ok (.ldc2_w 365, 3) := by decide +kernel
theorem dX12_saysNumber_42 : decode cX12_saysNumber 42 = .ok (.lrem, 1) := by decide +kernel
theorem dX12_saysNumber_43 : decode cX12_saysNumber 43 = .ok (.ladd, 1) := by decide +kernel
theorem dX12_saysNumber_44 : decode cX12_saysNumber 44 = .ok (.l2i, 1) := by decide +kernel
theorem dX12_saysNumber_45 : decode cX12_saysNumber 45 = .ok (.i2c, 1) := by decide +kernel
theorem dX12_saysNumber_46 : decode cX12_saysNumber 46 = .ok (.invokevirtual 355, 3) := by decide +kernel
theorem dX12_saysNumber_49 : decode cX12_saysNumber 49 = .ok (.return_, 1) := by decide +kernel
theorem dX12_tell_0 : decode cX12_tell 0 = .ok (.aload_n 0, 1) := by decide +kernel
theorem dX12_tell_1 : decode cX12_tell 1 = .ok (.aload_n 0, 1) := by decide +kernel
theorem dX12_tell_2 : decode cX12_tell 2 = .ok (.iload_n 1, 1) := by decide +kernel
theorem dX12_tell_3 : decode cX12_tell 3 = .ok (.invokevirtual 229, 3) := by decide +kernel
theorem dX12_tell_6 : decode cX12_tell 6 = .ok (.ifCond .eq 7, 3) := by decide +kernel
theorem dX12_tell_9 : decode cX12_tell 9 = .ok (.iconst 0, 1) := by decide +kernel
theorem dX12_tell_10 : decode cX12_tell 10 = .ok (.goto 4, 3) := by decide +kernel
theorem dX12_tell_13 : decode cX12_tell 13 = .ok (.iconst 1, 1) := by decide +kernel
theorem dX12_tell_14 : decode cX12_tell 14 = .ok (.putfield 96, 3) := by decide +kernel
theorem dX12_tell_17 : decode cX12_tell 17 = .ok (.aload_n 0, 1) := by decide +kernel
theorem dX12_tell_18 : decode cX12_tell 18 = .ok (.getfield 96, 3) := by decide +kernel
theorem dX12_tell_21 : decode cX12_tell 21 = .ok (.ifCond .le 5, 3) := by decide +kernel
theorem dX12_tell_24 : decode cX12_tell 24 = .ok (.iconst 0, 1) := by decide +kernel
theorem dX12_tell_25 : decode cX12_tell 25 = .ok (.ireturn, 1) := by decide +kernel
theorem dX12_tell_26 : decode cX12_tell 26 = .ok (.bipush 34, 2) := by decide +kernel
theorem dX12_tell_28 : decode cX12_tell 28 = .ok (.bipush 62, 2) := by decide +kernel
theorem dX12_tell_30 : decode cX12_tell 30 = .ok (.iload_n 1, 1) := by decide +kernel
theorem dX12_tell_31 : decode cX12_tell 31 = .ok (.imul, 1) := by decide +kernel
theorem dX12_tell_32 : decode cX12_tell 32 = .ok (.iadd, 1) := by decide +kernel
theorem dX12_tell_33 : decode cX12_tell 33 = .ok (.istore_n 2, 1) := by decide +kernel
theorem dX12_tell_34 : decode cX12_tell 34 = .ok (.aload_n 0, 1) := by decide +kernel
theorem dX12_tell_35 : decode cX12_tell 35 = .ok (.iconst 0, 1) := by decide +kernel
theorem dX12_tell_36 : decode cX12_tell 36 = .ok (.putfield 352, 3) := by decide +kernel
theorem dX12_tell_39 : decode cX12_tell 39 = .ok (.iconst 0, 1) := by decide +kernel
theorem dX12_tell_40 : decode cX12_tell 40 = .ok (.istore_n 3, 1) := by decide +kernel
theorem dX12_tell_41 : decode cX12_tell 41 = .ok (.iload_n 3, 1) := by decide +kernel
theorem dX12_tell_42 : decode cX12_tell 42 = .ok (.aload_n 0, 1) := by decide +kernel
theorem dX12_tell_43 : decode cX12_tell 43 = .ok (.getfield 9, 3) := by decide +kernel
theorem dX12_tell_46 : decode cX12_tell 46 = .ok (.iload_n 2, 1) := by decide +kernel
theorem dX12_tell_47 : decode cX12_tell 47 = .ok (.iconst 1, 1) := by decide +kernel
theorem dX12_tell_48 : decode cX12_tell 48 = .ok (.iadd, 1) := by decide +kernel
theorem dX12_tell_49 : decode cX12_tell 49 = .ok (.iaload, 1) := by decide +kernel
theorem dX12_tell_50 : decode cX12_tell 50 = .ok (.if_icmp .ge 24, 3) := by decide +kernel
theorem dX12_tell_53 : decode cX12_tell 53 = .ok (.aload_n 0, 1) := by decide +kernel
theorem dX12_tell_54 : decode cX12_tell 54 = .ok (.aload_n 0, 1) := by decide +kernel
theorem dX12_tell_55 : decode cX12_tell 55 = .ok (.getfield 9, 3) := by decide +kernel
theorem dX12_tell_58 : decode cX12_tell 58 = .ok (.iload_n 2, 1) := by decide +kernel
theorem dX12_tell_59 : decode cX12_tell 59 = .ok (.iconst 2, 1) := by decide +kernel
theorem dX12_tell_60 : decode cX12_tell 60 = .ok (.iadd, 1) := by decide +kernel
theorem dX12_tell_61 : decode cX12_tell 61 = .ok (.iload_n 3, 1) := by decide +kernel
theorem dX12_tell_62 : decode cX12_tell 62 = .ok (.iadd, 1) := by decide +kernel
theorem dX12_tell_63 : decode cX12_tell 63 = .ok (.iaload, 1) := by decide +kernel
theorem dX12_tell_64 : decode cX12_tell 64 = .ok (.i2c, 1) := by decide +kernel
theorem dX12_tell_65 : decode cX12_tell 65 = .ok (.invokevirtual 355, 3) := by decide +kernel
theorem dX12_tell_68 : decode cX12_tell 68 = .ok (.iinc 3 1, 3) := by decide +kernel
theorem dX12_tell_71 : decode cX12_tell 71 = .ok (.goto (-30), 3) := by decide +kernel
theorem dX12_tell_74 : decode cX12_tell 74 = .ok (.aload_n 0, 1) := by decide +kernel
theorem dX12_tell_75 : decode cX12_tell 75 = .ok (.getfield 352, 3) := by decide +kernel
theorem dX12_tell_78 : decode cX12_tell 78 = .ok (.ireturn, 1) := by decide +kernel
theorem dX12_tellCauldron_0 : decode cX12_tellCauldron 0 = .ok (.aload_n 0, 1) := by decide +kernel
theorem dX12_tellCauldron_1 : decode cX12_tellCauldron 1 = .ok (.aload_n 0, 1) := by decide +kernel
theorem dX12_tellCauldron_2 : decode cX12_tellCauldron 2 = .ok (.iload_n 1, 1) := by decide +kernel
theorem dX12_tellCauldron_3 : decode cX12_tellCauldron 3 = .ok (.invokevirtual 156, 3) := by decide +kernel
theorem dX12_tellCauldron_6 : decode cX12_tellCauldron 6 = .ok (.ifCond .eq 7, 3) := by decide +kernel
theorem dX12_tellCauldron_9 : decode cX12_tellCauldron 9 = .ok (.iconst 0, 1) := by decide +kernel
theorem dX12_tellCauldron_10 : decode cX12_tellCauldron 10 = .ok (.goto 4, 3) := by decide +kernel
theorem dX12_tellCauldron_13 : decode cX12_tellCauldron 13 = .ok (.iconst 1, 1) := by decide +kernel
theorem dX12_tellCauldron_14 : decode cX12_tellCauldron 14 = .ok (.putfield 96, 3) := by decide +kernel
theorem dX12_tellCauldron_17 : decode cX12_tellCauldron 17 = .ok (.aload_n 0, 1) := by decide +kernel
theorem dX12_tellCauldron_18 : decode cX12_tellCauldron 18 = .ok (.getfield 96, 3) := by decide +kernel
theorem dX12_tellCauldron_21 : decode cX12_tellCauldron 21 = .ok (.ifCond .le 5, 3) := by decide +kernel
theorem dX12_tellCauldron_24 : decode cX12_tellCauldron 24 = .ok (.iconst 0, 1) := by decide +kernel
theorem dX12_tellCauldron_25 : decode cX12_tellCauldron 25 = .ok (.ireturn, 1) := by decide +kernel
theorem dX12_tellCauldron_26 : decode cX12_tellCauldron 26 = .ok (.aload_n 0, 1) := by decide +kernel
theorem dX12_tellCauldron_27 : decode cX12_tellCauldron 27 = .ok (.iconst 0, 1) := by decide +kernel
theorem dX12_tellCauldron_28 : decode cX12_tellCauldron 28 = .ok (.putfield 352, 3) := by decide +kernel
theorem dX12_tellCauldron_31 : decode cX12_tellCauldron 31 = .ok (.aload_n 0, 1) := by decide +kernel
theorem dX12_tellCauldron_32 : decode cX12_tellCauldron 32 = .ok (.bipush 97, 2) := by decide +kernel
theorem dX12_tellCauldron_34 : decode cX12_tellCauldron 34 = .ok (.iload_n 1, 1) := by decide +kernel
theorem dX12_tellCauldron_35 : decode cX12_tellCauldron 35 = .ok (.iadd, 1) := by decide +kernel
theorem dX12_tellCauldron_36 : decode cX12_tellCauldron 36 = .ok (.i2c, 1) := by decide +kernel
theorem dX12_tellCauldron_37 : decode cX12_tellCauldron 37 = .ok (.invokevirtual 355, 3) := by decide +kernel
theorem dX12_tellCauldron_40 : decode cX12_tellCauldron 40 = .ok (.aload_n 0, 1) := by decide +kernel
theorem dX12_tellCauldron_41 : decode cX12_tellCauldron 41 = .ok (.bipush 58, 2) := by decide +kernel
theorem dX12_tellCauldron_43 : decode cX12_tellCauldron 43 = .ok (.invokevirtual 355, 3) := by decide +kernel
theorem dX12_tellCauldron_46 : decode cX12_tellCauldron 46 = .ok (.aload_n 0, 1) := by decide +kernel
theorem dX12_tellCauldron_47 : decode cX12_tellCauldron 47 = .ok (.aload_n 0, 1) := by decide +kernel
theorem dX12_tellCauldron_48 : decode cX12_tellCauldron 48 = .ok (.iload_n 1, 1) := by decide +kernel
theorem dX12_tellCauldron_49 : decode cX12_tellCauldron 49 = .ok (.invokevirtual 324, 3) := by decide +kernel
theorem dX12_tellCauldron_52 : decode cX12_tellCauldron 52 = .ok (.i2l, 1) := by decide +kernel
theorem dX12_tellCauldron_53 : decode cX12_tellCauldron 53 = .ok (.invokevirtual 367, 3) := by decide +kernel
theorem dX12_tellCauldron_56 : decode cX12_tellCauldron 56 = .ok (.aload_n 0, 1) := by decide +kernel
theorem dX12_tellCauldron_57 : decode cX12_tellCauldron 57 = .ok (.iload_n 1, 1) := by decide +kernel
theorem dX12_tellCauldron_58 : decode cX12_tellCauldron 58 = .ok (.invokevirtual 160, 3) := by decide +kernel
theorem dX12_tellCauldron_61 : decode cX12_tellCauldron 61 = .ok (.ifCond .eq 12, 3) := by decide +kernel
theorem dX12_tellCauldron_64 : decode cX12_tellCauldron 64 = .ok (.aload_n 0, 1) := by decide +kernel
theorem dX12_tellCauldron_65 : decode cX12_tellCauldron 65 = .ok (.bipush 126, 2) := by decide +kernel
theorem dX12_tellCauldron_67 : decode cX12_tellCauldron 67 = .ok (.invokevirtual 355, 3) := by decide +kernel
theorem dX12_tellCauldron_70 : decode cX12_tellCauldron 70 = .ok (.goto 43, 3) := by decide +kernel
theorem dX12_tellCauldron_73 : decode cX12_tellCauldron 73 = .ok (.aload_n 0, 1) := by decide +kernel
theorem dX12_tellCauldron_74 : decode cX12_tellCauldron 74 = .ok (.bipush 91, 2) := by decide +kernel
theorem dX12_tellCauldron_76 : decode cX12_tellCauldron 76 = .ok (.invokevirtual 355, 3) := by decide +kernel
theorem dX12_tellCauldron_79 : decode cX12_tellCauldron 79 = .ok (.aload_n 0, 1) := by decide +kernel
theorem dX12_tellCauldron_80 : decode cX12_tellCauldron 80 = .ok (.aload_n 0, 1) := by decide +kernel
theorem dX12_tellCauldron_81 : decode cX12_tellCauldron 81 = .ok (.iload_n 1, 1) := by decide +kernel
theorem dX12_tellCauldron_82 : decode cX12_tellCauldron 82 = .ok (.iconst 1, 1) := by decide +kernel
theorem dX12_tellCauldron_83 : decode cX12_tellCauldron 83 = .ok (.invokevirtual 116, 3) := by decide +kernel
theorem dX12_tellCauldron_86 : decode cX12_tellCauldron 86 = .ok (.i2l, 1) := by decide +kernel
theorem dX12_tellCauldron_87 : decode cX12_tellCauldron 87 = .ok (.invokevirtual 367, 3) := by decide +kernel
theorem dX12_tellCauldron_90 : decode cX12_tellCauldron 90 = .ok (.aload_n 0, 1) := by decide +kernel
theorem dX12_tellCauldron_91 : decode cX12_tellCauldron 91 = .ok (.bipush 44, 2) := by decide +kernel
theorem dX12_tellCauldron_93 : decode cX12_tellCauldron 93 = .ok (.invokevirtual 355, 3) := by decide +kernel
theorem dX12_tellCauldron_96 : decode cX12_tellCauldron 96 = .ok (.aload_n 0, 1) := by decide +kernel
theorem dX12_tellCauldron_97 : decode cX12_tellCauldron 97 = .ok (.aload_n 0, 1) := by decide +kernel
theorem dX12_tellCauldron_98 : decode cX12_tellCauldron 98 = .ok (.iload_n 1, 1) := by decide +kernel
theorem dX12_tellCauldron_99 : decode cX12_tellCauldron 99 = .ok (.iconst 2, 1) := by decide +kernel
theorem dX12_tellCauldron_100 : decode cX12_tellCauldron 100 = .ok (.invokevirtual 116, 3) := by decide +kernel
theorem dX12_tellCauldron_103 : decode cX12_tellCauldron 103 = .ok (.i2l, 1) := by decide +kernel
theorem dX12_tellCauldron_104 : decode cX12_tellCauldron 104 = .ok (.invokevirtual 367, 3) := by decide +kernel
theorem dX12_tellCauldron_107 : decode cX12_tellCauldron 107 = .ok (.aload_n 0, 1) := by decide +kernel
theorem dX12_tellCauldron_108 : decode cX12_tellCauldron 108 = .ok (.bipush 93, 2) := by decide +kernel
theorem dX12_tellCauldron_110 : decode cX12_tellCauldron 110 = .ok (.invokevirtual 355, 3) := by decide +kernel
theorem dX12_tellCauldron_113 : decode cX12_tellCauldron 113 = .ok (.aload_n 0, 1) := by decide +kernel
theorem dX12_tellCauldron_114 : decode cX12_tellCauldron 114 = .ok (.getfield 352, 3) := by decide +kernel
theorem dX12_tellCauldron_117 : decode cX12_tellCauldron 117 = .ok (.ireturn, 1) := by decide +kernel
theorem dX12_character_0 : decode cX12_character 0 = .ok (.aload_n 0, 1) := by decide +kernel
theorem dX12_character_1 : decode cX12_character 1 = .ok (.iload_n 1, 1) := by decide +kernel
theorem dX12_character_2 : decode cX12_character 2 = .ok (.i2l, 1) := by decide +kernel
theorem dX12_character_3 : decode cX12_character 3 = .ok (.lconst 0, 1) := by decide +kernel
theorem dX12_character_4 : decode cX12_character 4 = .ok (.aload_n 0, 1) := by decide +kernel
theorem dX12_character_5 : decode cX12_character 5 = .ok (.getfield 352, 3) := by decide +kernel
theorem dX12_character_8 : decode cX12_character 8 = .ok (.iconst 1, 1) := by decide +kernel
theorem dX12_character_9 : decode cX12_character 9 = .ok (.isub, 1) := by decide +kernel
theorem dX12_character_10 : decode cX12_character 10 = .ok (.i2l, 1) := by decide +kernel
theorem dX12_character_11 : decode cX12_character 11 = .ok (.invokestatic 112, 3) := by decide +kernel
theorem dX12_character_14 : decode cX12_character 14 = .ok (.ifCond .eq 7, 3) := by decide +kernel
theorem dX12_character_17 : decode cX12_character 17 = .ok (.iconst 0, 1) := by decide +kernel
theorem dX12_character_18 : decode cX12_character 18 = .ok (.goto 4, 3) := by decide +kernel
theorem dX12_character_21 : decode cX12_character 21 = .ok (.iconst 1, 1) := by decide +kernel
theorem dX12_character_22 : decode cX12_character 22 = .ok (.putfield 96, 3) := by decide +kernel
theorem dX12_character_25 : decode cX12_character 25 = .ok (.aload_n 0, 1) := by decide +kernel
theorem dX12_character_26 : decode cX12_character 26 = .ok (.getfield 96, 3) := by decide +kernel
theorem dX12_character_29 : decode cX12_character 29 = .ok (.ifCond .le 8, 3) := by decide +kernel
theorem dX12_character_32 : decode cX12_character 32 = .ok (.bipush 32, 2) := by decide +kernel
theorem dX12_character_34 : decode cX12_character 34 = .ok (.goto 9, 3) := by decide +kernel
theorem dX12_character_37 : decode cX12_character 37 = .ok (.aload_n 0, 1) := by decide +kernel
theorem dX12_character_38 : decode cX12_character 38 = .ok (.getfield 93, 3) := by decide +kernel
theorem dX12_character_41 : decode cX12_character 41 = .ok (.iload_n 1, 1) := by decide +kernel
theorem dX12_character_42 : decode cX12_character 42 = .ok (.caload, 1) := by decide +kernel
theorem dX12_character_43 : decode cX12_character 43 = .ok (.ireturn, 1) := by decide +kernel
theorem dX12_meanBits_0 : decode cX12_meanBits 0 = .ok (.aload_n 0, 1) := by decide +kernel
theorem dX12_meanBits_1 : decode cX12_meanBits 1 = .ok (.getfield 9, 3) := by decide +kernel
theorem dX12_meanBits_4 : decode cX12_meanBits 4 = .ok (.iconst 0, 1) := by decide +kernel
theorem dX12_meanBits_5 : decode cX12_meanBits 5 = .ok (.iaload, 1) := by decide +kernel
theorem dX12_meanBits_6 : decode cX12_meanBits 6 = .ok (.istore_n 1, 1) := by decide +kernel
theorem dX12_meanBits_7 : decode cX12_meanBits 7 = .ok (.aload_n 0, 1) := by decide +kernel
theorem dX12_meanBits_8 : decode cX12_meanBits 8 = .ok (.iload_n 1, 1) := by decide +kernel
theorem dX12_meanBits_9 : decode cX12_meanBits 9 = .ok (.ifCond .ne 7, 3) := by decide +kernel
theorem dX12_meanBits_12 : decode cX12_meanBits 12 = .ok (.iconst 1, 1) := by decide +kernel
theorem dX12_meanBits_13 : decode cX12_meanBits 13 = .ok (.goto 4, 3) := by decide +kernel
theorem dX12_meanBits_16 : decode cX12_meanBits 16 = .ok (.iconst 0, 1) := by decide +kernel
theorem dX12_meanBits_17 : decode cX12_meanBits 17 = .ok (.putfield 96, 3) := by decide +kernel
theorem dX12_meanBits_20 : decode cX12_meanBits 20 = .ok (.dconst 0, 1) := by decide +kernel
theorem dX12_meanBits_21 : decode cX12_meanBits 21 = .ok (.dstore_n 2, 1) := by decide +kernel
theorem dX12_meanBits_22 : decode cX12_meanBits 22 = .ok (.iconst 0, 1) := by decide +kernel
theorem dX12_meanBits_23 : decode cX12_meanBits 23 = .ok (.istore 4, 2) := by decide +kernel
theorem dX12_meanBits_25 : decode cX12_meanBits 25 = .ok (.iload 4, 2) := by decide +kernel
theorem dX12_meanBits_27 : decode cX12_meanBits 27 = .ok (.iload_n 1, 1) := by decide +kernel
theorem dX12_meanBits_28 : decode cX12_meanBits 28 = .ok (.if_icmp .ge 40, 3) := by decide +kernel
theorem dX12_meanBits_31 : decode cX12_meanBits 31 = .ok (.dload_n 2, 1) := by decide +kernel
theorem dX12_meanBits_32 : decode cX12_meanBits 32 = .ok (.aload_n 0, 1) := by decide +kernel
theorem dX12_meanBits_33 : decode cX12_meanBits 33 = .ok (.iload 4, 2) := by decide +kernel
theorem dX12_meanBits_35 : decode cX12_meanBits 35 = .ok (.invokevirtual 160, 3) := by decide +kernel
theorem dX12_meanBits_38 : decode cX12_meanBits 38 = .ok (.ifCond .eq 14, 3) := by decide +kernel
theorem dX12_meanBits_41 : decode cX12_meanBits 41 = .ok (.aload_n 0, 1) := by decide +kernel
theorem dX12_meanBits_42 : decode cX12_meanBits 42 = .ok (.getfield 13, 3) := by decide +kernel
theorem dX12_meanBits_45 : decode cX12_meanBits 45 = .ok (.iload 4, 2) := by decide +kernel
theorem dX12_meanBits_47 : decode cX12_meanBits 47 = .ok (.faload, 1) := by decide +kernel
theorem dX12_meanBits_48 : decode cX12_meanBits 48 = .ok (.f2d, 1) := by decide +kernel
theorem dX12_meanBits_49 : decode cX12_meanBits 49 = .ok (.goto 11, 3) := by decide +kernel
theorem dX12_meanBits_52 : decode cX12_meanBits 52 = .ok (.aload_n 0, 1) := by decide +kernel
theorem dX12_meanBits_53 : decode cX12_meanBits 53 = .ok (.iload 4, 2) := by decide +kernel
theorem dX12_meanBits_55 : decode cX12_meanBits 55 = .ok (.iconst 3, 1) := by decide +kernel
theorem dX12_meanBits_56 : decode cX12_meanBits 56 = .ok (.invokevirtual 116, 3) := by decide +kernel
theorem dX12_meanBits_59 : decode cX12_meanBits 59 = .ok (.i2d, 1) := by decide +kernel
theorem dX12_meanBits_60 : decode cX12_meanBits 60 = .ok (.dadd, 1) := by decide +kernel
theorem dX12_meanBits_61 : decode cX12_meanBits 61 = .ok (.dstore_n 2, 1) := by decide +kernel
theorem dX12_meanBits_62 : decode cX12_meanBits 62 = .ok (.iinc 4 1, 3) := by decide +kernel
theorem dX12_meanBits_65 : decode cX12_meanBits 65 = .ok (.goto (-40), 3) := by decide +kernel
theorem dX12_meanBits_68 : decode cX12_meanBits 68 = .ok (.aload_n 0, 1) := by decide +kernel
theorem dX12_meanBits_69 : decode cX12_meanBits 69 = .ok (.getfield 96, 3) := by decide +kernel
theorem dX12_meanBits_72 : decode cX12_meanBits 72 = .ok (.ifCond .le 7, 3) := by decide +kernel
theorem dX12_meanBits_75 : decode cX12_meanBits 75 = .ok (.lconst 0, 1) := by decide +kernel
theorem dX12_meanBits_76 : decode cX12_meanBits 76 = .ok (.goto 10, 3) := by decide +kernel
theorem dX12_meanBits_79 : decode cX12_meanBits 79 = .ok (.dload_n 2, 1) := by decide +kernel
theorem dX12_meanBits_80 : decode cX12_meanBits 80 = .ok (.iload_n 1, 1) := by decide +kernel
theorem dX12_meanBits_81 : decode cX12_meanBits 81 = .ok (.i2d, 1) := by decide +kernel
theorem dX12_meanBits_82 : decode cX12_meanBits 82 = .ok (.ddiv, 1) := by decide +kernel
theorem dX12_meanBits_83 : decode cX12_meanBits 83 = .ok (.invokestatic 371, 3) := by decide +kernel
theorem dX12_meanBits_86 : decode cX12_meanBits 86 = .ok (.lreturn, 1) := by decide +kernel
theorem dX12_typedShare_0 : decode cX12_typedShare 0 = .ok (.aload_n 0, 1) := by decide +kernel
theorem dX12_typedShare_1 : decode cX12_typedShare 1 = .ok (.getfield 9, 3) := by decide +kernel
theorem dX12_typedShare_4 : decode cX12_typedShare 4 = .ok (.iconst 1, 1) := by decide +kernel
theorem dX12_typedShare_5 : decode cX12_typedShare 5 = .ok (.iaload, 1) := by decide +kernel
theorem dX12_typedShare_6 : decode cX12_typedShare 6 = .ok (.istore_n 1, 1) := by decide +kernel
theorem dX12_typedShare_7 : decode cX12_typedShare 7 = .ok (.aload_n 0, 1) := by decide +kernel
theorem dX12_typedShare_8 : decode cX12_typedShare 8 = .ok (.iload_n 1, 1) := by decide +kernel
theorem dX12_typedShare_9 : decode cX12_typedShare 9 = .ok (.ifCond .ne 7, 3) := by decide +kernel
theorem dX12_typedShare_12 : decode cX12_typedShare 12 = .ok (.iconst 1, 1) := by decide +kernel
theorem dX12_typedShare_13 : decode cX12_typedShare 13 = .ok (.goto 4, 3) := by decide +kernel
theorem dX12_typedShare_16 : decode cX12_typedShare 16 = .ok (.iconst 0, 1) := by decide +kernel
theorem dX12_typedShare_17 : decode cX12_typedShare 17 = .ok (.putfield 96, 3) := by decide +kernel
theorem dX12_typedShare_20 : decode cX12_typedShare 20 = .ok (.aload_n 0, 1) := by decide +kernel
theorem dX12_typedShare_21 : decode cX12_typedShare 21 = .ok (.getfield 96, 3) := by decide +kernel
theorem dX12_typedShare_24 : decode cX12_typedShare 24 = .ok (.ifCond .le 7, 3) := by decide +kernel
theorem dX12_typedShare_27 : decode cX12_typedShare 27 = .ok (.fconst 0, 1) := by decide +kernel
theorem dX12_typedShare_28 : decode cX12_typedShare 28 = .ok (.goto 11, 3) := by decide +kernel
theorem dX12_typedShare_31 : decode cX12_typedShare 31 = .ok (.aload_n 0, 1) := by decide +kernel
theorem dX12_typedShare_32 : decode cX12_typedShare 32 = .ok (.invokevirtual 184, 3) := by decide +kernel
theorem dX12_typedShare_35 : decode cX12_typedShare 35 = .ok (.i2f, 1) := by decide +kernel
theorem dX12_typedShare_36 : decode cX12_typedShare 36 = .ok (.iload_n 1, 1) := by decide +kernel
theorem dX12_typedShare_37 : decode cX12_typedShare 37 = .ok (.i2f, 1) := by decide +kernel
theorem dX12_typedShare_38 : decode cX12_typedShare 38 = .ok (.fdiv, 1) := by decide +kernel
theorem dX12_typedShare_39 : decode cX12_typedShare 39 = .ok (.freturn, 1) := by decide +kernel
theorem dX12_all_0 : decode cX12_all 0 = .ok (.iconst 0, 1) := by decide +kernel
theorem dX12_all_1 : decode cX12_all 1 = .ok (.istore_n 2, 1) := by decide +kernel
theorem dX12_all_2 : decode cX12_all 2 = .ok (.iconst 0, 1) := by decide +kernel
theorem dX12_all_3 : decode cX12_all 3 = .ok (.istore_n 3, 1) := by decide +kernel
theorem dX12_all_4 : decode cX12_all 4 = .ok (.iload_n 3, 1) := by decide +kernel
theorem dX12_all_5 : decode cX12_all 5 = .ok (.aload_n 0, 1) := by decide +kernel
theorem dX12_all_6 : decode cX12_all 6 = .ok (.getfield 9, 3) := by decide +kernel
theorem dX12_all_9 : decode cX12_all 9 = .ok (.iconst 0, 1) := by decide +kernel
theorem dX12_all_10 : decode cX12_all 10 = .ok (.iaload, 1) := by decide +kernel
theorem dX12_all_11 : decode cX12_all 11 = .ok (.if_icmp .ge 31, 3) := by decide +kernel
theorem dX12_all_14 : decode cX12_all 14 = .ok (.iload_n 2, 1) := by decide +kernel
theorem dX12_all_15 : decode cX12_all 15 = .ok (.iload_n 1, 1) := by decide +kernel
theorem dX12_all_16 : decode cX12_all 16 = .ok (.ifCond .eq 12, 3) := by decide +kernel
theorem dX12_all_19 : decode cX12_all 19 = .ok (.aload_n 0, 1) := by decide +kernel
theorem dX12_all_20 : decode cX12_all 20 = .ok (.iload_n 3, 1) := by decide +kernel
theorem dX12_all_21 : decode cX12_all 21 = .ok (.iconst 3, 1) := by decide +kernel
theorem dX12_all_22 : decode cX12_all 22 = .ok (.invokevirtual 116, 3) := by decide +kernel
theorem dX12_all_25 : decode cX12_all 25 = .ok (.goto 9, 3) := by decide +kernel
theorem dX12_all_28 : decode cX12_all 28 = .ok (.aload_n 0, 1) := by decide +kernel
theorem dX12_all_29 : decode cX12_all 29 = .ok (.iload_n 3, 1) := by decide +kernel
theorem dX12_all_30 : decode cX12_all 30 = .ok (.iconst 0, 1) := by decide +kernel
theorem dX12_all_31 : decode cX12_all 31 = .ok (.invokevirtual 116, 3) := by decide +kernel
theorem dX12_all_34 : decode cX12_all 34 = .ok (.iadd, 1) := by decide +kernel
theorem dX12_all_35 : decode cX12_all 35 = .ok (.istore_n 2, 1) := by decide +kernel
theorem dX12_all_36 : decode cX12_all 36 = .ok (.iinc 3 1, 3) := by decide +kernel
theorem dX12_all_39 : decode cX12_all 39 = .ok (.goto (-35), 3) := by decide +kernel
theorem dX12_all_42 : decode cX12_all 42 = .ok (.iload_n 2, 1) := by decide +kernel
theorem dX12_all_43 : decode cX12_all 43 = .ok (.ireturn, 1) := by decide +kernel
theorem dX12_account_0 : decode cX12_account 0 = .ok (.aload_n 0, 1) := by decide +kernel
theorem dX12_account_1 : decode cX12_account 1 = .ok (.iload_n 1, 1) := by decide +kernel
theorem dX12_account_2 : decode cX12_account 2 = .ok (.i2l, 1) := by decide +kernel
theorem dX12_account_3 : decode cX12_account 3 = .ok (.lconst 0, 1) := by decide +kernel
theorem dX12_account_4 : decode cX12_account 4 = .ok (.ldc2_w 363, 3) := by decide +kernel
theorem dX12_account_7 : decode cX12_account 7 = .ok (.invokestatic 112, 3) := by decide +kernel
theorem dX12_account_10 : decode cX12_account 10 = .ok (.ifCond .eq 7, 3) := by decide +kernel
theorem dX12_account_13 : decode cX12_account 13 = .ok (.iconst 0, 1) := by decide +kernel
theorem dX12_account_14 : decode cX12_account 14 = .ok (.goto 4, 3) := by decide +kernel
theorem dX12_account_17 : decode cX12_account 17 = .ok (.iconst 1, 1) := by decide +kernel
theorem dX12_account_18 : decode cX12_account 18 = .ok (.putfield 96, 3) := by decide +kernel
theorem dX12_account_21 : decode cX12_account 21 = .ok (.aload_n 0, 1) := by decide +kernel
theorem dX12_account_22 : decode cX12_account 22 = .ok (.getfield 96, 3) := by decide +kernel
theorem dX12_account_25 : decode cX12_account 25 = .ok (.ifCond .le 5, 3) := by decide +kernel
theorem dX12_account_28 : decode cX12_account 28 = .ok (.iconst 0, 1) := by decide +kernel
theorem dX12_account_29 : decode cX12_account 29 = .ok (.ireturn, 1) := by decide +kernel
theorem dX12_account_30 : decode cX12_account 30 = .ok (.iload_n 1, 1) := by decide +kernel
theorem dX12_account_31 : decode cX12_account 31 = .ok (.tableswitch 95 2 9 #[45, 50, 66, 73, 80, 50, 85, 90], 45) := by decide +kernel
theorem dX12_account_76 : decode cX12_account 76 = .ok (.aload_n 0, 1) := by decide +kernel
theorem dX12_account_77 : decode cX12_account 77 = .ok (.invokevirtual 184, 3) := by decide +kernel
theorem dX12_account_80 : decode cX12_account 80 = .ok (.ireturn, 1) := by decide +kernel
theorem dX12_account_81 : decode cX12_account 81 = .ok (.aload_n 0, 1) := by decide +kernel
theorem dX12_account_82 : decode cX12_account 82 = .ok (.iload_n 1, 1) := by decide +kernel
theorem dX12_account_83 : decode cX12_account 83 = .ok (.bipush 7, 2) := by decide +kernel
theorem dX12_account_85 : decode cX12_account 85 = .ok (.if_icmp .ne 7, 3) := by decide +kernel
theorem dX12_account_88 : decode cX12_account 88 = .ok (.iconst 1, 1) := by decide +kernel
theorem dX12_account_89 : decode cX12_account 89 = .ok (.goto 4, 3) := by decide +kernel
theorem dX12_account_92 : decode cX12_account 92 = .ok (.iconst 0, 1) := by decide +kernel
theorem dX12_account_93 : decode cX12_account 93 = .ok (.invokevirtual 377, 3) := by decide +kernel
theorem dX12_account_96 : decode cX12_account 96 = .ok (.ireturn, 1) := by decide +kernel
theorem dX12_account_97 : decode cX12_account 97 = .ok (.aload_n 0, 1) := by decide +kernel
theorem dX12_account_98 : decode cX12_account 98 = .ok (.getfield 9, 3) := by decide +kernel
theorem dX12_account_101 : decode cX12_account 101 = .ok (.iconst 2, 1) := by decide +kernel
theorem dX12_account_102 : decode cX12_account 102 = .ok (.iaload, 1) := by decide +kernel
theorem dX12_account_103 : decode cX12_account 103 = .ok (.ireturn, 1) := by decide +kernel
theorem dX12_account_104 : decode cX12_account 104 = .ok (.aload_n 0, 1) := by decide +kernel
theorem dX12_account_105 : decode cX12_account 105 = .ok (.getfield 9, 3) := by decide +kernel
theorem dX12_account_108 : decode cX12_account 108 = .ok (.iconst 3, 1) := by decide +kernel
theorem dX12_account_109 : decode cX12_account 109 = .ok (.iaload, 1) := by decide +kernel
theorem dX12_account_110 : decode cX12_account 110 = .ok (.ireturn, 1) := by decide +kernel
theorem dX12_account_111 : decode cX12_account 111 = .ok (.aload_n 0, 1) := by decide +kernel
theorem dX12_account_112 : decode cX12_account 112 = .ok (.getfield 283, 3) := by decide +kernel
theorem dX12_account_115 : decode cX12_account 115 = .ok (.ireturn, 1) := by decide +kernel
theorem dX12_account_116 : decode cX12_account 116 = .ok (.aload_n 0, 1) := by decide +kernel
theorem dX12_account_117 : decode cX12_account 117 = .ok (.getfield 195, 3) := by decide +kernel
theorem dX12_account_120 : decode cX12_account 120 = .ok (.ireturn, 1) := by decide +kernel
theorem dX12_account_121 : decode cX12_account 121 = .ok (.aload_n 0, 1) := by decide +kernel
theorem dX12_account_122 : decode cX12_account 122 = .ok (.getfield 105, 3) := by decide +kernel
theorem dX12_account_125 : decode cX12_account 125 = .ok (.ireturn, 1) := by decide +kernel
theorem dX12_account_126 : decode cX12_account 126 = .ok (.aload_n 0, 1) := by decide +kernel
theorem dX12_account_127 : decode cX12_account 127 = .ok (.getfield 9, 3) := by decide +kernel
theorem dX12_account_130 : decode cX12_account 130 = .ok (.iload_n 1, 1) := by decide +kernel
theorem dX12_account_131 : decode cX12_account 131 = .ok (.iaload, 1) := by decide +kernel
theorem dX12_account_132 : decode cX12_account 132 = .ok (.ireturn, 1) := by decide +kernel
theorem dX12_undo_0 : decode cX12_undo 0 = .ok (.aload_n 0, 1) := by decide +kernel
theorem dX12_undo_1 : decode cX12_undo 1 = .ok (.aload_n 0, 1) := by decide +kernel
theorem dX12_undo_2 : decode cX12_undo 2 = .ok (.getfield 105, 3) := by decide +kernel
theorem dX12_undo_5 : decode cX12_undo 5 = .ok (.ifCond .ne 7, 3) := by decide +kernel
theorem dX12_undo_8 : decode cX12_undo 8 = .ok (.iconst 1, 1) := by decide +kernel
theorem dX12_undo_9 : decode cX12_undo 9 = .ok (.goto 4, 3) := by decide +kernel
theorem dX12_undo_12 : decode cX12_undo 12 = .ok (.iconst 0, 1) := by decide +kernel
theorem dX12_undo_13 : decode cX12_undo 13 = .ok (.putfield 96, 3) := by decide +kernel
theorem dX12_undo_16 : decode cX12_undo 16 = .ok (.aload_n 0, 1) := by decide +kernel
theorem dX12_undo_17 : decode cX12_undo 17 = .ok (.getfield 96, 3) := by decide +kernel
theorem dX12_undo_20 : decode cX12_undo 20 = .ok (.ifCond .le 5, 3) := by decide +kernel
theorem dX12_undo_23 : decode cX12_undo 23 = .ok (.iconst 0, 1) := by decide +kernel
theorem dX12_undo_24 : decode cX12_undo 24 = .ok (.ireturn, 1) := by decide +kernel
theorem dX12_undo_25 : decode cX12_undo 25 = .ok (.aload_n 0, 1) := by decide +kernel
theorem dX12_undo_26 : decode cX12_undo 26 = .ok (.dup, 1) := by decide +kernel
theorem dX12_undo_27 : decode cX12_undo 27 = .ok (.getfield 105, 3) := by decide +kernel
theorem dX12_undo_30 : decode cX12_undo 30 = .ok (.iconst 1, 1) := by decide +kernel
theorem dX12_undo_31 : decode cX12_undo 31 = .ok (.isub, 1) := by decide +kernel
theorem dX12_undo_32 : decode cX12_undo 32 = .ok (.putfield 105, 3) := by decide +kernel
theorem dX12_undo_35 : decode cX12_undo 35 = .ok (.aload_n 0, 1) := by decide +kernel
theorem dX12_undo_36 : decode cX12_undo 36 = .ok (.getfield 35, 3) := by decide +kernel
theorem dX12_undo_39 : decode cX12_undo 39 = .ok (.sipush 282, 3) := by decide +kernel
theorem dX12_undo_42 : decode cX12_undo 42 = .ok (.aload_n 0, 1) := by decide +kernel
theorem dX12_undo_43 : decode cX12_undo 43 = .ok (.getfield 105, 3) := by decide +kernel
theorem dX12_undo_46 : decode cX12_undo 46 = .ok (.imul, 1) := by decide +kernel
theorem dX12_undo_47 : decode cX12_undo 47 = .ok (.aload_n 0, 1) := by decide +kernel
theorem dX12_undo_48 : decode cX12_undo 48 = .ok (.getfield 9, 3) := by decide +kernel
theorem dX12_undo_51 : decode cX12_undo 51 = .ok (.iconst 0, 1) := by decide +kernel
theorem dX12_undo_52 : decode cX12_undo 52 = .ok (.sipush 282, 3) := by decide +kernel
theorem dX12_undo_55 : decode cX12_undo 55 = .ok (.invokestatic 99, 3) := by decide +kernel
theorem dX12_undo_58 : decode cX12_undo 58 = .ok (.aload_n 0, 1) := by decide +kernel
theorem dX12_undo_59 : decode cX12_undo 59 = .ok (.getfield 38, 3) := by decide +kernel
theorem dX12_undo_62 : decode cX12_undo 62 = .ok (.bipush 6, 2) := by decide +kernel
theorem dX12_undo_64 : decode cX12_undo 64 = .ok (.aload_n 0, 1) := by decide +kernel
theorem dX12_undo_65 : decode cX12_undo 65 = .ok (.getfield 105, 3) := by decide +kernel
theorem dX12_undo_68 : decode cX12_undo 68 = .ok (.imul, 1) := by decide +kernel
theorem dX12_undo_69 : decode cX12_undo 69 = .ok (.aload_n 0, 1) := by decide +kernel
theorem dX12_undo_70 : decode cX12_undo 70 = .ok (.getfield 13, 3) := by decide +kernel
theorem dX12_undo_73 : decode cX12_undo 73 = .ok (.iconst 0, 1) := by decide +kernel
theorem dX12_undo_74 : decode cX12_undo 74 = .ok (.bipush 6, 2) := by decide +kernel
theorem dX12_undo_76 : decode cX12_undo 76 = .ok (.invokestatic 99, 3) := by decide +kernel
theorem dX12_undo_79 : decode cX12_undo 79 = .ok (.aload_n 0, 1) := by decide +kernel
theorem dX12_undo_80 : decode cX12_undo 80 = .ok (.getfield 105, 3) := by decide +kernel
theorem dX12_undo_83 : decode cX12_undo 83 = .ok (.ireturn, 1) := by decide +kernel
theorem dX12_save_0 : decode cX12_save 0 = .ok (.aload_n 0, 1) := by decide +kernel
theorem dX12_save_1 : decode cX12_save 1 = .ok (.iconst 0, 1) := by decide +kernel
theorem dX12_save_2 : decode cX12_save 2 = .ok (.putfield 96, 3) := by decide +kernel
theorem dX12_save_5 : decode cX12_save 5 = .ok (.aload_n 0, 1) := by decide +kernel
theorem dX12_save_6 : decode cX12_save 6 = .ok (.getfield 9, 3) := by decide +kernel
theorem dX12_save_9 : decode cX12_save 9 = .ok (.iconst 0, 1) := by decide +kernel
theorem dX12_save_10 : decode cX12_save 10 = .ok (.aload_n 0, 1) := by decide +kernel
theorem dX12_save_11 : decode cX12_save 11 = .ok (.getfield 29, 3) := by decide +kernel
theorem dX12_save_14 : decode cX12_save 14 = .ok (.iconst 0, 1) := by decide +kernel
theorem dX12_save_15 : decode cX12_save 15 = .ok (.sipush 282, 3) := by decide +kernel
theorem dX12_save_18 : decode cX12_save 18 = .ok (.invokestatic 99, 3) := by decide +kernel
theorem dX12_save_21 : decode cX12_save 21 = .ok (.aload_n 0, 1) := by decide +kernel
theorem dX12_save_22 : decode cX12_save 22 = .ok (.getfield 13, 3) := by decide +kernel
theorem dX12_save_25 : decode cX12_save 25 = .ok (.iconst 0, 1) := by decide +kernel
theorem dX12_save_26 : decode cX12_save 26 = .ok (.aload_n 0, 1) := by decide +kernel
theorem dX12_save_27 : decode cX12_save 27 = .ok (.getfield 32, 3) := by decide +kernel
theorem dX12_save_30 : decode cX12_save 30 = .ok (.iconst 0, 1) := by decide +kernel
theorem dX12_save_31 : decode cX12_save 31 = .ok (.bipush 6, 2) := by decide +kernel
theorem dX12_save_33 : decode cX12_save 33 = .ok (.invokestatic 99, 3) := by decide +kernel
theorem dX12_save_36 : decode cX12_save 36 = .ok (.aload_n 0, 1) := by decide +kernel
theorem dX12_save_37 : decode cX12_save 37 = .ok (.iconst 1, 1) := by decide +kernel
theorem dX12_save_38 : decode cX12_save 38 = .ok (.putfield 381, 3) := by decide +kernel
theorem dX12_save_41 : decode cX12_save 41 = .ok (.aload_n 0, 1) := by decide +kernel
theorem dX12_save_42 : decode cX12_save 42 = .ok (.getfield 9, 3) := by decide +kernel
theorem dX12_save_45 : decode cX12_save 45 = .ok (.iconst 1, 1) := by decide +kernel
theorem dX12_save_46 : decode cX12_save 46 = .ok (.iaload, 1) := by decide +kernel
theorem dX12_save_47 : decode cX12_save 47 = .ok (.ireturn, 1) := by decide +kernel
theorem dX12_restore_0 : decode cX12_restore 0 = .ok (.aload_n 0, 1) := by decide +kernel
theorem dX12_restore_1 : decode cX12_restore 1 = .ok (.aload_n 0, 1) := by decide +kernel
theorem dX12_restore_2 : decode cX12_restore 2 = .ok (.getfield 381, 3) := by decide +kernel
theorem dX12_restore_5 : decode cX12_restore 5 = .ok (.ifCond .eq 7, 3) := by decide +kernel
theorem dX12_restore_8 : decode cX12_restore 8 = .ok (.iconst 0, 1) := by decide +kernel
theorem dX12_restore_9 : decode cX12_restore 9 = .ok (.goto 4, 3) := by decide +kernel
theorem dX12_restore_12 : decode cX12_restore 12 = .ok (.iconst 1, 1) := by decide +kernel
theorem dX12_restore_13 : decode cX12_restore 13 = .ok (.putfield 96, 3) := by decide +kernel
theorem dX12_restore_16 : decode cX12_restore 16 = .ok (.aload_n 0, 1) := by decide +kernel
theorem dX12_restore_17 : decode cX12_restore 17 = .ok (.getfield 96, 3) := by decide +kernel
theorem dX12_restore_20 : decode cX12_restore 20 = .ok (.ifCond .le 5, 3) := by decide +kernel
theorem dX12_restore_23 : decode cX12_restore 23 = .ok (.iconst 0, 1) := by decide +kernel
theorem dX12_restore_24 : decode cX12_restore 24 = .ok (.ireturn, 1) := by decide +kernel
theorem dX12_restore_25 : decode cX12_restore 25 = .ok (.aload_n 0, 1) := by decide +kernel
theorem dX12_restore_26 : decode cX12_restore 26 = .ok (.getfield 29, 3) := by decide +kernel
theorem dX12_restore_29 : decode cX12_restore 29 = .ok (.iconst 0, 1) := by decide +kernel
theorem dX12_restore_30 : decode cX12_restore 30 = .ok (.aload_n 0, 1) := by decide +kernel
theorem dX12_restore_31 : decode cX12_restore 31 = .ok (.getfield 9, 3) := by decide +kernel
theorem dX12_restore_34 : decode cX12_restore 34 = .ok (.iconst 0, 1) := by decide +kernel
theorem dX12_restore_35 : decode cX12_restore 35 = .ok (.sipush 282, 3) := by decide +kernel
theorem dX12_restore_38 : decode cX12_restore 38 = .ok (.invokestatic 99, 3) := by decide +kernel
theorem dX12_restore_41 : decode cX12_restore 41 = .ok (.aload_n 0, 1) := by decide +kernel
theorem dX12_restore_42 : decode cX12_restore 42 = .ok (.getfield 32, 3) := by decide +kernel
theorem dX12_restore_45 : decode cX12_restore 45 = .ok (.iconst 0, 1) := by decide +kernel
theorem dX12_restore_46 : decode cX12_restore 46 = .ok (.aload_n 0, 1) := by decide +kernel
theorem dX12_restore_47 : decode cX12_restore 47 = .ok (.getfield 13, 3) := by decide +kernel
theorem dX12_restore_50 : decode cX12_restore 50 = .ok (.iconst 0, 1) := by decide +kernel
theorem dX12_restore_51 : decode cX12_restore 51 = .ok (.bipush 6, 2) := by decide +kernel
theorem dX12_restore_53 : decode cX12_restore 53 = .ok (.invokestatic 99, 3) := by decide +kernel
theorem dX12_restore_56 : decode cX12_restore 56 = .ok (.aload_n 0, 1) := by decide +kernel
theorem dX12_restore_57 : decode cX12_restore 57 = .ok (.iconst 0, 1) := by decide +kernel
theorem dX12_restore_58 : decode cX12_restore 58 = .ok (.putfield 105, 3) := by decide +kernel
theorem dX12_restore_61 : decode cX12_restore 61 = .ok (.aload_n 0, 1) := by decide +kernel
theorem dX12_restore_62 : decode cX12_restore 62 = .ok (.getfield 9, 3) := by decide +kernel
theorem dX12_restore_65 : decode cX12_restore 65 = .ok (.iconst 1, 1) := by decide +kernel
theorem dX12_restore_66 : decode cX12_restore 66 = .ok (.iaload, 1) := by decide +kernel
theorem dX12_restore_67 : decode cX12_restore 67 = .ok (.ireturn, 1) := by decide +kernel
