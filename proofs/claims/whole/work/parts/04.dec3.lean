theorem dX12_factOf_42 : decode cX12_factOf 42 = .ok (.iload_n 2, 1) := by decide +kernel
theorem dX12_factOf_43 : decode cX12_factOf 43 = .ok (.iaload, 1) := by decide +kernel
theorem dX12_factOf_44 : decode cX12_factOf 44 = .ok (.ireturn, 1) := by decide +kernel
theorem dX12_factOf_45 : decode cX12_factOf 45 = .ok (.aload_n 0, 1) := by decide +kernel
theorem dX12_factOf_46 : decode cX12_factOf 46 = .ok (.getfield 26, 3) := by decide +kernel
theorem dX12_factOf_49 : decode cX12_factOf 49 = .ok (.iload_n 2, 1) := by decide +kernel
theorem dX12_factOf_50 : decode cX12_factOf 50 = .ok (.iaload, 1) := by decide +kernel
theorem dX12_factOf_51 : decode cX12_factOf 51 = .ok (.ireturn, 1) := by decide +kernel
theorem dX12_factOf_52 : decode cX12_factOf 52 = .ok (.aload_n 0, 1) := by decide +kernel
theorem dX12_factOf_53 : decode cX12_factOf 53 = .ok (.iload_n 3, 1) := by decide +kernel
theorem dX12_factOf_54 : decode cX12_factOf 54 = .ok (.invokevirtual 267, 3) := by decide +kernel
theorem dX12_factOf_57 : decode cX12_factOf 57 = .ok (.ireturn, 1) := by decide +kernel
theorem dX12_factOf_58 : decode cX12_factOf 58 = .ok (.aload_n 0, 1) := by decide +kernel
theorem dX12_factOf_59 : decode cX12_factOf 59 = .ok (.getfield 29, 3) := by decide +kernel
theorem dX12_factOf_62 : decode cX12_factOf 62 = .ok (.iload_n 2, 1) := by decide +kernel
theorem dX12_factOf_63 : decode cX12_factOf 63 = .ok (.iaload, 1) := by decide +kernel
theorem dX12_factOf_64 : decode cX12_factOf 64 = .ok (.bipush 10, 2) := by decide +kernel
theorem dX12_factOf_66 : decode cX12_factOf 66 = .ok (.irem, 1) := by decide +kernel
theorem dX12_factOf_67 : decode cX12_factOf 67 = .ok (.ireturn, 1) := by decide +kernel
theorem dX12_factOf_68 : decode cX12_factOf 68 = .ok (.aload_n 0, 1) := by decide +kernel
theorem dX12_factOf_69 : decode cX12_factOf 69 = .ok (.getfield 16, 3) := by decide +kernel
theorem dX12_factOf_72 : decode cX12_factOf 72 = .ok (.bipush 24, 2) := by decide +kernel
theorem dX12_factOf_74 : decode cX12_factOf 74 = .ok (.irem, 1) := by decide +kernel
theorem dX12_factOf_75 : decode cX12_factOf 75 = .ok (.ireturn, 1) := by decide +kernel
theorem dX12_holds_0 : decode cX12_holds 0 = .ok (.iconst 0, 1) := by decide +kernel
theorem dX12_holds_1 : decode cX12_holds 1 = .ok (.istore 4, 2) := by decide +kernel
theorem dX12_holds_3 : decode cX12_holds 3 = .ok (.aload_n 0, 1) := by decide +kernel
theorem dX12_holds_4 : decode cX12_holds 4 = .ok (.getfield 62, 3) := by decide +kernel
theorem dX12_holds_7 : decode cX12_holds 7 = .ok (.iload_n 1, 1) := by decide +kernel
theorem dX12_holds_8 : decode cX12_holds 8 = .ok (.iaload, 1) := by decide +kernel
theorem dX12_holds_9 : decode cX12_holds 9 = .ok (.istore 5, 2) := by decide +kernel
theorem dX12_holds_11 : decode cX12_holds 11 = .ok (.iload 5, 2) := by decide +kernel
theorem dX12_holds_13 : decode cX12_holds 13 = .ok (.aload_n 0, 1) := by decide +kernel
theorem dX12_holds_14 : decode cX12_holds 14 = .ok (.getfield 65, 3) := by decide +kernel
theorem dX12_holds_17 : decode cX12_holds 17 = .ok (.iload_n 1, 1) := by decide +kernel
theorem dX12_holds_18 : decode cX12_holds 18 = .ok (.iaload, 1) := by decide +kernel
theorem dX12_holds_19 : decode cX12_holds 19 = .ok (.if_icmp .ge 234, 3) := by decide +kernel
theorem dX12_holds_22 : decode cX12_holds 22 = .ok (.aload_n 0, 1) := by decide +kernel
theorem dX12_holds_23 : decode cX12_holds 23 = .ok (.getfield 68, 3) := by decide +kernel
theorem dX12_holds_26 : decode cX12_holds 26 = .ok (.iload 5, 2) := by decide +kernel
theorem dX12_holds_28 : decode cX12_holds 28 = .ok (.iaload, 1) := by decide +kernel
theorem dX12_holds_29 : decode cX12_holds 29 = .ok (.istore 6, 2) := by decide +kernel
theorem dX12_holds_31 : decode cX12_holds 31 = .ok (.iload 6, 2) := by decide +kernel
theorem dX12_holds_33 : decode cX12_holds 33 = .ok (.bipush (-33), 2) := by decide +kernel
theorem dX12_holds_35 : decode cX12_holds 35 = .ok (.if_icmp .ne 32, 3) := by decide +kernel
theorem dX12_holds_38 : decode cX12_holds 38 = .ok (.aload_n 0, 1) := by decide +kernel
theorem dX12_holds_39 : decode cX12_holds 39 = .ok (.getfield 86, 3) := by decide +kernel
theorem dX12_holds_42 : decode cX12_holds 42 = .ok (.iload 4, 2) := by decide +kernel
theorem dX12_holds_44 : decode cX12_holds 44 = .ok (.iconst 1, 1) := by decide +kernel
theorem dX12_holds_45 : decode cX12_holds 45 = .ok (.isub, 1) := by decide +kernel
theorem dX12_holds_46 : decode cX12_holds 46 = .ok (.aload_n 0, 1) := by decide +kernel
theorem dX12_holds_47 : decode cX12_holds 47 = .ok (.getfield 86, 3) := by decide +kernel
theorem dX12_holds_50 : decode cX12_holds 50 = .ok (.iload 4, 2) := by decide +kernel
theorem dX12_holds_52 : decode cX12_holds 52 = .ok (.iconst 1, 1) := by decide +kernel
theorem dX12_holds_53 : decode cX12_holds 53 = .ok (.isub, 1) := by decide +kernel
theorem dX12_holds_54 : decode cX12_holds 54 = .ok (.baload, 1) := by decide +kernel
theorem dX12_holds_55 : decode cX12_holds 55 = .ok (.ifCond .ne 7, 3) := by decide +kernel
theorem dX12_holds_58 : decode cX12_holds 58 = .ok (.iconst 1, 1) := by decide +kernel
theorem dX12_holds_59 : decode cX12_holds 59 = .ok (.goto 4, 3) := by decide +kernel
theorem dX12_holds_62 : decode cX12_holds 62 = .ok (.iconst 0, 1) := by decide +kernel
theorem dX12_holds_63 : decode cX12_holds 63 = .ok (.bastore, 1) := by decide +kernel
theorem dX12_holds_64 : decode cX12_holds 64 = .ok (.goto 183, 3) := by decide +kernel
theorem dX12_holds_67 : decode cX12_holds 67 = .ok (.iload 6, 2) := by decide +kernel
theorem dX12_holds_69 : decode cX12_holds 69 = .ok (.ifCond .ge 82, 3) := by decide +kernel
theorem dX12_holds_72 : decode cX12_holds 72 = .ok (.iinc 4 (-1), 3) := by decide +kernel
theorem dX12_holds_75 : decode cX12_holds 75 = .ok (.aload_n 0, 1) := by decide +kernel
theorem dX12_holds_76 : decode cX12_holds 76 = .ok (.getfield 86, 3) := by decide +kernel
theorem dX12_holds_79 : decode cX12_holds 79 = .ok (.iload 4, 2) := by decide +kernel
theorem dX12_holds_81 : decode cX12_holds 81 = .ok (.iconst 1, 1) := by decide +kernel
theorem dX12_holds_82 : decode cX12_holds 82 = .ok (.isub, 1) := by decide +kernel
theorem dX12_holds_83 : decode cX12_holds 83 = .ok (.iload 6, 2) := by decide +kernel
theorem dX12_holds_85 : decode cX12_holds 85 = .ok (.bipush (-38), 2) := by decide +kernel
theorem dX12_holds_87 : decode cX12_holds 87 = .ok (.if_icmp .ne 33, 3) := by decide +kernel
theorem dX12_holds_90 : decode cX12_holds 90 = .ok (.aload_n 0, 1) := by decide +kernel
theorem dX12_holds_91 : decode cX12_holds 91 = .ok (.getfield 86, 3) := by decide +kernel
theorem dX12_holds_94 : decode cX12_holds 94 = .ok (.iload 4, 2) := by decide +kernel
theorem dX12_holds_96 : decode cX12_holds 96 = .ok (.iconst 1, 1) := by decide +kernel
theorem dX12_holds_97 : decode cX12_holds 97 = .ok (.isub, 1) := by decide +kernel
theorem dX12_holds_98 : decode cX12_holds 98 = .ok (.baload, 1) := by decide +kernel
theorem dX12_holds_99 : decode cX12_holds 99 = .ok (.ifCond .eq 17, 3) := by decide +kernel
theorem dX12_holds_102 : decode cX12_holds 102 = .ok (.aload_n 0, 1) := by decide +kernel
theorem dX12_holds_103 : decode cX12_holds 103 = .ok (.getfield 86, 3) := by decide +kernel
theorem dX12_holds_106 : decode cX12_holds 106 = .ok (.iload 4, 2) := by decide +kernel
theorem dX12_holds_108 : decode cX12_holds 108 = .ok (.baload, 1) := by decide +kernel
theorem dX12_holds_109 : decode cX12_holds 109 = .ok (.ifCond .eq 7, 3) := by decide +kernel
theorem dX12_holds_112 : decode cX12_holds 112 = .ok (.iconst 1, 1) := by decide +kernel
theorem dX12_holds_113 : decode cX12_holds 113 = .ok (.goto 34, 3) := by decide +kernel
theorem dX12_holds_116 : decode cX12_holds 116 = .ok (.iconst 0, 1) := by decide +kernel
theorem dX12_holds_117 : decode cX12_holds 117 = .ok (.goto 30, 3) := by decide +kernel
theorem dX12_holds_120 : decode cX12_holds 120 = .ok (.aload_n 0, 1) := by decide +kernel
theorem dX12_holds_121 : decode cX12_holds 121 = .ok (.getfield 86, 3) := by decide +kernel
theorem dX12_holds_124 : decode cX12_holds 124 = .ok (.iload 4, 2) := by decide +kernel
theorem dX12_holds_126 : decode cX12_holds 126 = .ok (.iconst 1, 1) := by decide +kernel
theorem dX12_holds_127 : decode cX12_holds 127 = .ok (.isub, 1) := by decide +kernel
theorem dX12_holds_128 : decode cX12_holds 128 = .ok (.baload, 1) := by decide +kernel
theorem dX12_holds_129 : decode cX12_holds 129 = .ok (.ifCond .ne 13, 3) := by decide +kernel
theorem dX12_holds_132 : decode cX12_holds 132 = .ok (.aload_n 0, 1) := by decide +kernel
theorem dX12_holds_133 : decode cX12_holds 133 = .ok (.getfield 86, 3) := by decide +kernel
theorem dX12_holds_136 : decode cX12_holds 136 = .ok (.iload 4, 2) := by decide +kernel
theorem dX12_holds_138 : decode cX12_holds 138 = .ok (.baload, 1) := by decide +kernel
theorem dX12_holds_139 : decode cX12_holds 139 = .ok (.ifCond .eq 7, 3) := by decide +kernel
theorem dX12_holds_142 : decode cX12_holds 142 = .ok (.iconst 1, 1) := by decide +kernel
theorem dX12_holds_143 : decode cX12_holds 143 = .ok (.goto 4, 3) := by decide +kernel
theorem dX12_holds_146 : decode cX12_holds 146 = .ok (.iconst 0, 1) := by decide +kernel
theorem dX12_holds_147 : decode cX12_holds 147 = .ok (.bastore, 1) := by decide +kernel
theorem dX12_holds_148 : decode cX12_holds 148 = .ok (.goto 99, 3) := by decide +kernel
theorem dX12_holds_151 : decode cX12_holds 151 = .ok (.aload_n 0, 1) := by decide +kernel
theorem dX12_holds_152 : decode cX12_holds 152 = .ok (.iload 6, 2) := by decide +kernel
theorem dX12_holds_154 : decode cX12_holds 154 = .ok (.sipush 1000, 3) := by decide +kernel
theorem dX12_holds_157 : decode cX12_holds 157 = .ok (.idiv, 1) := by decide +kernel
theorem dX12_holds_158 : decode cX12_holds 158 = .ok (.iload_n 2, 1) := by decide +kernel
theorem dX12_holds_159 : decode cX12_holds 159 = .ok (.iload_n 3, 1) := by decide +kernel
theorem dX12_holds_160 : decode cX12_holds 160 = .ok (.invokevirtual 270, 3) := by decide +kernel
theorem dX12_holds_163 : decode cX12_holds 163 = .ok (.istore 7, 2) := by decide +kernel
theorem dX12_holds_165 : decode cX12_holds 165 = .ok (.iload 6, 2) := by decide +kernel
theorem dX12_holds_167 : decode cX12_holds 167 = .ok (.bipush 100, 2) := by decide +kernel
theorem dX12_holds_169 : decode cX12_holds 169 = .ok (.idiv, 1) := by decide +kernel
theorem dX12_holds_170 : decode cX12_holds 170 = .ok (.bipush 10, 2) := by decide +kernel
theorem dX12_holds_172 : decode cX12_holds 172 = .ok (.irem, 1) := by decide +kernel
theorem dX12_holds_173 : decode cX12_holds 173 = .ok (.istore 8, 2) := by decide +kernel
theorem dX12_holds_175 : decode cX12_holds 175 = .ok (.aload_n 0, 1) := by decide +kernel
theorem dX12_holds_176 : decode cX12_holds 176 = .ok (.getfield 86, 3) := by decide +kernel
theorem dX12_holds_179 : decode cX12_holds 179 = .ok (.iload 4, 2) := by decide +kernel
theorem dX12_holds_181 : decode cX12_holds 181 = .ok (.iload 8, 2) := by decide +kernel
theorem dX12_holds_183 : decode cX12_holds 183 = .ok (.ifCond .ne 21, 3) := by decide +kernel
theorem dX12_holds_186 : decode cX12_holds 186 = .ok (.iload 7, 2) := by decide +kernel
theorem dX12_holds_188 : decode cX12_holds 188 = .ok (.iload 6, 2) := by decide +kernel
theorem dX12_holds_190 : decode cX12_holds 190 = .ok (.bipush 100, 2) := by decide +kernel
theorem dX12_holds_192 : decode cX12_holds 192 = .ok (.irem, 1) := by decide +kernel
theorem dX12_holds_193 : decode cX12_holds 193 = .ok (.if_icmp .ge 7, 3) := by decide +kernel
theorem dX12_holds_196 : decode cX12_holds 196 = .ok (.iconst 1, 1) := by decide +kernel
theorem dX12_holds_197 : decode cX12_holds 197 = .ok (.goto 46, 3) := by decide +kernel
theorem dX12_holds_200 : decode cX12_holds 200 = .ok (.iconst 0, 1) := by decide +kernel
theorem dX12_holds_201 : decode cX12_holds 201 = .ok (.goto 42, 3) := by decide +kernel
theorem dX12_holds_204 : decode cX12_holds 204 = .ok (.iload 8, 2) := by decide +kernel
theorem dX12_holds_206 : decode cX12_holds 206 = .ok (.iconst 1, 1) := by decide +kernel
theorem dX12_holds_207 : decode cX12_holds 207 = .ok (.if_icmp .ne 21, 3) := by decide +kernel
theorem dX12_holds_210 : decode cX12_holds 210 = .ok (.iload 7, 2) := by decide +kernel
theorem dX12_holds_212 : decode cX12_holds 212 = .ok (.iload 6, 2) := by decide +kernel
theorem dX12_holds_214 : decode cX12_holds 214 = .ok (.bipush 100, 2) := by decide +kernel
theorem dX12_holds_216 : decode cX12_holds 216 = .ok (.irem, 1) := by decide +kernel
theorem dX12_holds_217 : decode cX12_holds 217 = .ok (.if_icmp .ne 7, 3) := by decide +kernel
theorem dX12_holds_220 : decode cX12_holds 220 = .ok (.iconst 1, 1) := by decide +kernel
theorem dX12_holds_221 : decode cX12_holds 221 = .ok (.goto 22, 3) := by decide +kernel
theorem dX12_holds_224 : decode cX12_holds 224 = .ok (.iconst 0, 1) := by decide +kernel
theorem dX12_holds_225 : decode cX12_holds 225 = .ok (.goto 18, 3) := by decide +kernel
theorem dX12_holds_228 : decode cX12_holds 228 = .ok (.iload 7, 2) := by decide +kernel
theorem dX12_holds_230 : decode cX12_holds 230 = .ok (.iload 6, 2) := by decide +kernel
theorem dX12_holds_232 : decode cX12_holds 232 = .ok (.bipush 100, 2) := by decide +kernel
theorem dX12_holds_234 : decode cX12_holds 234 = .ok (.irem, 1) := by decide +kernel
theorem dX12_holds_235 : decode cX12_holds 235 = .ok (.if_icmp .le 7, 3) := by decide +kernel
theorem dX12_holds_238 : decode cX12_holds 238 = .ok (.iconst 1, 1) := by decide +kernel
theorem dX12_holds_239 : decode cX12_holds 239 = .ok (.goto 4, 3) := by decide +kernel
theorem dX12_holds_242 : decode cX12_holds 242 = .ok (.iconst 0, 1) := by decide +kernel
theorem dX12_holds_243 : decode cX12_holds 243 = .ok (.bastore, 1) := by decide +kernel
theorem dX12_holds_244 : decode cX12_holds 244 = .ok (.iinc 4 1, 3) := by decide +kernel
theorem dX12_holds_247 : decode cX12_holds 247 = .ok (.iinc 5 1, 3) := by decide +kernel
theorem dX12_holds_250 : decode cX12_holds 250 = .ok (.goto (-239), 3) := by decide +kernel
theorem dX12_holds_253 : decode cX12_holds 253 = .ok (.aload_n 0, 1) := by decide +kernel
theorem dX12_holds_254 : decode cX12_holds 254 = .ok (.getfield 86, 3) := by decide +kernel
theorem dX12_holds_257 : decode cX12_holds 257 = .ok (.iconst 0, 1) := by decide +kernel
theorem dX12_holds_258 : decode cX12_holds 258 = .ok (.baload, 1) := by decide +kernel
theorem dX12_holds_259 : decode cX12_holds 259 = .ok (.ireturn, 1) := by decide +kernel
theorem dX12_turned_0 : decode cX12_turned 0 = .ok (.iload_n 2, 1) := by decide +kernel
theorem dX12_turned_1 : decode cX12_turned 1 = .ok (.bipush 10, 2) := by decide +kernel
theorem dX12_turned_3 : decode cX12_turned 3 = .ok (.irem, 1) := by decide +kernel
theorem dX12_turned_4 : decode cX12_turned 4 = .ok (.istore_n 3, 1) := by decide +kernel
theorem dX12_turned_5 : decode cX12_turned 5 = .ok (.iload_n 1, 1) := by decide +kernel
theorem dX12_turned_6 : decode cX12_turned 6 = .ok (.iload_n 3, 1) := by decide +kernel
theorem dX12_turned_7 : decode cX12_turned 7 = .ok (.ishl, 1) := by decide +kernel
theorem dX12_turned_8 : decode cX12_turned 8 = .ok (.iload_n 1, 1) := by decide +kernel
theorem dX12_turned_9 : decode cX12_turned 9 = .ok (.bipush 10, 2) := by decide +kernel
theorem dX12_turned_11 : decode cX12_turned 11 = .ok (.iload_n 3, 1) := by decide +kernel
theorem dX12_turned_12 : decode cX12_turned 12 = .ok (.isub, 1) := by decide +kernel
theorem dX12_turned_13 : decode cX12_turned 13 = .ok (.ishr, 1) := by decide +kernel
theorem dX12_turned_14 : decode cX12_turned 14 = .ok (.ior, 1) := by decide +kernel
theorem dX12_turned_15 : decode cX12_turned 15 = .ok (.sipush 1023, 3) := by decide +kernel
theorem dX12_turned_18 : decode cX12_turned 18 = .ok (.iand, 1) := by decide +kernel
theorem dX12_turned_19 : decode cX12_turned 19 = .ok (.ireturn, 1) := by decide +kernel
theorem dX12_mirrored_0 : decode cX12_mirrored 0 = .ok (.iconst 0, 1) := by decide +kernel
theorem dX12_mirrored_1 : decode cX12_mirrored 1 = .ok (.istore_n 2, 1) := by decide +kernel
theorem dX12_mirrored_2 : decode cX12_mirrored 2 = .ok (.iconst 0, 1) := by decide +kernel
theorem dX12_mirrored_3 : decode cX12_mirrored 3 = .ok (.istore_n 3, 1) := by decide +kernel
theorem dX12_mirrored_4 : decode cX12_mirrored 4 = .ok (.iload_n 3, 1) := by decide +kernel
theorem dX12_mirrored_5 : decode cX12_mirrored 5 = .ok (.bipush 10, 2) := by decide +kernel
theorem dX12_mirrored_7 : decode cX12_mirrored 7 = .ok (.if_icmp .ge 31, 3) := by decide +kernel
theorem dX12_mirrored_10 : decode cX12_mirrored 10 = .ok (.iload_n 2, 1) := by decide +kernel
theorem dX12_mirrored_11 : decode cX12_mirrored 11 = .ok (.aload_n 0, 1) := by decide +kernel
theorem dX12_mirrored_12 : decode cX12_mirrored 12 = .ok (.iload_n 1, 1) := by decide +kernel
theorem dX12_mirrored_13 : decode cX12_mirrored 13 = .ok (.bipush 9, 2) := by decide +kernel
theorem dX12_mirrored_15 : decode cX12_mirrored 15 = .ok (.iload_n 3, 1) := by decide +kernel
theorem dX12_mirrored_16 : decode cX12_mirrored 16 = .ok (.isub, 1) := by decide +kernel
theorem dX12_mirrored_17 : decode cX12_mirrored 17 = .ok (.invokevirtual 197, 3) := by decide +kernel
theorem dX12_mirrored_20 : decode cX12_mirrored 20 = .ok (.ifCond .eq 9, 3) := by decide +kernel
theorem dX12_mirrored_23 : decode cX12_mirrored 23 = .ok (.iconst 1, 1) := by decide +kernel
theorem dX12_mirrored_24 : decode cX12_mirrored 24 = .ok (.iload_n 3, 1) := by decide +kernel
theorem dX12_mirrored_25 : decode cX12_mirrored 25 = .ok (.ishl, 1) := by decide +kernel
theorem dX12_mirrored_26 : decode cX12_mirrored 26 = .ok (.goto 4, 3) := by decide +kernel
theorem dX12_mirrored_29 : decode cX12_mirrored 29 = .ok (.iconst 0, 1) := by decide +kernel
theorem dX12_mirrored_30 : decode cX12_mirrored 30 = .ok (.ior, 1) := by decide +kernel
theorem dX12_mirrored_31 : decode cX12_mirrored 31 = .ok (.istore_n 2, 1) := by decide +kernel
theorem dX12_mirrored_32 : decode cX12_mirrored 32 = .ok (.iinc 3 1, 3) := by decide +kernel
theorem dX12_mirrored_35 : decode cX12_mirrored 35 = .ok (.goto (-31), 3) := by decide +kernel
theorem dX12_mirrored_38 : decode cX12_mirrored 38 = .ok (.iload_n 2, 1) := by decide +kernel
theorem dX12_mirrored_39 : decode cX12_mirrored 39 = .ok (.ireturn, 1) := by decide +kernel
theorem dX12_blind_0 : decode cX12_blind 0 = .ok (.iload_n 2, 1) := by decide +kernel
theorem dX12_blind_1 : decode cX12_blind 1 = .ok (.istore_n 3, 1) := by decide +kernel
theorem dX12_blind_2 : decode cX12_blind 2 = .ok (.aload_n 0, 1) := by decide +kernel
theorem dX12_blind_3 : decode cX12_blind 3 = .ok (.invokevirtual 261, 3) := by decide +kernel
theorem dX12_blind_6 : decode cX12_blind 6 = .ok (.istore 4, 2) := by decide +kernel
theorem dX12_blind_8 : decode cX12_blind 8 = .ok (.iload 4, 2) := by decide +kernel
theorem dX12_blind_10 : decode cX12_blind 10 = .ok (.aload_n 0, 1) := by decide +kernel
theorem dX12_blind_11 : decode cX12_blind 11 = .ok (.invokevirtual 264, 3) := by decide +kernel
theorem dX12_blind_14 : decode cX12_blind 14 = .ok (.if_icmp .ge 98, 3) := by decide +kernel
theorem dX12_blind_17 : decode cX12_blind 17 = .ok (.aload_n 0, 1) := by decide +kernel
theorem dX12_blind_18 : decode cX12_blind 18 = .ok (.getfield 56, 3) := by decide +kernel
theorem dX12_blind_21 : decode cX12_blind 21 = .ok (.iload 4, 2) := by decide +kernel
theorem dX12_blind_23 : decode cX12_blind 23 = .ok (.iaload, 1) := by decide +kernel
theorem dX12_blind_24 : decode cX12_blind 24 = .ok (.iconst 3, 1) := by decide +kernel
theorem dX12_blind_25 : decode cX12_blind 25 = .ok (.if_icmp .eq 81, 3) := by decide +kernel
theorem dX12_blind_28 : decode cX12_blind 28 = .ok (.aload_n 0, 1) := by decide +kernel
theorem dX12_blind_29 : decode cX12_blind 29 = .ok (.iload 4, 2) := by decide +kernel
theorem dX12_blind_31 : decode cX12_blind 31 = .ok (.iload_n 1, 1) := by decide +kernel
theorem dX12_blind_32 : decode cX12_blind 32 = .ok (.iload_n 2, 1) := by decide +kernel
theorem dX12_blind_33 : decode cX12_blind 33 = .ok (.invokevirtual 274, 3) := by decide +kernel
theorem dX12_blind_36 : decode cX12_blind 36 = .ok (.ifCond .ne 6, 3) := by decide +kernel
theorem dX12_blind_39 : decode cX12_blind 39 = .ok (.goto 67, 3) := by decide +kernel
theorem dX12_blind_42 : decode cX12_blind 42 = .ok (.iconst 1, 1) := by decide +kernel
theorem dX12_blind_43 : decode cX12_blind 43 = .ok (.aload_n 0, 1) := by decide +kernel
theorem dX12_blind_44 : decode cX12_blind 44 = .ok (.getfield 59, 3) := by decide +kernel
theorem dX12_blind_47 : decode cX12_blind 47 = .ok (.iload 4, 2) := by decide +kernel
theorem dX12_blind_49 : decode cX12_blind 49 = .ok (.iaload, 1) := by decide +kernel
theorem dX12_blind_50 : decode cX12_blind 50 = .ok (.bipush 10, 2) := by decide +kernel
theorem dX12_blind_52 : decode cX12_blind 52 = .ok (.irem, 1) := by decide +kernel
theorem dX12_blind_53 : decode cX12_blind 53 = .ok (.ishl, 1) := by decide +kernel
theorem dX12_blind_54 : decode cX12_blind 54 = .ok (.istore 5, 2) := by decide +kernel
theorem dX12_blind_56 : decode cX12_blind 56 = .ok (.aload_n 0, 1) := by decide +kernel
theorem dX12_blind_57 : decode cX12_blind 57 = .ok (.getfield 56, 3) := by decide +kernel
theorem dX12_blind_60 : decode cX12_blind 60 = .ok (.iload 4, 2) := by decide +kernel
theorem dX12_blind_62 : decode cX12_blind 62 = .ok (.iaload, 1) := by decide +kernel
theorem dX12_blind_63 : decode cX12_blind 63 = .ok (.ifCond .ne 10, 3) := by decide +kernel
theorem dX12_blind_66 : decode cX12_blind 66 = .ok (.iload_n 3, 1) := by decide +kernel
theorem dX12_blind_67 : decode cX12_blind 67 = .ok (.iload 5, 2) := by decide +kernel
theorem dX12_blind_69 : decode cX12_blind 69 = .ok (.ior, 1) := by decide +kernel
theorem dX12_blind_70 : decode cX12_blind 70 = .ok (.goto 35, 3) := by decide +kernel
theorem dX12_blind_73 : decode cX12_blind 73 = .ok (.aload_n 0, 1) := by decide +kernel
theorem dX12_blind_74 : decode cX12_blind 74 = .ok (.getfield 56, 3) := by decide +kernel
theorem dX12_blind_77 : decode cX12_blind 77 = .ok (.iload 4, 2) := by decide +kernel
theorem dX12_blind_79 : decode cX12_blind 79 = .ok (.iaload, 1) := by decide +kernel
theorem dX12_blind_80 : decode cX12_blind 80 = .ok (.iconst 1, 1) := by decide +kernel
theorem dX12_blind_81 : decode cX12_blind 81 = .ok (.if_icmp .ne 12, 3) := by decide +kernel
theorem dX12_blind_84 : decode cX12_blind 84 = .ok (.iload_n 3, 1) := by decide +kernel
theorem dX12_blind_85 : decode cX12_blind 85 = .ok (.iload 5, 2) := by decide +kernel
theorem dX12_blind_87 : decode cX12_blind 87 = .ok (.iconst (-1), 1) := by decide +kernel
theorem dX12_blind_88 : decode cX12_blind 88 = .ok (.ixor, 1) := by decide +kernel
theorem dX12_blind_89 : decode cX12_blind 89 = .ok (.iand, 1) := by decide +kernel
theorem dX12_blind_90 : decode cX12_blind 90 = .ok (.goto 15, 3) := by decide +kernel
theorem dX12_blind_93 : decode cX12_blind 93 = .ok (.aload_n 0, 1) := by decide +kernel
theorem dX12_blind_94 : decode cX12_blind 94 = .ok (.iload_n 3, 1) := by decide +kernel
theorem dX12_blind_95 : decode cX12_blind 95 = .ok (.aload_n 0, 1) := by decide +kernel
theorem dX12_blind_96 : decode cX12_blind 96 = .ok (.getfield 59, 3) := by decide +kernel
theorem dX12_blind_99 : decode cX12_blind 99 = .ok (.iload 4, 2) := by decide +kernel
theorem dX12_blind_101 : decode cX12_blind 101 = .ok (.iaload, 1) := by decide +kernel
theorem dX12_blind_102 : decode cX12_blind 102 = .ok (.invokevirtual 277, 3) := by decide +kernel
theorem dX12_blind_105 : decode cX12_blind 105 = .ok (.istore_n 3, 1) := by decide +kernel
theorem dX12_blind_106 : decode cX12_blind 106 = .ok (.iinc 4 1, 3) := by decide +kernel
theorem dX12_blind_109 : decode cX12_blind 109 = .ok (.goto (-101), 3) := by decide +kernel
theorem dX12_blind_112 : decode cX12_blind 112 = .ok (.iload_n 3, 1) := by decide +kernel
theorem dX12_blind_113 : decode cX12_blind 113 = .ok (.ireturn, 1) := by decide +kernel
theorem dX12_showsOf_0 : decode cX12_showsOf 0 = .ok (.aload_n 0, 1) := by decide +kernel
theorem dX12_showsOf_1 : decode cX12_showsOf 1 = .ok (.iload_n 1, 1) := by decide +kernel
theorem dX12_showsOf_2 : decode cX12_showsOf 2 = .ok (.iload_n 2, 1) := by decide +kernel
theorem dX12_showsOf_3 : decode cX12_showsOf 3 = .ok (.invokevirtual 281, 3) := by decide +kernel
theorem dX12_showsOf_6 : decode cX12_showsOf 6 = .ok (.istore_n 3, 1) := by decide +kernel
theorem dX12_showsOf_7 : decode cX12_showsOf 7 = .ok (.aload_n 0, 1) := by decide +kernel
theorem dX12_showsOf_8 : decode cX12_showsOf 8 = .ok (.getfield 23, 3) := by decide +kernel
theorem dX12_showsOf_11 : decode cX12_showsOf 11 = .ok (.iload_n 1, 1) := by decide +kernel
theorem dX12_showsOf_12 : decode cX12_showsOf 12 = .ok (.iaload, 1) := by decide +kernel
theorem dX12_showsOf_13 : decode cX12_showsOf 13 = .ok (.tableswitch 120 1 6 #[39, 46, 52, 63, 74, 93], 39) := by decide +kernel
theorem dX12_showsOf_52 : decode cX12_showsOf 52 = .ok (.aload_n 0, 1) := by decide +kernel
theorem dX12_showsOf_53 : decode cX12_showsOf 53 = .ok (.iload_n 3, 1) := by decide +kernel
theorem dX12_showsOf_54 : decode cX12_showsOf 54 = .ok (.iconst 1, 1) := by decide +kernel
theorem dX12_showsOf_55 : decode cX12_showsOf 55 = .ok (.invokevirtual 277, 3) := by decide +kernel
theorem dX12_showsOf_58 : decode cX12_showsOf 58 = .ok (.ireturn, 1) := by decide +kernel
theorem dX12_showsOf_59 : decode cX12_showsOf 59 = .ok (.iload_n 3, 1) := by decide +kernel
theorem dX12_showsOf_60 : decode cX12_showsOf 60 = .ok (.sipush 341, 3) := by decide +kernel
theorem dX12_showsOf_63 : decode cX12_showsOf 63 = .ok (.iand, 1) := by decide +kernel
theorem dX12_showsOf_64 : decode cX12_showsOf 64 = .ok (.ireturn, 1) := by decide +kernel
theorem dX12_showsOf_65 : decode cX12_showsOf 65 = .ok (.iload_n 3, 1) := by decide +kernel
theorem dX12_showsOf_66 : decode cX12_showsOf 66 = .ok (.iconst 1, 1) := by decide +kernel
theorem dX12_showsOf_67 : decode cX12_showsOf 67 = .ok (.aload_n 0, 1) := by decide +kernel
theorem dX12_showsOf_68 : decode cX12_showsOf 68 = .ok (.getfield 26, 3) := by decide +kernel
theorem dX12_showsOf_71 : decode cX12_showsOf 71 = .ok (.iload_n 1, 1) := by decide +kernel
theorem dX12_showsOf_72 : decode cX12_showsOf 72 = .ok (.iaload, 1) := by decide +kernel
theorem dX12_showsOf_73 : decode cX12_showsOf 73 = .ok (.ishl, 1) := by decide +kernel
theorem dX12_showsOf_74 : decode cX12_showsOf 74 = .ok (.ixor, 1) := by decide +kernel
theorem dX12_showsOf_75 : decode cX12_showsOf 75 = .ok (.ireturn, 1) := by decide +kernel
theorem dX12_showsOf_76 : decode cX12_showsOf 76 = .ok (.aload_n 0, 1) := by decide +kernel
theorem dX12_showsOf_77 : decode cX12_showsOf 77 = .ok (.aload_n 0, 1) := by decide +kernel
theorem dX12_showsOf_78 : decode cX12_showsOf 78 = .ok (.iload_n 3, 1) := by decide +kernel
theorem dX12_showsOf_79 : decode cX12_showsOf 79 = .ok (.iconst 1, 1) := by decide +kernel
theorem dX12_showsOf_80 : decode cX12_showsOf 80 = .ok (.invokevirtual 277, 3) := by decide +kernel
theorem dX12_showsOf_83 : decode cX12_showsOf 83 = .ok (.invokevirtual 284, 3) := by decide +kernel
theorem dX12_showsOf_86 : decode cX12_showsOf 86 = .ok (.ireturn, 1) := by decide +kernel
theorem dX12_showsOf_87 : decode cX12_showsOf 87 = .ok (.aload_n 0, 1) := by decide +kernel
theorem dX12_showsOf_88 : decode cX12_showsOf 88 = .ok (.getfield 16, 3) := by decide +kernel
theorem dX12_showsOf_91 : decode cX12_showsOf 91 = .ok (.iconst 2, 1) := by decide +kernel
theorem dX12_showsOf_92 : decode cX12_showsOf 92 = .ok (.irem, 1) := by decide +kernel
theorem dX12_showsOf_93 : decode cX12_showsOf 93 = .ok (.ifCond .ne 11, 3) := by decide +kernel
theorem dX12_showsOf_96 : decode cX12_showsOf 96 = .ok (.iload_n 3, 1) := by decide +kernel
theorem dX12_showsOf_97 : decode cX12_showsOf 97 = .ok (.sipush 341, 3) := by decide +kernel
theorem dX12_showsOf_100 : decode cX12_showsOf 100 = .ok (.iand, 1) := by decide +kernel
theorem dX12_showsOf_101 : decode cX12_showsOf 101 = .ok (.goto 4, 3) := by decide +kernel
theorem dX12_showsOf_104 : decode cX12_showsOf 104 = .ok (.iload_n 3, 1) := by decide +kernel
theorem dX12_showsOf_105 : decode cX12_showsOf 105 = .ok (.ireturn, 1) := by decide +kernel
theorem dX12_showsOf_106 : decode cX12_showsOf 106 = .ok (.iload_n 3, 1) := by decide +kernel
theorem dX12_showsOf_107 : decode cX12_showsOf 107 = .ok (.iconst 1, 1) := by decide +kernel
theorem dX12_showsOf_108 : decode cX12_showsOf 108 = .ok (.aload_n 0, 1) := by decide +kernel
theorem dX12_showsOf_109 : decode cX12_showsOf 109 = .ok (.getfield 26, 3) := by decide +kernel
theorem dX12_showsOf_112 : decode cX12_showsOf 112 = .ok (.iload_n 1, 1) := by decide +kernel
theorem dX12_showsOf_113 : decode cX12_showsOf 113 = .ok (.iaload, 1) := by decide +kernel
theorem dX12_showsOf_114 : decode cX12_showsOf 114 = .ok (.ishl, 1) := by decide +kernel
theorem dX12_showsOf_115 : decode cX12_showsOf 115 = .ok (.ixor, 1) := by decide +kernel
theorem dX12_showsOf_116 : decode cX12_showsOf 116 = .ok (.aload_n 0, 1) := by decide +kernel
theorem dX12_showsOf_117 : decode cX12_showsOf 117 = .ok (.getfield 32, 3) := by decide +kernel
theorem dX12_showsOf_120 : decode cX12_showsOf 120 = .ok (.iconst 4, 1) := by decide +kernel
theorem dX12_showsOf_121 : decode cX12_showsOf 121 = .ok (.iload_n 1, 1) := by decide +kernel
theorem dX12_showsOf_122 : decode cX12_showsOf 122 = .ok (.imul, 1) := by decide +kernel
theorem dX12_showsOf_123 : decode cX12_showsOf 123 = .ok (.aload_n 0, 1) := by decide +kernel
theorem dX12_showsOf_124 : decode cX12_showsOf 124 = .ok (.getfield 16, 3) := by decide +kernel
theorem dX12_showsOf_127 : decode cX12_showsOf 127 = .ok (.iconst 4, 1) := by decide +kernel
theorem dX12_showsOf_128 : decode cX12_showsOf 128 = .ok (.irem, 1) := by decide +kernel
theorem dX12_showsOf_129 : decode cX12_showsOf 129 = .ok (.iadd, 1) := by decide +kernel
theorem dX12_showsOf_130 : decode cX12_showsOf 130 = .ok (.iaload, 1) := by decide +kernel
theorem dX12_showsOf_131 : decode cX12_showsOf 131 = .ok (.ixor, 1) := by decide +kernel
theorem dX12_showsOf_132 : decode cX12_showsOf 132 = .ok (.ireturn, 1) := by decide +kernel
theorem dX12_showsOf_133 : decode cX12_showsOf 133 = .ok (.iload_n 3, 1) := by decide +kernel
theorem dX12_showsOf_134 : decode cX12_showsOf 134 = .ok (.ireturn, 1) := by decide +kernel
theorem dX12_readOf_0 : decode cX12_readOf 0 = .ok (.bipush (-5), 2) := by decide +kernel
theorem dX12_readOf_2 : decode cX12_readOf 2 = .ok (.istore_n 2, 1) := by decide +kernel
theorem dX12_readOf_3 : decode cX12_readOf 3 = .ok (.aload_n 0, 1) := by decide +kernel
theorem dX12_readOf_4 : decode cX12_readOf 4 = .ok (.invokevirtual 287, 3) := by decide +kernel
theorem dX12_readOf_7 : decode cX12_readOf 7 = .ok (.iconst 1, 1) := by decide +kernel
theorem dX12_readOf_8 : decode cX12_readOf 8 = .ok (.iadd, 1) := by decide +kernel
theorem dX12_readOf_9 : decode cX12_readOf 9 = .ok (.istore_n 3, 1) := by decide +kernel
theorem dX12_readOf_10 : decode cX12_readOf 10 = .ok (.iconst 0, 1) := by decide +kernel
theorem dX12_readOf_11 : decode cX12_readOf 11 = .ok (.istore 4, 2) := by decide +kernel
theorem dX12_readOf_13 : decode cX12_readOf 13 = .ok (.iload 4, 2) := by decide +kernel
theorem dX12_readOf_15 : decode cX12_readOf 15 = .ok (.aload_n 0, 1) := by decide +kernel
theorem dX12_readOf_16 : decode cX12_readOf 16 = .ok (.getfield 7, 3) := by decide +kernel
theorem dX12_readOf_19 : decode cX12_readOf 19 = .ok (.if_icmp .ge 39, 3) := by decide +kernel
theorem dX12_readOf_22 : decode cX12_readOf 22 = .ok (.aload_n 0, 1) := by decide +kernel
theorem dX12_readOf_23 : decode cX12_readOf 23 = .ok (.aload_n 0, 1) := by decide +kernel
theorem dX12_readOf_24 : decode cX12_readOf 24 = .ok (.getfield 19, 3) := by decide +kernel
theorem dX12_readOf_27 : decode cX12_readOf 27 = .ok (.iload 4, 2) := by decide +kernel
theorem dX12_readOf_29 : decode cX12_readOf 29 = .ok (.iaload, 1) := by decide +kernel
theorem dX12_readOf_30 : decode cX12_readOf 30 = .ok (.iload_n 1, 1) := by decide +kernel
theorem dX12_readOf_31 : decode cX12_readOf 31 = .ok (.ixor, 1) := by decide +kernel
theorem dX12_readOf_32 : decode cX12_readOf 32 = .ok (.invokevirtual 267, 3) := by decide +kernel
theorem dX12_readOf_35 : decode cX12_readOf 35 = .ok (.istore 5, 2) := by decide +kernel
theorem dX12_readOf_37 : decode cX12_readOf 37 = .ok (.iload 5, 2) := by decide +kernel
theorem dX12_readOf_39 : decode cX12_readOf 39 = .ok (.iload_n 3, 1) := by decide +kernel
theorem dX12_readOf_40 : decode cX12_readOf 40 = .ok (.if_icmp .lt 6, 3) := by decide +kernel
theorem dX12_readOf_43 : decode cX12_readOf 43 = .ok (.goto 9, 3) := by decide +kernel
theorem dX12_readOf_46 : decode cX12_readOf 46 = .ok (.iload 4, 2) := by decide +kernel
theorem dX12_readOf_48 : decode cX12_readOf 48 = .ok (.istore_n 2, 1) := by decide +kernel
theorem dX12_readOf_49 : decode cX12_readOf 49 = .ok (.iload 5, 2) := by decide +kernel
theorem dX12_readOf_51 : decode cX12_readOf 51 = .ok (.istore_n 3, 1) := by decide +kernel
theorem dX12_readOf_52 : decode cX12_readOf 52 = .ok (.iinc 4 1, 3) := by decide +kernel
theorem dX12_readOf_55 : decode cX12_readOf 55 = .ok (.goto (-42), 3) := by decide +kernel
theorem dX12_readOf_58 : decode cX12_readOf 58 = .ok (.iload_n 2, 1) := by decide +kernel
theorem dX12_readOf_59 : decode cX12_readOf 59 = .ok (.ireturn, 1) := by decide +kernel
theorem dX12_isThrough_0 : decode cX12_isThrough 0 = .ok (.aload_n 0, 1) := by decide +kernel
theorem dX12_isThrough_1 : decode cX12_isThrough 1 = .ok (.aload_n 0, 1) := by decide +kernel
theorem dX12_isThrough_2 : decode cX12_isThrough 2 = .ok (.iload_n 1, 1) := by decide +kernel
theorem dX12_isThrough_3 : decode cX12_isThrough 3 = .ok (.aload_n 0, 1) := by decide +kernel
theorem dX12_isThrough_4 : decode cX12_isThrough 4 = .ok (.getfield 19, 3) := by decide +kernel
theorem dX12_isThrough_7 : decode cX12_isThrough 7 = .ok (.iload_n 2, 1) := by decide +kernel
theorem dX12_isThrough_8 : decode cX12_isThrough 8 = .ok (.iaload, 1) := by decide +kernel
theorem dX12_isThrough_9 : decode cX12_isThrough 9 = .ok (.invokevirtual 290, 3) := by decide +kernel
theorem dX12_isThrough_12 : decode cX12_isThrough 12 = .ok (.invokevirtual 293, 3) := by decide +kernel
theorem dX12_isThrough_15 : decode cX12_isThrough 15 = .ok (.iload_n 2, 1) := by decide +kernel
theorem dX12_isThrough_16 : decode cX12_isThrough 16 = .ok (.if_icmp .ne 7, 3) := by decide +kernel
theorem dX12_isThrough_19 : decode cX12_isThrough 19 = .ok (.iconst 1, 1) := by decide +kernel
theorem dX12_isThrough_20 : decode cX12_isThrough 20 = .ok (.goto 4, 3) := by decide +kernel
theorem dX12_isThrough_23 : decode cX12_isThrough 23 = .ok (.iconst 0, 1) := by decide +kernel
theorem dX12_isThrough_24 : decode cX12_isThrough 24 = .ok (.ireturn, 1) := by decide +kernel
theorem dX12_through_0 : decode cX12_through 0 = .ok (.iconst 0, 1) := by decide +kernel
theorem dX12_through_1 : decode cX12_through 1 = .ok (.istore_n 2, 1) := by decide +kernel
theorem dX12_through_2 : decode cX12_through 2 = .ok (.iconst 0, 1) := by decide +kernel
theorem dX12_through_3 : decode cX12_through 3 = .ok (.istore_n 3, 1) := by decide +kernel
theorem dX12_through_4 : decode cX12_through 4 = .ok (.iload_n 3, 1) := by decide +kernel
theorem dX12_through_5 : decode cX12_through 5 = .ok (.aload_n 0, 1) := by decide +kernel
theorem dX12_through_6 : decode cX12_through 6 = .ok (.getfield 7, 3) := by decide +kernel
theorem dX12_through_9 : decode cX12_through 9 = .ok (.if_icmp .ge 28, 3) := by decide +kernel
theorem dX12_through_12 : decode cX12_through 12 = .ok (.iload_n 2, 1) := by decide +kernel
theorem dX12_through_13 : decode cX12_through 13 = .ok (.aload_n 0, 1) := by decide +kernel
theorem dX12_through_14 : decode cX12_through 14 = .ok (.iload_n 1, 1) := by decide +kernel
theorem dX12_through_15 : decode cX12_through 15 = .ok (.iload_n 3, 1) := by decide +kernel
theorem dX12_through_16 : decode cX12_through 16 = .ok (.invokevirtual 296, 3) := by decide +kernel
theorem dX12_through_19 : decode cX12_through 19 = .ok (.ifCond .eq 9, 3) := by decide +kernel
theorem dX12_through_22 : decode cX12_through 22 = .ok (.iconst 1, 1) := by decide +kernel
theorem dX12_through_23 : decode cX12_through 23 = .ok (.iload_n 3, 1) := by decide +kernel
theorem dX12_through_24 : decode cX12_through 24 = .ok (.ishl, 1) := by decide +kernel
theorem dX12_through_25 : decode cX12_through 25 = .ok (.goto 4, 3) := by decide +kernel
theorem dX12_through_28 : decode cX12_through 28 = .ok (.iconst 0, 1) := by decide +kernel
theorem dX12_through_29 : decode cX12_through 29 = .ok (.ior, 1) := by decide +kernel
theorem dX12_through_30 : decode cX12_through 30 = .ok (.istore_n 2, 1) := by decide +kernel
theorem dX12_through_31 : decode cX12_through 31 = .ok (.iinc 3 1, 3) := by decide +kernel
theorem dX12_through_34 : decode cX12_through 34 = .ok (.goto (-30), 3) := by decide +kernel
theorem dX12_through_37 : decode cX12_through 37 = .ok (.iload_n 2, 1) := by decide +kernel
theorem dX12_through_38 : decode cX12_through 38 = .ok (.ireturn, 1) := by decide +kernel
theorem dX12_clear_0 : decode cX12_clear 0 = .ok (.iconst 0, 1) := by decide +kernel
theorem dX12_clear_1 : decode cX12_clear 1 = .ok (.istore_n 2, 1) := by decide +kernel
theorem dX12_clear_2 : decode cX12_clear 2 = .ok (.iload_n 2, 1) := by decide +kernel
theorem dX12_clear_3 : decode cX12_clear 3 = .ok (.sipush 1024, 3) := by decide +kernel
theorem dX12_clear_6 : decode cX12_clear 6 = .ok (.if_icmp .ge 16, 3) := by decide +kernel
theorem dX12_clear_9 : decode cX12_clear 9 = .ok (.aload_n 0, 1) := by decide +kernel
theorem dX12_clear_10 : decode cX12_clear 10 = .ok (.getfield 90, 3) := by decide +kernel
theorem dX12_clear_13 : decode cX12_clear 13 = .ok (.iload_n 2, 1) := by decide +kernel
theorem dX12_clear_14 : decode cX12_clear 14 = .ok (.iconst 0, 1) := by decide +kernel
theorem dX12_clear_15 : decode cX12_clear 15 = .ok (.bastore, 1) := by decide +kernel
theorem dX12_clear_16 : decode cX12_clear 16 = .ok (.iinc 2 1, 3) := by decide +kernel
theorem dX12_clear_19 : decode cX12_clear 19 = .ok (.goto (-17), 3) := by decide +kernel
theorem dX12_clear_22 : decode cX12_clear 22 = .ok (.iconst 0, 1) := by decide +kernel
theorem dX12_clear_23 : decode cX12_clear 23 = .ok (.istore_n 2, 1) := by decide +kernel
theorem dX12_clear_24 : decode cX12_clear 24 = .ok (.iload_n 2, 1) := by decide +kernel
theorem dX12_clear_25 : decode cX12_clear 25 = .ok (.sipush 1024, 3) := by decide +kernel
theorem dX12_clear_28 : decode cX12_clear 28 = .ok (.if_icmp .ge 21, 3) := by decide +kernel
theorem dX12_clear_31 : decode cX12_clear 31 = .ok (.aload_n 0, 1) := by decide +kernel
theorem dX12_clear_32 : decode cX12_clear 32 = .ok (.getfield 90, 3) := by decide +kernel
theorem dX12_clear_35 : decode cX12_clear 35 = .ok (.aload_n 0, 1) := by decide +kernel
theorem dX12_clear_36 : decode cX12_clear 36 = .ok (.iload_n 1, 1) := by decide +kernel
theorem dX12_clear_37 : decode cX12_clear 37 = .ok (.iload_n 2, 1) := by decide +kernel
theorem dX12_clear_38 : decode cX12_clear 38 = .ok (.invokevirtual 290, 3) := by decide +kernel
theorem dX12_clear_41 : decode cX12_clear 41 = .ok (.iconst 1, 1) := by decide +kernel
theorem dX12_clear_42 : decode cX12_clear 42 = .ok (.bastore, 1) := by decide +kernel
theorem dX12_clear_43 : decode cX12_clear 43 = .ok (.iinc 2 1, 3) := by decide +kernel
theorem dX12_clear_46 : decode cX12_clear 46 = .ok (.goto (-22), 3) := by decide +kernel
theorem dX12_clear_49 : decode cX12_clear 49 = .ok (.iconst 0, 1) := by decide +kernel
theorem dX12_clear_50 : decode cX12_clear 50 = .ok (.istore_n 2, 1) := by decide +kernel
theorem dX12_clear_51 : decode cX12_clear 51 = .ok (.iconst 0, 1) := by decide +kernel
theorem dX12_clear_52 : decode cX12_clear 52 = .ok (.istore_n 3, 1) := by decide +kernel
theorem dX12_clear_53 : decode cX12_clear 53 = .ok (.iload_n 3, 1) := by decide +kernel
theorem dX12_clear_54 : decode cX12_clear 54 = .ok (.sipush 1024, 3) := by decide +kernel
theorem dX12_clear_57 : decode cX12_clear 57 = .ok (.if_icmp .ge 26, 3) := by decide +kernel
theorem dX12_clear_60 : decode cX12_clear 60 = .ok (.iload_n 2, 1) := by decide +kernel
theorem dX12_clear_61 : decode cX12_clear 61 = .ok (.aload_n 0, 1) := by decide +kernel
theorem dX12_clear_62 : decode cX12_clear 62 = .ok (.getfield 90, 3) := by decide +kernel
theorem dX12_clear_65 : decode cX12_clear 65 = .ok (.iload_n 3, 1) := by decide +kernel
theorem dX12_clear_66 : decode cX12_clear 66 = .ok (.baload, 1) := by decide +kernel
theorem dX12_clear_67 : decode cX12_clear 67 = .ok (.ifCond .eq 7, 3) := by decide +kernel
theorem dX12_clear_70 : decode cX12_clear 70 = .ok (.iconst 1, 1) := by decide +kernel
theorem dX12_clear_71 : decode cX12_clear 71 = .ok (.goto 4, 3) := by decide +kernel
theorem dX12_clear_74 : decode cX12_clear 74 = .ok (.iconst 0, 1) := by decide +kernel
theorem dX12_clear_75 : decode cX12_clear 75 = .ok (.iadd, 1) := by decide +kernel
theorem dX12_clear_76 : decode cX12_clear 76 = .ok (.istore_n 2, 1) := by decide +kernel
theorem dX12_clear_77 : decode cX12_clear 77 = .ok (.iinc 3 1, 3) := by decide +kernel
theorem dX12_clear_80 : decode cX12_clear 80 = .ok (.goto (-27), 3) := by decide +kernel
theorem dX12_clear_83 : decode cX12_clear 83 = .ok (.iload_n 2, 1) := by decide +kernel
theorem dX12_clear_84 : decode cX12_clear 84 = .ok (.ireturn, 1) := by decide +kernel
theorem dX12_of_0 : decode cX12_of 0 = .ok (.aload_n 0, 1) := by decide +kernel
theorem dX12_of_1 : decode cX12_of 1 = .ok (.iload_n 1, 1) := by decide +kernel
theorem dX12_of_2 : decode cX12_of 2 = .ok (.invokevirtual 212, 3) := by decide +kernel
theorem dX12_of_5 : decode cX12_of 5 = .ok (.ifCond .ne 5, 3) := by decide +kernel
theorem dX12_of_8 : decode cX12_of 8 = .ok (.iconst (-1), 1) := by decide +kernel
theorem dX12_of_9 : decode cX12_of 9 = .ok (.ireturn, 1) := by decide +kernel
theorem dX12_of_10 : decode cX12_of 10 = .ok (.iload_n 2, 1) := by decide +kernel
theorem dX12_of_11 : decode cX12_of 11 = .ok (.tableswitch 66 0 4 #[33, 40, 47, 54, 60], 33) := by decide +kernel
theorem dX12_of_44 : decode cX12_of 44 = .ok (.aload_n 0, 1) := by decide +kernel
theorem dX12_of_45 : decode cX12_of 45 = .ok (.getfield 23, 3) := by decide +kernel
theorem dX12_of_48 : decode cX12_of 48 = .ok (.iload_n 1, 1) := by decide +kernel
theorem dX12_of_49 : decode cX12_of 49 = .ok (.iaload, 1) := by decide +kernel
theorem dX12_of_50 : decode cX12_of 50 = .ok (.ireturn, 1) := by decide +kernel
theorem dX12_of_51 : decode cX12_of 51 = .ok (.aload_n 0, 1) := by decide +kernel
theorem dX12_of_52 : decode cX12_of 52 = .ok (.getfield 26, 3) := by decide +kernel
theorem dX12_of_55 : decode cX12_of 55 = .ok (.iload_n 1, 1) := by decide +kernel
theorem dX12_of_56 : decode cX12_of 56 = .ok (.iaload, 1) := by decide +kernel
theorem dX12_of_57 : decode cX12_of 57 = .ok (.ireturn, 1) := by decide +kernel
theorem dX12_of_58 : decode cX12_of 58 = .ok (.aload_n 0, 1) := by decide +kernel
theorem dX12_of_59 : decode cX12_of 59 = .ok (.getfield 29, 3) := by decide +kernel
theorem dX12_of_62 : decode cX12_of 62 = .ok (.iload_n 1, 1) := by decide +kernel
theorem dX12_of_63 : decode cX12_of 63 = .ok (.iaload, 1) := by decide +kernel
theorem dX12_of_64 : decode cX12_of 64 = .ok (.ireturn, 1) := by decide +kernel
theorem dX12_of_65 : decode cX12_of 65 = .ok (.aload_n 0, 1) := by decide +kernel
theorem dX12_of_66 : decode cX12_of 66 = .ok (.iload_n 1, 1) := by decide +kernel
theorem dX12_of_67 : decode cX12_of 67 = .ok (.invokevirtual 299, 3) := by decide +kernel
theorem dX12_of_70 : decode cX12_of 70 = .ok (.ireturn, 1) := by decide +kernel
theorem dX12_of_71 : decode cX12_of 71 = .ok (.aload_n 0, 1) := by decide +kernel
theorem dX12_of_72 : decode cX12_of 72 = .ok (.iload_n 1, 1) := by decide +kernel
theorem dX12_of_73 : decode cX12_of 73 = .ok (.invokevirtual 302, 3) := by decide +kernel
theorem dX12_of_76 : decode cX12_of 76 = .ok (.ireturn, 1) := by decide +kernel
theorem dX12_of_77 : decode cX12_of 77 = .ok (.iconst (-1), 1) := by decide +kernel
theorem dX12_of_78 : decode cX12_of 78 = .ok (.ireturn, 1) := by decide +kernel
theorem dX12_shows_0 : decode cX12_shows 0 = .ok (.aload_n 0, 1) := by decide +kernel
theorem dX12_shows_1 : decode cX12_shows 1 = .ok (.iload_n 1, 1) := by decide +kernel
theorem dX12_shows_2 : decode cX12_shows 2 = .ok (.invokevirtual 212, 3) := by decide +kernel
theorem dX12_shows_5 : decode cX12_shows 5 = .ok (.ifCond .ne 5, 3) := by decide +kernel
theorem dX12_shows_8 : decode cX12_shows 8 = .ok (.iconst (-1), 1) := by decide +kernel
theorem dX12_shows_9 : decode cX12_shows 9 = .ok (.ireturn, 1) := by decide +kernel
theorem dX12_shows_10 : decode cX12_shows 10 = .ok (.aload_n 0, 1) := by decide +kernel
theorem dX12_shows_11 : decode cX12_shows 11 = .ok (.iload_n 2, 1) := by decide +kernel
theorem dX12_shows_12 : decode cX12_shows 12 = .ok (.invokevirtual 205, 3) := by decide +kernel
theorem dX12_shows_15 : decode cX12_shows 15 = .ok (.ifCond .eq 12, 3) := by decide +kernel
theorem dX12_shows_18 : decode cX12_shows 18 = .ok (.aload_n 0, 1) := by decide +kernel
theorem dX12_shows_19 : decode cX12_shows 19 = .ok (.iload_n 1, 1) := by decide +kernel
theorem dX12_shows_20 : decode cX12_shows 20 = .ok (.iload_n 2, 1) := by decide +kernel
theorem dX12_shows_21 : decode cX12_shows 21 = .ok (.invokevirtual 290, 3) := by decide +kernel
theorem dX12_shows_24 : decode cX12_shows 24 = .ok (.goto 5, 3) := by decide +kernel
theorem dX12_shows_27 : decode cX12_shows 27 = .ok (.bipush (-2), 2) := by decide +kernel
theorem dX12_shows_29 : decode cX12_shows 29 = .ok (.ireturn, 1) := by decide +kernel
theorem dX12_meaning_0 : decode cX12_meaning 0 = .ok (.aload_n 0, 1) := by decide +kernel
theorem dX12_meaning_1 : decode cX12_meaning 1 = .ok (.iload_n 1, 1) := by decide +kernel
theorem dX12_meaning_2 : decode cX12_meaning 2 = .ok (.invokevirtual 205, 3) := by decide +kernel
theorem dX12_meaning_5 : decode cX12_meaning 5 = .ok (.ifCond .eq 11, 3) := by decide +kernel
theorem dX12_meaning_8 : decode cX12_meaning 8 = .ok (.aload_n 0, 1) := by decide +kernel
theorem dX12_meaning_9 : decode cX12_meaning 9 = .ok (.iload_n 1, 1) := by decide +kernel
theorem dX12_meaning_10 : decode cX12_meaning 10 = .ok (.invokevirtual 293, 3) := by decide +kernel
theorem dX12_meaning_13 : decode cX12_meaning 13 = .ok (.goto 5, 3) := by decide +kernel
theorem dX12_meaning_16 : decode cX12_meaning 16 = .ok (.bipush (-2), 2) := by decide +kernel
theorem dX12_meaning_18 : decode cX12_meaning 18 = .ok (.ireturn, 1) := by decide +kernel
theorem dX12_say_0 : decode cX12_say 0 = .ok (.aload_n 0, 1) := by decide +kernel
theorem dX12_say_1 : decode cX12_say 1 = .ok (.iload_n 1, 1) := by decide +kernel
theorem dX12_say_2 : decode cX12_say 2 = .ok (.invokevirtual 212, 3) := by decide +kernel
theorem dX12_say_5 : decode cX12_say 5 = .ok (.ifCond .eq 11, 3) := by decide +kernel
theorem dX12_say_8 : decode cX12_say 8 = .ok (.aload_n 0, 1) := by decide +kernel
theorem dX12_say_9 : decode cX12_say 9 = .ok (.iload_n 2, 1) := by decide +kernel
theorem dX12_say_10 : decode cX12_say 10 = .ok (.invokevirtual 209, 3) := by decide +kernel
theorem dX12_say_13 : decode cX12_say 13 = .ok (.ifCond .ne 5, 3) := by decide +kernel
theorem dX12_say_16 : decode cX12_say 16 = .ok (.iconst (-1), 1) := by decide +kernel
theorem dX12_say_17 : decode cX12_say 17 = .ok (.ireturn, 1) := by decide +kernel
theorem dX12_say_18 : decode cX12_say 18 = .ok (.aload_n 0, 1) := by decide +kernel
theorem dX12_say_19 : decode cX12_say 19 = .ok (.getfield 29, 3) := by decide +kernel
theorem dX12_say_22 : decode cX12_say 22 = .ok (.iload_n 1, 1) := by decide +kernel
theorem dX12_say_23 : decode cX12_say 23 = .ok (.iaload, 1) := by decide +kernel
theorem dX12_say_24 : decode cX12_say 24 = .ok (.sipush 9999, 3) := by decide +kernel
theorem dX12_say_27 : decode cX12_say 27 = .ok (.if_icmp .ne 6, 3) := by decide +kernel
theorem dX12_say_30 : decode cX12_say 30 = .ok (.bipush (-3), 2) := by decide +kernel
theorem dX12_say_32 : decode cX12_say 32 = .ok (.ireturn, 1) := by decide +kernel
theorem dX12_say_33 : decode cX12_say 33 = .ok (.aload_n 0, 1) := by decide +kernel
theorem dX12_say_34 : decode cX12_say 34 = .ok (.aload_n 0, 1) := by decide +kernel
theorem dX12_say_35 : decode cX12_say 35 = .ok (.iload_n 1, 1) := by decide +kernel
theorem dX12_say_36 : decode cX12_say 36 = .ok (.aload_n 0, 1) := by decide +kernel
theorem dX12_say_37 : decode cX12_say 37 = .ok (.getfield 19, 3) := by decide +kernel
theorem dX12_say_40 : decode cX12_say 40 = .ok (.iload_n 2, 1) := by decide +kernel
theorem dX12_say_41 : decode cX12_say 41 = .ok (.iaload, 1) := by decide +kernel
theorem dX12_say_42 : decode cX12_say 42 = .ok (.invokevirtual 290, 3) := by decide +kernel
theorem dX12_say_45 : decode cX12_say 45 = .ok (.invokevirtual 293, 3) := by decide +kernel
theorem dX12_say_48 : decode cX12_say 48 = .ok (.istore_n 3, 1) := by decide +kernel
theorem dX12_say_49 : decode cX12_say 49 = .ok (.aload_n 0, 1) := by decide +kernel
theorem dX12_say_50 : decode cX12_say 50 = .ok (.getfield 29, 3) := by decide +kernel
theorem dX12_say_53 : decode cX12_say 53 = .ok (.iload_n 1, 1) := by decide +kernel
theorem dX12_say_54 : decode cX12_say 54 = .ok (.dup2, 1) := by decide +kernel
theorem dX12_say_55 : decode cX12_say 55 = .ok (.iaload, 1) := by decide +kernel
theorem dX12_say_56 : decode cX12_say 56 = .ok (.iconst 1, 1) := by decide +kernel
theorem dX12_say_57 : decode cX12_say 57 = .ok (.iadd, 1) := by decide +kernel
theorem dX12_say_58 : decode cX12_say 58 = .ok (.iastore, 1) := by decide +kernel
theorem dX12_say_59 : decode cX12_say 59 = .ok (.iload_n 3, 1) := by decide +kernel
theorem dX12_say_60 : decode cX12_say 60 = .ok (.ireturn, 1) := by decide +kernel
theorem dX12_wordsApart_0 : decode cX12_wordsApart 0 = .ok (.bipush (-5), 2) := by decide +kernel
theorem dX12_wordsApart_2 : decode cX12_wordsApart 2 = .ok (.istore_n 2, 1) := by decide +kernel
theorem dX12_wordsApart_3 : decode cX12_wordsApart 3 = .ok (.bipush (-5), 2) := by decide +kernel
theorem dX12_wordsApart_5 : decode cX12_wordsApart 5 = .ok (.istore_n 3, 1) := by decide +kernel
theorem dX12_wordsApart_6 : decode cX12_wordsApart 6 = .ok (.iconst 0, 1) := by decide +kernel
theorem dX12_wordsApart_7 : decode cX12_wordsApart 7 = .ok (.istore 4, 2) := by decide +kernel
theorem dX12_wordsApart_9 : decode cX12_wordsApart 9 = .ok (.iload 4, 2) := by decide +kernel
theorem dX12_wordsApart_11 : decode cX12_wordsApart 11 = .ok (.aload_n 0, 1) := by decide +kernel
theorem dX12_wordsApart_12 : decode cX12_wordsApart 12 = .ok (.getfield 7, 3) := by decide +kernel
theorem dX12_wordsApart_15 : decode cX12_wordsApart 15 = .ok (.if_icmp .ge 76, 3) := by decide +kernel
theorem dX12_wordsApart_18 : decode cX12_wordsApart 18 = .ok (.iload 4, 2) := by decide +kernel
theorem dX12_wordsApart_20 : decode cX12_wordsApart 20 = .ok (.iconst 1, 1) := by decide +kernel
theorem dX12_wordsApart_21 : decode cX12_wordsApart 21 = .ok (.iadd, 1) := by decide +kernel
theorem dX12_wordsApart_22 : decode cX12_wordsApart 22 = .ok (.istore 5, 2) := by decide +kernel
theorem dX12_wordsApart_24 : decode cX12_wordsApart 24 = .ok (.iload 5, 2) := by decide +kernel
theorem dX12_wordsApart_26 : decode cX12_wordsApart 26 = .ok (.aload_n 0, 1) := by decide +kernel
theorem dX12_wordsApart_27 : decode cX12_wordsApart 27 = .ok (.getfield 7, 3) := by decide +kernel
theorem dX12_wordsApart_30 : decode cX12_wordsApart 30 = .ok (.if_icmp .ge 55, 3) := by decide +kernel
theorem dX12_wordsApart_33 : decode cX12_wordsApart 33 = .ok (.aload_n 0, 1) := by decide +kernel
theorem dX12_wordsApart_34 : decode cX12_wordsApart 34 = .ok (.aload_n 0, 1) := by decide +kernel
theorem dX12_wordsApart_35 : decode cX12_wordsApart 35 = .ok (.getfield 19, 3) := by decide +kernel
theorem dX12_wordsApart_38 : decode cX12_wordsApart 38 = .ok (.iload 4, 2) := by decide +kernel
theorem dX12_wordsApart_40 : decode cX12_wordsApart 40 = .ok (.iaload, 1) := by decide +kernel
theorem dX12_wordsApart_41 : decode cX12_wordsApart 41 = .ok (.aload_n 0, 1) := by decide +kernel
theorem dX12_wordsApart_42 : decode cX12_wordsApart 42 = .ok (.getfield 19, 3) := by decide +kernel
theorem dX12_wordsApart_45 : decode cX12_wordsApart 45 = .ok (.iload 5, 2) := by decide +kernel
theorem dX12_wordsApart_47 : decode cX12_wordsApart 47 = .ok (.iaload, 1) := by decide +kernel
theorem dX12_wordsApart_48 : decode cX12_wordsApart 48 = .ok (.ixor, 1) := by decide +kernel
theorem dX12_wordsApart_49 : decode cX12_wordsApart 49 = .ok (.invokevirtual 267, 3) := by decide +kernel
theorem dX12_wordsApart_52 : decode cX12_wordsApart 52 = .ok (.istore 6, 2) := by decide +kernel
theorem dX12_wordsApart_54 : decode cX12_wordsApart 54 = .ok (.iload_n 2, 1) := by decide +kernel
theorem dX12_wordsApart_55 : decode cX12_wordsApart 55 = .ok (.ifCond .lt 12, 3) := by decide +kernel
theorem dX12_wordsApart_58 : decode cX12_wordsApart 58 = .ok (.iload 6, 2) := by decide +kernel
theorem dX12_wordsApart_60 : decode cX12_wordsApart 60 = .ok (.iload_n 3, 1) := by decide +kernel
theorem dX12_wordsApart_61 : decode cX12_wordsApart 61 = .ok (.if_icmp .lt 6, 3) := by decide +kernel
theorem dX12_wordsApart_64 : decode cX12_wordsApart 64 = .ok (.goto 15, 3) := by decide +kernel
theorem dX12_wordsApart_67 : decode cX12_wordsApart 67 = .ok (.bipush 10, 2) := by decide +kernel
theorem dX12_wordsApart_69 : decode cX12_wordsApart 69 = .ok (.iload 4, 2) := by decide +kernel
theorem dX12_wordsApart_71 : decode cX12_wordsApart 71 = .ok (.imul, 1) := by decide +kernel
theorem dX12_wordsApart_72 : decode cX12_wordsApart 72 = .ok (.iload 5, 2) := by decide +kernel
theorem dX12_wordsApart_74 : decode cX12_wordsApart 74 = .ok (.iadd, 1) := by decide +kernel
theorem dX12_wordsApart_75 : decode cX12_wordsApart 75 = .ok (.istore_n 2, 1) := by decide +kernel
theorem dX12_wordsApart_76 : decode cX12_wordsApart 76 = .ok (.iload 6, 2) := by decide +kernel
theorem dX12_wordsApart_78 : decode cX12_wordsApart 78 = .ok (.istore_n 3, 1) := by decide +kernel
theorem dX12_wordsApart_79 : decode cX12_wordsApart 79 = .ok (.iinc 5 1, 3) := by decide +kernel
theorem dX12_wordsApart_82 : decode cX12_wordsApart 82 = .ok (.goto (-58), 3) := by decide +kernel
theorem dX12_wordsApart_85 : decode cX12_wordsApart 85 = .ok (.iinc 4 1, 3) := by decide +kernel
theorem dX12_wordsApart_88 : decode cX12_wordsApart 88 = .ok (.goto (-79), 3) := by decide +kernel
theorem dX12_wordsApart_91 : decode cX12_wordsApart 91 = .ok (.iload_n 1, 1) := by decide +kernel
theorem dX12_wordsApart_92 : decode cX12_wordsApart 92 = .ok (.ifCond .eq 7, 3) := by decide +kernel
theorem dX12_wordsApart_95 : decode cX12_wordsApart 95 = .ok (.iload_n 3, 1) := by decide +kernel
theorem dX12_wordsApart_96 : decode cX12_wordsApart 96 = .ok (.goto 4, 3) := by decide +kernel
theorem dX12_wordsApart_99 : decode cX12_wordsApart 99 = .ok (.iload_n 2, 1) := by decide +kernel
theorem dX12_wordsApart_100 : decode cX12_wordsApart 100 = .ok (.ireturn, 1) := by decide +kernel
theorem dX12_leastApart_0 : decode cX12_leastApart 0 = .ok (.bipush 99, 2) := by decide +kernel
theorem dX12_leastApart_2 : decode cX12_leastApart 2 = .ok (.istore_n 2, 1) := by decide +kernel
theorem dX12_leastApart_3 : decode cX12_leastApart 3 = .ok (.iconst 0, 1) := by decide +kernel
theorem dX12_leastApart_4 : decode cX12_leastApart 4 = .ok (.istore_n 3, 1) := by decide +kernel
theorem dX12_leastApart_5 : decode cX12_leastApart 5 = .ok (.iload_n 3, 1) := by decide +kernel
theorem dX12_leastApart_6 : decode cX12_leastApart 6 = .ok (.aload_n 0, 1) := by decide +kernel
theorem dX12_leastApart_7 : decode cX12_leastApart 7 = .ok (.getfield 7, 3) := by decide +kernel
theorem dX12_leastApart_10 : decode cX12_leastApart 10 = .ok (.if_icmp .ge 36, 3) := by decide +kernel
theorem dX12_leastApart_13 : decode cX12_leastApart 13 = .ok (.aload_n 0, 1) := by decide +kernel
theorem dX12_leastApart_14 : decode cX12_leastApart 14 = .ok (.aload_n 0, 1) := by decide +kernel
theorem dX12_leastApart_15 : decode cX12_leastApart 15 = .ok (.getfield 19, 3) := by decide +kernel
theorem dX12_leastApart_18 : decode cX12_leastApart 18 = .ok (.iload_n 3, 1) := by decide +kernel
theorem dX12_leastApart_19 : decode cX12_leastApart 19 = .ok (.iaload, 1) := by decide +kernel
theorem dX12_leastApart_20 : decode cX12_leastApart 20 = .ok (.iload_n 1, 1) := by decide +kernel
theorem dX12_leastApart_21 : decode cX12_leastApart 21 = .ok (.ixor, 1) := by decide +kernel
theorem dX12_leastApart_22 : decode cX12_leastApart 22 = .ok (.invokevirtual 267, 3) := by decide +kernel
theorem dX12_leastApart_25 : decode cX12_leastApart 25 = .ok (.istore 4, 2) := by decide +kernel
theorem dX12_leastApart_27 : decode cX12_leastApart 27 = .ok (.iload 4, 2) := by decide +kernel
theorem dX12_leastApart_29 : decode cX12_leastApart 29 = .ok (.iload_n 2, 1) := by decide +kernel
theorem dX12_leastApart_30 : decode cX12_leastApart 30 = .ok (.if_icmp .ge 8, 3) := by decide +kernel
theorem dX12_leastApart_33 : decode cX12_leastApart 33 = .ok (.iload 4, 2) := by decide +kernel
theorem dX12_leastApart_35 : decode cX12_leastApart 35 = .ok (.goto 4, 3) := by decide +kernel
theorem dX12_leastApart_38 : decode cX12_leastApart 38 = .ok (.iload_n 2, 1) := by decide +kernel
theorem dX12_leastApart_39 : decode cX12_leastApart 39 = .ok (.istore_n 2, 1) := by decide +kernel
theorem dX12_leastApart_40 : decode cX12_leastApart 40 = .ok (.iinc 3 1, 3) := by decide +kernel
theorem dX12_leastApart_43 : decode cX12_leastApart 43 = .ok (.goto (-38), 3) := by decide +kernel
theorem dX12_leastApart_46 : decode cX12_leastApart 46 = .ok (.iload_n 2, 1) := by decide +kernel
theorem dX12_leastApart_47 : decode cX12_leastApart 47 = .ok (.ireturn, 1) := by decide +kernel
theorem dX12_newSign_0 : decode cX12_newSign 0 = .ok (.aload_n 0, 1) := by decide +kernel
theorem dX12_newSign_1 : decode cX12_newSign 1 = .ok (.getfield 7, 3) := by decide +kernel
theorem dX12_newSign_4 : decode cX12_newSign 4 = .ok (.ifCond .ne 5, 3) := by decide +kernel
theorem dX12_newSign_7 : decode cX12_newSign 7 = .ok (.iconst 0, 1) := by decide +kernel
theorem dX12_newSign_8 : decode cX12_newSign 8 = .ok (.ireturn, 1) := by decide +kernel
theorem dX12_newSign_9 : decode cX12_newSign 9 = .ok (.iconst 0, 1) := by decide +kernel
theorem dX12_newSign_10 : decode cX12_newSign 10 = .ok (.istore_n 1, 1) := by decide +kernel
theorem dX12_newSign_11 : decode cX12_newSign 11 = .ok (.iconst (-1), 1) := by decide +kernel
theorem dX12_newSign_12 : decode cX12_newSign 12 = .ok (.istore_n 2, 1) := by decide +kernel
theorem dX12_newSign_13 : decode cX12_newSign 13 = .ok (.iconst 0, 1) := by decide +kernel
theorem dX12_newSign_14 : decode cX12_newSign 14 = .ok (.istore_n 3, 1) := by decide +kernel
theorem dX12_newSign_15 : decode cX12_newSign 15 = .ok (.iload_n 3, 1) := by decide +kernel
theorem dX12_newSign_16 : decode cX12_newSign 16 = .ok (.sipush 1024, 3) := by decide +kernel
theorem dX12_newSign_19 : decode cX12_newSign 19 = .ok (.if_icmp .ge 30, 3) := by decide +kernel
theorem dX12_newSign_22 : decode cX12_newSign 22 = .ok (.aload_n 0, 1) := by decide +kernel
theorem dX12_newSign_23 : decode cX12_newSign 23 = .ok (.iload_n 3, 1) := by decide +kernel
theorem dX12_newSign_24 : decode cX12_newSign 24 = .ok (.invokevirtual 305, 3) := by decide +kernel
theorem dX12_newSign_27 : decode cX12_newSign 27 = .ok (.istore 4, 2) := by decide +kernel
theorem dX12_newSign_29 : decode cX12_newSign 29 = .ok (.iload 4, 2) := by decide +kernel
theorem dX12_newSign_31 : decode cX12_newSign 31 = .ok (.iload_n 2, 1) := by decide +kernel
theorem dX12_newSign_32 : decode cX12_newSign 32 = .ok (.if_icmp .gt 6, 3) := by decide +kernel
theorem dX12_newSign_35 : decode cX12_newSign 35 = .ok (.goto 8, 3) := by decide +kernel
theorem dX12_newSign_38 : decode cX12_newSign 38 = .ok (.iload_n 3, 1) := by decide +kernel
theorem dX12_newSign_39 : decode cX12_newSign 39 = .ok (.istore_n 1, 1) := by decide +kernel
theorem dX12_newSign_40 : decode cX12_newSign 40 = .ok (.iload 4, 2) := by decide +kernel
theorem dX12_newSign_42 : decode cX12_newSign 42 = .ok (.istore_n 2, 1) := by decide +kernel
theorem dX12_newSign_43 : decode cX12_newSign 43 = .ok (.iinc 3 1, 3) := by decide +kernel
theorem dX12_newSign_46 : decode cX12_newSign 46 = .ok (.goto (-31), 3) := by decide +kernel
theorem dX12_newSign_49 : decode cX12_newSign 49 = .ok (.iload_n 1, 1) := by decide +kernel
theorem dX12_newSign_50 : decode cX12_newSign 50 = .ok (.ireturn, 1) := by decide +kernel
theorem dX12_told_0 : decode cX12_told 0 = .ok (.aload_n 0, 1) := by decide +kernel
theorem dX12_told_1 : decode cX12_told 1 = .ok (.iload_n 1, 1) := by decide +kernel
theorem dX12_told_2 : decode cX12_told 2 = .ok (.bipush 10, 2) := by decide +kernel
theorem dX12_told_4 : decode cX12_told 4 = .ok (.bipush 9, 2) := by decide +kernel
theorem dX12_told_6 : decode cX12_told 6 = .ok (.aload_n 0, 1) := by decide +kernel
theorem dX12_told_7 : decode cX12_told 7 = .ok (.getfield 7, 3) := by decide +kernel
theorem dX12_told_10 : decode cX12_told 10 = .ok (.iadd, 1) := by decide +kernel
theorem dX12_told_11 : decode cX12_told 11 = .ok (.invokevirtual 201, 3) := by decide +kernel
theorem dX12_told_14 : decode cX12_told 14 = .ok (.ifCond .eq 13, 3) := by decide +kernel
theorem dX12_told_17 : decode cX12_told 17 = .ok (.aload_n 0, 1) := by decide +kernel
theorem dX12_told_18 : decode cX12_told 18 = .ok (.getfield 19, 3) := by decide +kernel
theorem dX12_told_21 : decode cX12_told 21 = .ok (.iload_n 1, 1) := by decide +kernel
theorem dX12_told_22 : decode cX12_told 22 = .ok (.bipush 10, 2) := by decide +kernel
theorem dX12_told_24 : decode cX12_told 24 = .ok (.isub, 1) := by decide +kernel
theorem dX12_told_25 : decode cX12_told 25 = .ok (.iaload, 1) := by decide +kernel
theorem dX12_told_26 : decode cX12_told 26 = .ok (.ireturn, 1) := by decide +kernel
theorem dX12_told_27 : decode cX12_told 27 = .ok (.iload_n 1, 1) := by decide +kernel
theorem dX12_told_28 : decode cX12_told 28 = .ok (.tableswitch 88 0 5 #[40, 45, 50, 56, 62, 67], 40) := by decide +kernel
theorem dX12_told_68 : decode cX12_told 68 = .ok (.aload_n 0, 1) := by decide +kernel
theorem dX12_told_69 : decode cX12_told 69 = .ok (.getfield 16, 3) := by decide +kernel
theorem dX12_told_72 : decode cX12_told 72 = .ok (.ireturn, 1) := by decide +kernel
theorem dX12_told_73 : decode cX12_told 73 = .ok (.aload_n 0, 1) := by decide +kernel
theorem dX12_told_74 : decode cX12_told 74 = .ok (.invokevirtual 287, 3) := by decide +kernel
theorem dX12_told_77 : decode cX12_told 77 = .ok (.ireturn, 1) := by decide +kernel
theorem dX12_told_78 : decode cX12_told 78 = .ok (.aload_n 0, 1) := by decide +kernel
theorem dX12_told_79 : decode cX12_told 79 = .ok (.iconst 1, 1) := by decide +kernel
theorem dX12_told_80 : decode cX12_told 80 = .ok (.invokevirtual 308, 3) := by decide +kernel
theorem dX12_told_83 : decode cX12_told 83 = .ok (.ireturn, 1) := by decide +kernel
theorem dX12_told_84 : decode cX12_told 84 = .ok (.aload_n 0, 1) := by decide +kernel
theorem dX12_told_85 : decode cX12_told 85 = .ok (.iconst 0, 1) := by decide +kernel
theorem dX12_told_86 : decode cX12_told 86 = .ok (.invokevirtual 308, 3) := by decide +kernel
theorem dX12_told_89 : decode cX12_told 89 = .ok (.ireturn, 1) := by decide +kernel
theorem dX12_told_90 : decode cX12_told 90 = .ok (.aload_n 0, 1) := by decide +kernel
theorem dX12_told_91 : decode cX12_told 91 = .ok (.invokevirtual 312, 3) := by decide +kernel
theorem dX12_told_94 : decode cX12_told 94 = .ok (.ireturn, 1) := by decide +kernel
theorem dX12_told_95 : decode cX12_told 95 = .ok (.aload_n 0, 1) := by decide +kernel
theorem dX12_told_96 : decode cX12_told 96 = .ok (.getfield 7, 3) := by decide +kernel
theorem dX12_told_99 : decode cX12_told 99 = .ok (.ifCond .ne 8, 3) := by decide +kernel
theorem dX12_told_102 : decode cX12_told 102 = .ok (.bipush (-5), 2) := by decide +kernel
theorem dX12_told_104 : decode cX12_told 104 = .ok (.goto 11, 3) := by decide +kernel
theorem dX12_told_107 : decode cX12_told 107 = .ok (.aload_n 0, 1) := by decide +kernel
theorem dX12_told_108 : decode cX12_told 108 = .ok (.aload_n 0, 1) := by decide +kernel
theorem dX12_told_109 : decode cX12_told 109 = .ok (.invokevirtual 312, 3) := by decide +kernel
theorem dX12_told_112 : decode cX12_told 112 = .ok (.invokevirtual 305, 3) := by decide +kernel
theorem dX12_told_115 : decode cX12_told 115 = .ok (.ireturn, 1) := by decide +kernel
theorem dX12_told_116 : decode cX12_told 116 = .ok (.iconst (-1), 1) := by decide +kernel
theorem dX12_told_117 : decode cX12_told 117 = .ok (.ireturn, 1) := by decide +kernel
theorem dX12_pass_0 : decode cX12_pass 0 = .ok (.aload_n 0, 1) := by decide +kernel
theorem dX12_pass_1 : decode cX12_pass 1 = .ok (.iload_n 1, 1) := by decide +kernel
theorem dX12_pass_2 : decode cX12_pass 2 = .ok (.iconst 0, 1) := by decide +kernel
theorem dX12_pass_3 : decode cX12_pass 3 = .ok (.bipush 60, 2) := by decide +kernel
theorem dX12_pass_5 : decode cX12_pass 5 = .ok (.invokevirtual 201, 3) := by decide +kernel
theorem dX12_pass_8 : decode cX12_pass 8 = .ok (.ifCond .ne 6, 3) := by decide +kernel
theorem dX12_pass_11 : decode cX12_pass 11 = .ok (.bipush (-2), 2) := by decide +kernel
theorem dX12_pass_13 : decode cX12_pass 13 = .ok (.ireturn, 1) := by decide +kernel
theorem dX12_pass_14 : decode cX12_pass 14 = .ok (.aload_n 0, 1) := by decide +kernel
theorem dX12_pass_15 : decode cX12_pass 15 = .ok (.getfield 16, 3) := by decide +kernel
theorem dX12_pass_18 : decode cX12_pass 18 = .ok (.iload_n 1, 1) := by decide +kernel
theorem dX12_pass_19 : decode cX12_pass 19 = .ok (.iadd, 1) := by decide +kernel
theorem dX12_pass_20 : decode cX12_pass 20 = .ok (.sipush 9999, 3) := by decide +kernel
theorem dX12_pass_23 : decode cX12_pass 23 = .ok (.if_icmp .le 6, 3) := by decide +kernel
theorem dX12_pass_26 : decode cX12_pass 26 = .ok (.bipush (-3), 2) := by decide +kernel
theorem dX12_pass_28 : decode cX12_pass 28 = .ok (.ireturn, 1) := by decide +kernel
theorem dX12_pass_29 : decode cX12_pass 29 = .ok (.aload_n 0, 1) := by decide +kernel
theorem dX12_pass_30 : decode cX12_pass 30 = .ok (.dup, 1) := by decide +kernel
theorem dX12_pass_31 : decode cX12_pass 31 = .ok (.getfield 16, 3) := by decide +kernel
theorem dX12_pass_34 : decode cX12_pass 34 = .ok (.iload_n 1, 1) := by decide +kernel
theorem dX12_pass_35 : decode cX12_pass 35 = .ok (.iadd, 1) := by decide +kernel
theorem dX12_pass_36 : decode cX12_pass 36 = .ok (.putfield 16, 3) := by decide +kernel
theorem dX12_pass_39 : decode cX12_pass 39 = .ok (.aload_n 0, 1) := by decide +kernel
theorem dX12_pass_40 : decode cX12_pass 40 = .ok (.getfield 16, 3) := by decide +kernel
theorem dX12_pass_43 : decode cX12_pass 43 = .ok (.ireturn, 1) := by decide +kernel
theorem dX12_saying_0 : decode cX12_saying 0 = .ok (.aload_n 0, 1) := by decide +kernel
theorem dX12_saying_1 : decode cX12_saying 1 = .ok (.iload_n 1, 1) := by decide +kernel
theorem dX12_saying_2 : decode cX12_saying 2 = .ok (.invokevirtual 212, 3) := by decide +kernel
theorem dX12_saying_5 : decode cX12_saying 5 = .ok (.ifCond .eq 21, 3) := by decide +kernel
theorem dX12_saying_8 : decode cX12_saying 8 = .ok (.aload_n 0, 1) := by decide +kernel
theorem dX12_saying_9 : decode cX12_saying 9 = .ok (.iload_n 2, 1) := by decide +kernel
theorem dX12_saying_10 : decode cX12_saying 10 = .ok (.invokevirtual 209, 3) := by decide +kernel
theorem dX12_saying_13 : decode cX12_saying 13 = .ok (.ifCond .eq 13, 3) := by decide +kernel
theorem dX12_saying_16 : decode cX12_saying 16 = .ok (.aload_n 0, 1) := by decide +kernel
theorem dX12_saying_17 : decode cX12_saying 17 = .ok (.iload_n 3, 1) := by decide +kernel
theorem dX12_saying_18 : decode cX12_saying 18 = .ok (.iconst 0, 1) := by decide +kernel
theorem dX12_saying_19 : decode cX12_saying 19 = .ok (.iconst 1, 1) := by decide +kernel
theorem dX12_saying_20 : decode cX12_saying 20 = .ok (.invokevirtual 201, 3) := by decide +kernel
theorem dX12_saying_23 : decode cX12_saying 23 = .ok (.ifCond .ne 5, 3) := by decide +kernel
theorem dX12_saying_26 : decode cX12_saying 26 = .ok (.iconst (-1), 1) := by decide +kernel
theorem dX12_saying_27 : decode cX12_saying 27 = .ok (.ireturn, 1) := by decide +kernel
theorem dX12_saying_28 : decode cX12_saying 28 = .ok (.iconst 0, 1) := by decide +kernel
theorem dX12_saying_29 : decode cX12_saying 29 = .ok (.istore 4, 2) := by decide +kernel
theorem dX12_saying_31 : decode cX12_saying 31 = .ok (.bipush (-5), 2) := by decide +kernel
theorem dX12_saying_33 : decode cX12_saying 33 = .ok (.istore 5, 2) := by decide +kernel
theorem dX12_saying_35 : decode cX12_saying 35 = .ok (.sipush 1023, 3) := by decide +kernel
theorem dX12_saying_38 : decode cX12_saying 38 = .ok (.istore 6, 2) := by decide +kernel
theorem dX12_saying_40 : decode cX12_saying 40 = .ok (.iload 6, 2) := by decide +kernel
theorem dX12_saying_42 : decode cX12_saying 42 = .ok (.ifCond .lt 35, 3) := by decide +kernel
theorem dX12_saying_45 : decode cX12_saying 45 = .ok (.aload_n 0, 1) := by decide +kernel
theorem dX12_saying_46 : decode cX12_saying 46 = .ok (.iload_n 1, 1) := by decide +kernel
theorem dX12_saying_47 : decode cX12_saying 47 = .ok (.iload 6, 2) := by decide +kernel
theorem dX12_saying_49 : decode cX12_saying 49 = .ok (.invokevirtual 290, 3) := by decide +kernel
theorem dX12_saying_52 : decode cX12_saying 52 = .ok (.aload_n 0, 1) := by decide +kernel
theorem dX12_saying_53 : decode cX12_saying 53 = .ok (.getfield 19, 3) := by decide +kernel
theorem dX12_saying_56 : decode cX12_saying 56 = .ok (.iload_n 2, 1) := by decide +kernel
theorem dX12_saying_57 : decode cX12_saying 57 = .ok (.iaload, 1) := by decide +kernel
theorem dX12_saying_58 : decode cX12_saying 58 = .ok (.if_icmp .eq 6, 3) := by decide +kernel
theorem dX12_saying_61 : decode cX12_saying 61 = .ok (.goto 10, 3) := by decide +kernel
theorem dX12_saying_64 : decode cX12_saying 64 = .ok (.iinc 4 1, 3) := by decide +kernel
theorem dX12_saying_67 : decode cX12_saying 67 = .ok (.iload 6, 2) := by decide +kernel
theorem dX12_saying_69 : decode cX12_saying 69 = .ok (.istore 5, 2) := by decide +kernel
theorem dX12_saying_71 : decode cX12_saying 71 = .ok (.iinc 6 (-1), 3) := by decide +kernel
theorem dX12_saying_74 : decode cX12_saying 74 = .ok (.goto (-34), 3) := by decide +kernel
theorem dX12_saying_77 : decode cX12_saying 77 = .ok (.iload_n 3, 1) := by decide +kernel
theorem dX12_saying_78 : decode cX12_saying 78 = .ok (.ifCond .ne 8, 3) := by decide +kernel
theorem dX12_saying_81 : decode cX12_saying 81 = .ok (.iload 5, 2) := by decide +kernel
theorem dX12_saying_83 : decode cX12_saying 83 = .ok (.goto 5, 3) := by decide +kernel
theorem dX12_saying_86 : decode cX12_saying 86 = .ok (.iload 4, 2) := by decide +kernel
theorem dX12_saying_88 : decode cX12_saying 88 = .ok (.ireturn, 1) := by decide +kernel
theorem dX12_hours_0 : decode cX12_hours 0 = .ok (.aload_n 0, 1) := by decide +kernel
theorem dX12_hours_1 : decode cX12_hours 1 = .ok (.iload_n 1, 1) := by decide +kernel
theorem dX12_hours_2 : decode cX12_hours 2 = .ok (.invokevirtual 212, 3) := by decide +kernel
theorem dX12_hours_5 : decode cX12_hours 5 = .ok (.ifCond .eq 11, 3) := by decide +kernel
theorem dX12_hours_8 : decode cX12_hours 8 = .ok (.aload_n 0, 1) := by decide +kernel
theorem dX12_hours_9 : decode cX12_hours 9 = .ok (.iload_n 2, 1) := by decide +kernel
theorem dX12_hours_10 : decode cX12_hours 10 = .ok (.invokevirtual 209, 3) := by decide +kernel
theorem dX12_hours_13 : decode cX12_hours 13 = .ok (.ifCond .ne 5, 3) := by decide +kernel
theorem dX12_hours_16 : decode cX12_hours 16 = .ok (.iconst (-1), 1) := by decide +kernel
theorem dX12_hours_17 : decode cX12_hours 17 = .ok (.ireturn, 1) := by decide +kernel
theorem dX12_hours_18 : decode cX12_hours 18 = .ok (.iconst 0, 1) := by decide +kernel
theorem dX12_hours_19 : decode cX12_hours 19 = .ok (.istore_n 3, 1) := by decide +kernel
theorem dX12_hours_20 : decode cX12_hours 20 = .ok (.iconst 0, 1) := by decide +kernel
theorem dX12_hours_21 : decode cX12_hours 21 = .ok (.istore 4, 2) := by decide +kernel
theorem dX12_hours_23 : decode cX12_hours 23 = .ok (.iload 4, 2) := by decide +kernel
theorem dX12_hours_25 : decode cX12_hours 25 = .ok (.bipush 24, 2) := by decide +kernel
theorem dX12_hours_27 : decode cX12_hours 27 = .ok (.if_icmp .ge 39, 3) := by decide +kernel
theorem dX12_hours_30 : decode cX12_hours 30 = .ok (.iload_n 3, 1) := by decide +kernel
theorem dX12_hours_31 : decode cX12_hours 31 = .ok (.aload_n 0, 1) := by decide +kernel
theorem dX12_hours_32 : decode cX12_hours 32 = .ok (.iload_n 1, 1) := by decide +kernel
theorem dX12_hours_33 : decode cX12_hours 33 = .ok (.iload_n 2, 1) := by decide +kernel
theorem dX12_hours_34 : decode cX12_hours 34 = .ok (.invokevirtual 296, 3) := by decide +kernel
theorem dX12_hours_37 : decode cX12_hours 37 = .ok (.ifCond .eq 10, 3) := by decide +kernel
theorem dX12_hours_40 : decode cX12_hours 40 = .ok (.iconst 1, 1) := by decide +kernel
theorem dX12_hours_41 : decode cX12_hours 41 = .ok (.iload 4, 2) := by decide +kernel
theorem dX12_hours_43 : decode cX12_hours 43 = .ok (.ishl, 1) := by decide +kernel
theorem dX12_hours_44 : decode cX12_hours 44 = .ok (.goto 4, 3) := by decide +kernel
theorem dX12_hours_47 : decode cX12_hours 47 = .ok (.iconst 0, 1) := by decide +kernel
theorem dX12_hours_48 : decode cX12_hours 48 = .ok (.ior, 1) := by decide +kernel
theorem dX12_hours_49 : decode cX12_hours 49 = .ok (.istore_n 3, 1) := by decide +kernel
theorem dX12_hours_50 : decode cX12_hours 50 = .ok (.aload_n 0, 1) := by decide +kernel
theorem dX12_hours_51 : decode cX12_hours 51 = .ok (.dup, 1) := by decide +kernel
theorem dX12_hours_52 : decode cX12_hours 52 = .ok (.getfield 16, 3) := by decide +kernel
theorem dX12_hours_55 : decode cX12_hours 55 = .ok (.iconst 1, 1) := by decide +kernel
theorem dX12_hours_56 : decode cX12_hours 56 = .ok (.iadd, 1) := by decide +kernel
theorem dX12_hours_57 : decode cX12_hours 57 = .ok (.putfield 16, 3) := by decide +kernel
theorem dX12_hours_60 : decode cX12_hours 60 = .ok (.iinc 4 1, 3) := by decide +kernel
theorem dX12_hours_63 : decode cX12_hours 63 = .ok (.goto (-40), 3) := by decide +kernel
theorem dX12_hours_66 : decode cX12_hours 66 = .ok (.aload_n 0, 1) := by decide +kernel
theorem dX12_hours_67 : decode cX12_hours 67 = .ok (.dup, 1) := by decide +kernel
theorem dX12_hours_68 : decode cX12_hours 68 = .ok (.getfield 16, 3) := by decide +kernel
theorem dX12_hours_71 : decode cX12_hours 71 = .ok (.bipush 24, 2) := by decide +kernel
theorem dX12_hours_73 : decode cX12_hours 73 = .ok (.isub, 1) := by decide +kernel
theorem dX12_hours_74 : decode cX12_hours 74 = .ok (.putfield 16, 3) := by decide +kernel
theorem dX12_hours_77 : decode cX12_hours 77 = .ok (.iload_n 3, 1) := by decide +kernel
theorem dX12_hours_78 : decode cX12_hours 78 = .ok (.ireturn, 1) := by decide +kernel
theorem dX12_senders_0 : decode cX12_senders 0 = .ok (.aload_n 0, 1) := by decide +kernel
theorem dX12_senders_1 : decode cX12_senders 1 = .ok (.iload_n 1, 1) := by decide +kernel
theorem dX12_senders_2 : decode cX12_senders 2 = .ok (.invokevirtual 209, 3) := by decide +kernel
theorem dX12_senders_5 : decode cX12_senders 5 = .ok (.ifCond .ne 5, 3) := by decide +kernel
theorem dX12_senders_8 : decode cX12_senders 8 = .ok (.iconst (-1), 1) := by decide +kernel
theorem dX12_senders_9 : decode cX12_senders 9 = .ok (.ireturn, 1) := by decide +kernel
theorem dX12_senders_10 : decode cX12_senders 10 = .ok (.aload_n 0, 1) := by decide +kernel
theorem dX12_senders_11 : decode cX12_senders 11 = .ok (.iload_n 2, 1) := by decide +kernel
theorem dX12_senders_12 : decode cX12_senders 12 = .ok (.invokevirtual 205, 3) := by decide +kernel
theorem dX12_senders_15 : decode cX12_senders 15 = .ok (.ifCond .ne 6, 3) := by decide +kernel
theorem dX12_senders_18 : decode cX12_senders 18 = .ok (.bipush (-2), 2) := by decide +kernel
theorem dX12_senders_20 : decode cX12_senders 20 = .ok (.ireturn, 1) := by decide +kernel
theorem dX12_senders_21 : decode cX12_senders 21 = .ok (.iconst 0, 1) := by decide +kernel
theorem dX12_senders_22 : decode cX12_senders 22 = .ok (.istore_n 3, 1) := by decide +kernel
theorem dX12_senders_23 : decode cX12_senders 23 = .ok (.iconst 0, 1) := by decide +kernel
theorem dX12_senders_24 : decode cX12_senders 24 = .ok (.istore 4, 2) := by decide +kernel
theorem dX12_senders_26 : decode cX12_senders 26 = .ok (.iload 4, 2) := by decide +kernel
theorem dX12_senders_28 : decode cX12_senders 28 = .ok (.aload_n 0, 1) := by decide +kernel
theorem dX12_senders_29 : decode cX12_senders 29 = .ok (.getfield 13, 3) := by decide +kernel
theorem dX12_senders_32 : decode cX12_senders 32 = .ok (.if_icmp .ge 36, 3) := by decide +kernel
theorem dX12_senders_35 : decode cX12_senders 35 = .ok (.iload_n 3, 1) := by decide +kernel
theorem dX12_senders_36 : decode cX12_senders 36 = .ok (.aload_n 0, 1) := by decide +kernel
theorem dX12_senders_37 : decode cX12_senders 37 = .ok (.iload 4, 2) := by decide +kernel
theorem dX12_senders_39 : decode cX12_senders 39 = .ok (.aload_n 0, 1) := by decide +kernel
theorem dX12_senders_40 : decode cX12_senders 40 = .ok (.getfield 19, 3) := by decide +kernel
theorem dX12_senders_43 : decode cX12_senders 43 = .ok (.iload_n 1, 1) := by decide +kernel
theorem dX12_senders_44 : decode cX12_senders 44 = .ok (.iaload, 1) := by decide +kernel
theorem dX12_senders_45 : decode cX12_senders 45 = .ok (.invokevirtual 290, 3) := by decide +kernel
theorem dX12_senders_48 : decode cX12_senders 48 = .ok (.iload_n 2, 1) := by decide +kernel
theorem dX12_senders_49 : decode cX12_senders 49 = .ok (.if_icmp .ne 10, 3) := by decide +kernel
theorem dX12_senders_52 : decode cX12_senders 52 = .ok (.iconst 1, 1) := by decide +kernel
theorem dX12_senders_53 : decode cX12_senders 53 = .ok (.iload 4, 2) := by decide +kernel
theorem dX12_senders_55 : decode cX12_senders 55 = .ok (.ishl, 1) := by decide +kernel
theorem dX12_senders_56 : decode cX12_senders 56 = .ok (.goto 4, 3) := by decide +kernel
theorem dX12_senders_59 : decode cX12_senders 59 = .ok (.iconst 0, 1) := by decide +kernel
theorem dX12_senders_60 : decode cX12_senders 60 = .ok (.ior, 1) := by decide +kernel
theorem dX12_senders_61 : decode cX12_senders 61 = .ok (.istore_n 3, 1) := by decide +kernel
theorem dX12_senders_62 : decode cX12_senders 62 = .ok (.iinc 4 1, 3) := by decide +kernel
theorem dX12_senders_65 : decode cX12_senders 65 = .ok (.goto (-39), 3) := by decide +kernel
theorem dX12_senders_68 : decode cX12_senders 68 = .ok (.iload_n 3, 1) := by decide +kernel
theorem dX12_senders_69 : decode cX12_senders 69 = .ok (.ireturn, 1) := by decide +kernel
theorem dX12_meant_0 : decode cX12_meant 0 = .ok (.aload_n 0, 1) := by decide +kernel
theorem dX12_meant_1 : decode cX12_meant 1 = .ok (.iload_n 1, 1) := by decide +kernel
theorem dX12_meant_2 : decode cX12_meant 2 = .ok (.invokevirtual 212, 3) := by decide +kernel
theorem dX12_meant_5 : decode cX12_meant 5 = .ok (.ifCond .ne 5, 3) := by decide +kernel
theorem dX12_meant_8 : decode cX12_meant 8 = .ok (.iconst (-1), 1) := by decide +kernel
theorem dX12_meant_9 : decode cX12_meant 9 = .ok (.ireturn, 1) := by decide +kernel
theorem dX12_meant_10 : decode cX12_meant 10 = .ok (.aload_n 0, 1) := by decide +kernel
theorem dX12_meant_11 : decode cX12_meant 11 = .ok (.iload_n 2, 1) := by decide +kernel
theorem dX12_meant_12 : decode cX12_meant 12 = .ok (.invokevirtual 205, 3) := by decide +kernel
theorem dX12_meant_15 : decode cX12_meant 15 = .ok (.ifCond .ne 6, 3) := by decide +kernel
theorem dX12_meant_18 : decode cX12_meant 18 = .ok (.bipush (-2), 2) := by decide +kernel
theorem dX12_meant_20 : decode cX12_meant 20 = .ok (.ireturn, 1) := by decide +kernel
theorem dX12_meant_21 : decode cX12_meant 21 = .ok (.iconst 0, 1) := by decide +kernel
theorem dX12_meant_22 : decode cX12_meant 22 = .ok (.istore_n 3, 1) := by decide +kernel
theorem dX12_meant_23 : decode cX12_meant 23 = .ok (.iconst 0, 1) := by decide +kernel
theorem dX12_meant_24 : decode cX12_meant 24 = .ok (.istore 4, 2) := by decide +kernel
theorem dX12_meant_26 : decode cX12_meant 26 = .ok (.iload 4, 2) := by decide +kernel
theorem dX12_meant_28 : decode cX12_meant 28 = .ok (.aload_n 0, 1) := by decide +kernel
theorem dX12_meant_29 : decode cX12_meant 29 = .ok (.getfield 7, 3) := by decide +kernel
theorem dX12_meant_32 : decode cX12_meant 32 = .ok (.if_icmp .ge 36, 3) := by decide +kernel
theorem dX12_meant_35 : decode cX12_meant 35 = .ok (.iload_n 3, 1) := by decide +kernel
theorem dX12_meant_36 : decode cX12_meant 36 = .ok (.aload_n 0, 1) := by decide +kernel
theorem dX12_meant_37 : decode cX12_meant 37 = .ok (.iload_n 1, 1) := by decide +kernel
theorem dX12_meant_38 : decode cX12_meant 38 = .ok (.aload_n 0, 1) := by decide +kernel
theorem dX12_meant_39 : decode cX12_meant 39 = .ok (.getfield 19, 3) := by decide +kernel
theorem dX12_meant_42 : decode cX12_meant 42 = .ok (.iload 4, 2) := by decide +kernel
theorem dX12_meant_44 : decode cX12_meant 44 = .ok (.iaload, 1) := by decide +kernel
theorem dX12_meant_45 : decode cX12_meant 45 = .ok (.invokevirtual 290, 3) := by decide +kernel
theorem dX12_meant_48 : decode cX12_meant 48 = .ok (.iload_n 2, 1) := by decide +kernel
theorem dX12_meant_49 : decode cX12_meant 49 = .ok (.if_icmp .ne 10, 3) := by decide +kernel
theorem dX12_meant_52 : decode cX12_meant 52 = .ok (.iconst 1, 1) := by decide +kernel
theorem dX12_meant_53 : decode cX12_meant 53 = .ok (.iload 4, 2) := by decide +kernel
theorem dX12_meant_55 : decode cX12_meant 55 = .ok (.ishl, 1) := by decide +kernel
theorem dX12_meant_56 : decode cX12_meant 56 = .ok (.goto 4, 3) := by decide +kernel
theorem dX12_meant_59 : decode cX12_meant 59 = .ok (.iconst 0, 1) := by decide +kernel
theorem dX12_meant_60 : decode cX12_meant 60 = .ok (.ior, 1) := by decide +kernel
theorem dX12_meant_61 : decode cX12_meant 61 = .ok (.istore_n 3, 1) := by decide +kernel
theorem dX12_meant_62 : decode cX12_meant 62 = .ok (.iinc 4 1, 3) := by decide +kernel
theorem dX12_meant_65 : decode cX12_meant 65 = .ok (.goto (-39), 3) := by decide +kernel
theorem dX12_meant_68 : decode cX12_meant 68 = .ok (.iload_n 3, 1) := by decide +kernel
theorem dX12_meant_69 : decode cX12_meant 69 = .ok (.ireturn, 1) := by decide +kernel
theorem dX12_layTurn_0 : decode cX12_layTurn 0 = .ok (.iload_n 1, 1) := by decide +kernel
theorem dX12_layTurn_1 : decode cX12_layTurn 1 = .ok (.istore_n 2, 1) := by decide +kernel
theorem dX12_layTurn_2 : decode cX12_layTurn 2 = .ok (.iconst 0, 1) := by decide +kernel
theorem dX12_layTurn_3 : decode cX12_layTurn 3 = .ok (.istore_n 3, 1) := by decide +kernel
theorem dX12_layTurn_4 : decode cX12_layTurn 4 = .ok (.aload_n 0, 1) := by decide +kernel
theorem dX12_layTurn_5 : decode cX12_layTurn 5 = .ok (.getfield 13, 3) := by decide +kernel
theorem dX12_layTurn_8 : decode cX12_layTurn 8 = .ok (.iconst 1, 1) := by decide +kernel
theorem dX12_layTurn_9 : decode cX12_layTurn 9 = .ok (.isub, 1) := by decide +kernel
theorem dX12_layTurn_10 : decode cX12_layTurn 10 = .ok (.istore 4, 2) := by decide +kernel
theorem dX12_layTurn_12 : decode cX12_layTurn 12 = .ok (.iload 4, 2) := by decide +kernel
theorem dX12_layTurn_14 : decode cX12_layTurn 14 = .ok (.ifCond .lt 66, 3) := by decide +kernel
theorem dX12_layTurn_17 : decode cX12_layTurn 17 = .ok (.aload_n 0, 1) := by decide +kernel
theorem dX12_layTurn_18 : decode cX12_layTurn 18 = .ok (.getfield 93, 3) := by decide +kernel
theorem dX12_layTurn_21 : decode cX12_layTurn 21 = .ok (.iload 4, 2) := by decide +kernel
theorem dX12_layTurn_23 : decode cX12_layTurn 23 = .ok (.iload_n 2, 1) := by decide +kernel
theorem dX12_layTurn_24 : decode cX12_layTurn 24 = .ok (.iconst 5, 1) := by decide +kernel
theorem dX12_layTurn_25 : decode cX12_layTurn 25 = .ok (.irem, 1) := by decide +kernel
theorem dX12_layTurn_26 : decode cX12_layTurn 26 = .ok (.iastore, 1) := by decide +kernel
theorem dX12_layTurn_27 : decode cX12_layTurn 27 = .ok (.iload_n 2, 1) := by decide +kernel
theorem dX12_layTurn_28 : decode cX12_layTurn 28 = .ok (.iconst 5, 1) := by decide +kernel
theorem dX12_layTurn_29 : decode cX12_layTurn 29 = .ok (.idiv, 1) := by decide +kernel
theorem dX12_layTurn_30 : decode cX12_layTurn 30 = .ok (.istore_n 2, 1) := by decide +kernel
theorem dX12_layTurn_31 : decode cX12_layTurn 31 = .ok (.aload_n 0, 1) := by decide +kernel
theorem dX12_layTurn_32 : decode cX12_layTurn 32 = .ok (.getfield 93, 3) := by decide +kernel
theorem dX12_layTurn_35 : decode cX12_layTurn 35 = .ok (.iload 4, 2) := by decide +kernel
theorem dX12_layTurn_37 : decode cX12_layTurn 37 = .ok (.iaload, 1) := by decide +kernel
theorem dX12_layTurn_38 : decode cX12_layTurn 38 = .ok (.aload_n 0, 1) := by decide +kernel
theorem dX12_layTurn_39 : decode cX12_layTurn 39 = .ok (.getfield 13, 3) := by decide +kernel
theorem dX12_layTurn_42 : decode cX12_layTurn 42 = .ok (.if_icmp .ge 18, 3) := by decide +kernel
theorem dX12_layTurn_45 : decode cX12_layTurn 45 = .ok (.aload_n 0, 1) := by decide +kernel
theorem dX12_layTurn_46 : decode cX12_layTurn 46 = .ok (.iload_n 3, 1) := by decide +kernel
theorem dX12_layTurn_47 : decode cX12_layTurn 47 = .ok (.aload_n 0, 1) := by decide +kernel
theorem dX12_layTurn_48 : decode cX12_layTurn 48 = .ok (.getfield 93, 3) := by decide +kernel
theorem dX12_layTurn_51 : decode cX12_layTurn 51 = .ok (.iload 4, 2) := by decide +kernel
theorem dX12_layTurn_53 : decode cX12_layTurn 53 = .ok (.iaload, 1) := by decide +kernel
theorem dX12_layTurn_54 : decode cX12_layTurn 54 = .ok (.invokevirtual 197, 3) := by decide +kernel
theorem dX12_layTurn_57 : decode cX12_layTurn 57 = .ok (.ifCond .eq 5, 3) := by decide +kernel
theorem dX12_layTurn_60 : decode cX12_layTurn 60 = .ok (.iconst 0, 1) := by decide +kernel
theorem dX12_layTurn_61 : decode cX12_layTurn 61 = .ok (.ireturn, 1) := by decide +kernel
theorem dX12_layTurn_62 : decode cX12_layTurn 62 = .ok (.iload_n 3, 1) := by decide +kernel
theorem dX12_layTurn_63 : decode cX12_layTurn 63 = .ok (.iconst 1, 1) := by decide +kernel
theorem dX12_layTurn_64 : decode cX12_layTurn 64 = .ok (.aload_n 0, 1) := by decide +kernel
theorem dX12_layTurn_65 : decode cX12_layTurn 65 = .ok (.getfield 93, 3) := by decide +kernel
theorem dX12_layTurn_68 : decode cX12_layTurn 68 = .ok (.iload 4, 2) := by decide +kernel
theorem dX12_layTurn_70 : decode cX12_layTurn 70 = .ok (.iaload, 1) := by decide +kernel
theorem dX12_layTurn_71 : decode cX12_layTurn 71 = .ok (.ishl, 1) := by decide +kernel
theorem dX12_layTurn_72 : decode cX12_layTurn 72 = .ok (.ior, 1) := by decide +kernel
theorem dX12_layTurn_73 : decode cX12_layTurn 73 = .ok (.istore_n 3, 1) := by decide +kernel
theorem dX12_layTurn_74 : decode cX12_layTurn 74 = .ok (.iinc 4 (-1), 3) := by decide +kernel
theorem dX12_layTurn_77 : decode cX12_layTurn 77 = .ok (.goto (-65), 3) := by decide +kernel
theorem dX12_layTurn_80 : decode cX12_layTurn 80 = .ok (.iconst 1, 1) := by decide +kernel
theorem dX12_layTurn_81 : decode cX12_layTurn 81 = .ok (.ireturn, 1) := by decide +kernel
theorem dX12_passed_0 : decode cX12_passed 0 = .ok (.aload_n 0, 1) := by decide +kernel
theorem dX12_passed_1 : decode cX12_passed 1 = .ok (.iload_n 1, 1) := by decide +kernel
theorem dX12_passed_2 : decode cX12_passed 2 = .ok (.invokevirtual 209, 3) := by decide +kernel
theorem dX12_passed_5 : decode cX12_passed 5 = .ok (.ifCond .eq 13, 3) := by decide +kernel
theorem dX12_passed_8 : decode cX12_passed 8 = .ok (.aload_n 0, 1) := by decide +kernel
theorem dX12_passed_9 : decode cX12_passed 9 = .ok (.iload_n 2, 1) := by decide +kernel
theorem dX12_passed_10 : decode cX12_passed 10 = .ok (.iconst (-1), 1) := by decide +kernel
theorem dX12_passed_11 : decode cX12_passed 11 = .ok (.iconst 4, 1) := by decide +kernel
theorem dX12_passed_12 : decode cX12_passed 12 = .ok (.invokevirtual 201, 3) := by decide +kernel
theorem dX12_passed_15 : decode cX12_passed 15 = .ok (.ifCond .ne 5, 3) := by decide +kernel
theorem dX12_passed_18 : decode cX12_passed 18 = .ok (.iconst (-1), 1) := by decide +kernel
theorem dX12_passed_19 : decode cX12_passed 19 = .ok (.ireturn, 1) := by decide +kernel
theorem dX12_passed_20 : decode cX12_passed 20 = .ok (.iconst 1, 1) := by decide +kernel
theorem dX12_passed_21 : decode cX12_passed 21 = .ok (.istore_n 3, 1) := by decide +kernel
theorem dX12_passed_22 : decode cX12_passed 22 = .ok (.iconst 0, 1) := by decide +kernel
theorem dX12_passed_23 : decode cX12_passed 23 = .ok (.istore 4, 2) := by decide +kernel
theorem dX12_passed_25 : decode cX12_passed 25 = .ok (.iload 4, 2) := by decide +kernel
theorem dX12_passed_27 : decode cX12_passed 27 = .ok (.aload_n 0, 1) := by decide +kernel
theorem dX12_passed_28 : decode cX12_passed 28 = .ok (.getfield 13, 3) := by decide +kernel
theorem dX12_passed_31 : decode cX12_passed 31 = .ok (.if_icmp .ge 13, 3) := by decide +kernel
theorem dX12_passed_34 : decode cX12_passed 34 = .ok (.iload_n 3, 1) := by decide +kernel
theorem dX12_passed_35 : decode cX12_passed 35 = .ok (.iconst 5, 1) := by decide +kernel
theorem dX12_passed_36 : decode cX12_passed 36 = .ok (.imul, 1) := by decide +kernel
theorem dX12_passed_37 : decode cX12_passed 37 = .ok (.istore_n 3, 1) := by decide +kernel
theorem dX12_passed_38 : decode cX12_passed 38 = .ok (.iinc 4 1, 3) := by decide +kernel
theorem dX12_passed_41 : decode cX12_passed 41 = .ok (.goto (-16), 3) := by decide +kernel
theorem dX12_passed_44 : decode cX12_passed 44 = .ok (.bipush 99, 2) := by decide +kernel
theorem dX12_passed_46 : decode cX12_passed 46 = .ok (.istore 4, 2) := by decide +kernel
theorem dX12_passed_48 : decode cX12_passed 48 = .ok (.iconst 0, 1) := by decide +kernel
theorem dX12_passed_49 : decode cX12_passed 49 = .ok (.istore 5, 2) := by decide +kernel
theorem dX12_passed_51 : decode cX12_passed 51 = .ok (.iload 5, 2) := by decide +kernel
theorem dX12_passed_53 : decode cX12_passed 53 = .ok (.iload_n 3, 1) := by decide +kernel
theorem dX12_passed_54 : decode cX12_passed 54 = .ok (.if_icmp .ge 120, 3) := by decide +kernel
theorem dX12_passed_57 : decode cX12_passed 57 = .ok (.aload_n 0, 1) := by decide +kernel
theorem dX12_passed_58 : decode cX12_passed 58 = .ok (.iload 5, 2) := by decide +kernel
theorem dX12_passed_60 : decode cX12_passed 60 = .ok (.invokevirtual 315, 3) := by decide +kernel
theorem dX12_passed_63 : decode cX12_passed 63 = .ok (.ifCond .ne 6, 3) := by decide +kernel
theorem dX12_passed_66 : decode cX12_passed 66 = .ok (.goto 102, 3) := by decide +kernel
theorem dX12_passed_69 : decode cX12_passed 69 = .ok (.aload_n 0, 1) := by decide +kernel
theorem dX12_passed_70 : decode cX12_passed 70 = .ok (.getfield 19, 3) := by decide +kernel
theorem dX12_passed_73 : decode cX12_passed 73 = .ok (.iload_n 1, 1) := by decide +kernel
theorem dX12_passed_74 : decode cX12_passed 74 = .ok (.iaload, 1) := by decide +kernel
theorem dX12_passed_75 : decode cX12_passed 75 = .ok (.istore 6, 2) := by decide +kernel
theorem dX12_passed_77 : decode cX12_passed 77 = .ok (.iconst 0, 1) := by decide +kernel
theorem dX12_passed_78 : decode cX12_passed 78 = .ok (.istore 7, 2) := by decide +kernel
theorem dX12_passed_80 : decode cX12_passed 80 = .ok (.iload 7, 2) := by decide +kernel
theorem dX12_passed_82 : decode cX12_passed 82 = .ok (.aload_n 0, 1) := by decide +kernel
theorem dX12_passed_83 : decode cX12_passed 83 = .ok (.getfield 13, 3) := by decide +kernel
theorem dX12_passed_86 : decode cX12_passed 86 = .ok (.if_icmp .ge 24, 3) := by decide +kernel
theorem dX12_passed_89 : decode cX12_passed 89 = .ok (.aload_n 0, 1) := by decide +kernel
theorem dX12_passed_90 : decode cX12_passed 90 = .ok (.aload_n 0, 1) := by decide +kernel
theorem dX12_passed_91 : decode cX12_passed 91 = .ok (.getfield 93, 3) := by decide +kernel
theorem dX12_passed_94 : decode cX12_passed 94 = .ok (.iload 7, 2) := by decide +kernel
theorem dX12_passed_96 : decode cX12_passed 96 = .ok (.iaload, 1) := by decide +kernel
theorem dX12_passed_97 : decode cX12_passed 97 = .ok (.iload 6, 2) := by decide +kernel
theorem dX12_passed_99 : decode cX12_passed 99 = .ok (.invokevirtual 290, 3) := by decide +kernel
theorem dX12_passed_102 : decode cX12_passed 102 = .ok (.istore 6, 2) := by decide +kernel
theorem dX12_passed_104 : decode cX12_passed 104 = .ok (.iinc 7 1, 3) := by decide +kernel
theorem dX12_passed_107 : decode cX12_passed 107 = .ok (.goto (-27), 3) := by decide +kernel
theorem dX12_passed_110 : decode cX12_passed 110 = .ok (.aload_n 0, 1) := by decide +kernel
theorem dX12_passed_111 : decode cX12_passed 111 = .ok (.iload 6, 2) := by decide +kernel
theorem dX12_passed_113 : decode cX12_passed 113 = .ok (.aload_n 0, 1) := by decide +kernel
theorem dX12_passed_114 : decode cX12_passed 114 = .ok (.getfield 19, 3) := by decide +kernel
theorem dX12_passed_117 : decode cX12_passed 117 = .ok (.iload_n 1, 1) := by decide +kernel
theorem dX12_passed_118 : decode cX12_passed 118 = .ok (.iaload, 1) := by decide +kernel
theorem dX12_passed_119 : decode cX12_passed 119 = .ok (.ixor, 1) := by decide +kernel
theorem dX12_passed_120 : decode cX12_passed 120 = .ok (.invokevirtual 267, 3) := by decide +kernel
theorem dX12_passed_123 : decode cX12_passed 123 = .ok (.istore 7, 2) := by decide +kernel
theorem dX12_passed_125 : decode cX12_passed 125 = .ok (.iload 7, 2) := by decide +kernel
theorem dX12_passed_127 : decode cX12_passed 127 = .ok (.iload 4, 2) := by decide +kernel
theorem dX12_passed_129 : decode cX12_passed 129 = .ok (.if_icmp .lt 6, 3) := by decide +kernel
theorem dX12_passed_132 : decode cX12_passed 132 = .ok (.goto 36, 3) := by decide +kernel
theorem dX12_passed_135 : decode cX12_passed 135 = .ok (.iload 7, 2) := by decide +kernel
theorem dX12_passed_137 : decode cX12_passed 137 = .ok (.istore 4, 2) := by decide +kernel
theorem dX12_passed_139 : decode cX12_passed 139 = .ok (.iconst 0, 1) := by decide +kernel
theorem dX12_passed_140 : decode cX12_passed 140 = .ok (.istore 8, 2) := by decide +kernel
theorem dX12_passed_142 : decode cX12_passed 142 = .ok (.iload 8, 2) := by decide +kernel
theorem dX12_passed_144 : decode cX12_passed 144 = .ok (.iconst 5, 1) := by decide +kernel
theorem dX12_passed_145 : decode cX12_passed 145 = .ok (.if_icmp .ge 23, 3) := by decide +kernel
theorem dX12_passed_148 : decode cX12_passed 148 = .ok (.aload_n 0, 1) := by decide +kernel
theorem dX12_passed_149 : decode cX12_passed 149 = .ok (.getfield 96, 3) := by decide +kernel
theorem dX12_passed_152 : decode cX12_passed 152 = .ok (.iload 8, 2) := by decide +kernel
theorem dX12_passed_154 : decode cX12_passed 154 = .ok (.aload_n 0, 1) := by decide +kernel
theorem dX12_passed_155 : decode cX12_passed 155 = .ok (.getfield 93, 3) := by decide +kernel
theorem dX12_passed_158 : decode cX12_passed 158 = .ok (.iload 8, 2) := by decide +kernel
theorem dX12_passed_160 : decode cX12_passed 160 = .ok (.iaload, 1) := by decide +kernel
theorem dX12_passed_161 : decode cX12_passed 161 = .ok (.iastore, 1) := by decide +kernel
theorem dX12_passed_162 : decode cX12_passed 162 = .ok (.iinc 8 1, 3) := by decide +kernel
theorem dX12_passed_165 : decode cX12_passed 165 = .ok (.goto (-23), 3) := by decide +kernel
theorem dX12_passed_168 : decode cX12_passed 168 = .ok (.iinc 5 1, 3) := by decide +kernel
theorem dX12_passed_171 : decode cX12_passed 171 = .ok (.goto (-120), 3) := by decide +kernel
theorem dX12_passed_174 : decode cX12_passed 174 = .ok (.iload_n 2, 1) := by decide +kernel
theorem dX12_passed_175 : decode cX12_passed 175 = .ok (.ifCond .ge 6, 3) := by decide +kernel
theorem dX12_passed_178 : decode cX12_passed 178 = .ok (.iload 4, 2) := by decide +kernel
theorem dX12_passed_180 : decode cX12_passed 180 = .ok (.ireturn, 1) := by decide +kernel
theorem dX12_passed_181 : decode cX12_passed 181 = .ok (.iload_n 2, 1) := by decide +kernel
theorem dX12_passed_182 : decode cX12_passed 182 = .ok (.aload_n 0, 1) := by decide +kernel
theorem dX12_passed_183 : decode cX12_passed 183 = .ok (.getfield 13, 3) := by decide +kernel
theorem dX12_passed_186 : decode cX12_passed 186 = .ok (.if_icmp .ge 12, 3) := by decide +kernel
theorem dX12_passed_189 : decode cX12_passed 189 = .ok (.aload_n 0, 1) := by decide +kernel
theorem dX12_passed_190 : decode cX12_passed 190 = .ok (.getfield 96, 3) := by decide +kernel
theorem dX12_passed_193 : decode cX12_passed 193 = .ok (.iload_n 2, 1) := by decide +kernel
theorem dX12_passed_194 : decode cX12_passed 194 = .ok (.iaload, 1) := by decide +kernel
theorem dX12_passed_195 : decode cX12_passed 195 = .ok (.goto 5, 3) := by decide +kernel
theorem dX12_passed_198 : decode cX12_passed 198 = .ok (.bipush (-5), 2) := by decide +kernel
theorem dX12_passed_200 : decode cX12_passed 200 = .ok (.ireturn, 1) := by decide +kernel
theorem dX12_see_0 : decode cX12_see 0 = .ok (.iload_n 1, 1) := by decide +kernel
theorem dX12_see_1 : decode cX12_see 1 = .ok (.iconst (-1), 1) := by decide +kernel
theorem dX12_see_2 : decode cX12_see 2 = .ok (.if_icmp .ne 10, 3) := by decide +kernel
theorem dX12_see_5 : decode cX12_see 5 = .ok (.aload_n 0, 1) := by decide +kernel
theorem dX12_see_6 : decode cX12_see 6 = .ok (.iconst 0, 1) := by decide +kernel
theorem dX12_see_7 : decode cX12_see 7 = .ok (.putfield 99, 3) := by decide +kernel
theorem dX12_see_10 : decode cX12_see 10 = .ok (.iconst 0, 1) := by decide +kernel
theorem dX12_see_11 : decode cX12_see 11 = .ok (.ireturn, 1) := by decide +kernel
theorem dX12_see_12 : decode cX12_see 12 = .ok (.aload_n 0, 1) := by decide +kernel
theorem dX12_see_13 : decode cX12_see 13 = .ok (.iload_n 1, 1) := by decide +kernel
theorem dX12_see_14 : decode cX12_see 14 = .ok (.invokevirtual 209, 3) := by decide +kernel
theorem dX12_see_17 : decode cX12_see 17 = .ok (.ifCond .ne 5, 3) := by decide +kernel
theorem dX12_see_20 : decode cX12_see 20 = .ok (.iconst (-1), 1) := by decide +kernel
theorem dX12_see_21 : decode cX12_see 21 = .ok (.ireturn, 1) := by decide +kernel
theorem dX12_see_22 : decode cX12_see 22 = .ok (.aload_n 0, 1) := by decide +kernel
theorem dX12_see_23 : decode cX12_see 23 = .ok (.iload_n 2, 1) := by decide +kernel
theorem dX12_see_24 : decode cX12_see 24 = .ok (.invokevirtual 205, 3) := by decide +kernel
theorem dX12_see_27 : decode cX12_see 27 = .ok (.ifCond .ne 6, 3) := by decide +kernel
theorem dX12_see_30 : decode cX12_see 30 = .ok (.bipush (-2), 2) := by decide +kernel
theorem dX12_see_32 : decode cX12_see 32 = .ok (.ireturn, 1) := by decide +kernel
theorem dX12_see_33 : decode cX12_see 33 = .ok (.aload_n 0, 1) := by decide +kernel
theorem dX12_see_34 : decode cX12_see 34 = .ok (.getfield 99, 3) := by decide +kernel
theorem dX12_see_37 : decode cX12_see 37 = .ok (.iconst 5, 1) := by decide +kernel
theorem dX12_see_38 : decode cX12_see 38 = .ok (.if_icmp .ne 6, 3) := by decide +kernel
theorem dX12_see_41 : decode cX12_see 41 = .ok (.bipush (-4), 2) := by decide +kernel
theorem dX12_see_43 : decode cX12_see 43 = .ok (.ireturn, 1) := by decide +kernel
theorem dX12_see_44 : decode cX12_see 44 = .ok (.aload_n 0, 1) := by decide +kernel
theorem dX12_see_45 : decode cX12_see 45 = .ok (.getfield 102, 3) := by decide +kernel
theorem dX12_see_48 : decode cX12_see 48 = .ok (.aload_n 0, 1) := by decide +kernel
theorem dX12_see_49 : decode cX12_see 49 = .ok (.getfield 99, 3) := by decide +kernel
theorem dX12_see_52 : decode cX12_see 52 = .ok (.iload_n 1, 1) := by decide +kernel
theorem dX12_see_53 : decode cX12_see 53 = .ok (.iastore, 1) := by decide +kernel
theorem dX12_see_54 : decode cX12_see 54 = .ok (.aload_n 0, 1) := by decide +kernel
theorem dX12_see_55 : decode cX12_see 55 = .ok (.getfield 105, 3) := by decide +kernel
theorem dX12_see_58 : decode cX12_see 58 = .ok (.aload_n 0, 1) := by decide +kernel
theorem dX12_see_59 : decode cX12_see 59 = .ok (.getfield 99, 3) := by decide +kernel
theorem dX12_see_62 : decode cX12_see 62 = .ok (.iload_n 2, 1) := by decide +kernel
theorem dX12_see_63 : decode cX12_see 63 = .ok (.iastore, 1) := by decide +kernel
theorem dX12_see_64 : decode cX12_see 64 = .ok (.aload_n 0, 1) := by decide +kernel
theorem dX12_see_65 : decode cX12_see 65 = .ok (.dup, 1) := by decide +kernel
theorem dX12_see_66 : decode cX12_see 66 = .ok (.getfield 99, 3) := by decide +kernel
theorem dX12_see_69 : decode cX12_see 69 = .ok (.iconst 1, 1) := by decide +kernel
theorem dX12_see_70 : decode cX12_see 70 = .ok (.iadd, 1) := by decide +kernel
theorem dX12_see_71 : decode cX12_see 71 = .ok (.putfield 99, 3) := by decide +kernel
theorem dX12_see_74 : decode cX12_see 74 = .ok (.aload_n 0, 1) := by decide +kernel
theorem dX12_see_75 : decode cX12_see 75 = .ok (.getfield 99, 3) := by decide +kernel
theorem dX12_see_78 : decode cX12_see 78 = .ok (.ireturn, 1) := by decide +kernel
theorem dX12_isSeen_0 : decode cX12_isSeen 0 = .ok (.iconst 0, 1) := by decide +kernel
theorem dX12_isSeen_1 : decode cX12_isSeen 1 = .ok (.istore_n 2, 1) := by decide +kernel
theorem dX12_isSeen_2 : decode cX12_isSeen 2 = .ok (.iload_n 2, 1) := by decide +kernel
theorem dX12_isSeen_3 : decode cX12_isSeen 3 = .ok (.aload_n 0, 1) := by decide +kernel
theorem dX12_isSeen_4 : decode cX12_isSeen 4 = .ok (.getfield 99, 3) := by decide +kernel
theorem dX12_isSeen_7 : decode cX12_isSeen 7 = .ok (.if_icmp .ge 36, 3) := by decide +kernel
theorem dX12_isSeen_10 : decode cX12_isSeen 10 = .ok (.aload_n 0, 1) := by decide +kernel
theorem dX12_isSeen_11 : decode cX12_isSeen 11 = .ok (.iload_n 1, 1) := by decide +kernel
theorem dX12_isSeen_12 : decode cX12_isSeen 12 = .ok (.aload_n 0, 1) := by decide +kernel
theorem dX12_isSeen_13 : decode cX12_isSeen 13 = .ok (.getfield 19, 3) := by decide +kernel
theorem dX12_isSeen_16 : decode cX12_isSeen 16 = .ok (.aload_n 0, 1) := by decide +kernel
theorem dX12_isSeen_17 : decode cX12_isSeen 17 = .ok (.getfield 102, 3) := by decide +kernel
theorem dX12_isSeen_20 : decode cX12_isSeen 20 = .ok (.iload_n 2, 1) := by decide +kernel
theorem dX12_isSeen_21 : decode cX12_isSeen 21 = .ok (.iaload, 1) := by decide +kernel
theorem dX12_isSeen_22 : decode cX12_isSeen 22 = .ok (.iaload, 1) := by decide +kernel
theorem dX12_isSeen_23 : decode cX12_isSeen 23 = .ok (.invokevirtual 290, 3) := by decide +kernel
theorem dX12_isSeen_26 : decode cX12_isSeen 26 = .ok (.aload_n 0, 1) := by decide +kernel
theorem dX12_isSeen_27 : decode cX12_isSeen 27 = .ok (.getfield 105, 3) := by decide +kernel
theorem dX12_isSeen_30 : decode cX12_isSeen 30 = .ok (.iload_n 2, 1) := by decide +kernel
theorem dX12_isSeen_31 : decode cX12_isSeen 31 = .ok (.iaload, 1) := by decide +kernel
theorem dX12_isSeen_32 : decode cX12_isSeen 32 = .ok (.if_icmp .eq 5, 3) := by decide +kernel
theorem dX12_isSeen_35 : decode cX12_isSeen 35 = .ok (.iconst 0, 1) := by decide +kernel
theorem dX12_isSeen_36 : decode cX12_isSeen 36 = .ok (.ireturn, 1) := by decide +kernel
theorem dX12_isSeen_37 : decode cX12_isSeen 37 = .ok (.iinc 2 1, 3) := by decide +kernel
theorem dX12_isSeen_40 : decode cX12_isSeen 40 = .ok (.goto (-38), 3) := by decide +kernel
theorem dX12_isSeen_43 : decode cX12_isSeen 43 = .ok (.iconst 1, 1) := by decide +kernel
theorem dX12_isSeen_44 : decode cX12_isSeen 44 = .ok (.ireturn, 1) := by decide +kernel
theorem dX12_can_0 : decode cX12_can 0 = .ok (.aload_n 0, 1) := by decide +kernel
theorem dX12_can_1 : decode cX12_can 1 = .ok (.iload_n 1, 1) := by decide +kernel
theorem dX12_can_2 : decode cX12_can 2 = .ok (.invokevirtual 212, 3) := by decide +kernel
theorem dX12_can_5 : decode cX12_can 5 = .ok (.ifCond .eq 13, 3) := by decide +kernel
theorem dX12_can_8 : decode cX12_can 8 = .ok (.aload_n 0, 1) := by decide +kernel
theorem dX12_can_9 : decode cX12_can 9 = .ok (.iload_n 2, 1) := by decide +kernel
theorem dX12_can_10 : decode cX12_can 10 = .ok (.iconst 0, 1) := by decide +kernel
theorem dX12_can_11 : decode cX12_can 11 = .ok (.iconst 1, 1) := by decide +kernel
theorem dX12_can_12 : decode cX12_can 12 = .ok (.invokevirtual 201, 3) := by decide +kernel
theorem dX12_can_15 : decode cX12_can 15 = .ok (.ifCond .ne 5, 3) := by decide +kernel
theorem dX12_can_18 : decode cX12_can 18 = .ok (.iconst (-1), 1) := by decide +kernel
theorem dX12_can_19 : decode cX12_can 19 = .ok (.ireturn, 1) := by decide +kernel
theorem dX12_can_20 : decode cX12_can 20 = .ok (.aload_n 0, 1) := by decide +kernel
theorem dX12_can_21 : decode cX12_can 21 = .ok (.getfield 26, 3) := by decide +kernel
theorem dX12_can_24 : decode cX12_can 24 = .ok (.iload_n 1, 1) := by decide +kernel
theorem dX12_can_25 : decode cX12_can 25 = .ok (.iaload, 1) := by decide +kernel
theorem dX12_can_26 : decode cX12_can 26 = .ok (.istore_n 3, 1) := by decide +kernel
theorem dX12_can_27 : decode cX12_can 27 = .ok (.iconst 0, 1) := by decide +kernel
theorem dX12_can_28 : decode cX12_can 28 = .ok (.istore 4, 2) := by decide +kernel
theorem dX12_can_30 : decode cX12_can 30 = .ok (.bipush (-5), 2) := by decide +kernel
theorem dX12_can_32 : decode cX12_can 32 = .ok (.istore 5, 2) := by decide +kernel
theorem dX12_can_34 : decode cX12_can 34 = .ok (.bipush 9, 2) := by decide +kernel
theorem dX12_can_36 : decode cX12_can 36 = .ok (.istore 6, 2) := by decide +kernel
theorem dX12_can_38 : decode cX12_can 38 = .ok (.iload 6, 2) := by decide +kernel
theorem dX12_can_40 : decode cX12_can 40 = .ok (.ifCond .lt 35, 3) := by decide +kernel
theorem dX12_can_43 : decode cX12_can 43 = .ok (.aload_n 0, 1) := by decide +kernel
theorem dX12_can_44 : decode cX12_can 44 = .ok (.getfield 26, 3) := by decide +kernel
theorem dX12_can_47 : decode cX12_can 47 = .ok (.iload_n 1, 1) := by decide +kernel
theorem dX12_can_48 : decode cX12_can 48 = .ok (.iload 6, 2) := by decide +kernel
theorem dX12_can_50 : decode cX12_can 50 = .ok (.iastore, 1) := by decide +kernel
theorem dX12_can_51 : decode cX12_can 51 = .ok (.aload_n 0, 1) := by decide +kernel
theorem dX12_can_52 : decode cX12_can 52 = .ok (.iload_n 1, 1) := by decide +kernel
theorem dX12_can_53 : decode cX12_can 53 = .ok (.invokevirtual 318, 3) := by decide +kernel
theorem dX12_can_56 : decode cX12_can 56 = .ok (.ifCond .ne 6, 3) := by decide +kernel
theorem dX12_can_59 : decode cX12_can 59 = .ok (.goto 10, 3) := by decide +kernel
theorem dX12_can_62 : decode cX12_can 62 = .ok (.iinc 4 1, 3) := by decide +kernel
theorem dX12_can_65 : decode cX12_can 65 = .ok (.iload 6, 2) := by decide +kernel
theorem dX12_can_67 : decode cX12_can 67 = .ok (.istore 5, 2) := by decide +kernel
theorem dX12_can_69 : decode cX12_can 69 = .ok (.iinc 6 (-1), 3) := by decide +kernel
theorem dX12_can_72 : decode cX12_can 72 = .ok (.goto (-34), 3) := by decide +kernel
theorem dX12_can_75 : decode cX12_can 75 = .ok (.aload_n 0, 1) := by decide +kernel
theorem dX12_can_76 : decode cX12_can 76 = .ok (.getfield 26, 3) := by decide +kernel
theorem dX12_can_79 : decode cX12_can 79 = .ok (.iload_n 1, 1) := by decide +kernel
theorem dX12_can_80 : decode cX12_can 80 = .ok (.iload_n 3, 1) := by decide +kernel
theorem dX12_can_81 : decode cX12_can 81 = .ok (.iastore, 1) := by decide +kernel
theorem dX12_can_82 : decode cX12_can 82 = .ok (.iload_n 2, 1) := by decide +kernel
theorem dX12_can_83 : decode cX12_can 83 = .ok (.ifCond .ne 8, 3) := by decide +kernel
theorem dX12_can_86 : decode cX12_can 86 = .ok (.iload 4, 2) := by decide +kernel
theorem dX12_can_88 : decode cX12_can 88 = .ok (.goto 5, 3) := by decide +kernel
theorem dX12_can_91 : decode cX12_can 91 = .ok (.iload 5, 2) := by decide +kernel
theorem dX12_can_93 : decode cX12_can 93 = .ok (.ireturn, 1) := by decide +kernel
theorem dX12_when_0 : decode cX12_when 0 = .ok (.aload_n 0, 1) := by decide +kernel
theorem dX12_when_1 : decode cX12_when 1 = .ok (.iload_n 1, 1) := by decide +kernel
theorem dX12_when_2 : decode cX12_when 2 = .ok (.invokevirtual 212, 3) := by decide +kernel
theorem dX12_when_5 : decode cX12_when 5 = .ok (.ifCond .eq 13, 3) := by decide +kernel
theorem dX12_when_8 : decode cX12_when 8 = .ok (.aload_n 0, 1) := by decide +kernel
theorem dX12_when_9 : decode cX12_when 9 = .ok (.iload_n 2, 1) := by decide +kernel
theorem dX12_when_10 : decode cX12_when 10 = .ok (.iconst 0, 1) := by decide +kernel
theorem dX12_when_11 : decode cX12_when 11 = .ok (.iconst 1, 1) := by decide +kernel
theorem dX12_when_12 : decode cX12_when 12 = .ok (.invokevirtual 201, 3) := by decide +kernel
theorem dX12_when_15 : decode cX12_when 15 = .ok (.ifCond .ne 5, 3) := by decide +kernel
theorem dX12_when_18 : decode cX12_when 18 = .ok (.iconst (-1), 1) := by decide +kernel
theorem dX12_when_19 : decode cX12_when 19 = .ok (.ireturn, 1) := by decide +kernel
theorem dX12_when_20 : decode cX12_when 20 = .ok (.aload_n 0, 1) := by decide +kernel
theorem dX12_when_21 : decode cX12_when 21 = .ok (.getfield 16, 3) := by decide +kernel
theorem dX12_when_24 : decode cX12_when 24 = .ok (.istore_n 3, 1) := by decide +kernel
theorem dX12_when_25 : decode cX12_when 25 = .ok (.iconst 0, 1) := by decide +kernel
theorem dX12_when_26 : decode cX12_when 26 = .ok (.istore 4, 2) := by decide +kernel
theorem dX12_when_28 : decode cX12_when 28 = .ok (.bipush (-5), 2) := by decide +kernel
theorem dX12_when_30 : decode cX12_when 30 = .ok (.istore 5, 2) := by decide +kernel
theorem dX12_when_32 : decode cX12_when 32 = .ok (.bipush 23, 2) := by decide +kernel
theorem dX12_when_34 : decode cX12_when 34 = .ok (.istore 6, 2) := by decide +kernel
theorem dX12_when_36 : decode cX12_when 36 = .ok (.iload 6, 2) := by decide +kernel
theorem dX12_when_38 : decode cX12_when 38 = .ok (.ifCond .lt 35, 3) := by decide +kernel
theorem dX12_when_41 : decode cX12_when 41 = .ok (.aload_n 0, 1) := by decide +kernel
theorem dX12_when_42 : decode cX12_when 42 = .ok (.iload_n 3, 1) := by decide +kernel
theorem dX12_when_43 : decode cX12_when 43 = .ok (.iload 6, 2) := by decide +kernel
theorem dX12_when_45 : decode cX12_when 45 = .ok (.iadd, 1) := by decide +kernel
theorem dX12_when_46 : decode cX12_when 46 = .ok (.putfield 16, 3) := by decide +kernel
theorem dX12_when_49 : decode cX12_when 49 = .ok (.aload_n 0, 1) := by decide +kernel
theorem dX12_when_50 : decode cX12_when 50 = .ok (.iload_n 1, 1) := by decide +kernel
theorem dX12_when_51 : decode cX12_when 51 = .ok (.invokevirtual 318, 3) := by decide +kernel
theorem dX12_when_54 : decode cX12_when 54 = .ok (.ifCond .ne 6, 3) := by decide +kernel
theorem dX12_when_57 : decode cX12_when 57 = .ok (.goto 10, 3) := by decide +kernel
theorem dX12_when_60 : decode cX12_when 60 = .ok (.iinc 4 1, 3) := by decide +kernel
theorem dX12_when_63 : decode cX12_when 63 = .ok (.iload 6, 2) := by decide +kernel
theorem dX12_when_65 : decode cX12_when 65 = .ok (.istore 5, 2) := by decide +kernel
theorem dX12_when_67 : decode cX12_when 67 = .ok (.iinc 6 (-1), 3) := by decide +kernel
theorem dX12_when_70 : decode cX12_when 70 = .ok (.goto (-34), 3) := by decide +kernel
theorem dX12_when_73 : decode cX12_when 73 = .ok (.aload_n 0, 1) := by decide +kernel
theorem dX12_when_74 : decode cX12_when 74 = .ok (.iload_n 3, 1) := by decide +kernel
theorem dX12_when_75 : decode cX12_when 75 = .ok (.putfield 16, 3) := by decide +kernel
theorem dX12_when_78 : decode cX12_when 78 = .ok (.iload_n 2, 1) := by decide +kernel
theorem dX12_when_79 : decode cX12_when 79 = .ok (.ifCond .ne 8, 3) := by decide +kernel
theorem dX12_when_82 : decode cX12_when 82 = .ok (.iload 4, 2) := by decide +kernel
theorem dX12_when_84 : decode cX12_when 84 = .ok (.goto 5, 3) := by decide +kernel
theorem dX12_when_87 : decode cX12_when 87 = .ok (.iload 5, 2) := by decide +kernel
theorem dX12_when_89 : decode cX12_when 89 = .ok (.ireturn, 1) := by decide +kernel
theorem dX12_divisor_0 : decode cX12_divisor 0 = .ok (.iload_n 1, 1) := by decide +kernel
theorem dX12_divisor_1 : decode cX12_divisor 1 = .ok (.istore_n 3, 1) := by decide +kernel
theorem dX12_divisor_2 : decode cX12_divisor 2 = .ok (.iload_n 2, 1) := by decide +kernel
theorem dX12_divisor_3 : decode cX12_divisor 3 = .ok (.istore 4, 2) := by decide +kernel
theorem dX12_divisor_5 : decode cX12_divisor 5 = .ok (.iload 4, 2) := by decide +kernel
theorem dX12_divisor_7 : decode cX12_divisor 7 = .ok (.ifCond .eq 19, 3) := by decide +kernel
theorem dX12_divisor_10 : decode cX12_divisor 10 = .ok (.iload_n 3, 1) := by decide +kernel
theorem dX12_divisor_11 : decode cX12_divisor 11 = .ok (.iload 4, 2) := by decide +kernel
theorem dX12_divisor_13 : decode cX12_divisor 13 = .ok (.irem, 1) := by decide +kernel
theorem dX12_divisor_14 : decode cX12_divisor 14 = .ok (.istore 5, 2) := by decide +kernel
theorem dX12_divisor_16 : decode cX12_divisor 16 = .ok (.iload 4, 2) := by decide +kernel
theorem dX12_divisor_18 : decode cX12_divisor 18 = .ok (.istore_n 3, 1) := by decide +kernel
theorem dX12_divisor_19 : decode cX12_divisor 19 = .ok (.iload 5, 2) := by decide +kernel
theorem dX12_divisor_21 : decode cX12_divisor 21 = .ok (.istore 4, 2) := by decide +kernel
theorem dX12_divisor_23 : decode cX12_divisor 23 = .ok (.goto (-18), 3) := by decide +kernel
theorem dX12_divisor_26 : decode cX12_divisor 26 = .ok (.iload_n 3, 1) := by decide +kernel
theorem dX12_divisor_27 : decode cX12_divisor 27 = .ok (.ireturn, 1) := by decide +kernel
theorem dX12_lowest_0 : decode cX12_lowest 0 = .ok (.aload_n 0, 1) := by decide +kernel
theorem dX12_lowest_1 : decode cX12_lowest 1 = .ok (.iload_n 1, 1) := by decide +kernel
theorem dX12_lowest_2 : decode cX12_lowest 2 = .ok (.iload_n 2, 1) := by decide +kernel
theorem dX12_lowest_3 : decode cX12_lowest 3 = .ok (.invokevirtual 321, 3) := by decide +kernel
theorem dX12_lowest_6 : decode cX12_lowest 6 = .ok (.istore 4, 2) := by decide +kernel
theorem dX12_lowest_8 : decode cX12_lowest 8 = .ok (.iload_n 3, 1) := by decide +kernel
theorem dX12_lowest_9 : decode cX12_lowest 9 = .ok (.ifCond .ne 11, 3) := by decide +kernel
theorem dX12_lowest_12 : decode cX12_lowest 12 = .ok (.iload_n 1, 1) := by decide +kernel
theorem dX12_lowest_13 : decode cX12_lowest 13 = .ok (.iload 4, 2) := by decide +kernel
theorem dX12_lowest_15 : decode cX12_lowest 15 = .ok (.idiv, 1) := by decide +kernel
theorem dX12_lowest_16 : decode cX12_lowest 16 = .ok (.i2l, 1) := by decide +kernel
theorem dX12_lowest_17 : decode cX12_lowest 17 = .ok (.goto 8, 3) := by decide +kernel
theorem dX12_lowest_20 : decode cX12_lowest 20 = .ok (.iload_n 2, 1) := by decide +kernel
theorem dX12_lowest_21 : decode cX12_lowest 21 = .ok (.iload 4, 2) := by decide +kernel
theorem dX12_lowest_23 : decode cX12_lowest 23 = .ok (.idiv, 1) := by decide +kernel
theorem dX12_lowest_24 : decode cX12_lowest 24 = .ok (.i2l, 1) := by decide +kernel
theorem dX12_lowest_25 : decode cX12_lowest 25 = .ok (.lreturn, 1) := by decide +kernel
theorem dX12_odds_0 : decode cX12_odds 0 = .ok (.aload_n 0, 1) := by decide +kernel
theorem dX12_odds_1 : decode cX12_odds 1 = .ok (.iload_n 1, 1) := by decide +kernel
theorem dX12_odds_2 : decode cX12_odds 2 = .ok (.invokevirtual 212, 3) := by decide +kernel
theorem dX12_odds_5 : decode cX12_odds 5 = .ok (.ifCond .eq 21, 3) := by decide +kernel
theorem dX12_odds_8 : decode cX12_odds 8 = .ok (.aload_n 0, 1) := by decide +kernel
theorem dX12_odds_9 : decode cX12_odds 9 = .ok (.iload_n 2, 1) := by decide +kernel
theorem dX12_odds_10 : decode cX12_odds 10 = .ok (.invokevirtual 209, 3) := by decide +kernel
theorem dX12_odds_13 : decode cX12_odds 13 = .ok (.ifCond .eq 13, 3) := by decide +kernel
theorem dX12_odds_16 : decode cX12_odds 16 = .ok (.aload_n 0, 1) := by decide +kernel
theorem dX12_odds_17 : decode cX12_odds 17 = .ok (.iload_n 3, 1) := by decide +kernel
theorem dX12_odds_18 : decode cX12_odds 18 = .ok (.iconst 0, 1) := by decide +kernel
theorem dX12_odds_19 : decode cX12_odds 19 = .ok (.iconst 1, 1) := by decide +kernel
theorem dX12_odds_20 : decode cX12_odds 20 = .ok (.invokevirtual 201, 3) := by decide +kernel
theorem dX12_odds_23 : decode cX12_odds 23 = .ok (.ifCond .ne 7, 3) := by decide +kernel
theorem dX12_odds_26 : decode cX12_odds 26 = .ok (.ldc2_w 324, 3) := by decide +kernel
theorem dX12_odds_29 : decode cX12_odds 29 = .ok (.lreturn, 1) := by decide +kernel
theorem dX12_odds_30 : decode cX12_odds 30 = .ok (.aload_n 0, 1) := by decide +kernel
theorem dX12_odds_31 : decode cX12_odds 31 = .ok (.iload_n 1, 1) := by decide +kernel
theorem dX12_odds_32 : decode cX12_odds 32 = .ok (.aload_n 0, 1) := by decide +kernel
theorem dX12_odds_33 : decode cX12_odds 33 = .ok (.getfield 19, 3) := by decide +kernel
theorem dX12_odds_36 : decode cX12_odds 36 = .ok (.iload_n 2, 1) := by decide +kernel
theorem dX12_odds_37 : decode cX12_odds 37 = .ok (.iaload, 1) := by decide +kernel
theorem dX12_odds_38 : decode cX12_odds 38 = .ok (.invokevirtual 290, 3) := by decide +kernel
theorem dX12_odds_41 : decode cX12_odds 41 = .ok (.istore 4, 2) := by decide +kernel
theorem dX12_odds_43 : decode cX12_odds 43 = .ok (.iconst 0, 1) := by decide +kernel
theorem dX12_odds_44 : decode cX12_odds 44 = .ok (.istore 5, 2) := by decide +kernel
theorem dX12_odds_46 : decode cX12_odds 46 = .ok (.iconst 0, 1) := by decide +kernel
theorem dX12_odds_47 : decode cX12_odds 47 = .ok (.istore 6, 2) := by decide +kernel
theorem dX12_odds_49 : decode cX12_odds 49 = .ok (.iload 6, 2) := by decide +kernel
theorem dX12_odds_51 : decode cX12_odds 51 = .ok (.bipush 10, 2) := by decide +kernel
theorem dX12_odds_53 : decode cX12_odds 53 = .ok (.if_icmp .ge 34, 3) := by decide +kernel
theorem dX12_odds_56 : decode cX12_odds 56 = .ok (.iload 5, 2) := by decide +kernel
theorem dX12_odds_58 : decode cX12_odds 58 = .ok (.aload_n 0, 1) := by decide +kernel
theorem dX12_odds_59 : decode cX12_odds 59 = .ok (.iload 4, 2) := by decide +kernel
theorem dX12_odds_61 : decode cX12_odds 61 = .ok (.iconst 1, 1) := by decide +kernel
theorem dX12_odds_62 : decode cX12_odds 62 = .ok (.iload 6, 2) := by decide +kernel
theorem dX12_odds_64 : decode cX12_odds 64 = .ok (.ishl, 1) := by decide +kernel
theorem dX12_odds_65 : decode cX12_odds 65 = .ok (.ixor, 1) := by decide +kernel
theorem dX12_odds_66 : decode cX12_odds 66 = .ok (.invokevirtual 293, 3) := by decide +kernel
theorem dX12_odds_69 : decode cX12_odds 69 = .ok (.iload_n 2, 1) := by decide +kernel
theorem dX12_odds_70 : decode cX12_odds 70 = .ok (.if_icmp .ne 7, 3) := by decide +kernel
theorem dX12_odds_73 : decode cX12_odds 73 = .ok (.iconst 1, 1) := by decide +kernel
theorem dX12_odds_74 : decode cX12_odds 74 = .ok (.goto 4, 3) := by decide +kernel
theorem dX12_odds_77 : decode cX12_odds 77 = .ok (.iconst 0, 1) := by decide +kernel
theorem dX12_odds_78 : decode cX12_odds 78 = .ok (.iadd, 1) := by decide +kernel
theorem dX12_odds_79 : decode cX12_odds 79 = .ok (.istore 5, 2) := by decide +kernel
theorem dX12_odds_81 : decode cX12_odds 81 = .ok (.iinc 6 1, 3) := by decide +kernel
theorem dX12_odds_84 : decode cX12_odds 84 = .ok (.goto (-35), 3) := by decide +kernel
theorem dX12_odds_87 : decode cX12_odds 87 = .ok (.aload_n 0, 1) := by decide +kernel
theorem dX12_odds_88 : decode cX12_odds 88 = .ok (.iload 5, 2) := by decide +kernel
theorem dX12_odds_90 : decode cX12_odds 90 = .ok (.bipush 10, 2) := by decide +kernel
theorem dX12_odds_92 : decode cX12_odds 92 = .ok (.iload_n 3, 1) := by decide +kernel
theorem dX12_odds_93 : decode cX12_odds 93 = .ok (.invokevirtual 326, 3) := by decide +kernel
theorem dX12_odds_96 : decode cX12_odds 96 = .ok (.lreturn, 1) := by decide +kernel
theorem dX12_mean_0 : decode cX12_mean 0 = .ok (.aload_n 0, 1) := by decide +kernel
theorem dX12_mean_1 : decode cX12_mean 1 = .ok (.iload_n 1, 1) := by decide +kernel
theorem dX12_mean_2 : decode cX12_mean 2 = .ok (.iconst 0, 1) := by decide +kernel
theorem dX12_mean_3 : decode cX12_mean 3 = .ok (.iconst 1, 1) := by decide +kernel
theorem dX12_mean_4 : decode cX12_mean 4 = .ok (.invokevirtual 201, 3) := by decide +kernel
theorem dX12_mean_7 : decode cX12_mean 7 = .ok (.ifCond .eq 10, 3) := by decide +kernel
theorem dX12_mean_10 : decode cX12_mean 10 = .ok (.aload_n 0, 1) := by decide +kernel
theorem dX12_mean_11 : decode cX12_mean 11 = .ok (.getfield 7, 3) := by decide +kernel
theorem dX12_mean_14 : decode cX12_mean 14 = .ok (.ifCond .ne 7, 3) := by decide +kernel
theorem dX12_mean_17 : decode cX12_mean 17 = .ok (.ldc2_w 324, 3) := by decide +kernel
theorem dX12_mean_20 : decode cX12_mean 20 = .ok (.lreturn, 1) := by decide +kernel
theorem dX12_mean_21 : decode cX12_mean 21 = .ok (.iconst 0, 1) := by decide +kernel
theorem dX12_mean_22 : decode cX12_mean 22 = .ok (.istore_n 2, 1) := by decide +kernel
theorem dX12_mean_23 : decode cX12_mean 23 = .ok (.iconst 0, 1) := by decide +kernel
theorem dX12_mean_24 : decode cX12_mean 24 = .ok (.istore_n 3, 1) := by decide +kernel
theorem dX12_mean_25 : decode cX12_mean 25 = .ok (.iload_n 3, 1) := by decide +kernel
theorem dX12_mean_26 : decode cX12_mean 26 = .ok (.aload_n 0, 1) := by decide +kernel
theorem dX12_mean_27 : decode cX12_mean 27 = .ok (.getfield 7, 3) := by decide +kernel
theorem dX12_mean_30 : decode cX12_mean 30 = .ok (.if_icmp .ge 22, 3) := by decide +kernel
theorem dX12_mean_33 : decode cX12_mean 33 = .ok (.iload_n 2, 1) := by decide +kernel
theorem dX12_mean_34 : decode cX12_mean 34 = .ok (.aload_n 0, 1) := by decide +kernel
theorem dX12_mean_35 : decode cX12_mean 35 = .ok (.aload_n 0, 1) := by decide +kernel
theorem dX12_mean_36 : decode cX12_mean 36 = .ok (.getfield 19, 3) := by decide +kernel
theorem dX12_mean_39 : decode cX12_mean 39 = .ok (.iload_n 3, 1) := by decide +kernel
theorem dX12_mean_40 : decode cX12_mean 40 = .ok (.iaload, 1) := by decide +kernel
theorem dX12_mean_41 : decode cX12_mean 41 = .ok (.invokevirtual 267, 3) := by decide +kernel
theorem dX12_mean_44 : decode cX12_mean 44 = .ok (.iadd, 1) := by decide +kernel
theorem dX12_mean_45 : decode cX12_mean 45 = .ok (.istore_n 2, 1) := by decide +kernel
theorem dX12_mean_46 : decode cX12_mean 46 = .ok (.iinc 3 1, 3) := by decide +kernel
theorem dX12_mean_49 : decode cX12_mean 49 = .ok (.goto (-24), 3) := by decide +kernel
theorem dX12_mean_52 : decode cX12_mean 52 = .ok (.aload_n 0, 1) := by decide +kernel
theorem dX12_mean_53 : decode cX12_mean 53 = .ok (.iload_n 2, 1) := by decide +kernel
theorem dX12_mean_54 : decode cX12_mean 54 = .ok (.aload_n 0, 1) := by decide +kernel
theorem dX12_mean_55 : decode cX12_mean 55 = .ok (.getfield 7, 3) := by decide +kernel
theorem dX12_mean_58 : decode cX12_mean 58 = .ok (.iload_n 1, 1) := by decide +kernel
theorem dX12_mean_59 : decode cX12_mean 59 = .ok (.invokevirtual 326, 3) := by decide +kernel
theorem dX12_mean_62 : decode cX12_mean 62 = .ok (.lreturn, 1) := by decide +kernel
theorem dX12_relay_0 : decode cX12_relay 0 = .ok (.iload_n 1, 1) := by decide +kernel
theorem dX12_relay_1 : decode cX12_relay 1 = .ok (.iconst (-1), 1) := by decide +kernel
theorem dX12_relay_2 : decode cX12_relay 2 = .ok (.if_icmp .ne 10, 3) := by decide +kernel
theorem dX12_relay_5 : decode cX12_relay 5 = .ok (.aload_n 0, 1) := by decide +kernel
theorem dX12_relay_6 : decode cX12_relay 6 = .ok (.iconst 0, 1) := by decide +kernel
theorem dX12_relay_7 : decode cX12_relay 7 = .ok (.putfield 108, 3) := by decide +kernel
theorem dX12_relay_10 : decode cX12_relay 10 = .ok (.iconst 0, 1) := by decide +kernel
theorem dX12_relay_11 : decode cX12_relay 11 = .ok (.ireturn, 1) := by decide +kernel
theorem dX12_relay_12 : decode cX12_relay 12 = .ok (.iload_n 1, 1) := by decide +kernel
theorem dX12_relay_13 : decode cX12_relay 13 = .ok (.iconst 5, 1) := by decide +kernel
theorem dX12_relay_14 : decode cX12_relay 14 = .ok (.if_icmp .eq 13, 3) := by decide +kernel
theorem dX12_relay_17 : decode cX12_relay 17 = .ok (.aload_n 0, 1) := by decide +kernel
theorem dX12_relay_18 : decode cX12_relay 18 = .ok (.iload_n 1, 1) := by decide +kernel
theorem dX12_relay_19 : decode cX12_relay 19 = .ok (.invokevirtual 212, 3) := by decide +kernel
theorem dX12_relay_22 : decode cX12_relay 22 = .ok (.ifCond .ne 5, 3) := by decide +kernel
theorem dX12_relay_25 : decode cX12_relay 25 = .ok (.iconst (-1), 1) := by decide +kernel
theorem dX12_relay_26 : decode cX12_relay 26 = .ok (.ireturn, 1) := by decide +kernel
theorem dX12_relay_27 : decode cX12_relay 27 = .ok (.aload_n 0, 1) := by decide +kernel
theorem dX12_relay_28 : decode cX12_relay 28 = .ok (.getfield 108, 3) := by decide +kernel
theorem dX12_relay_31 : decode cX12_relay 31 = .ok (.bipush 8, 2) := by decide +kernel
theorem dX12_relay_33 : decode cX12_relay 33 = .ok (.if_icmp .ne 6, 3) := by decide +kernel
theorem dX12_relay_36 : decode cX12_relay 36 = .ok (.bipush (-4), 2) := by decide +kernel
theorem dX12_relay_38 : decode cX12_relay 38 = .ok (.ireturn, 1) := by decide +kernel
theorem dX12_relay_39 : decode cX12_relay 39 = .ok (.aload_n 0, 1) := by decide +kernel
theorem dX12_relay_40 : decode cX12_relay 40 = .ok (.getfield 114, 3) := by decide +kernel
theorem dX12_relay_43 : decode cX12_relay 43 = .ok (.aload_n 0, 1) := by decide +kernel
theorem dX12_relay_44 : decode cX12_relay 44 = .ok (.getfield 108, 3) := by decide +kernel
theorem dX12_relay_47 : decode cX12_relay 47 = .ok (.iload_n 1, 1) := by decide +kernel
theorem dX12_relay_48 : decode cX12_relay 48 = .ok (.iastore, 1) := by decide +kernel
theorem dX12_relay_49 : decode cX12_relay 49 = .ok (.aload_n 0, 1) := by decide +kernel
theorem dX12_relay_50 : decode cX12_relay 50 = .ok (.dup, 1) := by decide +kernel
theorem dX12_relay_51 : decode cX12_relay 51 = .ok (.getfield 108, 3) := by decide +kernel
theorem dX12_relay_54 : decode cX12_relay 54 = .ok (.iconst 1, 1) := by decide +kernel
theorem dX12_relay_55 : decode cX12_relay 55 = .ok (.iadd, 1) := by decide +kernel
theorem dX12_relay_56 : decode cX12_relay 56 = .ok (.putfield 108, 3) := by decide +kernel
theorem dX12_relay_59 : decode cX12_relay 59 = .ok (.aload_n 0, 1) := by decide +kernel
theorem dX12_relay_60 : decode cX12_relay 60 = .ok (.getfield 108, 3) := by decide +kernel
theorem dX12_relay_63 : decode cX12_relay 63 = .ok (.ireturn, 1) := by decide +kernel
theorem dX12_ends_0 : decode cX12_ends 0 = .ok (.aload_n 0, 1) := by decide +kernel
theorem dX12_ends_1 : decode cX12_ends 1 = .ok (.iload_n 1, 1) := by decide +kernel
theorem dX12_ends_2 : decode cX12_ends 2 = .ok (.invokevirtual 209, 3) := by decide +kernel
theorem dX12_ends_5 : decode cX12_ends 5 = .ok (.ifCond .eq 13, 3) := by decide +kernel
theorem dX12_ends_8 : decode cX12_ends 8 = .ok (.aload_n 0, 1) := by decide +kernel
theorem dX12_ends_9 : decode cX12_ends 9 = .ok (.iload_n 2, 1) := by decide +kernel
theorem dX12_ends_10 : decode cX12_ends 10 = .ok (.iconst 0, 1) := by decide +kernel
theorem dX12_ends_11 : decode cX12_ends 11 = .ok (.iconst 1, 1) := by decide +kernel
theorem dX12_ends_12 : decode cX12_ends 12 = .ok (.invokevirtual 201, 3) := by decide +kernel
theorem dX12_ends_15 : decode cX12_ends 15 = .ok (.ifCond .ne 5, 3) := by decide +kernel
theorem dX12_ends_18 : decode cX12_ends 18 = .ok (.iconst (-1), 1) := by decide +kernel
theorem dX12_ends_19 : decode cX12_ends 19 = .ok (.ireturn, 1) := by decide +kernel
theorem dX12_ends_20 : decode cX12_ends 20 = .ok (.aload_n 0, 1) := by decide +kernel
theorem dX12_ends_21 : decode cX12_ends 21 = .ok (.getfield 16, 3) := by decide +kernel
theorem dX12_ends_24 : decode cX12_ends 24 = .ok (.istore_n 3, 1) := by decide +kernel
theorem dX12_ends_25 : decode cX12_ends 25 = .ok (.aload_n 0, 1) := by decide +kernel
theorem dX12_ends_26 : decode cX12_ends 26 = .ok (.getfield 19, 3) := by decide +kernel
theorem dX12_ends_29 : decode cX12_ends 29 = .ok (.iload_n 1, 1) := by decide +kernel
theorem dX12_ends_30 : decode cX12_ends 30 = .ok (.iaload, 1) := by decide +kernel
theorem dX12_ends_31 : decode cX12_ends 31 = .ok (.istore 4, 2) := by decide +kernel
theorem dX12_ends_33 : decode cX12_ends 33 = .ok (.iconst 0, 1) := by decide +kernel
theorem dX12_ends_34 : decode cX12_ends 34 = .ok (.istore 5, 2) := by decide +kernel
theorem dX12_ends_36 : decode cX12_ends 36 = .ok (.iload 5, 2) := by decide +kernel
theorem dX12_ends_38 : decode cX12_ends 38 = .ok (.aload_n 0, 1) := by decide +kernel
theorem dX12_ends_39 : decode cX12_ends 39 = .ok (.getfield 108, 3) := by decide +kernel
theorem dX12_ends_42 : decode cX12_ends 42 = .ok (.if_icmp .ge 48, 3) := by decide +kernel
theorem dX12_ends_45 : decode cX12_ends 45 = .ok (.aload_n 0, 1) := by decide +kernel
theorem dX12_ends_46 : decode cX12_ends 46 = .ok (.getfield 114, 3) := by decide +kernel
theorem dX12_ends_49 : decode cX12_ends 49 = .ok (.iload 5, 2) := by decide +kernel
theorem dX12_ends_51 : decode cX12_ends 51 = .ok (.iaload, 1) := by decide +kernel
theorem dX12_ends_52 : decode cX12_ends 52 = .ok (.iconst 5, 1) := by decide +kernel
theorem dX12_ends_53 : decode cX12_ends 53 = .ok (.if_icmp .ne 16, 3) := by decide +kernel
theorem dX12_ends_56 : decode cX12_ends 56 = .ok (.aload_n 0, 1) := by decide +kernel
theorem dX12_ends_57 : decode cX12_ends 57 = .ok (.dup, 1) := by decide +kernel
theorem dX12_ends_58 : decode cX12_ends 58 = .ok (.getfield 16, 3) := by decide +kernel
theorem dX12_ends_61 : decode cX12_ends 61 = .ok (.iconst 1, 1) := by decide +kernel
theorem dX12_ends_62 : decode cX12_ends 62 = .ok (.iadd, 1) := by decide +kernel
theorem dX12_ends_63 : decode cX12_ends 63 = .ok (.putfield 16, 3) := by decide +kernel
theorem dX12_ends_66 : decode cX12_ends 66 = .ok (.goto 18, 3) := by decide +kernel
theorem dX12_ends_69 : decode cX12_ends 69 = .ok (.aload_n 0, 1) := by decide +kernel
theorem dX12_ends_70 : decode cX12_ends 70 = .ok (.aload_n 0, 1) := by decide +kernel
theorem dX12_ends_71 : decode cX12_ends 71 = .ok (.getfield 114, 3) := by decide +kernel
theorem dX12_ends_74 : decode cX12_ends 74 = .ok (.iload 5, 2) := by decide +kernel
theorem dX12_ends_76 : decode cX12_ends 76 = .ok (.iaload, 1) := by decide +kernel
theorem dX12_ends_77 : decode cX12_ends 77 = .ok (.iload 4, 2) := by decide +kernel
theorem dX12_ends_79 : decode cX12_ends 79 = .ok (.invokevirtual 290, 3) := by decide +kernel
theorem dX12_ends_82 : decode cX12_ends 82 = .ok (.istore 4, 2) := by decide +kernel
theorem dX12_ends_84 : decode cX12_ends 84 = .ok (.iinc 5 1, 3) := by decide +kernel
theorem dX12_ends_87 : decode cX12_ends 87 = .ok (.goto (-51), 3) := by decide +kernel
theorem dX12_ends_90 : decode cX12_ends 90 = .ok (.aload_n 0, 1) := by decide +kernel
theorem dX12_ends_91 : decode cX12_ends 91 = .ok (.iload_n 3, 1) := by decide +kernel
theorem dX12_ends_92 : decode cX12_ends 92 = .ok (.putfield 16, 3) := by decide +kernel
theorem dX12_ends_95 : decode cX12_ends 95 = .ok (.iload_n 2, 1) := by decide +kernel
theorem dX12_ends_96 : decode cX12_ends 96 = .ok (.ifCond .ne 8, 3) := by decide +kernel
theorem dX12_ends_99 : decode cX12_ends 99 = .ok (.iload 4, 2) := by decide +kernel
theorem dX12_ends_101 : decode cX12_ends 101 = .ok (.goto 9, 3) := by decide +kernel
theorem dX12_ends_104 : decode cX12_ends 104 = .ok (.aload_n 0, 1) := by decide +kernel
theorem dX12_ends_105 : decode cX12_ends 105 = .ok (.iload 4, 2) := by decide +kernel
theorem dX12_ends_107 : decode cX12_ends 107 = .ok (.invokevirtual 293, 3) := by decide +kernel
theorem dX12_ends_110 : decode cX12_ends 110 = .ok (.ireturn, 1) := by decide +kernel
theorem dX12_book_0 : decode cX12_book 0 = .ok (.iload_n 1, 1) := by decide +kernel
theorem dX12_book_1 : decode cX12_book 1 = .ok (.iconst (-1), 1) := by decide +kernel
theorem dX12_book_2 : decode cX12_book 2 = .ok (.if_icmp .ne 10, 3) := by decide +kernel
theorem dX12_book_5 : decode cX12_book 5 = .ok (.aload_n 0, 1) := by decide +kernel
theorem dX12_book_6 : decode cX12_book 6 = .ok (.iconst 0, 1) := by decide +kernel
theorem dX12_book_7 : decode cX12_book 7 = .ok (.putfield 111, 3) := by decide +kernel
theorem dX12_book_10 : decode cX12_book 10 = .ok (.iconst 0, 1) := by decide +kernel
theorem dX12_book_11 : decode cX12_book 11 = .ok (.ireturn, 1) := by decide +kernel
theorem dX12_book_12 : decode cX12_book 12 = .ok (.aload_n 0, 1) := by decide +kernel
theorem dX12_book_13 : decode cX12_book 13 = .ok (.iload_n 1, 1) := by decide +kernel
theorem dX12_book_14 : decode cX12_book 14 = .ok (.invokevirtual 209, 3) := by decide +kernel
theorem dX12_book_17 : decode cX12_book 17 = .ok (.ifCond .ne 5, 3) := by decide +kernel
theorem dX12_book_20 : decode cX12_book 20 = .ok (.iconst (-1), 1) := by decide +kernel
theorem dX12_book_21 : decode cX12_book 21 = .ok (.ireturn, 1) := by decide +kernel
theorem dX12_book_22 : decode cX12_book 22 = .ok (.aload_n 0, 1) := by decide +kernel
theorem dX12_book_23 : decode cX12_book 23 = .ok (.iload_n 2, 1) := by decide +kernel
theorem dX12_book_24 : decode cX12_book 24 = .ok (.invokevirtual 205, 3) := by decide +kernel
theorem dX12_book_27 : decode cX12_book 27 = .ok (.ifCond .ne 6, 3) := by decide +kernel
theorem dX12_book_30 : decode cX12_book 30 = .ok (.bipush (-2), 2) := by decide +kernel
theorem dX12_book_32 : decode cX12_book 32 = .ok (.ireturn, 1) := by decide +kernel
theorem dX12_book_33 : decode cX12_book 33 = .ok (.aload_n 0, 1) := by decide +kernel
theorem dX12_book_34 : decode cX12_book 34 = .ok (.getfield 111, 3) := by decide +kernel
theorem dX12_book_37 : decode cX12_book 37 = .ok (.bipush 8, 2) := by decide +kernel
theorem dX12_book_39 : decode cX12_book 39 = .ok (.if_icmp .ne 6, 3) := by decide +kernel
theorem dX12_book_42 : decode cX12_book 42 = .ok (.bipush (-4), 2) := by decide +kernel
theorem dX12_book_44 : decode cX12_book 44 = .ok (.ireturn, 1) := by decide +kernel
theorem dX12_book_45 : decode cX12_book 45 = .ok (.aload_n 0, 1) := by decide +kernel
theorem dX12_book_46 : decode cX12_book 46 = .ok (.getfield 117, 3) := by decide +kernel
theorem dX12_book_49 : decode cX12_book 49 = .ok (.aload_n 0, 1) := by decide +kernel
theorem dX12_book_50 : decode cX12_book 50 = .ok (.getfield 111, 3) := by decide +kernel
theorem dX12_book_53 : decode cX12_book 53 = .ok (.iload_n 1, 1) := by decide +kernel
theorem dX12_book_54 : decode cX12_book 54 = .ok (.iastore, 1) := by decide +kernel
theorem dX12_book_55 : decode cX12_book 55 = .ok (.aload_n 0, 1) := by decide +kernel
theorem dX12_book_56 : decode cX12_book 56 = .ok (.getfield 120, 3) := by decide +kernel
theorem dX12_book_59 : decode cX12_book 59 = .ok (.aload_n 0, 1) := by decide +kernel
theorem dX12_book_60 : decode cX12_book 60 = .ok (.getfield 111, 3) := by decide +kernel
theorem dX12_book_63 : decode cX12_book 63 = .ok (.iload_n 2, 1) := by decide +kernel
theorem dX12_book_64 : decode cX12_book 64 = .ok (.iastore, 1) := by decide +kernel
theorem dX12_book_65 : decode cX12_book 65 = .ok (.aload_n 0, 1) := by decide +kernel
theorem dX12_book_66 : decode cX12_book 66 = .ok (.dup, 1) := by decide +kernel
theorem dX12_book_67 : decode cX12_book 67 = .ok (.getfield 111, 3) := by decide +kernel
theorem dX12_book_70 : decode cX12_book 70 = .ok (.iconst 1, 1) := by decide +kernel
theorem dX12_book_71 : decode cX12_book 71 = .ok (.iadd, 1) := by decide +kernel
theorem dX12_book_72 : decode cX12_book 72 = .ok (.putfield 111, 3) := by decide +kernel
theorem dX12_book_75 : decode cX12_book 75 = .ok (.aload_n 0, 1) := by decide +kernel
theorem dX12_book_76 : decode cX12_book 76 = .ok (.getfield 111, 3) := by decide +kernel
theorem dX12_book_79 : decode cX12_book 79 = .ok (.ireturn, 1) := by decide +kernel
theorem dX12_looked_0 : decode cX12_looked 0 = .ok (.iconst 0, 1) := by decide +kernel
theorem dX12_looked_1 : decode cX12_looked 1 = .ok (.istore_n 1, 1) := by decide +kernel
theorem dX12_looked_2 : decode cX12_looked 2 = .ok (.iload_n 1, 1) := by decide +kernel
theorem dX12_looked_3 : decode cX12_looked 3 = .ok (.aload_n 0, 1) := by decide +kernel
theorem dX12_looked_4 : decode cX12_looked 4 = .ok (.getfield 111, 3) := by decide +kernel
theorem dX12_looked_7 : decode cX12_looked 7 = .ok (.if_icmp .ge 31, 3) := by decide +kernel
theorem dX12_looked_10 : decode cX12_looked 10 = .ok (.aload_n 0, 1) := by decide +kernel
theorem dX12_looked_11 : decode cX12_looked 11 = .ok (.getfield 19, 3) := by decide +kernel
theorem dX12_looked_14 : decode cX12_looked 14 = .ok (.aload_n 0, 1) := by decide +kernel
theorem dX12_looked_15 : decode cX12_looked 15 = .ok (.getfield 117, 3) := by decide +kernel
theorem dX12_looked_18 : decode cX12_looked 18 = .ok (.iload_n 1, 1) := by decide +kernel
theorem dX12_looked_19 : decode cX12_looked 19 = .ok (.iaload, 1) := by decide +kernel
theorem dX12_looked_20 : decode cX12_looked 20 = .ok (.iaload, 1) := by decide +kernel
theorem dX12_looked_21 : decode cX12_looked 21 = .ok (.aload_n 0, 1) := by decide +kernel
theorem dX12_looked_22 : decode cX12_looked 22 = .ok (.getfield 120, 3) := by decide +kernel
theorem dX12_looked_25 : decode cX12_looked 25 = .ok (.iload_n 1, 1) := by decide +kernel
theorem dX12_looked_26 : decode cX12_looked 26 = .ok (.iaload, 1) := by decide +kernel
theorem dX12_looked_27 : decode cX12_looked 27 = .ok (.if_icmp .eq 5, 3) := by decide +kernel
theorem dX12_looked_30 : decode cX12_looked 30 = .ok (.iload_n 1, 1) := by decide +kernel
theorem dX12_looked_31 : decode cX12_looked 31 = .ok (.ireturn, 1) := by decide +kernel
theorem dX12_looked_32 : decode cX12_looked 32 = .ok (.iinc 1 1, 3) := by decide +kernel
theorem dX12_looked_35 : decode cX12_looked 35 = .ok (.goto (-33), 3) := by decide +kernel
theorem dX12_looked_38 : decode cX12_looked 38 = .ok (.bipush (-5), 2) := by decide +kernel
theorem dX12_looked_40 : decode cX12_looked 40 = .ok (.ireturn, 1) := by decide +kernel
theorem dX12_judge_0 : decode cX12_judge 0 = .ok (.aload_n 0, 1) := by decide +kernel
theorem dX12_judge_1 : decode cX12_judge 1 = .ok (.iload_n 1, 1) := by decide +kernel
theorem dX12_judge_2 : decode cX12_judge 2 = .ok (.invokevirtual 330, 3) := by decide +kernel
theorem dX12_judge_5 : decode cX12_judge 5 = .ok (.ifCond .ne 5, 3) := by decide +kernel
theorem dX12_judge_8 : decode cX12_judge 8 = .ok (.iconst (-1), 1) := by decide +kernel
theorem dX12_judge_9 : decode cX12_judge 9 = .ok (.ireturn, 1) := by decide +kernel
theorem dX12_judge_10 : decode cX12_judge 10 = .ok (.aload_n 0, 1) := by decide +kernel
theorem dX12_judge_11 : decode cX12_judge 11 = .ok (.getfield 184, 3) := by decide +kernel
theorem dX12_judge_14 : decode cX12_judge 14 = .ok (.iload_n 1, 1) := by decide +kernel
theorem dX12_judge_15 : decode cX12_judge 15 = .ok (.iaload, 1) := by decide +kernel
theorem dX12_judge_16 : decode cX12_judge 16 = .ok (.ifCond .lt 16, 3) := by decide +kernel
theorem dX12_judge_19 : decode cX12_judge 19 = .ok (.aload_n 0, 1) := by decide +kernel
theorem dX12_judge_20 : decode cX12_judge 20 = .ok (.getfield 184, 3) := by decide +kernel
theorem dX12_judge_23 : decode cX12_judge 23 = .ok (.iload_n 1, 1) := by decide +kernel
theorem dX12_judge_24 : decode cX12_judge 24 = .ok (.iaload, 1) := by decide +kernel
theorem dX12_judge_25 : decode cX12_judge 25 = .ok (.iconst 1, 1) := by decide +kernel
theorem dX12_judge_26 : decode cX12_judge 26 = .ok (.if_icmp .eq 6, 3) := by decide +kernel
theorem dX12_judge_29 : decode cX12_judge 29 = .ok (.bipush (-12), 2) := by decide +kernel
theorem dX12_judge_31 : decode cX12_judge 31 = .ok (.ireturn, 1) := by decide +kernel
theorem dX12_judge_32 : decode cX12_judge 32 = .ok (.iconst 0, 1) := by decide +kernel
theorem dX12_judge_33 : decode cX12_judge 33 = .ok (.istore_n 3, 1) := by decide +kernel
theorem dX12_judge_34 : decode cX12_judge 34 = .ok (.iload_n 3, 1) := by decide +kernel
theorem dX12_judge_35 : decode cX12_judge 35 = .ok (.aload_n 0, 1) := by decide +kernel
theorem dX12_judge_36 : decode cX12_judge 36 = .ok (.getfield 7, 3) := by decide +kernel
theorem dX12_judge_39 : decode cX12_judge 39 = .ok (.if_icmp .ge 67, 3) := by decide +kernel
theorem dX12_judge_42 : decode cX12_judge 42 = .ok (.aload_n 0, 1) := by decide +kernel
theorem dX12_judge_43 : decode cX12_judge 43 = .ok (.getfield 184, 3) := by decide +kernel
theorem dX12_judge_46 : decode cX12_judge 46 = .ok (.iload_n 1, 1) := by decide +kernel
theorem dX12_judge_47 : decode cX12_judge 47 = .ok (.iaload, 1) := by decide +kernel
theorem dX12_judge_48 : decode cX12_judge 48 = .ok (.ifCond .lt 21, 3) := by decide +kernel
theorem dX12_judge_51 : decode cX12_judge 51 = .ok (.iload_n 2, 1) := by decide +kernel
theorem dX12_judge_52 : decode cX12_judge 52 = .ok (.ifCond .lt 17, 3) := by decide +kernel
theorem dX12_judge_55 : decode cX12_judge 55 = .ok (.iload_n 2, 1) := by decide +kernel
theorem dX12_judge_56 : decode cX12_judge 56 = .ok (.aload_n 0, 1) := by decide +kernel
theorem dX12_judge_57 : decode cX12_judge 57 = .ok (.getfield 187, 3) := by decide +kernel
theorem dX12_judge_60 : decode cX12_judge 60 = .ok (.iload_n 1, 1) := by decide +kernel
theorem dX12_judge_61 : decode cX12_judge 61 = .ok (.iaload, 1) := by decide +kernel
theorem dX12_judge_62 : decode cX12_judge 62 = .ok (.iload_n 3, 1) := by decide +kernel
theorem dX12_judge_63 : decode cX12_judge 63 = .ok (.isub, 1) := by decide +kernel
theorem dX12_judge_64 : decode cX12_judge 64 = .ok (.iconst 1, 1) := by decide +kernel
theorem dX12_judge_65 : decode cX12_judge 65 = .ok (.isub, 1) := by decide +kernel
theorem dX12_judge_66 : decode cX12_judge 66 = .ok (.if_icmp .le 8, 3) := by decide +kernel
theorem dX12_judge_69 : decode cX12_judge 69 = .ok (.bipush 100, 2) := by decide +kernel
theorem dX12_judge_71 : decode cX12_judge 71 = .ok (.iload_n 3, 1) := by decide +kernel
theorem dX12_judge_72 : decode cX12_judge 72 = .ok (.iadd, 1) := by decide +kernel
theorem dX12_judge_73 : decode cX12_judge 73 = .ok (.ireturn, 1) := by decide +kernel
theorem dX12_judge_74 : decode cX12_judge 74 = .ok (.aload_n 0, 1) := by decide +kernel
theorem dX12_judge_75 : decode cX12_judge 75 = .ok (.getfield 190, 3) := by decide +kernel
theorem dX12_judge_78 : decode cX12_judge 78 = .ok (.bipush 60, 2) := by decide +kernel
theorem dX12_judge_80 : decode cX12_judge 80 = .ok (.iload_n 1, 1) := by decide +kernel
theorem dX12_judge_81 : decode cX12_judge 81 = .ok (.imul, 1) := by decide +kernel
theorem dX12_judge_82 : decode cX12_judge 82 = .ok (.iload_n 2, 1) := by decide +kernel
theorem dX12_judge_83 : decode cX12_judge 83 = .ok (.iadd, 1) := by decide +kernel
theorem dX12_judge_84 : decode cX12_judge 84 = .ok (.iload_n 3, 1) := by decide +kernel
theorem dX12_judge_85 : decode cX12_judge 85 = .ok (.iadd, 1) := by decide +kernel
theorem dX12_judge_86 : decode cX12_judge 86 = .ok (.laload, 1) := by decide +kernel
theorem dX12_judge_87 : decode cX12_judge 87 = .ok (.aload_n 0, 1) := by decide +kernel
theorem dX12_judge_88 : decode cX12_judge 88 = .ok (.getfield 19, 3) := by decide +kernel
theorem dX12_judge_91 : decode cX12_judge 91 = .ok (.iload_n 3, 1) := by decide +kernel
theorem dX12_judge_92 : decode cX12_judge 92 = .ok (.iaload, 1) := by decide +kernel
theorem dX12_judge_93 : decode cX12_judge 93 = .ok (.i2l, 1) := by decide +kernel
theorem dX12_judge_94 : decode cX12_judge 94 = .ok (.lcmp, 1) := by decide +kernel
theorem dX12_judge_95 : decode cX12_judge 95 = .ok (.ifCond .eq 5, 3) := by decide +kernel
theorem dX12_judge_98 : decode cX12_judge 98 = .ok (.iload_n 3, 1) := by decide +kernel
theorem dX12_judge_99 : decode cX12_judge 99 = .ok (.ireturn, 1) := by decide +kernel
theorem dX12_judge_100 : decode cX12_judge 100 = .ok (.iinc 3 1, 3) := by decide +kernel
theorem dX12_judge_103 : decode cX12_judge 103 = .ok (.goto (-69), 3) := by decide +kernel
theorem dX12_judge_106 : decode cX12_judge 106 = .ok (.bipush (-5), 2) := by decide +kernel
theorem dX12_judge_108 : decode cX12_judge 108 = .ok (.ireturn, 1) := by decide +kernel
theorem dX12_image_0 : decode cX12_image 0 = .ok (.aload_n 0, 1) := by decide +kernel
theorem dX12_image_1 : decode cX12_image 1 = .ok (.iconst 1, 1) := by decide +kernel
theorem dX12_image_2 : decode cX12_image 2 = .ok (.putfield 123, 3) := by decide +kernel
theorem dX12_image_5 : decode cX12_image 5 = .ok (.aload_n 0, 1) := by decide +kernel
theorem dX12_image_6 : decode cX12_image 6 = .ok (.aload_n 0, 1) := by decide +kernel
theorem dX12_image_7 : decode cX12_image 7 = .ok (.getfield 38, 3) := by decide +kernel
theorem dX12_image_10 : decode cX12_image 10 = .ok (.putfield 127, 3) := by decide +kernel
theorem dX12_image_13 : decode cX12_image 13 = .ok (.aload_n 0, 1) := by decide +kernel
theorem dX12_image_14 : decode cX12_image 14 = .ok (.aload_n 0, 1) := by decide +kernel
theorem dX12_image_15 : decode cX12_image 15 = .ok (.getfield 7, 3) := by decide +kernel
theorem dX12_image_18 : decode cX12_image 18 = .ok (.putfield 130, 3) := by decide +kernel
theorem dX12_image_21 : decode cX12_image 21 = .ok (.aload_n 0, 1) := by decide +kernel
theorem dX12_image_22 : decode cX12_image 22 = .ok (.aload_n 0, 1) := by decide +kernel
theorem dX12_image_23 : decode cX12_image 23 = .ok (.getfield 13, 3) := by decide +kernel
theorem dX12_image_26 : decode cX12_image 26 = .ok (.putfield 133, 3) := by decide +kernel
theorem dX12_image_29 : decode cX12_image 29 = .ok (.aload_n 0, 1) := by decide +kernel
theorem dX12_image_30 : decode cX12_image 30 = .ok (.aload_n 0, 1) := by decide +kernel
theorem dX12_image_31 : decode cX12_image 31 = .ok (.getfield 16, 3) := by decide +kernel
theorem dX12_image_34 : decode cX12_image 34 = .ok (.putfield 136, 3) := by decide +kernel
theorem dX12_image_37 : decode cX12_image 37 = .ok (.aload_n 0, 1) := by decide +kernel
theorem dX12_image_38 : decode cX12_image 38 = .ok (.aload_n 0, 1) := by decide +kernel
theorem dX12_image_39 : decode cX12_image 39 = .ok (.getfield 99, 3) := by decide +kernel
theorem dX12_image_42 : decode cX12_image 42 = .ok (.putfield 139, 3) := by decide +kernel
theorem dX12_image_45 : decode cX12_image 45 = .ok (.aload_n 0, 1) := by decide +kernel
theorem dX12_image_46 : decode cX12_image 46 = .ok (.aload_n 0, 1) := by decide +kernel
theorem dX12_image_47 : decode cX12_image 47 = .ok (.getfield 108, 3) := by decide +kernel
theorem dX12_image_50 : decode cX12_image 50 = .ok (.putfield 142, 3) := by decide +kernel
theorem dX12_image_53 : decode cX12_image 53 = .ok (.aload_n 0, 1) := by decide +kernel
theorem dX12_image_54 : decode cX12_image 54 = .ok (.aload_n 0, 1) := by decide +kernel
theorem dX12_image_55 : decode cX12_image 55 = .ok (.getfield 111, 3) := by decide +kernel
theorem dX12_image_58 : decode cX12_image 58 = .ok (.putfield 145, 3) := by decide +kernel
theorem dX12_image_61 : decode cX12_image 61 = .ok (.iconst 0, 1) := by decide +kernel
theorem dX12_image_62 : decode cX12_image 62 = .ok (.istore_n 1, 1) := by decide +kernel
theorem dX12_image_63 : decode cX12_image 63 = .ok (.iload_n 1, 1) := by decide +kernel
theorem dX12_image_64 : decode cX12_image 64 = .ok (.iconst 5, 1) := by decide +kernel
theorem dX12_image_65 : decode cX12_image 65 = .ok (.if_icmp .ge 69, 3) := by decide +kernel
theorem dX12_image_68 : decode cX12_image 68 = .ok (.aload_n 0, 1) := by decide +kernel
theorem dX12_image_69 : decode cX12_image 69 = .ok (.getfield 151, 3) := by decide +kernel
theorem dX12_image_72 : decode cX12_image 72 = .ok (.iload_n 1, 1) := by decide +kernel
theorem dX12_image_73 : decode cX12_image 73 = .ok (.aload_n 0, 1) := by decide +kernel
theorem dX12_image_74 : decode cX12_image 74 = .ok (.getfield 23, 3) := by decide +kernel
theorem dX12_image_77 : decode cX12_image 77 = .ok (.iload_n 1, 1) := by decide +kernel
theorem dX12_image_78 : decode cX12_image 78 = .ok (.iaload, 1) := by decide +kernel
theorem dX12_image_79 : decode cX12_image 79 = .ok (.iastore, 1) := by decide +kernel
theorem dX12_image_80 : decode cX12_image 80 = .ok (.aload_n 0, 1) := by decide +kernel
theorem dX12_image_81 : decode cX12_image 81 = .ok (.getfield 154, 3) := by decide +kernel
theorem dX12_image_84 : decode cX12_image 84 = .ok (.iload_n 1, 1) := by decide +kernel
theorem dX12_image_85 : decode cX12_image 85 = .ok (.aload_n 0, 1) := by decide +kernel
theorem dX12_image_86 : decode cX12_image 86 = .ok (.getfield 26, 3) := by decide +kernel
theorem dX12_image_89 : decode cX12_image 89 = .ok (.iload_n 1, 1) := by decide +kernel
theorem dX12_image_90 : decode cX12_image 90 = .ok (.iaload, 1) := by decide +kernel
theorem dX12_image_91 : decode cX12_image 91 = .ok (.iastore, 1) := by decide +kernel
theorem dX12_image_92 : decode cX12_image 92 = .ok (.aload_n 0, 1) := by decide +kernel
theorem dX12_image_93 : decode cX12_image 93 = .ok (.getfield 157, 3) := by decide +kernel
theorem dX12_image_96 : decode cX12_image 96 = .ok (.iload_n 1, 1) := by decide +kernel
theorem dX12_image_97 : decode cX12_image 97 = .ok (.aload_n 0, 1) := by decide +kernel
theorem dX12_image_98 : decode cX12_image 98 = .ok (.getfield 29, 3) := by decide +kernel
theorem dX12_image_101 : decode cX12_image 101 = .ok (.iload_n 1, 1) := by decide +kernel
theorem dX12_image_102 : decode cX12_image 102 = .ok (.iaload, 1) := by decide +kernel
theorem dX12_image_103 : decode cX12_image 103 = .ok (.iastore, 1) := by decide +kernel
theorem dX12_image_104 : decode cX12_image 104 = .ok (.aload_n 0, 1) := by decide +kernel
theorem dX12_image_105 : decode cX12_image 105 = .ok (.getfield 163, 3) := by decide +kernel
theorem dX12_image_108 : decode cX12_image 108 = .ok (.iload_n 1, 1) := by decide +kernel
theorem dX12_image_109 : decode cX12_image 109 = .ok (.aload_n 0, 1) := by decide +kernel
theorem dX12_image_110 : decode cX12_image 110 = .ok (.getfield 102, 3) := by decide +kernel
theorem dX12_image_113 : decode cX12_image 113 = .ok (.iload_n 1, 1) := by decide +kernel
theorem dX12_image_114 : decode cX12_image 114 = .ok (.iaload, 1) := by decide +kernel
theorem dX12_image_115 : decode cX12_image 115 = .ok (.iastore, 1) := by decide +kernel
theorem dX12_image_116 : decode cX12_image 116 = .ok (.aload_n 0, 1) := by decide +kernel
theorem dX12_image_117 : decode cX12_image 117 = .ok (.getfield 166, 3) := by decide +kernel
theorem dX12_image_120 : decode cX12_image 120 = .ok (.iload_n 1, 1) := by decide +kernel
theorem dX12_image_121 : decode cX12_image 121 = .ok (.aload_n 0, 1) := by decide +kernel
theorem dX12_image_122 : decode cX12_image 122 = .ok (.getfield 105, 3) := by decide +kernel
theorem dX12_image_125 : decode cX12_image 125 = .ok (.iload_n 1, 1) := by decide +kernel
theorem dX12_image_126 : decode cX12_image 126 = .ok (.iaload, 1) := by decide +kernel
theorem dX12_image_127 : decode cX12_image 127 = .ok (.iastore, 1) := by decide +kernel
theorem dX12_image_128 : decode cX12_image 128 = .ok (.iinc 1 1, 3) := by decide +kernel
theorem dX12_image_131 : decode cX12_image 131 = .ok (.goto (-68), 3) := by decide +kernel
theorem dX12_image_134 : decode cX12_image 134 = .ok (.iconst 0, 1) := by decide +kernel
theorem dX12_image_135 : decode cX12_image 135 = .ok (.istore_n 1, 1) := by decide +kernel
theorem dX12_image_136 : decode cX12_image 136 = .ok (.iload_n 1, 1) := by decide +kernel
theorem dX12_image_137 : decode cX12_image 137 = .ok (.bipush 20, 2) := by decide +kernel
theorem dX12_image_139 : decode cX12_image 139 = .ok (.if_icmp .ge 21, 3) := by decide +kernel
theorem dX12_image_142 : decode cX12_image 142 = .ok (.aload_n 0, 1) := by decide +kernel
theorem dX12_image_143 : decode cX12_image 143 = .ok (.getfield 160, 3) := by decide +kernel
theorem dX12_image_146 : decode cX12_image 146 = .ok (.iload_n 1, 1) := by decide +kernel
theorem dX12_image_147 : decode cX12_image 147 = .ok (.aload_n 0, 1) := by decide +kernel
theorem dX12_image_148 : decode cX12_image 148 = .ok (.getfield 32, 3) := by decide +kernel
theorem dX12_image_151 : decode cX12_image 151 = .ok (.iload_n 1, 1) := by decide +kernel
theorem dX12_image_152 : decode cX12_image 152 = .ok (.iaload, 1) := by decide +kernel
theorem dX12_image_153 : decode cX12_image 153 = .ok (.iastore, 1) := by decide +kernel
theorem dX12_image_154 : decode cX12_image 154 = .ok (.iinc 1 1, 3) := by decide +kernel
theorem dX12_image_157 : decode cX12_image 157 = .ok (.goto (-21), 3) := by decide +kernel
theorem dX12_image_160 : decode cX12_image 160 = .ok (.iconst 0, 1) := by decide +kernel
theorem dX12_image_161 : decode cX12_image 161 = .ok (.istore_n 1, 1) := by decide +kernel
theorem dX12_image_162 : decode cX12_image 162 = .ok (.iload_n 1, 1) := by decide +kernel
theorem dX12_image_163 : decode cX12_image 163 = .ok (.bipush 8, 2) := by decide +kernel
theorem dX12_image_165 : decode cX12_image 165 = .ok (.if_icmp .ge 57, 3) := by decide +kernel
theorem dX12_image_168 : decode cX12_image 168 = .ok (.aload_n 0, 1) := by decide +kernel
theorem dX12_image_169 : decode cX12_image 169 = .ok (.getfield 148, 3) := by decide +kernel
theorem dX12_image_172 : decode cX12_image 172 = .ok (.iload_n 1, 1) := by decide +kernel
theorem dX12_image_173 : decode cX12_image 173 = .ok (.aload_n 0, 1) := by decide +kernel
theorem dX12_image_174 : decode cX12_image 174 = .ok (.getfield 19, 3) := by decide +kernel
theorem dX12_image_177 : decode cX12_image 177 = .ok (.iload_n 1, 1) := by decide +kernel
theorem dX12_image_178 : decode cX12_image 178 = .ok (.iaload, 1) := by decide +kernel
theorem dX12_image_179 : decode cX12_image 179 = .ok (.iastore, 1) := by decide +kernel
theorem dX12_image_180 : decode cX12_image 180 = .ok (.aload_n 0, 1) := by decide +kernel
theorem dX12_image_181 : decode cX12_image 181 = .ok (.getfield 169, 3) := by decide +kernel
theorem dX12_image_184 : decode cX12_image 184 = .ok (.iload_n 1, 1) := by decide +kernel
theorem dX12_image_185 : decode cX12_image 185 = .ok (.aload_n 0, 1) := by decide +kernel
theorem dX12_image_186 : decode cX12_image 186 = .ok (.getfield 114, 3) := by decide +kernel
theorem dX12_image_189 : decode cX12_image 189 = .ok (.iload_n 1, 1) := by decide +kernel
theorem dX12_image_190 : decode cX12_image 190 = .ok (.iaload, 1) := by decide +kernel
theorem dX12_image_191 : decode cX12_image 191 = .ok (.iastore, 1) := by decide +kernel
theorem dX12_image_192 : decode cX12_image 192 = .ok (.aload_n 0, 1) := by decide +kernel
theorem dX12_image_193 : decode cX12_image 193 = .ok (.getfield 172, 3) := by decide +kernel
theorem dX12_image_196 : decode cX12_image 196 = .ok (.iload_n 1, 1) := by decide +kernel
theorem dX12_image_197 : decode cX12_image 197 = .ok (.aload_n 0, 1) := by decide +kernel
theorem dX12_image_198 : decode cX12_image 198 = .ok (.getfield 117, 3) := by decide +kernel
theorem dX12_image_201 : decode cX12_image 201 = .ok (.iload_n 1, 1) := by decide +kernel
theorem dX12_image_202 : decode cX12_image 202 = .ok (.iaload, 1) := by decide +kernel
theorem dX12_image_203 : decode cX12_image 203 = .ok (.iastore, 1) := by decide +kernel
theorem dX12_image_204 : decode cX12_image 204 = .ok (.aload_n 0, 1) := by decide +kernel
theorem dX12_image_205 : decode cX12_image 205 = .ok (.getfield 175, 3) := by decide +kernel
theorem dX12_image_208 : decode cX12_image 208 = .ok (.iload_n 1, 1) := by decide +kernel
theorem dX12_image_209 : decode cX12_image 209 = .ok (.aload_n 0, 1) := by decide +kernel
theorem dX12_image_210 : decode cX12_image 210 = .ok (.getfield 120, 3) := by decide +kernel
theorem dX12_image_213 : decode cX12_image 213 = .ok (.iload_n 1, 1) := by decide +kernel
theorem dX12_image_214 : decode cX12_image 214 = .ok (.iaload, 1) := by decide +kernel
theorem dX12_image_215 : decode cX12_image 215 = .ok (.iastore, 1) := by decide +kernel
theorem dX12_image_216 : decode cX12_image 216 = .ok (.iinc 1 1, 3) := by decide +kernel
theorem dX12_image_219 : decode cX12_image 219 = .ok (.goto (-57), 3) := by decide +kernel
theorem dX12_image_222 : decode cX12_image 222 = .ok (.aload_n 0, 1) := by decide +kernel
theorem dX12_image_223 : decode cX12_image 223 = .ok (.getfield 13, 3) := by decide +kernel
theorem dX12_image_226 : decode cX12_image 226 = .ok (.ireturn, 1) := by decide +kernel
theorem dX12_undo_0 : decode cX12_undo 0 = .ok (.aload_n 0, 1) := by decide +kernel
theorem dX12_undo_1 : decode cX12_undo 1 = .ok (.getfield 123, 3) := by decide +kernel
theorem dX12_undo_4 : decode cX12_undo 4 = .ok (.ifCond .ne 6, 3) := by decide +kernel
theorem dX12_undo_7 : decode cX12_undo 7 = .ok (.bipush (-3), 2) := by decide +kernel
theorem dX12_undo_9 : decode cX12_undo 9 = .ok (.ireturn, 1) := by decide +kernel
theorem dX12_undo_10 : decode cX12_undo 10 = .ok (.aload_n 0, 1) := by decide +kernel
theorem dX12_undo_11 : decode cX12_undo 11 = .ok (.aload_n 0, 1) := by decide +kernel
theorem dX12_undo_12 : decode cX12_undo 12 = .ok (.getfield 127, 3) := by decide +kernel
theorem dX12_undo_15 : decode cX12_undo 15 = .ok (.putfield 38, 3) := by decide +kernel
theorem dX12_undo_18 : decode cX12_undo 18 = .ok (.aload_n 0, 1) := by decide +kernel
theorem dX12_undo_19 : decode cX12_undo 19 = .ok (.aload_n 0, 1) := by decide +kernel
theorem dX12_undo_20 : decode cX12_undo 20 = .ok (.getfield 130, 3) := by decide +kernel
theorem dX12_undo_23 : decode cX12_undo 23 = .ok (.putfield 7, 3) := by decide +kernel
theorem dX12_undo_26 : decode cX12_undo 26 = .ok (.aload_n 0, 1) := by decide +kernel
theorem dX12_undo_27 : decode cX12_undo 27 = .ok (.aload_n 0, 1) := by decide +kernel
theorem dX12_undo_28 : decode cX12_undo 28 = .ok (.getfield 133, 3) := by decide +kernel
theorem dX12_undo_31 : decode cX12_undo 31 = .ok (.putfield 13, 3) := by decide +kernel
theorem dX12_undo_34 : decode cX12_undo 34 = .ok (.aload_n 0, 1) := by decide +kernel
theorem dX12_undo_35 : decode cX12_undo 35 = .ok (.aload_n 0, 1) := by decide +kernel
theorem dX12_undo_36 : decode cX12_undo 36 = .ok (.getfield 136, 3) := by decide +kernel
theorem dX12_undo_39 : decode cX12_undo 39 = .ok (.putfield 16, 3) := by decide +kernel
theorem dX12_undo_42 : decode cX12_undo 42 = .ok (.aload_n 0, 1) := by decide +kernel
theorem dX12_undo_43 : decode cX12_undo 43 = .ok (.aload_n 0, 1) := by decide +kernel
theorem dX12_undo_44 : decode cX12_undo 44 = .ok (.getfield 139, 3) := by decide +kernel
theorem dX12_undo_47 : decode cX12_undo 47 = .ok (.putfield 99, 3) := by decide +kernel
theorem dX12_undo_50 : decode cX12_undo 50 = .ok (.aload_n 0, 1) := by decide +kernel
theorem dX12_undo_51 : decode cX12_undo 51 = .ok (.aload_n 0, 1) := by decide +kernel
theorem dX12_undo_52 : decode cX12_undo 52 = .ok (.getfield 142, 3) := by decide +kernel
theorem dX12_undo_55 : decode cX12_undo 55 = .ok (.putfield 108, 3) := by decide +kernel
theorem dX12_undo_58 : decode cX12_undo 58 = .ok (.aload_n 0, 1) := by decide +kernel
theorem dX12_undo_59 : decode cX12_undo 59 = .ok (.aload_n 0, 1) := by decide +kernel
theorem dX12_undo_60 : decode cX12_undo 60 = .ok (.getfield 145, 3) := by decide +kernel
theorem dX12_undo_63 : decode cX12_undo 63 = .ok (.putfield 111, 3) := by decide +kernel
theorem dX12_undo_66 : decode cX12_undo 66 = .ok (.iconst 0, 1) := by decide +kernel
theorem dX12_undo_67 : decode cX12_undo 67 = .ok (.istore_n 1, 1) := by decide +kernel
theorem dX12_undo_68 : decode cX12_undo 68 = .ok (.iload_n 1, 1) := by decide +kernel
theorem dX12_undo_69 : decode cX12_undo 69 = .ok (.iconst 5, 1) := by decide +kernel
theorem dX12_undo_70 : decode cX12_undo 70 = .ok (.if_icmp .ge 69, 3) := by decide +kernel
theorem dX12_undo_73 : decode cX12_undo 73 = .ok (.aload_n 0, 1) := by decide +kernel
theorem dX12_undo_74 : decode cX12_undo 74 = .ok (.getfield 23, 3) := by decide +kernel
theorem dX12_undo_77 : decode cX12_undo 77 = .ok (.iload_n 1, 1) := by decide +kernel
theorem dX12_undo_78 : decode cX12_undo 78 = .ok (.aload_n 0, 1) := by decide +kernel
theorem dX12_undo_79 : decode cX12_undo 79 = .ok (.getfield 151, 3) := by decide +kernel
theorem dX12_undo_82 : decode cX12_undo 82 = .ok (.iload_n 1, 1) := by decide +kernel
theorem dX12_undo_83 : decode cX12_undo 83 = .ok (.iaload, 1) := by decide +kernel
theorem dX12_undo_84 : decode cX12_undo 84 = .ok (.iastore, 1) := by decide +kernel
theorem dX12_undo_85 : decode cX12_undo 85 = .ok (.aload_n 0, 1) := by decide +kernel
theorem dX12_undo_86 : decode cX12_undo 86 = .ok (.getfield 26, 3) := by decide +kernel
theorem dX12_undo_89 : decode cX12_undo 89 = .ok (.iload_n 1, 1) := by decide +kernel
theorem dX12_undo_90 : decode cX12_undo 90 = .ok (.aload_n 0, 1) := by decide +kernel
theorem dX12_undo_91 : decode cX12_undo 91 = .ok (.getfield 154, 3) := by decide +kernel
theorem dX12_undo_94 : decode cX12_undo 94 = .ok (.iload_n 1, 1) := by decide +kernel
theorem dX12_undo_95 : decode cX12_undo 95 = .ok (.iaload, 1) := by decide +kernel
theorem dX12_undo_96 : decode cX12_undo 96 = .ok (.iastore, 1) := by decide +kernel
theorem dX12_undo_97 : decode cX12_undo 97 = .ok (.aload_n 0, 1) := by decide +kernel
theorem dX12_undo_98 : decode cX12_undo 98 = .ok (.getfield 29, 3) := by decide +kernel
theorem dX12_undo_101 : decode cX12_undo 101 = .ok (.iload_n 1, 1) := by decide +kernel
theorem dX12_undo_102 : decode cX12_undo 102 = .ok (.aload_n 0, 1) := by decide +kernel
theorem dX12_undo_103 : decode cX12_undo 103 = .ok (.getfield 157, 3) := by decide +kernel
theorem dX12_undo_106 : decode cX12_undo 106 = .ok (.iload_n 1, 1) := by decide +kernel
theorem dX12_undo_107 : decode cX12_undo 107 = .ok (.iaload, 1) := by decide +kernel
theorem dX12_undo_108 : decode cX12_undo 108 = .ok (.iastore, 1) := by decide +kernel
theorem dX12_undo_109 : decode cX12_undo 109 = .ok (.aload_n 0, 1) := by decide +kernel
theorem dX12_undo_110 : decode cX12_undo 110 = .ok (.getfield 102, 3) := by decide +kernel
theorem dX12_undo_113 : decode cX12_undo 113 = .ok (.iload_n 1, 1) := by decide +kernel
theorem dX12_undo_114 : decode cX12_undo 114 = .ok (.aload_n 0, 1) := by decide +kernel
theorem dX12_undo_115 : decode cX12_undo 115 = .ok (.getfield 163, 3) := by decide +kernel
theorem dX12_undo_118 : decode cX12_undo 118 = .ok (.iload_n 1, 1) := by decide +kernel
theorem dX12_undo_119 : decode cX12_undo 119 = .ok (.iaload, 1) := by decide +kernel
theorem dX12_undo_120 : decode cX12_undo 120 = .ok (.iastore, 1) := by decide +kernel
theorem dX12_undo_121 : decode cX12_undo 121 = .ok (.aload_n 0, 1) := by decide +kernel
theorem dX12_undo_122 : decode cX12_undo 122 = .ok (.getfield 105, 3) := by decide +kernel
theorem dX12_undo_125 : decode cX12_undo 125 = .ok (.iload_n 1, 1) := by decide +kernel
theorem dX12_undo_126 : decode cX12_undo 126 = .ok (.aload_n 0, 1) := by decide +kernel
theorem dX12_undo_127 : decode cX12_undo 127 = .ok (.getfield 166, 3) := by decide +kernel
theorem dX12_undo_130 : decode cX12_undo 130 = .ok (.iload_n 1, 1) := by decide +kernel
theorem dX12_undo_131 : decode cX12_undo 131 = .ok (.iaload, 1) := by decide +kernel
theorem dX12_undo_132 : decode cX12_undo 132 = .ok (.iastore, 1) := by decide +kernel
theorem dX12_undo_133 : decode cX12_undo 133 = .ok (.iinc 1 1, 3) := by decide +kernel
theorem dX12_undo_136 : decode cX12_undo 136 = .ok (.goto (-68), 3) := by decide +kernel
theorem dX12_undo_139 : decode cX12_undo 139 = .ok (.iconst 0, 1) := by decide +kernel
theorem dX12_undo_140 : decode cX12_undo 140 = .ok (.istore_n 1, 1) := by decide +kernel
theorem dX12_undo_141 : decode cX12_undo 141 = .ok (.iload_n 1, 1) := by decide +kernel
theorem dX12_undo_142 : decode cX12_undo 142 = .ok (.bipush 20, 2) := by decide +kernel
theorem dX12_undo_144 : decode cX12_undo 144 = .ok (.if_icmp .ge 21, 3) := by decide +kernel
theorem dX12_undo_147 : decode cX12_undo 147 = .ok (.aload_n 0, 1) := by decide +kernel
theorem dX12_undo_148 : decode cX12_undo 148 = .ok (.getfield 32, 3) := by decide +kernel
theorem dX12_undo_151 : decode cX12_undo 151 = .ok (.iload_n 1, 1) := by decide +kernel
theorem dX12_undo_152 : decode cX12_undo 152 = .ok (.aload_n 0, 1) := by decide +kernel
theorem dX12_undo_153 : decode cX12_undo 153 = .ok (.getfield 160, 3) := by decide +kernel
theorem dX12_undo_156 : decode cX12_undo 156 = .ok (.iload_n 1, 1) := by decide +kernel
theorem dX12_undo_157 : decode cX12_undo 157 = .ok (.iaload, 1) := by decide +kernel
theorem dX12_undo_158 : decode cX12_undo 158 = .ok (.iastore, 1) := by decide +kernel
theorem dX12_undo_159 : decode cX12_undo 159 = .ok (.iinc 1 1, 3) := by decide +kernel
theorem dX12_undo_162 : decode cX12_undo 162 = .ok (.goto (-21), 3) := by decide +kernel
theorem dX12_undo_165 : decode cX12_undo 165 = .ok (.iconst 0, 1) := by decide +kernel
theorem dX12_undo_166 : decode cX12_undo 166 = .ok (.istore_n 1, 1) := by decide +kernel
theorem dX12_undo_167 : decode cX12_undo 167 = .ok (.iload_n 1, 1) := by decide +kernel
theorem dX12_undo_168 : decode cX12_undo 168 = .ok (.bipush 8, 2) := by decide +kernel
theorem dX12_undo_170 : decode cX12_undo 170 = .ok (.if_icmp .ge 57, 3) := by decide +kernel
theorem dX12_undo_173 : decode cX12_undo 173 = .ok (.aload_n 0, 1) := by decide +kernel
theorem dX12_undo_174 : decode cX12_undo 174 = .ok (.getfield 19, 3) := by decide +kernel
theorem dX12_undo_177 : decode cX12_undo 177 = .ok (.iload_n 1, 1) := by decide +kernel
theorem dX12_undo_178 : decode cX12_undo 178 = .ok (.aload_n 0, 1) := by decide +kernel
theorem dX12_undo_179 : decode cX12_undo 179 = .ok (.getfield 148, 3) := by decide +kernel
theorem dX12_undo_182 : decode cX12_undo 182 = .ok (.iload_n 1, 1) := by decide +kernel
theorem dX12_undo_183 : decode cX12_undo 183 = .ok (.iaload, 1) := by decide +kernel
theorem dX12_undo_184 : decode cX12_undo 184 = .ok (.iastore, 1) := by decide +kernel
theorem dX12_undo_185 : decode cX12_undo 185 = .ok (.aload_n 0, 1) := by decide +kernel
theorem dX12_undo_186 : decode cX12_undo 186 = .ok (.getfield 114, 3) := by decide +kernel
theorem dX12_undo_189 : decode cX12_undo 189 = .ok (.iload_n 1, 1) := by decide +kernel
theorem dX12_undo_190 : decode cX12_undo 190 = .ok (.aload_n 0, 1) := by decide +kernel
theorem dX12_undo_191 : decode cX12_undo 191 = .ok (.getfield 169, 3) := by decide +kernel
theorem dX12_undo_194 : decode cX12_undo 194 = .ok (.iload_n 1, 1) := by decide +kernel
theorem dX12_undo_195 : decode cX12_undo 195 = .ok (.iaload, 1) := by decide +kernel
theorem dX12_undo_196 : decode cX12_undo 196 = .ok (.iastore, 1) := by decide +kernel
theorem dX12_undo_197 : decode cX12_undo 197 = .ok (.aload_n 0, 1) := by decide +kernel
theorem dX12_undo_198 : decode cX12_undo 198 = .ok (.getfield 117, 3) := by decide +kernel
theorem dX12_undo_201 : decode cX12_undo 201 = .ok (.iload_n 1, 1) := by decide +kernel
theorem dX12_undo_202 : decode cX12_undo 202 = .ok (.aload_n 0, 1) := by decide +kernel
theorem dX12_undo_203 : decode cX12_undo 203 = .ok (.getfield 172, 3) := by decide +kernel
theorem dX12_undo_206 : decode cX12_undo 206 = .ok (.iload_n 1, 1) := by decide +kernel
theorem dX12_undo_207 : decode cX12_undo 207 = .ok (.iaload, 1) := by decide +kernel
theorem dX12_undo_208 : decode cX12_undo 208 = .ok (.iastore, 1) := by decide +kernel
theorem dX12_undo_209 : decode cX12_undo 209 = .ok (.aload_n 0, 1) := by decide +kernel
theorem dX12_undo_210 : decode cX12_undo 210 = .ok (.getfield 120, 3) := by decide +kernel
theorem dX12_undo_213 : decode cX12_undo 213 = .ok (.iload_n 1, 1) := by decide +kernel
theorem dX12_undo_214 : decode cX12_undo 214 = .ok (.aload_n 0, 1) := by decide +kernel
theorem dX12_undo_215 : decode cX12_undo 215 = .ok (.getfield 175, 3) := by decide +kernel
theorem dX12_undo_218 : decode cX12_undo 218 = .ok (.iload_n 1, 1) := by decide +kernel
theorem dX12_undo_219 : decode cX12_undo 219 = .ok (.iaload, 1) := by decide +kernel
theorem dX12_undo_220 : decode cX12_undo 220 = .ok (.iastore, 1) := by decide +kernel
theorem dX12_undo_221 : decode cX12_undo 221 = .ok (.iinc 1 1, 3) := by decide +kernel
theorem dX12_undo_224 : decode cX12_undo 224 = .ok (.goto (-57), 3) := by decide +kernel
theorem dX12_undo_227 : decode cX12_undo 227 = .ok (.aload_n 0, 1) := by decide +kernel
theorem dX12_undo_228 : decode cX12_undo 228 = .ok (.getfield 13, 3) := by decide +kernel
theorem dX12_undo_231 : decode cX12_undo 231 = .ok (.ireturn, 1) := by decide +kernel
theorem dX12_body_0 : decode cX12_body 0 = .ok (.aload_n 0, 1) := by decide +kernel
theorem dX12_body_1 : decode cX12_body 1 = .ok (.getfield 178, 3) := by decide +kernel
theorem dX12_body_4 : decode cX12_body 4 = .ok (.bipush 20, 2) := by decide +kernel
theorem dX12_body_6 : decode cX12_body 6 = .ok (.if_icmp .ge 13, 3) := by decide +kernel
theorem dX12_body_9 : decode cX12_body 9 = .ok (.aload_n 0, 1) := by decide +kernel
theorem dX12_body_10 : decode cX12_body 10 = .ok (.getfield 181, 3) := by decide +kernel
theorem dX12_body_13 : decode cX12_body 13 = .ok (.aload_n 0, 1) := by decide +kernel
theorem dX12_body_14 : decode cX12_body 14 = .ok (.getfield 178, 3) := by decide +kernel
theorem dX12_body_17 : decode cX12_body 17 = .ok (.iload_n 1, 1) := by decide +kernel
theorem dX12_body_18 : decode cX12_body 18 = .ok (.iastore, 1) := by decide +kernel
theorem dX12_body_19 : decode cX12_body 19 = .ok (.aload_n 0, 1) := by decide +kernel
theorem dX12_body_20 : decode cX12_body 20 = .ok (.dup, 1) := by decide +kernel
theorem dX12_body_21 : decode cX12_body 21 = .ok (.getfield 178, 3) := by decide +kernel
theorem dX12_body_24 : decode cX12_body 24 = .ok (.iconst 1, 1) := by decide +kernel
theorem dX12_body_25 : decode cX12_body 25 = .ok (.iadd, 1) := by decide +kernel
theorem dX12_body_26 : decode cX12_body 26 = .ok (.putfield 178, 3) := by decide +kernel
theorem dX12_body_29 : decode cX12_body 29 = .ok (.return_, 1) := by decide +kernel
theorem dX12_senderTilts_0 : decode cX12_senderTilts 0 = .ok (.aload_n 0, 1) := by decide +kernel
theorem dX12_senderTilts_1 : decode cX12_senderTilts 1 = .ok (.bipush 10, 2) := by decide +kernel
theorem dX12_senderTilts_3 : decode cX12_senderTilts 3 = .ok (.invokevirtual 333, 3) := by decide +kernel
theorem dX12_senderTilts_6 : decode cX12_senderTilts 6 = .ok (.iload_n 2, 1) := by decide +kernel
theorem dX12_senderTilts_7 : decode cX12_senderTilts 7 = .ok (.iload_n 1, 1) := by decide +kernel
theorem dX12_senderTilts_8 : decode cX12_senderTilts 8 = .ok (.iadd, 1) := by decide +kernel
theorem dX12_senderTilts_9 : decode cX12_senderTilts 9 = .ok (.ireturn, 1) := by decide +kernel
theorem dX12_tiltsAct_0 : decode cX12_tiltsAct 0 = .ok (.aload_n 0, 1) := by decide +kernel
theorem dX12_tiltsAct_1 : decode cX12_tiltsAct 1 = .ok (.getfield 23, 3) := by decide +kernel
theorem dX12_tiltsAct_4 : decode cX12_tiltsAct 4 = .ok (.iload_n 1, 1) := by decide +kernel
theorem dX12_tiltsAct_5 : decode cX12_tiltsAct 5 = .ok (.iaload, 1) := by decide +kernel
theorem dX12_tiltsAct_6 : decode cX12_tiltsAct 6 = .ok (.tableswitch 83 2 6 #[34, 83, 49, 34, 63], 34) := by decide +kernel
theorem dX12_tiltsAct_40 : decode cX12_tiltsAct 40 = .ok (.aload_n 0, 1) := by decide +kernel
theorem dX12_tiltsAct_41 : decode cX12_tiltsAct 41 = .ok (.bipush 30, 2) := by decide +kernel
theorem dX12_tiltsAct_43 : decode cX12_tiltsAct 43 = .ok (.invokevirtual 333, 3) := by decide +kernel
theorem dX12_tiltsAct_46 : decode cX12_tiltsAct 46 = .ok (.aload_n 0, 1) := by decide +kernel
theorem dX12_tiltsAct_47 : decode cX12_tiltsAct 47 = .ok (.iload_n 1, 1) := by decide +kernel
theorem dX12_tiltsAct_48 : decode cX12_tiltsAct 48 = .ok (.iload_n 2, 1) := by decide +kernel
theorem dX12_tiltsAct_49 : decode cX12_tiltsAct 49 = .ok (.iconst 3, 1) := by decide +kernel
theorem dX12_tiltsAct_50 : decode cX12_tiltsAct 50 = .ok (.imul, 1) := by decide +kernel
theorem dX12_tiltsAct_51 : decode cX12_tiltsAct 51 = .ok (.invokevirtual 336, 3) := by decide +kernel
theorem dX12_tiltsAct_54 : decode cX12_tiltsAct 54 = .ok (.ireturn, 1) := by decide +kernel
theorem dX12_tiltsAct_55 : decode cX12_tiltsAct 55 = .ok (.aload_n 0, 1) := by decide +kernel
theorem dX12_tiltsAct_56 : decode cX12_tiltsAct 56 = .ok (.bipush 50, 2) := by decide +kernel
theorem dX12_tiltsAct_58 : decode cX12_tiltsAct 58 = .ok (.invokevirtual 333, 3) := by decide +kernel
theorem dX12_tiltsAct_61 : decode cX12_tiltsAct 61 = .ok (.aload_n 0, 1) := by decide +kernel
theorem dX12_tiltsAct_62 : decode cX12_tiltsAct 62 = .ok (.iload_n 1, 1) := by decide +kernel
theorem dX12_tiltsAct_63 : decode cX12_tiltsAct 63 = .ok (.iload_n 2, 1) := by decide +kernel
theorem dX12_tiltsAct_64 : decode cX12_tiltsAct 64 = .ok (.invokevirtual 336, 3) := by decide +kernel
theorem dX12_tiltsAct_67 : decode cX12_tiltsAct 67 = .ok (.ineg, 1) := by decide +kernel
theorem dX12_tiltsAct_68 : decode cX12_tiltsAct 68 = .ok (.ireturn, 1) := by decide +kernel
theorem dX12_tiltsAct_69 : decode cX12_tiltsAct 69 = .ok (.aload_n 0, 1) := by decide +kernel
theorem dX12_tiltsAct_70 : decode cX12_tiltsAct 70 = .ok (.bipush 71, 2) := by decide +kernel
theorem dX12_tiltsAct_72 : decode cX12_tiltsAct 72 = .ok (.invokevirtual 333, 3) := by decide +kernel
theorem dX12_tiltsAct_75 : decode cX12_tiltsAct 75 = .ok (.aload_n 0, 1) := by decide +kernel
theorem dX12_tiltsAct_76 : decode cX12_tiltsAct 76 = .ok (.iload_n 1, 1) := by decide +kernel
theorem dX12_tiltsAct_77 : decode cX12_tiltsAct 77 = .ok (.iload_n 2, 1) := by decide +kernel
theorem dX12_tiltsAct_78 : decode cX12_tiltsAct 78 = .ok (.invokevirtual 336, 3) := by decide +kernel
theorem dX12_tiltsAct_81 : decode cX12_tiltsAct 81 = .ok (.aload_n 0, 1) := by decide +kernel
theorem dX12_tiltsAct_82 : decode cX12_tiltsAct 82 = .ok (.getfield 26, 3) := by decide +kernel
theorem dX12_tiltsAct_85 : decode cX12_tiltsAct 85 = .ok (.iload_n 1, 1) := by decide +kernel
theorem dX12_tiltsAct_86 : decode cX12_tiltsAct 86 = .ok (.iaload, 1) := by decide +kernel
theorem dX12_tiltsAct_87 : decode cX12_tiltsAct 87 = .ok (.ixor, 1) := by decide +kernel
theorem dX12_tiltsAct_88 : decode cX12_tiltsAct 88 = .ok (.ireturn, 1) := by decide +kernel
theorem dX12_tiltsAct_89 : decode cX12_tiltsAct 89 = .ok (.aload_n 0, 1) := by decide +kernel
theorem dX12_tiltsAct_90 : decode cX12_tiltsAct 90 = .ok (.iload_n 1, 1) := by decide +kernel
theorem dX12_tiltsAct_91 : decode cX12_tiltsAct 91 = .ok (.iload_n 2, 1) := by decide +kernel
theorem dX12_tiltsAct_92 : decode cX12_tiltsAct 92 = .ok (.invokevirtual 336, 3) := by decide +kernel
theorem dX12_tiltsAct_95 : decode cX12_tiltsAct 95 = .ok (.ireturn, 1) := by decide +kernel
theorem dX12_senderSends_0 : decode cX12_senderSends 0 = .ok (.aload_n 0, 1) := by decide +kernel
theorem dX12_senderSends_1 : decode cX12_senderSends 1 = .ok (.bipush 11, 2) := by decide +kernel
theorem dX12_senderSends_3 : decode cX12_senderSends 3 = .ok (.invokevirtual 333, 3) := by decide +kernel
theorem dX12_senderSends_6 : decode cX12_senderSends 6 = .ok (.aload_n 0, 1) := by decide +kernel
theorem dX12_senderSends_7 : decode cX12_senderSends 7 = .ok (.iload_n 1, 1) := by decide +kernel
theorem dX12_senderSends_8 : decode cX12_senderSends 8 = .ok (.iload_n 2, 1) := by decide +kernel
theorem dX12_senderSends_9 : decode cX12_senderSends 9 = .ok (.invokevirtual 339, 3) := by decide +kernel
theorem dX12_senderSends_12 : decode cX12_senderSends 12 = .ok (.aload_n 0, 1) := by decide +kernel
theorem dX12_senderSends_13 : decode cX12_senderSends 13 = .ok (.getfield 26, 3) := by decide +kernel
theorem dX12_senderSends_16 : decode cX12_senderSends 16 = .ok (.iload_n 1, 1) := by decide +kernel
theorem dX12_senderSends_17 : decode cX12_senderSends 17 = .ok (.iaload, 1) := by decide +kernel
theorem dX12_senderSends_18 : decode cX12_senderSends 18 = .ok (.isub, 1) := by decide +kernel
theorem dX12_senderSends_19 : decode cX12_senderSends 19 = .ok (.ireturn, 1) := by decide +kernel
theorem dX12_tiltedSends_0 : decode cX12_tiltedSends 0 = .ok (.aload_n 0, 1) := by decide +kernel
theorem dX12_tiltedSends_1 : decode cX12_tiltedSends 1 = .ok (.bipush 20, 2) := by decide +kernel
theorem dX12_tiltedSends_3 : decode cX12_tiltedSends 3 = .ok (.invokevirtual 333, 3) := by decide +kernel
theorem dX12_tiltedSends_6 : decode cX12_tiltedSends 6 = .ok (.aload_n 0, 1) := by decide +kernel
theorem dX12_tiltedSends_7 : decode cX12_tiltedSends 7 = .ok (.iload_n 1, 1) := by decide +kernel
theorem dX12_tiltedSends_8 : decode cX12_tiltedSends 8 = .ok (.iload_n 2, 1) := by decide +kernel
theorem dX12_tiltedSends_9 : decode cX12_tiltedSends 9 = .ok (.invokevirtual 342, 3) := by decide +kernel
theorem dX12_tiltedSends_12 : decode cX12_tiltedSends 12 = .ok (.bipush 6, 2) := by decide +kernel
theorem dX12_tiltedSends_14 : decode cX12_tiltedSends 14 = .ok (.ixor, 1) := by decide +kernel
theorem dX12_tiltedSends_15 : decode cX12_tiltedSends 15 = .ok (.ireturn, 1) := by decide +kernel
theorem dX12_sendsAct_0 : decode cX12_sendsAct 0 = .ok (.aload_n 0, 1) := by decide +kernel
theorem dX12_sendsAct_1 : decode cX12_sendsAct 1 = .ok (.getfield 23, 3) := by decide +kernel
theorem dX12_sendsAct_4 : decode cX12_sendsAct 4 = .ok (.iload_n 1, 1) := by decide +kernel
theorem dX12_sendsAct_5 : decode cX12_sendsAct 5 = .ok (.iaload, 1) := by decide +kernel
theorem dX12_sendsAct_6 : decode cX12_sendsAct 6 = .ok (.lookupswitch 78 #[(1, 34), (4, 41), (6, 56)], 34) := by decide +kernel
theorem dX12_sendsAct_40 : decode cX12_sendsAct 40 = .ok (.aload_n 0, 1) := by decide +kernel
theorem dX12_sendsAct_41 : decode cX12_sendsAct 41 = .ok (.iload_n 1, 1) := by decide +kernel
theorem dX12_sendsAct_42 : decode cX12_sendsAct 42 = .ok (.iload_n 2, 1) := by decide +kernel
theorem dX12_sendsAct_43 : decode cX12_sendsAct 43 = .ok (.invokevirtual 345, 3) := by decide +kernel
theorem dX12_sendsAct_46 : decode cX12_sendsAct 46 = .ok (.ireturn, 1) := by decide +kernel
theorem dX12_sendsAct_47 : decode cX12_sendsAct 47 = .ok (.aload_n 0, 1) := by decide +kernel
theorem dX12_sendsAct_48 : decode cX12_sendsAct 48 = .ok (.bipush 51, 2) := by decide +kernel
theorem dX12_sendsAct_50 : decode cX12_sendsAct 50 = .ok (.invokevirtual 333, 3) := by decide +kernel
theorem dX12_sendsAct_53 : decode cX12_sendsAct 53 = .ok (.aload_n 0, 1) := by decide +kernel
theorem dX12_sendsAct_54 : decode cX12_sendsAct 54 = .ok (.iload_n 1, 1) := by decide +kernel
theorem dX12_sendsAct_55 : decode cX12_sendsAct 55 = .ok (.iload_n 2, 1) := by decide +kernel
theorem dX12_sendsAct_56 : decode cX12_sendsAct 56 = .ok (.iconst 1, 1) := by decide +kernel
theorem dX12_sendsAct_57 : decode cX12_sendsAct 57 = .ok (.iadd, 1) := by decide +kernel
theorem dX12_sendsAct_58 : decode cX12_sendsAct 58 = .ok (.invokevirtual 345, 3) := by decide +kernel
theorem dX12_sendsAct_61 : decode cX12_sendsAct 61 = .ok (.ireturn, 1) := by decide +kernel
theorem dX12_sendsAct_62 : decode cX12_sendsAct 62 = .ok (.aload_n 0, 1) := by decide +kernel
theorem dX12_sendsAct_63 : decode cX12_sendsAct 63 = .ok (.bipush 70, 2) := by decide +kernel
theorem dX12_sendsAct_65 : decode cX12_sendsAct 65 = .ok (.invokevirtual 333, 3) := by decide +kernel
theorem dX12_sendsAct_68 : decode cX12_sendsAct 68 = .ok (.aload_n 0, 1) := by decide +kernel
theorem dX12_sendsAct_69 : decode cX12_sendsAct 69 = .ok (.iload_n 1, 1) := by decide +kernel
theorem dX12_sendsAct_70 : decode cX12_sendsAct 70 = .ok (.iload_n 2, 1) := by decide +kernel
theorem dX12_sendsAct_71 : decode cX12_sendsAct 71 = .ok (.invokevirtual 342, 3) := by decide +kernel
theorem dX12_sendsAct_74 : decode cX12_sendsAct 74 = .ok (.istore_n 3, 1) := by decide +kernel
theorem dX12_sendsAct_75 : decode cX12_sendsAct 75 = .ok (.iload_n 3, 1) := by decide +kernel
theorem dX12_sendsAct_76 : decode cX12_sendsAct 76 = .ok (.aload_n 0, 1) := by decide +kernel
theorem dX12_sendsAct_77 : decode cX12_sendsAct 77 = .ok (.iload_n 1, 1) := by decide +kernel
theorem dX12_sendsAct_78 : decode cX12_sendsAct 78 = .ok (.iconst 2, 1) := by decide +kernel
theorem dX12_sendsAct_79 : decode cX12_sendsAct 79 = .ok (.invokevirtual 336, 3) := by decide +kernel
theorem dX12_sendsAct_82 : decode cX12_sendsAct 82 = .ok (.iadd, 1) := by decide +kernel
theorem dX12_sendsAct_83 : decode cX12_sendsAct 83 = .ok (.ireturn, 1) := by decide +kernel
theorem dX12_sendsAct_84 : decode cX12_sendsAct 84 = .ok (.aload_n 0, 1) := by decide +kernel
theorem dX12_sendsAct_85 : decode cX12_sendsAct 85 = .ok (.iload_n 1, 1) := by decide +kernel
theorem dX12_sendsAct_86 : decode cX12_sendsAct 86 = .ok (.iload_n 2, 1) := by decide +kernel
theorem dX12_sendsAct_87 : decode cX12_sendsAct 87 = .ok (.invokevirtual 342, 3) := by decide +kernel
theorem dX12_sendsAct_90 : decode cX12_sendsAct 90 = .ok (.ireturn, 1) := by decide +kernel
theorem dX12_senderTells_0 : decode cX12_senderTells 0 = .ok (.aload_n 0, 1) := by decide +kernel
theorem dX12_senderTells_1 : decode cX12_senderTells 1 = .ok (.bipush 12, 2) := by decide +kernel
theorem dX12_senderTells_3 : decode cX12_senderTells 3 = .ok (.invokevirtual 333, 3) := by decide +kernel
theorem dX12_senderTells_6 : decode cX12_senderTells 6 = .ok (.aload_n 0, 1) := by decide +kernel
theorem dX12_senderTells_7 : decode cX12_senderTells 7 = .ok (.iload_n 1, 1) := by decide +kernel
theorem dX12_senderTells_8 : decode cX12_senderTells 8 = .ok (.iload_n 2, 1) := by decide +kernel
theorem dX12_senderTells_9 : decode cX12_senderTells 9 = .ok (.invokevirtual 348, 3) := by decide +kernel
theorem dX12_senderTells_12 : decode cX12_senderTells 12 = .ok (.iconst 2, 1) := by decide +kernel
theorem dX12_senderTells_13 : decode cX12_senderTells 13 = .ok (.imul, 1) := by decide +kernel
theorem dX12_senderTells_14 : decode cX12_senderTells 14 = .ok (.ireturn, 1) := by decide +kernel
theorem dX12_tellsAct_0 : decode cX12_tellsAct 0 = .ok (.aload_n 0, 1) := by decide +kernel
theorem dX12_tellsAct_1 : decode cX12_tellsAct 1 = .ok (.getfield 23, 3) := by decide +kernel
theorem dX12_tellsAct_4 : decode cX12_tellsAct 4 = .ok (.iload_n 1, 1) := by decide +kernel
theorem dX12_tellsAct_5 : decode cX12_tellsAct 5 = .ok (.iaload, 1) := by decide +kernel
theorem dX12_tellsAct_6 : decode cX12_tellsAct 6 = .ok (.tableswitch 67 3 6 #[30, 67, 52, 30], 30) := by decide +kernel
theorem dX12_tellsAct_36 : decode cX12_tellsAct 36 = .ok (.aload_n 0, 1) := by decide +kernel
theorem dX12_tellsAct_37 : decode cX12_tellsAct 37 = .ok (.bipush 40, 2) := by decide +kernel
theorem dX12_tellsAct_39 : decode cX12_tellsAct 39 = .ok (.invokevirtual 333, 3) := by decide +kernel
theorem dX12_tellsAct_42 : decode cX12_tellsAct 42 = .ok (.aload_n 0, 1) := by decide +kernel
theorem dX12_tellsAct_43 : decode cX12_tellsAct 43 = .ok (.iload_n 1, 1) := by decide +kernel
theorem dX12_tellsAct_44 : decode cX12_tellsAct 44 = .ok (.iload_n 2, 1) := by decide +kernel
theorem dX12_tellsAct_45 : decode cX12_tellsAct 45 = .ok (.invokevirtual 351, 3) := by decide +kernel
theorem dX12_tellsAct_48 : decode cX12_tellsAct 48 = .ok (.istore_n 3, 1) := by decide +kernel
theorem dX12_tellsAct_49 : decode cX12_tellsAct 49 = .ok (.iload_n 3, 1) := by decide +kernel
theorem dX12_tellsAct_50 : decode cX12_tellsAct 50 = .ok (.aload_n 0, 1) := by decide +kernel
theorem dX12_tellsAct_51 : decode cX12_tellsAct 51 = .ok (.iload_n 1, 1) := by decide +kernel
theorem dX12_tellsAct_52 : decode cX12_tellsAct 52 = .ok (.iconst 1, 1) := by decide +kernel
theorem dX12_tellsAct_53 : decode cX12_tellsAct 53 = .ok (.invokevirtual 348, 3) := by decide +kernel
theorem dX12_tellsAct_56 : decode cX12_tellsAct 56 = .ok (.iadd, 1) := by decide +kernel
theorem dX12_tellsAct_57 : decode cX12_tellsAct 57 = .ok (.ireturn, 1) := by decide +kernel
theorem dX12_tellsAct_58 : decode cX12_tellsAct 58 = .ok (.aload_n 0, 1) := by decide +kernel
theorem dX12_tellsAct_59 : decode cX12_tellsAct 59 = .ok (.bipush 60, 2) := by decide +kernel
theorem dX12_tellsAct_61 : decode cX12_tellsAct 61 = .ok (.invokevirtual 333, 3) := by decide +kernel
theorem dX12_tellsAct_64 : decode cX12_tellsAct 64 = .ok (.aload_n 0, 1) := by decide +kernel
theorem dX12_tellsAct_65 : decode cX12_tellsAct 65 = .ok (.iload_n 1, 1) := by decide +kernel
theorem dX12_tellsAct_66 : decode cX12_tellsAct 66 = .ok (.iload_n 2, 1) := by decide +kernel
theorem dX12_tellsAct_67 : decode cX12_tellsAct 67 = .ok (.iload_n 1, 1) := by decide +kernel
theorem dX12_tellsAct_68 : decode cX12_tellsAct 68 = .ok (.isub, 1) := by decide +kernel
theorem dX12_tellsAct_69 : decode cX12_tellsAct 69 = .ok (.invokevirtual 351, 3) := by decide +kernel
theorem dX12_tellsAct_72 : decode cX12_tellsAct 72 = .ok (.ireturn, 1) := by decide +kernel
theorem dX12_tellsAct_73 : decode cX12_tellsAct 73 = .ok (.aload_n 0, 1) := by decide +kernel
theorem dX12_tellsAct_74 : decode cX12_tellsAct 74 = .ok (.iload_n 1, 1) := by decide +kernel
theorem dX12_tellsAct_75 : decode cX12_tellsAct 75 = .ok (.iload_n 2, 1) := by decide +kernel
theorem dX12_tellsAct_76 : decode cX12_tellsAct 76 = .ok (.invokevirtual 351, 3) := by decide +kernel
theorem dX12_tellsAct_79 : decode cX12_tellsAct 79 = .ok (.ireturn, 1) := by decide +kernel
theorem dX12_act_0 : decode cX12_act 0 = .ok (.aload_n 0, 1) := by decide +kernel
theorem dX12_act_1 : decode cX12_act 1 = .ok (.iconst 0, 1) := by decide +kernel
theorem dX12_act_2 : decode cX12_act 2 = .ok (.putfield 178, 3) := by decide +kernel
theorem dX12_act_5 : decode cX12_act 5 = .ok (.aload_n 0, 1) := by decide +kernel
theorem dX12_act_6 : decode cX12_act 6 = .ok (.iload_n 1, 1) := by decide +kernel
theorem dX12_act_7 : decode cX12_act 7 = .ok (.invokevirtual 212, 3) := by decide +kernel
theorem dX12_act_10 : decode cX12_act 10 = .ok (.ifCond .eq 13, 3) := by decide +kernel
theorem dX12_act_13 : decode cX12_act 13 = .ok (.aload_n 0, 1) := by decide +kernel
theorem dX12_act_14 : decode cX12_act 14 = .ok (.iload_n 2, 1) := by decide +kernel
theorem dX12_act_15 : decode cX12_act 15 = .ok (.iconst 0, 1) := by decide +kernel
theorem dX12_act_16 : decode cX12_act 16 = .ok (.iconst 2, 1) := by decide +kernel
theorem dX12_act_17 : decode cX12_act 17 = .ok (.invokevirtual 201, 3) := by decide +kernel
theorem dX12_act_20 : decode cX12_act 20 = .ok (.ifCond .ne 5, 3) := by decide +kernel
theorem dX12_act_23 : decode cX12_act 23 = .ok (.iconst 0, 1) := by decide +kernel
theorem dX12_act_24 : decode cX12_act 24 = .ok (.ireturn, 1) := by decide +kernel
theorem dX12_act_25 : decode cX12_act 25 = .ok (.iload_n 2, 1) := by decide +kernel
theorem dX12_act_26 : decode cX12_act 26 = .ok (.ifCond .ne 12, 3) := by decide +kernel
theorem dX12_act_29 : decode cX12_act 29 = .ok (.aload_n 0, 1) := by decide +kernel
theorem dX12_act_30 : decode cX12_act 30 = .ok (.iload_n 1, 1) := by decide +kernel
theorem dX12_act_31 : decode cX12_act 31 = .ok (.iload_n 3, 1) := by decide +kernel
theorem dX12_act_32 : decode cX12_act 32 = .ok (.invokevirtual 339, 3) := by decide +kernel
theorem dX12_act_35 : decode cX12_act 35 = .ok (.goto 23, 3) := by decide +kernel
theorem dX12_act_38 : decode cX12_act 38 = .ok (.iload_n 2, 1) := by decide +kernel
theorem dX12_act_39 : decode cX12_act 39 = .ok (.iconst 1, 1) := by decide +kernel
theorem dX12_act_40 : decode cX12_act 40 = .ok (.if_icmp .ne 12, 3) := by decide +kernel
theorem dX12_act_43 : decode cX12_act 43 = .ok (.aload_n 0, 1) := by decide +kernel
theorem dX12_act_44 : decode cX12_act 44 = .ok (.iload_n 1, 1) := by decide +kernel
theorem dX12_act_45 : decode cX12_act 45 = .ok (.iload_n 3, 1) := by decide +kernel
theorem dX12_act_46 : decode cX12_act 46 = .ok (.invokevirtual 348, 3) := by decide +kernel
theorem dX12_act_49 : decode cX12_act 49 = .ok (.goto 9, 3) := by decide +kernel
theorem dX12_act_52 : decode cX12_act 52 = .ok (.aload_n 0, 1) := by decide +kernel
theorem dX12_act_53 : decode cX12_act 53 = .ok (.iload_n 1, 1) := by decide +kernel
theorem dX12_act_54 : decode cX12_act 54 = .ok (.iload_n 3, 1) := by decide +kernel
theorem dX12_act_55 : decode cX12_act 55 = .ok (.invokevirtual 354, 3) := by decide +kernel
theorem dX12_act_58 : decode cX12_act 58 = .ok (.ireturn, 1) := by decide +kernel
theorem dX12_trace_0 : decode cX12_trace 0 = .ok (.aload_n 0, 1) := by decide +kernel
theorem dX12_trace_1 : decode cX12_trace 1 = .ok (.iload_n 1, 1) := by decide +kernel
theorem dX12_trace_2 : decode cX12_trace 2 = .ok (.iconst 0, 1) := by decide +kernel
theorem dX12_trace_3 : decode cX12_trace 3 = .ok (.bipush 19, 2) := by decide +kernel
theorem dX12_trace_5 : decode cX12_trace 5 = .ok (.invokevirtual 201, 3) := by decide +kernel
theorem dX12_trace_8 : decode cX12_trace 8 = .ok (.ifCond .eq 20, 3) := by decide +kernel
theorem dX12_trace_11 : decode cX12_trace 11 = .ok (.iload_n 1, 1) := by decide +kernel
theorem dX12_trace_12 : decode cX12_trace 12 = .ok (.aload_n 0, 1) := by decide +kernel
theorem dX12_trace_13 : decode cX12_trace 13 = .ok (.getfield 178, 3) := by decide +kernel
theorem dX12_trace_16 : decode cX12_trace 16 = .ok (.if_icmp .ge 12, 3) := by decide +kernel
theorem dX12_trace_19 : decode cX12_trace 19 = .ok (.aload_n 0, 1) := by decide +kernel
theorem dX12_trace_20 : decode cX12_trace 20 = .ok (.getfield 181, 3) := by decide +kernel
theorem dX12_trace_23 : decode cX12_trace 23 = .ok (.iload_n 1, 1) := by decide +kernel
theorem dX12_trace_24 : decode cX12_trace 24 = .ok (.iaload, 1) := by decide +kernel
theorem dX12_trace_25 : decode cX12_trace 25 = .ok (.goto 4, 3) := by decide +kernel
theorem dX12_trace_28 : decode cX12_trace 28 = .ok (.iconst (-1), 1) := by decide +kernel
theorem dX12_trace_29 : decode cX12_trace 29 = .ok (.ireturn, 1) := by decide +kernel
theorem dX12_taken_0 : decode cX12_taken 0 = .ok (.aload_n 0, 1) := by decide +kernel
theorem dX12_taken_1 : decode cX12_taken 1 = .ok (.iload_n 2, 1) := by decide +kernel
theorem dX12_taken_2 : decode cX12_taken 2 = .ok (.iconst 0, 1) := by decide +kernel
theorem dX12_taken_3 : decode cX12_taken 3 = .ok (.bipush 6, 2) := by decide +kernel
theorem dX12_taken_5 : decode cX12_taken 5 = .ok (.invokevirtual 201, 3) := by decide +kernel
theorem dX12_taken_8 : decode cX12_taken 8 = .ok (.ifCond .ne 6, 3) := by decide +kernel
theorem dX12_taken_11 : decode cX12_taken 11 = .ok (.bipush (-2), 2) := by decide +kernel
theorem dX12_taken_13 : decode cX12_taken 13 = .ok (.ireturn, 1) := by decide +kernel
theorem dX12_taken_14 : decode cX12_taken 14 = .ok (.aload_n 0, 1) := by decide +kernel
theorem dX12_taken_15 : decode cX12_taken 15 = .ok (.iload_n 1, 1) := by decide +kernel
theorem dX12_taken_16 : decode cX12_taken 16 = .ok (.invokevirtual 212, 3) := by decide +kernel
theorem dX12_taken_19 : decode cX12_taken 19 = .ok (.ifCond .ne 6, 3) := by decide +kernel
theorem dX12_taken_22 : decode cX12_taken 22 = .ok (.bipush (-11), 2) := by decide +kernel
theorem dX12_taken_24 : decode cX12_taken 24 = .ok (.ireturn, 1) := by decide +kernel
theorem dX12_taken_25 : decode cX12_taken 25 = .ok (.aload_n 0, 1) := by decide +kernel
theorem dX12_taken_26 : decode cX12_taken 26 = .ok (.getfield 23, 3) := by decide +kernel
theorem dX12_taken_29 : decode cX12_taken 29 = .ok (.iload_n 1, 1) := by decide +kernel
theorem dX12_taken_30 : decode cX12_taken 30 = .ok (.iaload, 1) := by decide +kernel
theorem dX12_taken_31 : decode cX12_taken 31 = .ok (.istore_n 3, 1) := by decide +kernel
theorem dX12_taken_32 : decode cX12_taken 32 = .ok (.iload_n 2, 1) := by decide +kernel
theorem dX12_taken_33 : decode cX12_taken 33 = .ok (.ifCond .eq 39, 3) := by decide +kernel
theorem dX12_taken_36 : decode cX12_taken 36 = .ok (.iload_n 3, 1) := by decide +kernel
theorem dX12_taken_37 : decode cX12_taken 37 = .ok (.iload_n 2, 1) := by decide +kernel
theorem dX12_taken_38 : decode cX12_taken 38 = .ok (.if_icmp .eq 34, 3) := by decide +kernel
theorem dX12_taken_41 : decode cX12_taken 41 = .ok (.iload_n 2, 1) := by decide +kernel
theorem dX12_taken_42 : decode cX12_taken 42 = .ok (.iconst 1, 1) := by decide +kernel
theorem dX12_taken_43 : decode cX12_taken 43 = .ok (.if_icmp .ne 8, 3) := by decide +kernel
theorem dX12_taken_46 : decode cX12_taken 46 = .ok (.iload_n 3, 1) := by decide +kernel
theorem dX12_taken_47 : decode cX12_taken 47 = .ok (.iconst 4, 1) := by decide +kernel
theorem dX12_taken_48 : decode cX12_taken 48 = .ok (.if_icmp .eq 24, 3) := by decide +kernel
theorem dX12_taken_51 : decode cX12_taken 51 = .ok (.iload_n 2, 1) := by decide +kernel
theorem dX12_taken_52 : decode cX12_taken 52 = .ok (.iconst 2, 1) := by decide +kernel
theorem dX12_taken_53 : decode cX12_taken 53 = .ok (.if_icmp .ne 8, 3) := by decide +kernel
theorem dX12_taken_56 : decode cX12_taken 56 = .ok (.iload_n 3, 1) := by decide +kernel
theorem dX12_taken_57 : decode cX12_taken 57 = .ok (.iconst 5, 1) := by decide +kernel
theorem dX12_taken_58 : decode cX12_taken 58 = .ok (.if_icmp .eq 14, 3) := by decide +kernel
theorem dX12_taken_61 : decode cX12_taken 61 = .ok (.iload_n 2, 1) := by decide +kernel
theorem dX12_taken_62 : decode cX12_taken 62 = .ok (.iconst 3, 1) := by decide +kernel
theorem dX12_taken_63 : decode cX12_taken 63 = .ok (.if_icmp .ne 13, 3) := by decide +kernel
theorem dX12_taken_66 : decode cX12_taken 66 = .ok (.iload_n 3, 1) := by decide +kernel
theorem dX12_taken_67 : decode cX12_taken 67 = .ok (.bipush 6, 2) := by decide +kernel
theorem dX12_taken_69 : decode cX12_taken 69 = .ok (.if_icmp .ne 7, 3) := by decide +kernel
theorem dX12_taken_72 : decode cX12_taken 72 = .ok (.iload_n 3, 1) := by decide +kernel
theorem dX12_taken_73 : decode cX12_taken 73 = .ok (.goto 5, 3) := by decide +kernel
theorem dX12_taken_76 : decode cX12_taken 76 = .ok (.bipush (-12), 2) := by decide +kernel
theorem dX12_taken_78 : decode cX12_taken 78 = .ok (.ireturn, 1) := by decide +kernel
theorem dX12_count_0 : decode cX12_count 0 = .ok (.iload_n 1, 1) := by decide +kernel
theorem dX12_count_1 : decode cX12_count 1 = .ok (.tableswitch 87 0 7 #[47, 52, 57, 62, 67, 72, 77, 82], 47) := by decide +kernel
theorem dX12_count_48 : decode cX12_count 48 = .ok (.aload_n 0, 1) := by decide +kernel
theorem dX12_count_49 : decode cX12_count 49 = .ok (.getfield 13, 3) := by decide +kernel
theorem dX12_count_52 : decode cX12_count 52 = .ok (.ireturn, 1) := by decide +kernel
theorem dX12_count_53 : decode cX12_count 53 = .ok (.aload_n 0, 1) := by decide +kernel
theorem dX12_count_54 : decode cX12_count 54 = .ok (.getfield 7, 3) := by decide +kernel
theorem dX12_count_57 : decode cX12_count 57 = .ok (.ireturn, 1) := by decide +kernel
theorem dX12_count_58 : decode cX12_count 58 = .ok (.aload_n 0, 1) := by decide +kernel
theorem dX12_count_59 : decode cX12_count 59 = .ok (.getfield 35, 3) := by decide +kernel
theorem dX12_count_62 : decode cX12_count 62 = .ok (.ireturn, 1) := by decide +kernel
theorem dX12_count_63 : decode cX12_count 63 = .ok (.aload_n 0, 1) := by decide +kernel
theorem dX12_count_64 : decode cX12_count 64 = .ok (.getfield 99, 3) := by decide +kernel
theorem dX12_count_67 : decode cX12_count 67 = .ok (.ireturn, 1) := by decide +kernel
theorem dX12_count_68 : decode cX12_count 68 = .ok (.aload_n 0, 1) := by decide +kernel
theorem dX12_count_69 : decode cX12_count 69 = .ok (.getfield 108, 3) := by decide +kernel
theorem dX12_count_72 : decode cX12_count 72 = .ok (.ireturn, 1) := by decide +kernel
theorem dX12_count_73 : decode cX12_count 73 = .ok (.aload_n 0, 1) := by decide +kernel
theorem dX12_count_74 : decode cX12_count 74 = .ok (.getfield 111, 3) := by decide +kernel
theorem dX12_count_77 : decode cX12_count 77 = .ok (.ireturn, 1) := by decide +kernel
theorem dX12_count_78 : decode cX12_count 78 = .ok (.aload_n 0, 1) := by decide +kernel
theorem dX12_count_79 : decode cX12_count 79 = .ok (.getfield 41, 3) := by decide +kernel
theorem dX12_count_82 : decode cX12_count 82 = .ok (.ireturn, 1) := by decide +kernel
theorem dX12_count_83 : decode cX12_count 83 = .ok (.aload_n 0, 1) := by decide +kernel
theorem dX12_count_84 : decode cX12_count 84 = .ok (.getfield 178, 3) := by decide +kernel
theorem dX12_count_87 : decode cX12_count 87 = .ok (.ireturn, 1) := by decide +kernel
theorem dX12_count_88 : decode cX12_count 88 = .ok (.bipush (-2), 2) := by decide +kernel
theorem dX12_count_90 : decode cX12_count 90 = .ok (.ireturn, 1) := by decide +kernel
theorem dX12_isTape_0 : decode cX12_isTape 0 = .ok (.aload_n 0, 1) := by decide +kernel
theorem dX12_isTape_1 : decode cX12_isTape 1 = .ok (.iload_n 1, 1) := by decide +kernel
theorem dX12_isTape_2 : decode cX12_isTape 2 = .ok (.iconst 0, 1) := by decide +kernel
theorem dX12_isTape_3 : decode cX12_isTape 3 = .ok (.iconst 5, 1) := by decide +kernel
theorem dX12_isTape_4 : decode cX12_isTape 4 = .ok (.invokevirtual 201, 3) := by decide +kernel
theorem dX12_isTape_7 : decode cX12_isTape 7 = .ok (.ireturn, 1) := by decide +kernel
theorem dX12_tape_0 : decode cX12_tape 0 = .ok (.aload_n 0, 1) := by decide +kernel
theorem dX12_tape_1 : decode cX12_tape 1 = .ok (.iload_n 1, 1) := by decide +kernel
theorem dX12_tape_2 : decode cX12_tape 2 = .ok (.invokevirtual 330, 3) := by decide +kernel
theorem dX12_tape_5 : decode cX12_tape 5 = .ok (.ifCond .ne 5, 3) := by decide +kernel
theorem dX12_tape_8 : decode cX12_tape 8 = .ok (.iconst (-1), 1) := by decide +kernel
theorem dX12_tape_9 : decode cX12_tape 9 = .ok (.ireturn, 1) := by decide +kernel
theorem dX12_tape_10 : decode cX12_tape 10 = .ok (.aload_n 0, 1) := by decide +kernel
theorem dX12_tape_11 : decode cX12_tape 11 = .ok (.iload_n 2, 1) := by decide +kernel
theorem dX12_tape_12 : decode cX12_tape 12 = .ok (.iconst (-1), 1) := by decide +kernel
theorem dX12_tape_13 : decode cX12_tape 13 = .ok (.iconst 4, 1) := by decide +kernel
theorem dX12_tape_14 : decode cX12_tape 14 = .ok (.invokevirtual 201, 3) := by decide +kernel
theorem dX12_tape_17 : decode cX12_tape 17 = .ok (.ifCond .eq 13, 3) := by decide +kernel
theorem dX12_tape_20 : decode cX12_tape 20 = .ok (.iload_n 2, 1) := by decide +kernel
theorem dX12_tape_21 : decode cX12_tape 21 = .ok (.ifCond .lt 12, 3) := by decide +kernel
theorem dX12_tape_24 : decode cX12_tape 24 = .ok (.iload_n 3, 1) := by decide +kernel
theorem dX12_tape_25 : decode cX12_tape 25 = .ok (.bipush 60, 2) := by decide +kernel
theorem dX12_tape_27 : decode cX12_tape 27 = .ok (.if_icmp .le 6, 3) := by decide +kernel
