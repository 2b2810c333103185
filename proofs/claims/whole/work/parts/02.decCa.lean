theorem dX0_init_0 : decode cX0_init 0 = .ok (.aload_n 0, 1) := by decide +kernel
theorem dX0_init_1 : decode cX0_init 1 = .ok (.invokespecial 3, 3) := by decide +kernel
theorem dX0_init_4 : decode cX0_init 4 = .ok (.aload_n 0, 1) := by decide +kernel
theorem dX0_init_5 : decode cX0_init 5 = .ok (.sipush 200, 3) := by decide +kernel
theorem dX0_init_8 : decode cX0_init 8 = .ok (.newarray .int, 2) := by decide +kernel
theorem dX0_init_10 : decode cX0_init 10 = .ok (.putfield 9, 3) := by decide +kernel
theorem dX0_init_13 : decode cX0_init 13 = .ok (.aload_n 0, 1) := by decide +kernel
theorem dX0_init_14 : decode cX0_init 14 = .ok (.sipush 200, 3) := by decide +kernel
theorem dX0_init_17 : decode cX0_init 17 = .ok (.newarray .int, 2) := by decide +kernel
theorem dX0_init_19 : decode cX0_init 19 = .ok (.putfield 15, 3) := by decide +kernel
theorem dX0_init_22 : decode cX0_init 22 = .ok (.aload_n 0, 1) := by decide +kernel
theorem dX0_init_23 : decode cX0_init 23 = .ok (.sipush 200, 3) := by decide +kernel
theorem dX0_init_26 : decode cX0_init 26 = .ok (.newarray .int, 2) := by decide +kernel
theorem dX0_init_28 : decode cX0_init 28 = .ok (.putfield 18, 3) := by decide +kernel
theorem dX0_init_31 : decode cX0_init 31 = .ok (.aload_n 0, 1) := by decide +kernel
theorem dX0_init_32 : decode cX0_init 32 = .ok (.aload_n 1, 1) := by decide +kernel
theorem dX0_init_33 : decode cX0_init 33 = .ok (.putfield 21, 3) := by decide +kernel
theorem dX0_init_36 : decode cX0_init 36 = .ok (.return_, 1) := by decide +kernel
theorem dX0_join_0 : decode cX0_join 0 = .ok (.aload_n 0, 1) := by decide +kernel
theorem dX0_join_1 : decode cX0_join 1 = .ok (.aload_n 0, 1) := by decide +kernel
theorem dX0_join_2 : decode cX0_join 2 = .ok (.getfield 21, 3) := by decide +kernel
theorem dX0_join_5 : decode cX0_join 5 = .ok (.invokevirtual 25, 3) := by decide +kernel
theorem dX0_join_8 : decode cX0_join 8 = .ok (.putfield 31, 3) := by decide +kernel
theorem dX0_join_11 : decode cX0_join 11 = .ok (.aload_n 0, 1) := by decide +kernel
theorem dX0_join_12 : decode cX0_join 12 = .ok (.iconst 0, 1) := by decide +kernel
theorem dX0_join_13 : decode cX0_join 13 = .ok (.putfield 35, 3) := by decide +kernel
theorem dX0_join_16 : decode cX0_join 16 = .ok (.aload_n 0, 1) := by decide +kernel
theorem dX0_join_17 : decode cX0_join 17 = .ok (.iload_n 1, 1) := by decide +kernel
theorem dX0_join_18 : decode cX0_join 18 = .ok (.iload_n 2, 1) := by decide +kernel
theorem dX0_join_19 : decode cX0_join 19 = .ok (.iload_n 3, 1) := by decide +kernel
theorem dX0_join_20 : decode cX0_join 20 = .ok (.invokevirtual 38, 3) := by decide +kernel
theorem dX0_join_23 : decode cX0_join 23 = .ok (.istore 4, 2) := by decide +kernel
theorem dX0_join_25 : decode cX0_join 25 = .ok (.iload 4, 2) := by decide +kernel
theorem dX0_join_27 : decode cX0_join 27 = .ok (.istore 5, 2) := by decide +kernel
theorem dX0_join_29 : decode cX0_join 29 = .ok (.iconst 0, 1) := by decide +kernel
theorem dX0_join_30 : decode cX0_join 30 = .ok (.istore 6, 2) := by decide +kernel
theorem dX0_join_32 : decode cX0_join 32 = .ok (.aload_n 0, 1) := by decide +kernel
theorem dX0_join_33 : decode cX0_join 33 = .ok (.getfield 35, 3) := by decide +kernel
theorem dX0_join_36 : decode cX0_join 36 = .ok (.ifCond .le 183, 3) := by decide +kernel
theorem dX0_join_39 : decode cX0_join 39 = .ok (.iload 5, 2) := by decide +kernel
theorem dX0_join_41 : decode cX0_join 41 = .ok (.bipush (-3), 2) := by decide +kernel
theorem dX0_join_43 : decode cX0_join 43 = .ok (.if_icmp .eq 176, 3) := by decide +kernel
theorem dX0_join_46 : decode cX0_join 46 = .ok (.iload 6, 2) := by decide +kernel
theorem dX0_join_48 : decode cX0_join 48 = .ok (.sipush 1800, 3) := by decide +kernel
theorem dX0_join_51 : decode cX0_join 51 = .ok (.if_icmp .ge 168, 3) := by decide +kernel
theorem dX0_join_54 : decode cX0_join 54 = .ok (.aload_n 0, 1) := by decide +kernel
theorem dX0_join_55 : decode cX0_join 55 = .ok (.getfield 35, 3) := by decide +kernel
theorem dX0_join_58 : decode cX0_join 58 = .ok (.iconst 1, 1) := by decide +kernel
theorem dX0_join_59 : decode cX0_join 59 = .ok (.isub, 1) := by decide +kernel
theorem dX0_join_60 : decode cX0_join 60 = .ok (.istore 7, 2) := by decide +kernel
theorem dX0_join_62 : decode cX0_join 62 = .ok (.aload_n 0, 1) := by decide +kernel
theorem dX0_join_63 : decode cX0_join 63 = .ok (.getfield 15, 3) := by decide +kernel
theorem dX0_join_66 : decode cX0_join 66 = .ok (.iload 7, 2) := by decide +kernel
theorem dX0_join_68 : decode cX0_join 68 = .ok (.iaload, 1) := by decide +kernel
theorem dX0_join_69 : decode cX0_join 69 = .ok (.istore 8, 2) := by decide +kernel
theorem dX0_join_71 : decode cX0_join 71 = .ok (.aload_n 0, 1) := by decide +kernel
theorem dX0_join_72 : decode cX0_join 72 = .ok (.getfield 18, 3) := by decide +kernel
theorem dX0_join_75 : decode cX0_join 75 = .ok (.iload 7, 2) := by decide +kernel
theorem dX0_join_77 : decode cX0_join 77 = .ok (.iaload, 1) := by decide +kernel
theorem dX0_join_78 : decode cX0_join 78 = .ok (.istore 9, 2) := by decide +kernel
theorem dX0_join_80 : decode cX0_join 80 = .ok (.iload 9, 2) := by decide +kernel
theorem dX0_join_82 : decode cX0_join 82 = .ok (.bipush 8, 2) := by decide +kernel
theorem dX0_join_84 : decode cX0_join 84 = .ok (.if_icmp .lt 12, 3) := by decide +kernel
theorem dX0_join_87 : decode cX0_join 87 = .ok (.aload_n 0, 1) := by decide +kernel
theorem dX0_join_88 : decode cX0_join 88 = .ok (.iload 7, 2) := by decide +kernel
theorem dX0_join_90 : decode cX0_join 90 = .ok (.putfield 35, 3) := by decide +kernel
theorem dX0_join_93 : decode cX0_join 93 = .ok (.goto 120, 3) := by decide +kernel
theorem dX0_join_96 : decode cX0_join 96 = .ok (.aload_n 0, 1) := by decide +kernel
theorem dX0_join_97 : decode cX0_join 97 = .ok (.getfield 18, 3) := by decide +kernel
theorem dX0_join_100 : decode cX0_join 100 = .ok (.iload 7, 2) := by decide +kernel
theorem dX0_join_102 : decode cX0_join 102 = .ok (.dup2, 1) := by decide +kernel
theorem dX0_join_103 : decode cX0_join 103 = .ok (.iaload, 1) := by decide +kernel
theorem dX0_join_104 : decode cX0_join 104 = .ok (.iconst 1, 1) := by decide +kernel
theorem dX0_join_105 : decode cX0_join 105 = .ok (.iadd, 1) := by decide +kernel
theorem dX0_join_106 : decode cX0_join 106 = .ok (.iastore, 1) := by decide +kernel
theorem dX0_join_107 : decode cX0_join 107 = .ok (.aload_n 0, 1) := by decide +kernel
theorem dX0_join_108 : decode cX0_join 108 = .ok (.getfield 21, 3) := by decide +kernel
theorem dX0_join_111 : decode cX0_join 111 = .ok (.aload_n 0, 1) := by decide +kernel
theorem dX0_join_112 : decode cX0_join 112 = .ok (.iload 8, 2) := by decide +kernel
theorem dX0_join_114 : decode cX0_join 114 = .ok (.invokevirtual 42, 3) := by decide +kernel
theorem dX0_join_117 : decode cX0_join 117 = .ok (.bipush 8, 2) := by decide +kernel
theorem dX0_join_119 : decode cX0_join 119 = .ok (.ishr, 1) := by decide +kernel
theorem dX0_join_120 : decode cX0_join 120 = .ok (.sipush 255, 3) := by decide +kernel
theorem dX0_join_123 : decode cX0_join 123 = .ok (.iand, 1) := by decide +kernel
theorem dX0_join_124 : decode cX0_join 124 = .ok (.iload 9, 2) := by decide +kernel
theorem dX0_join_126 : decode cX0_join 126 = .ok (.invokevirtual 46, 3) := by decide +kernel
theorem dX0_join_129 : decode cX0_join 129 = .ok (.istore 10, 2) := by decide +kernel
theorem dX0_join_131 : decode cX0_join 131 = .ok (.aload_n 0, 1) := by decide +kernel
theorem dX0_join_132 : decode cX0_join 132 = .ok (.getfield 21, 3) := by decide +kernel
theorem dX0_join_135 : decode cX0_join 135 = .ok (.aload_n 0, 1) := by decide +kernel
theorem dX0_join_136 : decode cX0_join 136 = .ok (.iload 8, 2) := by decide +kernel
theorem dX0_join_138 : decode cX0_join 138 = .ok (.invokevirtual 42, 3) := by decide +kernel
theorem dX0_join_141 : decode cX0_join 141 = .ok (.sipush 255, 3) := by decide +kernel
theorem dX0_join_144 : decode cX0_join 144 = .ok (.iand, 1) := by decide +kernel
theorem dX0_join_145 : decode cX0_join 145 = .ok (.iload 9, 2) := by decide +kernel
theorem dX0_join_147 : decode cX0_join 147 = .ok (.invokevirtual 46, 3) := by decide +kernel
theorem dX0_join_150 : decode cX0_join 150 = .ok (.istore 11, 2) := by decide +kernel
theorem dX0_join_152 : decode cX0_join 152 = .ok (.iload 10, 2) := by decide +kernel
theorem dX0_join_154 : decode cX0_join 154 = .ok (.iconst (-1), 1) := by decide +kernel
theorem dX0_join_155 : decode cX0_join 155 = .ok (.if_icmp .eq 28, 3) := by decide +kernel
theorem dX0_join_158 : decode cX0_join 158 = .ok (.iload 11, 2) := by decide +kernel
theorem dX0_join_160 : decode cX0_join 160 = .ok (.iconst (-1), 1) := by decide +kernel
theorem dX0_join_161 : decode cX0_join 161 = .ok (.if_icmp .eq 22, 3) := by decide +kernel
theorem dX0_join_164 : decode cX0_join 164 = .ok (.aload_n 0, 1) := by decide +kernel
theorem dX0_join_165 : decode cX0_join 165 = .ok (.aload_n 0, 1) := by decide +kernel
theorem dX0_join_166 : decode cX0_join 166 = .ok (.iload 8, 2) := by decide +kernel
theorem dX0_join_168 : decode cX0_join 168 = .ok (.iload 9, 2) := by decide +kernel
theorem dX0_join_170 : decode cX0_join 170 = .ok (.invokevirtual 50, 3) := by decide +kernel
theorem dX0_join_173 : decode cX0_join 173 = .ok (.iload 10, 2) := by decide +kernel
theorem dX0_join_175 : decode cX0_join 175 = .ok (.iload 11, 2) := by decide +kernel
theorem dX0_join_177 : decode cX0_join 177 = .ok (.invokevirtual 38, 3) := by decide +kernel
theorem dX0_join_180 : decode cX0_join 180 = .ok (.goto 13, 3) := by decide +kernel
theorem dX0_join_183 : decode cX0_join 183 = .ok (.aload_n 0, 1) := by decide +kernel
theorem dX0_join_184 : decode cX0_join 184 = .ok (.iload 8, 2) := by decide +kernel
theorem dX0_join_186 : decode cX0_join 186 = .ok (.iload 10, 2) := by decide +kernel
theorem dX0_join_188 : decode cX0_join 188 = .ok (.iload 11, 2) := by decide +kernel
theorem dX0_join_190 : decode cX0_join 190 = .ok (.invokevirtual 53, 3) := by decide +kernel
theorem dX0_join_193 : decode cX0_join 193 = .ok (.istore 5, 2) := by decide +kernel
theorem dX0_join_195 : decode cX0_join 195 = .ok (.iload 5, 2) := by decide +kernel
theorem dX0_join_197 : decode cX0_join 197 = .ok (.ifCond .lt 16, 3) := by decide +kernel
theorem dX0_join_200 : decode cX0_join 200 = .ok (.aload_n 0, 1) := by decide +kernel
theorem dX0_join_201 : decode cX0_join 201 = .ok (.getfield 21, 3) := by decide +kernel
theorem dX0_join_204 : decode cX0_join 204 = .ok (.iload 8, 2) := by decide +kernel
theorem dX0_join_206 : decode cX0_join 206 = .ok (.iload 9, 2) := by decide +kernel
theorem dX0_join_208 : decode cX0_join 208 = .ok (.iload 5, 2) := by decide +kernel
theorem dX0_join_210 : decode cX0_join 210 = .ok (.invokevirtual 56, 3) := by decide +kernel
theorem dX0_join_213 : decode cX0_join 213 = .ok (.iinc 6 1, 3) := by decide +kernel
theorem dX0_join_216 : decode cX0_join 216 = .ok (.goto (-184), 3) := by decide +kernel
theorem dX0_join_219 : decode cX0_join 219 = .ok (.iload 5, 2) := by decide +kernel
theorem dX0_join_221 : decode cX0_join 221 = .ok (.bipush (-3), 2) := by decide +kernel
theorem dX0_join_223 : decode cX0_join 223 = .ok (.if_icmp .ne 17, 3) := by decide +kernel
theorem dX0_join_226 : decode cX0_join 226 = .ok (.aload_n 0, 1) := by decide +kernel
theorem dX0_join_227 : decode cX0_join 227 = .ok (.getfield 21, 3) := by decide +kernel
theorem dX0_join_230 : decode cX0_join 230 = .ok (.aload_n 0, 1) := by decide +kernel
theorem dX0_join_231 : decode cX0_join 231 = .ok (.getfield 31, 3) := by decide +kernel
theorem dX0_join_234 : decode cX0_join 234 = .ok (.invokevirtual 60, 3) := by decide +kernel
theorem dX0_join_237 : decode cX0_join 237 = .ok (.bipush (-3), 2) := by decide +kernel
theorem dX0_join_239 : decode cX0_join 239 = .ok (.ireturn, 1) := by decide +kernel
theorem dX0_join_240 : decode cX0_join 240 = .ok (.iload 4, 2) := by decide +kernel
theorem dX0_join_242 : decode cX0_join 242 = .ok (.ireturn, 1) := by decide +kernel
theorem dX0_keyOf_0 : decode cX0_keyOf 0 = .ok (.iload_n 1, 1) := by decide +kernel
theorem dX0_keyOf_1 : decode cX0_keyOf 1 = .ok (.ifCond .lt 19, 3) := by decide +kernel
theorem dX0_keyOf_4 : decode cX0_keyOf 4 = .ok (.iload_n 1, 1) := by decide +kernel
theorem dX0_keyOf_5 : decode cX0_keyOf 5 = .ok (.sipush 200, 3) := by decide +kernel
theorem dX0_keyOf_8 : decode cX0_keyOf 8 = .ok (.if_icmp .ge 12, 3) := by decide +kernel
theorem dX0_keyOf_11 : decode cX0_keyOf 11 = .ok (.aload_n 0, 1) := by decide +kernel
theorem dX0_keyOf_12 : decode cX0_keyOf 12 = .ok (.getfield 9, 3) := by decide +kernel
theorem dX0_keyOf_15 : decode cX0_keyOf 15 = .ok (.iload_n 1, 1) := by decide +kernel
theorem dX0_keyOf_16 : decode cX0_keyOf 16 = .ok (.iaload, 1) := by decide +kernel
theorem dX0_keyOf_17 : decode cX0_keyOf 17 = .ok (.goto 4, 3) := by decide +kernel
theorem dX0_keyOf_20 : decode cX0_keyOf 20 = .ok (.iconst 0, 1) := by decide +kernel
theorem dX0_keyOf_21 : decode cX0_keyOf 21 = .ok (.ireturn, 1) := by decide +kernel
theorem dX0_howOfPart_0 : decode cX0_howOfPart 0 = .ok (.aload_n 0, 1) := by decide +kernel
theorem dX0_howOfPart_1 : decode cX0_howOfPart 1 = .ok (.iload_n 1, 1) := by decide +kernel
theorem dX0_howOfPart_2 : decode cX0_howOfPart 2 = .ok (.invokevirtual 42, 3) := by decide +kernel
theorem dX0_howOfPart_5 : decode cX0_howOfPart 5 = .ok (.bipush 16, 2) := by decide +kernel
theorem dX0_howOfPart_7 : decode cX0_howOfPart 7 = .ok (.ishr, 1) := by decide +kernel
theorem dX0_howOfPart_8 : decode cX0_howOfPart 8 = .ok (.istore_n 3, 1) := by decide +kernel
theorem dX0_howOfPart_9 : decode cX0_howOfPart 9 = .ok (.aload_n 0, 1) := by decide +kernel
theorem dX0_howOfPart_10 : decode cX0_howOfPart 10 = .ok (.getfield 21, 3) := by decide +kernel
theorem dX0_howOfPart_13 : decode cX0_howOfPart 13 = .ok (.iload_n 1, 1) := by decide +kernel
theorem dX0_howOfPart_14 : decode cX0_howOfPart 14 = .ok (.invokevirtual 64, 3) := by decide +kernel
theorem dX0_howOfPart_17 : decode cX0_howOfPart 17 = .ok (.iconst 4, 1) := by decide +kernel
theorem dX0_howOfPart_18 : decode cX0_howOfPart 18 = .ok (.if_icmp .ne 11, 3) := by decide +kernel
theorem dX0_howOfPart_21 : decode cX0_howOfPart 21 = .ok (.iload_n 2, 1) := by decide +kernel
theorem dX0_howOfPart_22 : decode cX0_howOfPart 22 = .ok (.ifCond .ne 7, 3) := by decide +kernel
theorem dX0_howOfPart_25 : decode cX0_howOfPart 25 = .ok (.iconst 1, 1) := by decide +kernel
theorem dX0_howOfPart_26 : decode cX0_howOfPart 26 = .ok (.goto 4, 3) := by decide +kernel
theorem dX0_howOfPart_29 : decode cX0_howOfPart 29 = .ok (.iconst 0, 1) := by decide +kernel
theorem dX0_howOfPart_30 : decode cX0_howOfPart 30 = .ok (.istore 4, 2) := by decide +kernel
theorem dX0_howOfPart_32 : decode cX0_howOfPart 32 = .ok (.iload 4, 2) := by decide +kernel
theorem dX0_howOfPart_34 : decode cX0_howOfPart 34 = .ok (.ifCond .eq 9, 3) := by decide +kernel
theorem dX0_howOfPart_37 : decode cX0_howOfPart 37 = .ok (.iconst 1, 1) := by decide +kernel
theorem dX0_howOfPart_38 : decode cX0_howOfPart 38 = .ok (.iload_n 3, 1) := by decide +kernel
theorem dX0_howOfPart_39 : decode cX0_howOfPart 39 = .ok (.isub, 1) := by decide +kernel
theorem dX0_howOfPart_40 : decode cX0_howOfPart 40 = .ok (.goto 4, 3) := by decide +kernel
theorem dX0_howOfPart_43 : decode cX0_howOfPart 43 = .ok (.iload_n 3, 1) := by decide +kernel
theorem dX0_howOfPart_44 : decode cX0_howOfPart 44 = .ok (.ireturn, 1) := by decide +kernel
theorem dX0_lonePart_0 : decode cX0_lonePart 0 = .ok (.aload_n 0, 1) := by decide +kernel
theorem dX0_lonePart_1 : decode cX0_lonePart 1 = .ok (.iload_n 1, 1) := by decide +kernel
theorem dX0_lonePart_2 : decode cX0_lonePart 2 = .ok (.invokevirtual 42, 3) := by decide +kernel
theorem dX0_lonePart_5 : decode cX0_lonePart 5 = .ok (.bipush 16, 2) := by decide +kernel
theorem dX0_lonePart_7 : decode cX0_lonePart 7 = .ok (.ishr, 1) := by decide +kernel
theorem dX0_lonePart_8 : decode cX0_lonePart 8 = .ok (.ifCond .ne 7, 3) := by decide +kernel
theorem dX0_lonePart_11 : decode cX0_lonePart 11 = .ok (.iconst 1, 1) := by decide +kernel
theorem dX0_lonePart_12 : decode cX0_lonePart 12 = .ok (.goto 4, 3) := by decide +kernel
theorem dX0_lonePart_15 : decode cX0_lonePart 15 = .ok (.iconst 0, 1) := by decide +kernel
theorem dX0_lonePart_16 : decode cX0_lonePart 16 = .ok (.istore 4, 2) := by decide +kernel
theorem dX0_lonePart_18 : decode cX0_lonePart 18 = .ok (.aload_n 0, 1) := by decide +kernel
theorem dX0_lonePart_19 : decode cX0_lonePart 19 = .ok (.getfield 21, 3) := by decide +kernel
theorem dX0_lonePart_22 : decode cX0_lonePart 22 = .ok (.iload_n 1, 1) := by decide +kernel
theorem dX0_lonePart_23 : decode cX0_lonePart 23 = .ok (.invokevirtual 64, 3) := by decide +kernel
theorem dX0_lonePart_26 : decode cX0_lonePart 26 = .ok (.bipush 6, 2) := by decide +kernel
theorem dX0_lonePart_28 : decode cX0_lonePart 28 = .ok (.if_icmp .ne 7, 3) := by decide +kernel
theorem dX0_lonePart_31 : decode cX0_lonePart 31 = .ok (.iconst 1, 1) := by decide +kernel
theorem dX0_lonePart_32 : decode cX0_lonePart 32 = .ok (.goto 4, 3) := by decide +kernel
theorem dX0_lonePart_35 : decode cX0_lonePart 35 = .ok (.iconst 0, 1) := by decide +kernel
theorem dX0_lonePart_36 : decode cX0_lonePart 36 = .ok (.istore 5, 2) := by decide +kernel
theorem dX0_lonePart_38 : decode cX0_lonePart 38 = .ok (.iload 4, 2) := by decide +kernel
theorem dX0_lonePart_40 : decode cX0_lonePart 40 = .ok (.iload 5, 2) := by decide +kernel
theorem dX0_lonePart_42 : decode cX0_lonePart 42 = .ok (.if_icmp .eq 5, 3) := by decide +kernel
theorem dX0_lonePart_45 : decode cX0_lonePart 45 = .ok (.iconst (-1), 1) := by decide +kernel
theorem dX0_lonePart_46 : decode cX0_lonePart 46 = .ok (.ireturn, 1) := by decide +kernel
theorem dX0_lonePart_47 : decode cX0_lonePart 47 = .ok (.iload_n 2, 1) := by decide +kernel
theorem dX0_lonePart_48 : decode cX0_lonePart 48 = .ok (.iconst (-1), 1) := by decide +kernel
theorem dX0_lonePart_49 : decode cX0_lonePart 49 = .ok (.if_icmp .eq 7, 3) := by decide +kernel
theorem dX0_lonePart_52 : decode cX0_lonePart 52 = .ok (.iload_n 2, 1) := by decide +kernel
theorem dX0_lonePart_53 : decode cX0_lonePart 53 = .ok (.goto 4, 3) := by decide +kernel
theorem dX0_lonePart_56 : decode cX0_lonePart 56 = .ok (.iload_n 3, 1) := by decide +kernel
theorem dX0_lonePart_57 : decode cX0_lonePart 57 = .ok (.ireturn, 1) := by decide +kernel
theorem dX0_joinTop_0 : decode cX0_joinTop 0 = .ok (.iload_n 1, 1) := by decide +kernel
theorem dX0_joinTop_1 : decode cX0_joinTop 1 = .ok (.ifCond .ne 7, 3) := by decide +kernel
theorem dX0_joinTop_4 : decode cX0_joinTop 4 = .ok (.iconst 1, 1) := by decide +kernel
theorem dX0_joinTop_5 : decode cX0_joinTop 5 = .ok (.goto 4, 3) := by decide +kernel
theorem dX0_joinTop_8 : decode cX0_joinTop 8 = .ok (.iconst 0, 1) := by decide +kernel
theorem dX0_joinTop_9 : decode cX0_joinTop 9 = .ok (.istore 4, 2) := by decide +kernel
theorem dX0_joinTop_11 : decode cX0_joinTop 11 = .ok (.iload_n 1, 1) := by decide +kernel
theorem dX0_joinTop_12 : decode cX0_joinTop 12 = .ok (.ifCond .ne 7, 3) := by decide +kernel
theorem dX0_joinTop_15 : decode cX0_joinTop 15 = .ok (.iconst 0, 1) := by decide +kernel
theorem dX0_joinTop_16 : decode cX0_joinTop 16 = .ok (.goto 4, 3) := by decide +kernel
theorem dX0_joinTop_19 : decode cX0_joinTop 19 = .ok (.iconst 1, 1) := by decide +kernel
theorem dX0_joinTop_20 : decode cX0_joinTop 20 = .ok (.istore 5, 2) := by decide +kernel
theorem dX0_joinTop_22 : decode cX0_joinTop 22 = .ok (.aload_n 0, 1) := by decide +kernel
theorem dX0_joinTop_23 : decode cX0_joinTop 23 = .ok (.getfield 21, 3) := by decide +kernel
theorem dX0_joinTop_26 : decode cX0_joinTop 26 = .ok (.iload_n 2, 1) := by decide +kernel
theorem dX0_joinTop_27 : decode cX0_joinTop 27 = .ok (.invokevirtual 64, 3) := by decide +kernel
theorem dX0_joinTop_30 : decode cX0_joinTop 30 = .ok (.istore 6, 2) := by decide +kernel
theorem dX0_joinTop_32 : decode cX0_joinTop 32 = .ok (.aload_n 0, 1) := by decide +kernel
theorem dX0_joinTop_33 : decode cX0_joinTop 33 = .ok (.getfield 21, 3) := by decide +kernel
theorem dX0_joinTop_36 : decode cX0_joinTop 36 = .ok (.iload_n 3, 1) := by decide +kernel
theorem dX0_joinTop_37 : decode cX0_joinTop 37 = .ok (.invokevirtual 64, 3) := by decide +kernel
theorem dX0_joinTop_40 : decode cX0_joinTop 40 = .ok (.istore 7, 2) := by decide +kernel
theorem dX0_joinTop_42 : decode cX0_joinTop 42 = .ok (.iload_n 2, 1) := by decide +kernel
theorem dX0_joinTop_43 : decode cX0_joinTop 43 = .ok (.iload_n 3, 1) := by decide +kernel
theorem dX0_joinTop_44 : decode cX0_joinTop 44 = .ok (.if_icmp .ne 5, 3) := by decide +kernel
theorem dX0_joinTop_47 : decode cX0_joinTop 47 = .ok (.iload_n 2, 1) := by decide +kernel
theorem dX0_joinTop_48 : decode cX0_joinTop 48 = .ok (.ireturn, 1) := by decide +kernel
theorem dX0_joinTop_49 : decode cX0_joinTop 49 = .ok (.iload 6, 2) := by decide +kernel
theorem dX0_joinTop_51 : decode cX0_joinTop 51 = .ok (.iload 4, 2) := by decide +kernel
theorem dX0_joinTop_53 : decode cX0_joinTop 53 = .ok (.if_icmp .eq 10, 3) := by decide +kernel
theorem dX0_joinTop_56 : decode cX0_joinTop 56 = .ok (.iload 7, 2) := by decide +kernel
theorem dX0_joinTop_58 : decode cX0_joinTop 58 = .ok (.iload 4, 2) := by decide +kernel
theorem dX0_joinTop_60 : decode cX0_joinTop 60 = .ok (.if_icmp .ne 16, 3) := by decide +kernel
theorem dX0_joinTop_63 : decode cX0_joinTop 63 = .ok (.iload 6, 2) := by decide +kernel
theorem dX0_joinTop_65 : decode cX0_joinTop 65 = .ok (.iload 4, 2) := by decide +kernel
theorem dX0_joinTop_67 : decode cX0_joinTop 67 = .ok (.if_icmp .ne 7, 3) := by decide +kernel
theorem dX0_joinTop_70 : decode cX0_joinTop 70 = .ok (.iload_n 3, 1) := by decide +kernel
theorem dX0_joinTop_71 : decode cX0_joinTop 71 = .ok (.goto 4, 3) := by decide +kernel
theorem dX0_joinTop_74 : decode cX0_joinTop 74 = .ok (.iload_n 2, 1) := by decide +kernel
theorem dX0_joinTop_75 : decode cX0_joinTop 75 = .ok (.ireturn, 1) := by decide +kernel
theorem dX0_joinTop_76 : decode cX0_joinTop 76 = .ok (.iload 6, 2) := by decide +kernel
theorem dX0_joinTop_78 : decode cX0_joinTop 78 = .ok (.iload 5, 2) := by decide +kernel
theorem dX0_joinTop_80 : decode cX0_joinTop 80 = .ok (.if_icmp .eq 10, 3) := by decide +kernel
theorem dX0_joinTop_83 : decode cX0_joinTop 83 = .ok (.iload 7, 2) := by decide +kernel
theorem dX0_joinTop_85 : decode cX0_joinTop 85 = .ok (.iload 5, 2) := by decide +kernel
theorem dX0_joinTop_87 : decode cX0_joinTop 87 = .ok (.if_icmp .ne 16, 3) := by decide +kernel
theorem dX0_joinTop_90 : decode cX0_joinTop 90 = .ok (.iload 6, 2) := by decide +kernel
theorem dX0_joinTop_92 : decode cX0_joinTop 92 = .ok (.iload 5, 2) := by decide +kernel
theorem dX0_joinTop_94 : decode cX0_joinTop 94 = .ok (.if_icmp .ne 7, 3) := by decide +kernel
theorem dX0_joinTop_97 : decode cX0_joinTop 97 = .ok (.iload_n 2, 1) := by decide +kernel
theorem dX0_joinTop_98 : decode cX0_joinTop 98 = .ok (.goto 4, 3) := by decide +kernel
theorem dX0_joinTop_101 : decode cX0_joinTop 101 = .ok (.iload_n 3, 1) := by decide +kernel
theorem dX0_joinTop_102 : decode cX0_joinTop 102 = .ok (.ireturn, 1) := by decide +kernel
theorem dX0_joinTop_103 : decode cX0_joinTop 103 = .ok (.iload 6, 2) := by decide +kernel
theorem dX0_joinTop_105 : decode cX0_joinTop 105 = .ok (.iload 7, 2) := by decide +kernel
theorem dX0_joinTop_107 : decode cX0_joinTop 107 = .ok (.if_icmp .ne 17, 3) := by decide +kernel
theorem dX0_joinTop_110 : decode cX0_joinTop 110 = .ok (.iload 6, 2) := by decide +kernel
theorem dX0_joinTop_112 : decode cX0_joinTop 112 = .ok (.iconst 2, 1) := by decide +kernel
theorem dX0_joinTop_113 : decode cX0_joinTop 113 = .ok (.if_icmp .eq 9, 3) := by decide +kernel
theorem dX0_joinTop_116 : decode cX0_joinTop 116 = .ok (.iload 6, 2) := by decide +kernel
theorem dX0_joinTop_118 : decode cX0_joinTop 118 = .ok (.iconst 3, 1) := by decide +kernel
theorem dX0_joinTop_119 : decode cX0_joinTop 119 = .ok (.if_icmp .ne 5, 3) := by decide +kernel
theorem dX0_joinTop_122 : decode cX0_joinTop 122 = .ok (.iload_n 2, 1) := by decide +kernel
theorem dX0_joinTop_123 : decode cX0_joinTop 123 = .ok (.ireturn, 1) := by decide +kernel
theorem dX0_joinTop_124 : decode cX0_joinTop 124 = .ok (.iload_n 1, 1) := by decide +kernel
theorem dX0_joinTop_125 : decode cX0_joinTop 125 = .ok (.bipush 16, 2) := by decide +kernel
theorem dX0_joinTop_127 : decode cX0_joinTop 127 = .ok (.ishl, 1) := by decide +kernel
theorem dX0_joinTop_128 : decode cX0_joinTop 128 = .ok (.iload_n 2, 1) := by decide +kernel
theorem dX0_joinTop_129 : decode cX0_joinTop 129 = .ok (.bipush 8, 2) := by decide +kernel
theorem dX0_joinTop_131 : decode cX0_joinTop 131 = .ok (.ishl, 1) := by decide +kernel
theorem dX0_joinTop_132 : decode cX0_joinTop 132 = .ok (.ior, 1) := by decide +kernel
theorem dX0_joinTop_133 : decode cX0_joinTop 133 = .ok (.iload_n 3, 1) := by decide +kernel
theorem dX0_joinTop_134 : decode cX0_joinTop 134 = .ok (.ior, 1) := by decide +kernel
theorem dX0_joinTop_135 : decode cX0_joinTop 135 = .ok (.istore 8, 2) := by decide +kernel
theorem dX0_joinTop_137 : decode cX0_joinTop 137 = .ok (.aload_n 0, 1) := by decide +kernel
theorem dX0_joinTop_138 : decode cX0_joinTop 138 = .ok (.iload 8, 2) := by decide +kernel
theorem dX0_joinTop_140 : decode cX0_joinTop 140 = .ok (.invokevirtual 67, 3) := by decide +kernel
theorem dX0_joinTop_143 : decode cX0_joinTop 143 = .ok (.istore 9, 2) := by decide +kernel
theorem dX0_joinTop_145 : decode cX0_joinTop 145 = .ok (.iload 9, 2) := by decide +kernel
theorem dX0_joinTop_147 : decode cX0_joinTop 147 = .ok (.iconst (-1), 1) := by decide +kernel
theorem dX0_joinTop_148 : decode cX0_joinTop 148 = .ok (.if_icmp .eq 8, 3) := by decide +kernel
theorem dX0_joinTop_151 : decode cX0_joinTop 151 = .ok (.iload 9, 2) := by decide +kernel
theorem dX0_joinTop_153 : decode cX0_joinTop 153 = .ok (.goto 23, 3) := by decide +kernel
theorem dX0_joinTop_156 : decode cX0_joinTop 156 = .ok (.aload_n 0, 1) := by decide +kernel
theorem dX0_joinTop_157 : decode cX0_joinTop 157 = .ok (.iload 8, 2) := by decide +kernel
theorem dX0_joinTop_159 : decode cX0_joinTop 159 = .ok (.iload 6, 2) := by decide +kernel
theorem dX0_joinTop_161 : decode cX0_joinTop 161 = .ok (.iload 7, 2) := by decide +kernel
theorem dX0_joinTop_163 : decode cX0_joinTop 163 = .ok (.if_icmp .ne 8, 3) := by decide +kernel
theorem dX0_joinTop_166 : decode cX0_joinTop 166 = .ok (.iload 6, 2) := by decide +kernel
theorem dX0_joinTop_168 : decode cX0_joinTop 168 = .ok (.goto 5, 3) := by decide +kernel
theorem dX0_joinTop_171 : decode cX0_joinTop 171 = .ok (.iload 5, 2) := by decide +kernel
theorem dX0_joinTop_173 : decode cX0_joinTop 173 = .ok (.invokevirtual 70, 3) := by decide +kernel
theorem dX0_joinTop_176 : decode cX0_joinTop 176 = .ok (.ireturn, 1) := by decide +kernel
theorem dX0_madeFor_0 : decode cX0_madeFor 0 = .ok (.aload_n 0, 1) := by decide +kernel
theorem dX0_madeFor_1 : decode cX0_madeFor 1 = .ok (.getfield 31, 3) := by decide +kernel
theorem dX0_madeFor_4 : decode cX0_madeFor 4 = .ok (.istore_n 2, 1) := by decide +kernel
theorem dX0_madeFor_5 : decode cX0_madeFor 5 = .ok (.iload_n 2, 1) := by decide +kernel
theorem dX0_madeFor_6 : decode cX0_madeFor 6 = .ok (.aload_n 0, 1) := by decide +kernel
theorem dX0_madeFor_7 : decode cX0_madeFor 7 = .ok (.getfield 21, 3) := by decide +kernel
theorem dX0_madeFor_10 : decode cX0_madeFor 10 = .ok (.invokevirtual 25, 3) := by decide +kernel
theorem dX0_madeFor_13 : decode cX0_madeFor 13 = .ok (.if_icmp .ge 28, 3) := by decide +kernel
theorem dX0_madeFor_16 : decode cX0_madeFor 16 = .ok (.iload_n 2, 1) := by decide +kernel
theorem dX0_madeFor_17 : decode cX0_madeFor 17 = .ok (.sipush 200, 3) := by decide +kernel
theorem dX0_madeFor_20 : decode cX0_madeFor 20 = .ok (.if_icmp .ge 21, 3) := by decide +kernel
theorem dX0_madeFor_23 : decode cX0_madeFor 23 = .ok (.aload_n 0, 1) := by decide +kernel
theorem dX0_madeFor_24 : decode cX0_madeFor 24 = .ok (.getfield 9, 3) := by decide +kernel
theorem dX0_madeFor_27 : decode cX0_madeFor 27 = .ok (.iload_n 2, 1) := by decide +kernel
theorem dX0_madeFor_28 : decode cX0_madeFor 28 = .ok (.iaload, 1) := by decide +kernel
theorem dX0_madeFor_29 : decode cX0_madeFor 29 = .ok (.iload_n 1, 1) := by decide +kernel
theorem dX0_madeFor_30 : decode cX0_madeFor 30 = .ok (.if_icmp .ne 5, 3) := by decide +kernel
theorem dX0_madeFor_33 : decode cX0_madeFor 33 = .ok (.iload_n 2, 1) := by decide +kernel
theorem dX0_madeFor_34 : decode cX0_madeFor 34 = .ok (.ireturn, 1) := by decide +kernel
theorem dX0_madeFor_35 : decode cX0_madeFor 35 = .ok (.iinc 2 1, 3) := by decide +kernel
theorem dX0_madeFor_38 : decode cX0_madeFor 38 = .ok (.goto (-33), 3) := by decide +kernel
theorem dX0_madeFor_41 : decode cX0_madeFor 41 = .ok (.iconst (-1), 1) := by decide +kernel
theorem dX0_madeFor_42 : decode cX0_madeFor 42 = .ok (.ireturn, 1) := by decide +kernel
theorem dX0_makeFor_0 : decode cX0_makeFor 0 = .ok (.aload_n 0, 1) := by decide +kernel
theorem dX0_makeFor_1 : decode cX0_makeFor 1 = .ok (.getfield 21, 3) := by decide +kernel
theorem dX0_makeFor_4 : decode cX0_makeFor 4 = .ok (.invokevirtual 25, 3) := by decide +kernel
theorem dX0_makeFor_7 : decode cX0_makeFor 7 = .ok (.sipush 200, 3) := by decide +kernel
theorem dX0_makeFor_10 : decode cX0_makeFor 10 = .ok (.if_icmp .ge 14, 3) := by decide +kernel
theorem dX0_makeFor_13 : decode cX0_makeFor 13 = .ok (.aload_n 0, 1) := by decide +kernel
theorem dX0_makeFor_14 : decode cX0_makeFor 14 = .ok (.getfield 21, 3) := by decide +kernel
theorem dX0_makeFor_17 : decode cX0_makeFor 17 = .ok (.iload_n 2, 1) := by decide +kernel
theorem dX0_makeFor_18 : decode cX0_makeFor 18 = .ok (.invokevirtual 73, 3) := by decide +kernel
theorem dX0_makeFor_21 : decode cX0_makeFor 21 = .ok (.goto 5, 3) := by decide +kernel
theorem dX0_makeFor_24 : decode cX0_makeFor 24 = .ok (.bipush (-3), 2) := by decide +kernel
theorem dX0_makeFor_26 : decode cX0_makeFor 26 = .ok (.istore_n 3, 1) := by decide +kernel
theorem dX0_makeFor_27 : decode cX0_makeFor 27 = .ok (.iload_n 3, 1) := by decide +kernel
theorem dX0_makeFor_28 : decode cX0_makeFor 28 = .ok (.ifCond .lt 10, 3) := by decide +kernel
theorem dX0_makeFor_31 : decode cX0_makeFor 31 = .ok (.iload_n 3, 1) := by decide +kernel
theorem dX0_makeFor_32 : decode cX0_makeFor 32 = .ok (.sipush 200, 3) := by decide +kernel
theorem dX0_makeFor_35 : decode cX0_makeFor 35 = .ok (.if_icmp .lt 6, 3) := by decide +kernel
theorem dX0_makeFor_38 : decode cX0_makeFor 38 = .ok (.bipush (-3), 2) := by decide +kernel
theorem dX0_makeFor_40 : decode cX0_makeFor 40 = .ok (.ireturn, 1) := by decide +kernel
theorem dX0_makeFor_41 : decode cX0_makeFor 41 = .ok (.aload_n 0, 1) := by decide +kernel
theorem dX0_makeFor_42 : decode cX0_makeFor 42 = .ok (.getfield 9, 3) := by decide +kernel
theorem dX0_makeFor_45 : decode cX0_makeFor 45 = .ok (.iload_n 3, 1) := by decide +kernel
theorem dX0_makeFor_46 : decode cX0_makeFor 46 = .ok (.iload_n 1, 1) := by decide +kernel
theorem dX0_makeFor_47 : decode cX0_makeFor 47 = .ok (.iastore, 1) := by decide +kernel
theorem dX0_makeFor_48 : decode cX0_makeFor 48 = .ok (.iload_n 2, 1) := by decide +kernel
theorem dX0_makeFor_49 : decode cX0_makeFor 49 = .ok (.iconst 4, 1) := by decide +kernel
theorem dX0_makeFor_50 : decode cX0_makeFor 50 = .ok (.if_icmp .lt 43, 3) := by decide +kernel
theorem dX0_makeFor_53 : decode cX0_makeFor 53 = .ok (.aload_n 0, 1) := by decide +kernel
theorem dX0_makeFor_54 : decode cX0_makeFor 54 = .ok (.getfield 35, 3) := by decide +kernel
theorem dX0_makeFor_57 : decode cX0_makeFor 57 = .ok (.sipush 200, 3) := by decide +kernel
theorem dX0_makeFor_60 : decode cX0_makeFor 60 = .ok (.if_icmp .ge 33, 3) := by decide +kernel
theorem dX0_makeFor_63 : decode cX0_makeFor 63 = .ok (.aload_n 0, 1) := by decide +kernel
theorem dX0_makeFor_64 : decode cX0_makeFor 64 = .ok (.getfield 15, 3) := by decide +kernel
theorem dX0_makeFor_67 : decode cX0_makeFor 67 = .ok (.aload_n 0, 1) := by decide +kernel
theorem dX0_makeFor_68 : decode cX0_makeFor 68 = .ok (.getfield 35, 3) := by decide +kernel
theorem dX0_makeFor_71 : decode cX0_makeFor 71 = .ok (.iload_n 3, 1) := by decide +kernel
theorem dX0_makeFor_72 : decode cX0_makeFor 72 = .ok (.iastore, 1) := by decide +kernel
theorem dX0_makeFor_73 : decode cX0_makeFor 73 = .ok (.aload_n 0, 1) := by decide +kernel
theorem dX0_makeFor_74 : decode cX0_makeFor 74 = .ok (.getfield 18, 3) := by decide +kernel
theorem dX0_makeFor_77 : decode cX0_makeFor 77 = .ok (.aload_n 0, 1) := by decide +kernel
theorem dX0_makeFor_78 : decode cX0_makeFor 78 = .ok (.getfield 35, 3) := by decide +kernel
theorem dX0_makeFor_81 : decode cX0_makeFor 81 = .ok (.iconst 0, 1) := by decide +kernel
theorem dX0_makeFor_82 : decode cX0_makeFor 82 = .ok (.iastore, 1) := by decide +kernel
theorem dX0_makeFor_83 : decode cX0_makeFor 83 = .ok (.aload_n 0, 1) := by decide +kernel
theorem dX0_makeFor_84 : decode cX0_makeFor 84 = .ok (.dup, 1) := by decide +kernel
theorem dX0_makeFor_85 : decode cX0_makeFor 85 = .ok (.getfield 35, 3) := by decide +kernel
theorem dX0_makeFor_88 : decode cX0_makeFor 88 = .ok (.iconst 1, 1) := by decide +kernel
theorem dX0_makeFor_89 : decode cX0_makeFor 89 = .ok (.iadd, 1) := by decide +kernel
theorem dX0_makeFor_90 : decode cX0_makeFor 90 = .ok (.putfield 35, 3) := by decide +kernel
theorem dX0_makeFor_93 : decode cX0_makeFor 93 = .ok (.iload_n 3, 1) := by decide +kernel
theorem dX0_makeFor_94 : decode cX0_makeFor 94 = .ok (.ireturn, 1) := by decide +kernel
theorem dX1_init_0 : decode cX1_init 0 = .ok (.aload_n 0, 1) := by decide +kernel
theorem dX1_init_1 : decode cX1_init 1 = .ok (.invokespecial 3, 3) := by decide +kernel
theorem dX1_init_4 : decode cX1_init 4 = .ok (.aload_n 0, 1) := by decide +kernel
theorem dX1_init_5 : decode cX1_init 5 = .ok (.sipush 20000, 3) := by decide +kernel
theorem dX1_init_8 : decode cX1_init 8 = .ok (.newarray .int, 2) := by decide +kernel
theorem dX1_init_10 : decode cX1_init 10 = .ok (.putfield 11, 3) := by decide +kernel
theorem dX1_init_13 : decode cX1_init 13 = .ok (.aload_n 0, 1) := by decide +kernel
theorem dX1_init_14 : decode cX1_init 14 = .ok (.sipush 20000, 3) := by decide +kernel
theorem dX1_init_17 : decode cX1_init 17 = .ok (.newarray .int, 2) := by decide +kernel
theorem dX1_init_19 : decode cX1_init 19 = .ok (.putfield 15, 3) := by decide +kernel
theorem dX1_init_22 : decode cX1_init 22 = .ok (.return_, 1) := by decide +kernel
theorem dX1_empty_0 : decode cX1_empty 0 = .ok (.aload_n 0, 1) := by decide +kernel
theorem dX1_empty_1 : decode cX1_empty 1 = .ok (.iconst 0, 1) := by decide +kernel
theorem dX1_empty_2 : decode cX1_empty 2 = .ok (.putfield 18, 3) := by decide +kernel
theorem dX1_empty_5 : decode cX1_empty 5 = .ok (.return_, 1) := by decide +kernel
theorem dX1_add_0 : decode cX1_add 0 = .ok (.aload_n 0, 1) := by decide +kernel
theorem dX1_add_1 : decode cX1_add 1 = .ok (.getfield 18, 3) := by decide +kernel
theorem dX1_add_4 : decode cX1_add 4 = .ok (.sipush 20000, 3) := by decide +kernel
theorem dX1_add_7 : decode cX1_add 7 = .ok (.if_icmp .lt 5, 3) := by decide +kernel
theorem dX1_add_10 : decode cX1_add 10 = .ok (.iconst (-1), 1) := by decide +kernel
theorem dX1_add_11 : decode cX1_add 11 = .ok (.ireturn, 1) := by decide +kernel
theorem dX1_add_12 : decode cX1_add 12 = .ok (.aload_n 0, 1) := by decide +kernel
theorem dX1_add_13 : decode cX1_add 13 = .ok (.getfield 11, 3) := by decide +kernel
theorem dX1_add_16 : decode cX1_add 16 = .ok (.aload_n 0, 1) := by decide +kernel
theorem dX1_add_17 : decode cX1_add 17 = .ok (.getfield 18, 3) := by decide +kernel
theorem dX1_add_20 : decode cX1_add 20 = .ok (.iload_n 1, 1) := by decide +kernel
theorem dX1_add_21 : decode cX1_add 21 = .ok (.iastore, 1) := by decide +kernel
theorem dX1_add_22 : decode cX1_add 22 = .ok (.aload_n 0, 1) := by decide +kernel
theorem dX1_add_23 : decode cX1_add 23 = .ok (.getfield 15, 3) := by decide +kernel
theorem dX1_add_26 : decode cX1_add 26 = .ok (.aload_n 0, 1) := by decide +kernel
theorem dX1_add_27 : decode cX1_add 27 = .ok (.getfield 18, 3) := by decide +kernel
theorem dX1_add_30 : decode cX1_add 30 = .ok (.iload_n 2, 1) := by decide +kernel
theorem dX1_add_31 : decode cX1_add 31 = .ok (.iastore, 1) := by decide +kernel
theorem dX1_add_32 : decode cX1_add 32 = .ok (.aload_n 0, 1) := by decide +kernel
theorem dX1_add_33 : decode cX1_add 33 = .ok (.dup, 1) := by decide +kernel
theorem dX1_add_34 : decode cX1_add 34 = .ok (.getfield 18, 3) := by decide +kernel
theorem dX1_add_37 : decode cX1_add 37 = .ok (.iconst 1, 1) := by decide +kernel
theorem dX1_add_38 : decode cX1_add 38 = .ok (.iadd, 1) := by decide +kernel
theorem dX1_add_39 : decode cX1_add 39 = .ok (.putfield 18, 3) := by decide +kernel
theorem dX1_add_42 : decode cX1_add 42 = .ok (.aload_n 0, 1) := by decide +kernel
theorem dX1_add_43 : decode cX1_add 43 = .ok (.getfield 18, 3) := by decide +kernel
theorem dX1_add_46 : decode cX1_add 46 = .ok (.iconst 1, 1) := by decide +kernel
theorem dX1_add_47 : decode cX1_add 47 = .ok (.isub, 1) := by decide +kernel
theorem dX1_add_48 : decode cX1_add 48 = .ok (.ireturn, 1) := by decide +kernel
theorem dX1_valueAt_0 : decode cX1_valueAt 0 = .ok (.iload_n 1, 1) := by decide +kernel
theorem dX1_valueAt_1 : decode cX1_valueAt 1 = .ok (.istore_n 3, 1) := by decide +kernel
theorem dX1_valueAt_2 : decode cX1_valueAt 2 = .ok (.iconst 0, 1) := by decide +kernel
theorem dX1_valueAt_3 : decode cX1_valueAt 3 = .ok (.istore 4, 2) := by decide +kernel
theorem dX1_valueAt_5 : decode cX1_valueAt 5 = .ok (.iload 4, 2) := by decide +kernel
theorem dX1_valueAt_7 : decode cX1_valueAt 7 = .ok (.iload_n 2, 1) := by decide +kernel
theorem dX1_valueAt_8 : decode cX1_valueAt 8 = .ok (.if_icmp .ge 28, 3) := by decide +kernel
theorem dX1_valueAt_11 : decode cX1_valueAt 11 = .ok (.iload_n 3, 1) := by decide +kernel
theorem dX1_valueAt_12 : decode cX1_valueAt 12 = .ok (.ifCond .lt 24, 3) := by decide +kernel
theorem dX1_valueAt_15 : decode cX1_valueAt 15 = .ok (.iload_n 3, 1) := by decide +kernel
theorem dX1_valueAt_16 : decode cX1_valueAt 16 = .ok (.aload_n 0, 1) := by decide +kernel
theorem dX1_valueAt_17 : decode cX1_valueAt 17 = .ok (.getfield 18, 3) := by decide +kernel
theorem dX1_valueAt_20 : decode cX1_valueAt 20 = .ok (.if_icmp .ge 16, 3) := by decide +kernel
theorem dX1_valueAt_23 : decode cX1_valueAt 23 = .ok (.aload_n 0, 1) := by decide +kernel
theorem dX1_valueAt_24 : decode cX1_valueAt 24 = .ok (.getfield 15, 3) := by decide +kernel
theorem dX1_valueAt_27 : decode cX1_valueAt 27 = .ok (.iload_n 3, 1) := by decide +kernel
theorem dX1_valueAt_28 : decode cX1_valueAt 28 = .ok (.iaload, 1) := by decide +kernel
theorem dX1_valueAt_29 : decode cX1_valueAt 29 = .ok (.istore_n 3, 1) := by decide +kernel
theorem dX1_valueAt_30 : decode cX1_valueAt 30 = .ok (.iinc 4 1, 3) := by decide +kernel
theorem dX1_valueAt_33 : decode cX1_valueAt 33 = .ok (.goto (-28), 3) := by decide +kernel
theorem dX1_valueAt_36 : decode cX1_valueAt 36 = .ok (.iload_n 3, 1) := by decide +kernel
theorem dX1_valueAt_37 : decode cX1_valueAt 37 = .ok (.ifCond .lt 20, 3) := by decide +kernel
theorem dX1_valueAt_40 : decode cX1_valueAt 40 = .ok (.iload_n 3, 1) := by decide +kernel
theorem dX1_valueAt_41 : decode cX1_valueAt 41 = .ok (.aload_n 0, 1) := by decide +kernel
theorem dX1_valueAt_42 : decode cX1_valueAt 42 = .ok (.getfield 18, 3) := by decide +kernel
theorem dX1_valueAt_45 : decode cX1_valueAt 45 = .ok (.if_icmp .ge 12, 3) := by decide +kernel
theorem dX1_valueAt_48 : decode cX1_valueAt 48 = .ok (.aload_n 0, 1) := by decide +kernel
theorem dX1_valueAt_49 : decode cX1_valueAt 49 = .ok (.getfield 11, 3) := by decide +kernel
theorem dX1_valueAt_52 : decode cX1_valueAt 52 = .ok (.iload_n 3, 1) := by decide +kernel
theorem dX1_valueAt_53 : decode cX1_valueAt 53 = .ok (.iaload, 1) := by decide +kernel
theorem dX1_valueAt_54 : decode cX1_valueAt 54 = .ok (.goto 4, 3) := by decide +kernel
theorem dX1_valueAt_57 : decode cX1_valueAt 57 = .ok (.iconst (-1), 1) := by decide +kernel
theorem dX1_valueAt_58 : decode cX1_valueAt 58 = .ok (.ireturn, 1) := by decide +kernel
theorem dX2_init_0 : decode cX2_init 0 = .ok (.aload_n 0, 1) := by decide +kernel
theorem dX2_init_1 : decode cX2_init 1 = .ok (.invokespecial 3, 3) := by decide +kernel
theorem dX2_init_4 : decode cX2_init 4 = .ok (.aload_n 0, 1) := by decide +kernel
theorem dX2_init_5 : decode cX2_init 5 = .ok (.sipush 200, 3) := by decide +kernel
theorem dX2_init_8 : decode cX2_init 8 = .ok (.newarray .int, 2) := by decide +kernel
theorem dX2_init_10 : decode cX2_init 10 = .ok (.putfield 9, 3) := by decide +kernel
theorem dX2_init_13 : decode cX2_init 13 = .ok (.aload_n 0, 1) := by decide +kernel
theorem dX2_init_14 : decode cX2_init 14 = .ok (.sipush 200, 3) := by decide +kernel
theorem dX2_init_17 : decode cX2_init 17 = .ok (.newarray .int, 2) := by decide +kernel
theorem dX2_init_19 : decode cX2_init 19 = .ok (.putfield 15, 3) := by decide +kernel
theorem dX2_init_22 : decode cX2_init 22 = .ok (.aload_n 0, 1) := by decide +kernel
theorem dX2_init_23 : decode cX2_init 23 = .ok (.sipush 200, 3) := by decide +kernel
theorem dX2_init_26 : decode cX2_init 26 = .ok (.newarray .int, 2) := by decide +kernel
theorem dX2_init_28 : decode cX2_init 28 = .ok (.putfield 18, 3) := by decide +kernel
theorem dX2_init_31 : decode cX2_init 31 = .ok (.aload_n 0, 1) := by decide +kernel
theorem dX2_init_32 : decode cX2_init 32 = .ok (.sipush 200, 3) := by decide +kernel
theorem dX2_init_35 : decode cX2_init 35 = .ok (.newarray .int, 2) := by decide +kernel
theorem dX2_init_37 : decode cX2_init 37 = .ok (.putfield 21, 3) := by decide +kernel
theorem dX2_init_40 : decode cX2_init 40 = .ok (.aload_n 0, 1) := by decide +kernel
theorem dX2_init_41 : decode cX2_init 41 = .ok (.aload_n 1, 1) := by decide +kernel
theorem dX2_init_42 : decode cX2_init 42 = .ok (.putfield 24, 3) := by decide +kernel
theorem dX2_init_45 : decode cX2_init 45 = .ok (.aload_n 0, 1) := by decide +kernel
theorem dX2_init_46 : decode cX2_init 46 = .ok (.aload_n 2, 1) := by decide +kernel
theorem dX2_init_47 : decode cX2_init 47 = .ok (.putfield 28, 3) := by decide +kernel
theorem dX2_init_50 : decode cX2_init 50 = .ok (.aload_n 0, 1) := by decide +kernel
theorem dX2_init_51 : decode cX2_init 51 = .ok (.aload_n 3, 1) := by decide +kernel
theorem dX2_init_52 : decode cX2_init 52 = .ok (.putfield 32, 3) := by decide +kernel
theorem dX2_init_55 : decode cX2_init 55 = .ok (.aload_n 0, 1) := by decide +kernel
theorem dX2_init_56 : decode cX2_init 56 = .ok (.aload 4, 2) := by decide +kernel
theorem dX2_init_58 : decode cX2_init 58 = .ok (.putfield 36, 3) := by decide +kernel
theorem dX2_init_61 : decode cX2_init 61 = .ok (.return_, 1) := by decide +kernel
theorem dX2_misfitPlace_0 : decode cX2_misfitPlace 0 = .ok (.aload_n 0, 1) := by decide +kernel
theorem dX2_misfitPlace_1 : decode cX2_misfitPlace 1 = .ok (.getfield 40, 3) := by decide +kernel
theorem dX2_misfitPlace_4 : decode cX2_misfitPlace 4 = .ok (.ireturn, 1) := by decide +kernel
theorem dX2_check_0 : decode cX2_check 0 = .ok (.aload_n 0, 1) := by decide +kernel
theorem dX2_check_1 : decode cX2_check 1 = .ok (.aload_n 1, 1) := by decide +kernel
theorem dX2_check_2 : decode cX2_check 2 = .ok (.putfield 36, 3) := by decide +kernel
theorem dX2_check_5 : decode cX2_check 5 = .ok (.aload_n 0, 1) := by decide +kernel
theorem dX2_check_6 : decode cX2_check 6 = .ok (.iconst (-1), 1) := by decide +kernel
theorem dX2_check_7 : decode cX2_check 7 = .ok (.putfield 40, 3) := by decide +kernel
theorem dX2_check_10 : decode cX2_check 10 = .ok (.aload_n 0, 1) := by decide +kernel
theorem dX2_check_11 : decode cX2_check 11 = .ok (.iconst 0, 1) := by decide +kernel
theorem dX2_check_12 : decode cX2_check 12 = .ok (.putfield 44, 3) := by decide +kernel
theorem dX2_check_15 : decode cX2_check 15 = .ok (.aload_n 0, 1) := by decide +kernel
theorem dX2_check_16 : decode cX2_check 16 = .ok (.iconst 0, 1) := by decide +kernel
theorem dX2_check_17 : decode cX2_check 17 = .ok (.invokevirtual 47, 3) := by decide +kernel
theorem dX2_check_20 : decode cX2_check 20 = .ok (.iconst (-1), 1) := by decide +kernel
theorem dX2_check_21 : decode cX2_check 21 = .ok (.istore_n 2, 1) := by decide +kernel
theorem dX2_check_22 : decode cX2_check 22 = .ok (.iconst 0, 1) := by decide +kernel
theorem dX2_check_23 : decode cX2_check 23 = .ok (.istore_n 3, 1) := by decide +kernel
theorem dX2_check_24 : decode cX2_check 24 = .ok (.aload_n 0, 1) := by decide +kernel
theorem dX2_check_25 : decode cX2_check 25 = .ok (.getfield 44, 3) := by decide +kernel
theorem dX2_check_28 : decode cX2_check 28 = .ok (.ifCond .le 133, 3) := by decide +kernel
theorem dX2_check_31 : decode cX2_check 31 = .ok (.iload_n 3, 1) := by decide +kernel
theorem dX2_check_32 : decode cX2_check 32 = .ok (.sipush 400, 3) := by decide +kernel
theorem dX2_check_35 : decode cX2_check 35 = .ok (.if_icmp .gt 126, 3) := by decide +kernel
theorem dX2_check_38 : decode cX2_check 38 = .ok (.aload_n 0, 1) := by decide +kernel
theorem dX2_check_39 : decode cX2_check 39 = .ok (.getfield 44, 3) := by decide +kernel
theorem dX2_check_42 : decode cX2_check 42 = .ok (.iconst 1, 1) := by decide +kernel
theorem dX2_check_43 : decode cX2_check 43 = .ok (.isub, 1) := by decide +kernel
theorem dX2_check_44 : decode cX2_check 44 = .ok (.istore 4, 2) := by decide +kernel
theorem dX2_check_46 : decode cX2_check 46 = .ok (.aload_n 0, 1) := by decide +kernel
theorem dX2_check_47 : decode cX2_check 47 = .ok (.getfield 18, 3) := by decide +kernel
theorem dX2_check_50 : decode cX2_check 50 = .ok (.iload 4, 2) := by decide +kernel
theorem dX2_check_52 : decode cX2_check 52 = .ok (.iaload, 1) := by decide +kernel
theorem dX2_check_53 : decode cX2_check 53 = .ok (.istore 5, 2) := by decide +kernel
theorem dX2_check_55 : decode cX2_check 55 = .ok (.aload_n 0, 1) := by decide +kernel
theorem dX2_check_56 : decode cX2_check 56 = .ok (.getfield 36, 3) := by decide +kernel
theorem dX2_check_59 : decode cX2_check 59 = .ok (.iload 5, 2) := by decide +kernel
theorem dX2_check_61 : decode cX2_check 61 = .ok (.aload_n 0, 1) := by decide +kernel
theorem dX2_check_62 : decode cX2_check 62 = .ok (.getfield 21, 3) := by decide +kernel
theorem dX2_check_65 : decode cX2_check 65 = .ok (.iload 4, 2) := by decide +kernel
theorem dX2_check_67 : decode cX2_check 67 = .ok (.iaload, 1) := by decide +kernel
theorem dX2_check_68 : decode cX2_check 68 = .ok (.invokevirtual 51, 3) := by decide +kernel
theorem dX2_check_71 : decode cX2_check 71 = .ok (.istore 6, 2) := by decide +kernel
theorem dX2_check_73 : decode cX2_check 73 = .ok (.iload 6, 2) := by decide +kernel
theorem dX2_check_75 : decode cX2_check 75 = .ok (.iconst (-1), 1) := by decide +kernel
theorem dX2_check_76 : decode cX2_check 76 = .ok (.if_icmp .ne 32, 3) := by decide +kernel
theorem dX2_check_79 : decode cX2_check 79 = .ok (.aload_n 0, 1) := by decide +kernel
theorem dX2_check_80 : decode cX2_check 80 = .ok (.iload 4, 2) := by decide +kernel
theorem dX2_check_82 : decode cX2_check 82 = .ok (.putfield 44, 3) := by decide +kernel
theorem dX2_check_85 : decode cX2_check 85 = .ok (.aload_n 0, 1) := by decide +kernel
theorem dX2_check_86 : decode cX2_check 86 = .ok (.iload 5, 2) := by decide +kernel
theorem dX2_check_88 : decode cX2_check 88 = .ok (.aload_n 0, 1) := by decide +kernel
theorem dX2_check_89 : decode cX2_check 89 = .ok (.iload 5, 2) := by decide +kernel
theorem dX2_check_91 : decode cX2_check 91 = .ok (.invokevirtual 57, 3) := by decide +kernel
theorem dX2_check_94 : decode cX2_check 94 = .ok (.invokevirtual 61, 3) := by decide +kernel
theorem dX2_check_97 : decode cX2_check 97 = .ok (.istore_n 2, 1) := by decide +kernel
theorem dX2_check_98 : decode cX2_check 98 = .ok (.aload_n 0, 1) := by decide +kernel
theorem dX2_check_99 : decode cX2_check 99 = .ok (.iload 5, 2) := by decide +kernel
theorem dX2_check_101 : decode cX2_check 101 = .ok (.iload_n 2, 1) := by decide +kernel
theorem dX2_check_102 : decode cX2_check 102 = .ok (.invokevirtual 64, 3) := by decide +kernel
theorem dX2_check_105 : decode cX2_check 105 = .ok (.goto 36, 3) := by decide +kernel
theorem dX2_check_108 : decode cX2_check 108 = .ok (.aload_n 0, 1) := by decide +kernel
theorem dX2_check_109 : decode cX2_check 109 = .ok (.iload 5, 2) := by decide +kernel
theorem dX2_check_111 : decode cX2_check 111 = .ok (.iload 6, 2) := by decide +kernel
theorem dX2_check_113 : decode cX2_check 113 = .ok (.aload_n 0, 1) := by decide +kernel
theorem dX2_check_114 : decode cX2_check 114 = .ok (.getfield 21, 3) := by decide +kernel
theorem dX2_check_117 : decode cX2_check 117 = .ok (.iload 4, 2) := by decide +kernel
theorem dX2_check_119 : decode cX2_check 119 = .ok (.iaload, 1) := by decide +kernel
theorem dX2_check_120 : decode cX2_check 120 = .ok (.invokevirtual 68, 3) := by decide +kernel
theorem dX2_check_123 : decode cX2_check 123 = .ok (.istore_n 2, 1) := by decide +kernel
theorem dX2_check_124 : decode cX2_check 124 = .ok (.aload_n 0, 1) := by decide +kernel
theorem dX2_check_125 : decode cX2_check 125 = .ok (.getfield 21, 3) := by decide +kernel
theorem dX2_check_128 : decode cX2_check 128 = .ok (.iload 4, 2) := by decide +kernel
theorem dX2_check_130 : decode cX2_check 130 = .ok (.dup2, 1) := by decide +kernel
theorem dX2_check_131 : decode cX2_check 131 = .ok (.iaload, 1) := by decide +kernel
theorem dX2_check_132 : decode cX2_check 132 = .ok (.iconst 1, 1) := by decide +kernel
theorem dX2_check_133 : decode cX2_check 133 = .ok (.iadd, 1) := by decide +kernel
theorem dX2_check_134 : decode cX2_check 134 = .ok (.iastore, 1) := by decide +kernel
theorem dX2_check_135 : decode cX2_check 135 = .ok (.aload_n 0, 1) := by decide +kernel
theorem dX2_check_136 : decode cX2_check 136 = .ok (.iload 6, 2) := by decide +kernel
theorem dX2_check_138 : decode cX2_check 138 = .ok (.invokevirtual 47, 3) := by decide +kernel
theorem dX2_check_141 : decode cX2_check 141 = .ok (.iload_n 2, 1) := by decide +kernel
theorem dX2_check_142 : decode cX2_check 142 = .ok (.bipush (-15), 2) := by decide +kernel
theorem dX2_check_144 : decode cX2_check 144 = .ok (.if_icmp .eq 9, 3) := by decide +kernel
theorem dX2_check_147 : decode cX2_check 147 = .ok (.iload_n 2, 1) := by decide +kernel
theorem dX2_check_148 : decode cX2_check 148 = .ok (.bipush (-3), 2) := by decide +kernel
theorem dX2_check_150 : decode cX2_check 150 = .ok (.if_icmp .ne 5, 3) := by decide +kernel
theorem dX2_check_153 : decode cX2_check 153 = .ok (.iload_n 2, 1) := by decide +kernel
theorem dX2_check_154 : decode cX2_check 154 = .ok (.ireturn, 1) := by decide +kernel
theorem dX2_check_155 : decode cX2_check 155 = .ok (.iinc 3 1, 3) := by decide +kernel
theorem dX2_check_158 : decode cX2_check 158 = .ok (.goto (-134), 3) := by decide +kernel
theorem dX2_check_161 : decode cX2_check 161 = .ok (.iload_n 2, 1) := by decide +kernel
theorem dX2_check_162 : decode cX2_check 162 = .ok (.ireturn, 1) := by decide +kernel
theorem dX2_setType_0 : decode cX2_setType 0 = .ok (.iload_n 2, 1) := by decide +kernel
theorem dX2_setType_1 : decode cX2_setType 1 = .ok (.bipush (-15), 2) := by decide +kernel
theorem dX2_setType_3 : decode cX2_setType 3 = .ok (.if_icmp .ne 8, 3) := by decide +kernel
theorem dX2_setType_6 : decode cX2_setType 6 = .ok (.aload_n 0, 1) := by decide +kernel
theorem dX2_setType_7 : decode cX2_setType 7 = .ok (.iload_n 1, 1) := by decide +kernel
theorem dX2_setType_8 : decode cX2_setType 8 = .ok (.putfield 40, 3) := by decide +kernel
theorem dX2_setType_11 : decode cX2_setType 11 = .ok (.iload_n 1, 1) := by decide +kernel
theorem dX2_setType_12 : decode cX2_setType 12 = .ok (.ifCond .lt 17, 3) := by decide +kernel
theorem dX2_setType_15 : decode cX2_setType 15 = .ok (.iload_n 1, 1) := by decide +kernel
theorem dX2_setType_16 : decode cX2_setType 16 = .ok (.sipush 200, 3) := by decide +kernel
theorem dX2_setType_19 : decode cX2_setType 19 = .ok (.if_icmp .ge 10, 3) := by decide +kernel
theorem dX2_setType_22 : decode cX2_setType 22 = .ok (.aload_n 0, 1) := by decide +kernel
theorem dX2_setType_23 : decode cX2_setType 23 = .ok (.getfield 9, 3) := by decide +kernel
theorem dX2_setType_26 : decode cX2_setType 26 = .ok (.iload_n 1, 1) := by decide +kernel
theorem dX2_setType_27 : decode cX2_setType 27 = .ok (.iload_n 2, 1) := by decide +kernel
theorem dX2_setType_28 : decode cX2_setType 28 = .ok (.iastore, 1) := by decide +kernel
theorem dX2_setType_29 : decode cX2_setType 29 = .ok (.return_, 1) := by decide +kernel
theorem dX2_push_0 : decode cX2_push 0 = .ok (.aload_n 0, 1) := by decide +kernel
theorem dX2_push_1 : decode cX2_push 1 = .ok (.getfield 44, 3) := by decide +kernel
theorem dX2_push_4 : decode cX2_push 4 = .ok (.sipush 200, 3) := by decide +kernel
theorem dX2_push_7 : decode cX2_push 7 = .ok (.if_icmp .ge 33, 3) := by decide +kernel
theorem dX2_push_10 : decode cX2_push 10 = .ok (.aload_n 0, 1) := by decide +kernel
theorem dX2_push_11 : decode cX2_push 11 = .ok (.getfield 18, 3) := by decide +kernel
theorem dX2_push_14 : decode cX2_push 14 = .ok (.aload_n 0, 1) := by decide +kernel
theorem dX2_push_15 : decode cX2_push 15 = .ok (.getfield 44, 3) := by decide +kernel
theorem dX2_push_18 : decode cX2_push 18 = .ok (.iload_n 1, 1) := by decide +kernel
theorem dX2_push_19 : decode cX2_push 19 = .ok (.iastore, 1) := by decide +kernel
theorem dX2_push_20 : decode cX2_push 20 = .ok (.aload_n 0, 1) := by decide +kernel
theorem dX2_push_21 : decode cX2_push 21 = .ok (.getfield 21, 3) := by decide +kernel
theorem dX2_push_24 : decode cX2_push 24 = .ok (.aload_n 0, 1) := by decide +kernel
theorem dX2_push_25 : decode cX2_push 25 = .ok (.getfield 44, 3) := by decide +kernel
theorem dX2_push_28 : decode cX2_push 28 = .ok (.iconst 0, 1) := by decide +kernel
theorem dX2_push_29 : decode cX2_push 29 = .ok (.iastore, 1) := by decide +kernel
theorem dX2_push_30 : decode cX2_push 30 = .ok (.aload_n 0, 1) := by decide +kernel
theorem dX2_push_31 : decode cX2_push 31 = .ok (.dup, 1) := by decide +kernel
theorem dX2_push_32 : decode cX2_push 32 = .ok (.getfield 44, 3) := by decide +kernel
theorem dX2_push_35 : decode cX2_push 35 = .ok (.iconst 1, 1) := by decide +kernel
theorem dX2_push_36 : decode cX2_push 36 = .ok (.iadd, 1) := by decide +kernel
theorem dX2_push_37 : decode cX2_push 37 = .ok (.putfield 44, 3) := by decide +kernel
theorem dX2_push_40 : decode cX2_push 40 = .ok (.return_, 1) := by decide +kernel
theorem dX2_bindIn_0 : decode cX2_bindIn 0 = .ok (.iconst (-1), 1) := by decide +kernel
theorem dX2_bindIn_1 : decode cX2_bindIn 1 = .ok (.istore 4, 2) := by decide +kernel
theorem dX2_bindIn_3 : decode cX2_bindIn 3 = .ok (.aload_n 0, 1) := by decide +kernel
theorem dX2_bindIn_4 : decode cX2_bindIn 4 = .ok (.getfield 36, 3) := by decide +kernel
theorem dX2_bindIn_7 : decode cX2_bindIn 7 = .ok (.iload_n 1, 1) := by decide +kernel
theorem dX2_bindIn_8 : decode cX2_bindIn 8 = .ok (.invokevirtual 72, 3) := by decide +kernel
theorem dX2_bindIn_11 : decode cX2_bindIn 11 = .ok (.istore 5, 2) := by decide +kernel
theorem dX2_bindIn_13 : decode cX2_bindIn 13 = .ok (.iload 5, 2) := by decide +kernel
theorem dX2_bindIn_15 : decode cX2_bindIn 15 = .ok (.bipush 21, 2) := by decide +kernel
theorem dX2_bindIn_17 : decode cX2_bindIn 17 = .ok (.if_icmp .eq 10, 3) := by decide +kernel
theorem dX2_bindIn_20 : decode cX2_bindIn 20 = .ok (.iload 5, 2) := by decide +kernel
theorem dX2_bindIn_22 : decode cX2_bindIn 22 = .ok (.bipush 33, 2) := by decide +kernel
theorem dX2_bindIn_24 : decode cX2_bindIn 24 = .ok (.if_icmp .ne 18, 3) := by decide +kernel
theorem dX2_bindIn_27 : decode cX2_bindIn 27 = .ok (.aload_n 0, 1) := by decide +kernel
theorem dX2_bindIn_28 : decode cX2_bindIn 28 = .ok (.getfield 36, 3) := by decide +kernel
theorem dX2_bindIn_31 : decode cX2_bindIn 31 = .ok (.iload_n 1, 1) := by decide +kernel
theorem dX2_bindIn_32 : decode cX2_bindIn 32 = .ok (.iconst 1, 1) := by decide +kernel
theorem dX2_bindIn_33 : decode cX2_bindIn 33 = .ok (.iadd, 1) := by decide +kernel
theorem dX2_bindIn_34 : decode cX2_bindIn 34 = .ok (.invokevirtual 72, 3) := by decide +kernel
theorem dX2_bindIn_37 : decode cX2_bindIn 37 = .ok (.istore 4, 2) := by decide +kernel
theorem dX2_bindIn_39 : decode cX2_bindIn 39 = .ok (.goto 29, 3) := by decide +kernel
theorem dX2_bindIn_42 : decode cX2_bindIn 42 = .ok (.iload 5, 2) := by decide +kernel
theorem dX2_bindIn_44 : decode cX2_bindIn 44 = .ok (.bipush 32, 2) := by decide +kernel
theorem dX2_bindIn_46 : decode cX2_bindIn 46 = .ok (.if_icmp .ne 22, 3) := by decide +kernel
theorem dX2_bindIn_49 : decode cX2_bindIn 49 = .ok (.iload_n 3, 1) := by decide +kernel
theorem dX2_bindIn_50 : decode cX2_bindIn 50 = .ok (.ifCond .le 18, 3) := by decide +kernel
theorem dX2_bindIn_53 : decode cX2_bindIn 53 = .ok (.aload_n 0, 1) := by decide +kernel
theorem dX2_bindIn_54 : decode cX2_bindIn 54 = .ok (.iload_n 1, 1) := by decide +kernel
theorem dX2_bindIn_55 : decode cX2_bindIn 55 = .ok (.aload_n 0, 1) := by decide +kernel
theorem dX2_bindIn_56 : decode cX2_bindIn 56 = .ok (.getfield 36, 3) := by decide +kernel
theorem dX2_bindIn_59 : decode cX2_bindIn 59 = .ok (.iload_n 2, 1) := by decide +kernel
theorem dX2_bindIn_60 : decode cX2_bindIn 60 = .ok (.invokevirtual 75, 3) := by decide +kernel
theorem dX2_bindIn_63 : decode cX2_bindIn 63 = .ok (.invokevirtual 78, 3) := by decide +kernel
theorem dX2_bindIn_66 : decode cX2_bindIn 66 = .ok (.istore 4, 2) := by decide +kernel
theorem dX2_bindIn_68 : decode cX2_bindIn 68 = .ok (.iload_n 2, 1) := by decide +kernel
theorem dX2_bindIn_69 : decode cX2_bindIn 69 = .ok (.ifCond .lt 18, 3) := by decide +kernel
theorem dX2_bindIn_72 : decode cX2_bindIn 72 = .ok (.iload_n 2, 1) := by decide +kernel
theorem dX2_bindIn_73 : decode cX2_bindIn 73 = .ok (.sipush 200, 3) := by decide +kernel
theorem dX2_bindIn_76 : decode cX2_bindIn 76 = .ok (.if_icmp .ge 11, 3) := by decide +kernel
theorem dX2_bindIn_79 : decode cX2_bindIn 79 = .ok (.aload_n 0, 1) := by decide +kernel
theorem dX2_bindIn_80 : decode cX2_bindIn 80 = .ok (.getfield 15, 3) := by decide +kernel
theorem dX2_bindIn_83 : decode cX2_bindIn 83 = .ok (.iload_n 2, 1) := by decide +kernel
theorem dX2_bindIn_84 : decode cX2_bindIn 84 = .ok (.iload 4, 2) := by decide +kernel
theorem dX2_bindIn_86 : decode cX2_bindIn 86 = .ok (.iastore, 1) := by decide +kernel
theorem dX2_bindIn_87 : decode cX2_bindIn 87 = .ok (.iload 4, 2) := by decide +kernel
theorem dX2_bindIn_89 : decode cX2_bindIn 89 = .ok (.ireturn, 1) := by decide +kernel
theorem dX2_typeOfCase_0 : decode cX2_typeOfCase 0 = .ok (.aload_n 0, 1) := by decide +kernel
theorem dX2_typeOfCase_1 : decode cX2_typeOfCase 1 = .ok (.iload_n 1, 1) := by decide +kernel
theorem dX2_typeOfCase_2 : decode cX2_typeOfCase 2 = .ok (.aload_n 0, 1) := by decide +kernel
theorem dX2_typeOfCase_3 : decode cX2_typeOfCase 3 = .ok (.getfield 36, 3) := by decide +kernel
theorem dX2_typeOfCase_6 : decode cX2_typeOfCase 6 = .ok (.iload_n 1, 1) := by decide +kernel
theorem dX2_typeOfCase_7 : decode cX2_typeOfCase 7 = .ok (.invokevirtual 81, 3) := by decide +kernel
theorem dX2_typeOfCase_10 : decode cX2_typeOfCase 10 = .ok (.iconst 1, 1) := by decide +kernel
theorem dX2_typeOfCase_11 : decode cX2_typeOfCase 11 = .ok (.isub, 1) := by decide +kernel
theorem dX2_typeOfCase_12 : decode cX2_typeOfCase 12 = .ok (.invokevirtual 84, 3) := by decide +kernel
theorem dX2_typeOfCase_15 : decode cX2_typeOfCase 15 = .ok (.istore_n 3, 1) := by decide +kernel
theorem dX2_typeOfCase_16 : decode cX2_typeOfCase 16 = .ok (.aload_n 0, 1) := by decide +kernel
theorem dX2_typeOfCase_17 : decode cX2_typeOfCase 17 = .ok (.getfield 24, 3) := by decide +kernel
theorem dX2_typeOfCase_20 : decode cX2_typeOfCase 20 = .ok (.iload_n 3, 1) := by decide +kernel
theorem dX2_typeOfCase_21 : decode cX2_typeOfCase 21 = .ok (.invokevirtual 87, 3) := by decide +kernel
theorem dX2_typeOfCase_24 : decode cX2_typeOfCase 24 = .ok (.bipush 6, 2) := by decide +kernel
theorem dX2_typeOfCase_26 : decode cX2_typeOfCase 26 = .ok (.if_icmp .ne 15, 3) := by decide +kernel
theorem dX2_typeOfCase_29 : decode cX2_typeOfCase 29 = .ok (.aload_n 0, 1) := by decide +kernel
theorem dX2_typeOfCase_30 : decode cX2_typeOfCase 30 = .ok (.getfield 24, 3) := by decide +kernel
theorem dX2_typeOfCase_33 : decode cX2_typeOfCase 33 = .ok (.iload_n 3, 1) := by decide +kernel
theorem dX2_typeOfCase_34 : decode cX2_typeOfCase 34 = .ok (.iload_n 2, 1) := by decide +kernel
theorem dX2_typeOfCase_35 : decode cX2_typeOfCase 35 = .ok (.invokevirtual 92, 3) := by decide +kernel
theorem dX2_typeOfCase_38 : decode cX2_typeOfCase 38 = .ok (.goto 4, 3) := by decide +kernel
theorem dX2_typeOfCase_41 : decode cX2_typeOfCase 41 = .ok (.iconst (-1), 1) := by decide +kernel
theorem dX2_typeOfCase_42 : decode cX2_typeOfCase 42 = .ok (.istore 4, 2) := by decide +kernel
theorem dX2_typeOfCase_44 : decode cX2_typeOfCase 44 = .ok (.iload 4, 2) := by decide +kernel
theorem dX2_typeOfCase_46 : decode cX2_typeOfCase 46 = .ok (.iconst (-1), 1) := by decide +kernel
theorem dX2_typeOfCase_47 : decode cX2_typeOfCase 47 = .ok (.if_icmp .eq 8, 3) := by decide +kernel
theorem dX2_typeOfCase_50 : decode cX2_typeOfCase 50 = .ok (.iload 4, 2) := by decide +kernel
theorem dX2_typeOfCase_52 : decode cX2_typeOfCase 52 = .ok (.goto 11, 3) := by decide +kernel
theorem dX2_typeOfCase_55 : decode cX2_typeOfCase 55 = .ok (.aload_n 0, 1) := by decide +kernel
theorem dX2_typeOfCase_56 : decode cX2_typeOfCase 56 = .ok (.getfield 24, 3) := by decide +kernel
theorem dX2_typeOfCase_59 : decode cX2_typeOfCase 59 = .ok (.iconst 1, 1) := by decide +kernel
theorem dX2_typeOfCase_60 : decode cX2_typeOfCase 60 = .ok (.invokevirtual 95, 3) := by decide +kernel
theorem dX2_typeOfCase_63 : decode cX2_typeOfCase 63 = .ok (.ireturn, 1) := by decide +kernel
theorem dX2_typeIn_0 : decode cX2_typeIn 0 = .ok (.aload_n 0, 1) := by decide +kernel
theorem dX2_typeIn_1 : decode cX2_typeIn 1 = .ok (.getfield 36, 3) := by decide +kernel
theorem dX2_typeIn_4 : decode cX2_typeIn 4 = .ok (.iload_n 1, 1) := by decide +kernel
theorem dX2_typeIn_5 : decode cX2_typeIn 5 = .ok (.iload_n 2, 1) := by decide +kernel
theorem dX2_typeIn_6 : decode cX2_typeIn 6 = .ok (.invokevirtual 98, 3) := by decide +kernel
theorem dX2_typeIn_9 : decode cX2_typeIn 9 = .ok (.istore_n 3, 1) := by decide +kernel
theorem dX2_typeIn_10 : decode cX2_typeIn 10 = .ok (.iload_n 3, 1) := by decide +kernel
theorem dX2_typeIn_11 : decode cX2_typeIn 11 = .ok (.ifCond .lt 19, 3) := by decide +kernel
theorem dX2_typeIn_14 : decode cX2_typeIn 14 = .ok (.iload_n 3, 1) := by decide +kernel
theorem dX2_typeIn_15 : decode cX2_typeIn 15 = .ok (.sipush 200, 3) := by decide +kernel
theorem dX2_typeIn_18 : decode cX2_typeIn 18 = .ok (.if_icmp .ge 12, 3) := by decide +kernel
theorem dX2_typeIn_21 : decode cX2_typeIn 21 = .ok (.aload_n 0, 1) := by decide +kernel
theorem dX2_typeIn_22 : decode cX2_typeIn 22 = .ok (.getfield 9, 3) := by decide +kernel
theorem dX2_typeIn_25 : decode cX2_typeIn 25 = .ok (.iload_n 3, 1) := by decide +kernel
theorem dX2_typeIn_26 : decode cX2_typeIn 26 = .ok (.iaload, 1) := by decide +kernel
theorem dX2_typeIn_27 : decode cX2_typeIn 27 = .ok (.goto 4, 3) := by decide +kernel
theorem dX2_typeIn_30 : decode cX2_typeIn 30 = .ok (.iconst (-1), 1) := by decide +kernel
theorem dX2_typeIn_31 : decode cX2_typeIn 31 = .ok (.ireturn, 1) := by decide +kernel
theorem dX2_joinBranches_0 : decode cX2_joinBranches 0 = .ok (.aload_n 0, 1) := by decide +kernel
theorem dX2_joinBranches_1 : decode cX2_joinBranches 1 = .ok (.getfield 36, 3) := by decide +kernel
theorem dX2_joinBranches_4 : decode cX2_joinBranches 4 = .ok (.iload_n 1, 1) := by decide +kernel
theorem dX2_joinBranches_5 : decode cX2_joinBranches 5 = .ok (.invokevirtual 72, 3) := by decide +kernel
theorem dX2_joinBranches_8 : decode cX2_joinBranches 8 = .ok (.istore_n 3, 1) := by decide +kernel
theorem dX2_joinBranches_9 : decode cX2_joinBranches 9 = .ok (.iload_n 3, 1) := by decide +kernel
theorem dX2_joinBranches_10 : decode cX2_joinBranches 10 = .ok (.bipush 28, 2) := by decide +kernel
theorem dX2_joinBranches_12 : decode cX2_joinBranches 12 = .ok (.if_icmp .ne 7, 3) := by decide +kernel
theorem dX2_joinBranches_15 : decode cX2_joinBranches 15 = .ok (.iconst 2, 1) := by decide +kernel
theorem dX2_joinBranches_16 : decode cX2_joinBranches 16 = .ok (.goto 4, 3) := by decide +kernel
theorem dX2_joinBranches_19 : decode cX2_joinBranches 19 = .ok (.iconst 1, 1) := by decide +kernel
theorem dX2_joinBranches_20 : decode cX2_joinBranches 20 = .ok (.istore 4, 2) := by decide +kernel
theorem dX2_joinBranches_22 : decode cX2_joinBranches 22 = .ok (.iload_n 3, 1) := by decide +kernel
theorem dX2_joinBranches_23 : decode cX2_joinBranches 23 = .ok (.bipush 28, 2) := by decide +kernel
theorem dX2_joinBranches_25 : decode cX2_joinBranches 25 = .ok (.if_icmp .ne 7, 3) := by decide +kernel
theorem dX2_joinBranches_28 : decode cX2_joinBranches 28 = .ok (.iconst 3, 1) := by decide +kernel
theorem dX2_joinBranches_29 : decode cX2_joinBranches 29 = .ok (.goto 23, 3) := by decide +kernel
theorem dX2_joinBranches_32 : decode cX2_joinBranches 32 = .ok (.iload_n 3, 1) := by decide +kernel
theorem dX2_joinBranches_33 : decode cX2_joinBranches 33 = .ok (.bipush 32, 2) := by decide +kernel
theorem dX2_joinBranches_35 : decode cX2_joinBranches 35 = .ok (.if_icmp .ne 16, 3) := by decide +kernel
theorem dX2_joinBranches_38 : decode cX2_joinBranches 38 = .ok (.aload_n 0, 1) := by decide +kernel
theorem dX2_joinBranches_39 : decode cX2_joinBranches 39 = .ok (.getfield 36, 3) := by decide +kernel
theorem dX2_joinBranches_42 : decode cX2_joinBranches 42 = .ok (.iload_n 1, 1) := by decide +kernel
theorem dX2_joinBranches_43 : decode cX2_joinBranches 43 = .ok (.invokevirtual 81, 3) := by decide +kernel
theorem dX2_joinBranches_46 : decode cX2_joinBranches 46 = .ok (.iconst 1, 1) := by decide +kernel
theorem dX2_joinBranches_47 : decode cX2_joinBranches 47 = .ok (.isub, 1) := by decide +kernel
theorem dX2_joinBranches_48 : decode cX2_joinBranches 48 = .ok (.goto 4, 3) := by decide +kernel
theorem dX2_joinBranches_51 : decode cX2_joinBranches 51 = .ok (.iconst 0, 1) := by decide +kernel
theorem dX2_joinBranches_52 : decode cX2_joinBranches 52 = .ok (.istore 5, 2) := by decide +kernel
theorem dX2_joinBranches_54 : decode cX2_joinBranches 54 = .ok (.iload_n 2, 1) := by decide +kernel
theorem dX2_joinBranches_55 : decode cX2_joinBranches 55 = .ok (.istore 6, 2) := by decide +kernel
theorem dX2_joinBranches_57 : decode cX2_joinBranches 57 = .ok (.iload 4, 2) := by decide +kernel
theorem dX2_joinBranches_59 : decode cX2_joinBranches 59 = .ok (.istore 7, 2) := by decide +kernel
theorem dX2_joinBranches_61 : decode cX2_joinBranches 61 = .ok (.iload 7, 2) := by decide +kernel
theorem dX2_joinBranches_63 : decode cX2_joinBranches 63 = .ok (.iload 5, 2) := by decide +kernel
theorem dX2_joinBranches_65 : decode cX2_joinBranches 65 = .ok (.if_icmp .ge 33, 3) := by decide +kernel
theorem dX2_joinBranches_68 : decode cX2_joinBranches 68 = .ok (.iload 6, 2) := by decide +kernel
theorem dX2_joinBranches_70 : decode cX2_joinBranches 70 = .ok (.ifCond .lt 28, 3) := by decide +kernel
theorem dX2_joinBranches_73 : decode cX2_joinBranches 73 = .ok (.aload_n 0, 1) := by decide +kernel
theorem dX2_joinBranches_74 : decode cX2_joinBranches 74 = .ok (.getfield 32, 3) := by decide +kernel
theorem dX2_joinBranches_77 : decode cX2_joinBranches 77 = .ok (.iconst 0, 1) := by decide +kernel
theorem dX2_joinBranches_78 : decode cX2_joinBranches 78 = .ok (.iload 6, 2) := by decide +kernel
theorem dX2_joinBranches_80 : decode cX2_joinBranches 80 = .ok (.aload_n 0, 1) := by decide +kernel
theorem dX2_joinBranches_81 : decode cX2_joinBranches 81 = .ok (.iload_n 1, 1) := by decide +kernel
theorem dX2_joinBranches_82 : decode cX2_joinBranches 82 = .ok (.iload 7, 2) := by decide +kernel
theorem dX2_joinBranches_84 : decode cX2_joinBranches 84 = .ok (.invokevirtual 84, 3) := by decide +kernel
theorem dX2_joinBranches_87 : decode cX2_joinBranches 87 = .ok (.invokevirtual 101, 3) := by decide +kernel
theorem dX2_joinBranches_90 : decode cX2_joinBranches 90 = .ok (.istore 6, 2) := by decide +kernel
theorem dX2_joinBranches_92 : decode cX2_joinBranches 92 = .ok (.iinc 7 1, 3) := by decide +kernel
theorem dX2_joinBranches_95 : decode cX2_joinBranches 95 = .ok (.goto (-34), 3) := by decide +kernel
theorem dX2_joinBranches_98 : decode cX2_joinBranches 98 = .ok (.iload 6, 2) := by decide +kernel
theorem dX2_joinBranches_100 : decode cX2_joinBranches 100 = .ok (.ireturn, 1) := by decide +kernel
theorem dX2_typeOf_0 : decode cX2_typeOf 0 = .ok (.aload_n 0, 1) := by decide +kernel
theorem dX2_typeOf_1 : decode cX2_typeOf 1 = .ok (.getfield 36, 3) := by decide +kernel
theorem dX2_typeOf_4 : decode cX2_typeOf 4 = .ok (.iload_n 1, 1) := by decide +kernel
theorem dX2_typeOf_5 : decode cX2_typeOf 5 = .ok (.invokevirtual 72, 3) := by decide +kernel
theorem dX2_typeOf_8 : decode cX2_typeOf 8 = .ok (.tableswitch 296 20 33 #[72, 85, 106, 123, 132, 154, 176, 176, 185, 211, 217, 238, 269, 275], 72) := by decide +kernel
theorem dX2_typeOf_80 : decode cX2_typeOf 80 = .ok (.aload_n 0, 1) := by decide +kernel
theorem dX2_typeOf_81 : decode cX2_typeOf 81 = .ok (.aload_n 0, 1) := by decide +kernel
theorem dX2_typeOf_82 : decode cX2_typeOf 82 = .ok (.getfield 36, 3) := by decide +kernel
theorem dX2_typeOf_85 : decode cX2_typeOf 85 = .ok (.iload_n 1, 1) := by decide +kernel
theorem dX2_typeOf_86 : decode cX2_typeOf 86 = .ok (.invokevirtual 106, 3) := by decide +kernel
theorem dX2_typeOf_89 : decode cX2_typeOf 89 = .ok (.invokevirtual 109, 3) := by decide +kernel
theorem dX2_typeOf_92 : decode cX2_typeOf 92 = .ok (.ireturn, 1) := by decide +kernel
theorem dX2_typeOf_93 : decode cX2_typeOf 93 = .ok (.aload_n 0, 1) := by decide +kernel
theorem dX2_typeOf_94 : decode cX2_typeOf 94 = .ok (.aload_n 0, 1) := by decide +kernel
theorem dX2_typeOf_95 : decode cX2_typeOf 95 = .ok (.getfield 36, 3) := by decide +kernel
theorem dX2_typeOf_98 : decode cX2_typeOf 98 = .ok (.iload_n 1, 1) := by decide +kernel
theorem dX2_typeOf_99 : decode cX2_typeOf 99 = .ok (.iconst 1, 1) := by decide +kernel
theorem dX2_typeOf_100 : decode cX2_typeOf 100 = .ok (.iadd, 1) := by decide +kernel
theorem dX2_typeOf_101 : decode cX2_typeOf 101 = .ok (.invokevirtual 72, 3) := by decide +kernel
theorem dX2_typeOf_104 : decode cX2_typeOf 104 = .ok (.aload_n 0, 1) := by decide +kernel
theorem dX2_typeOf_105 : decode cX2_typeOf 105 = .ok (.iload_n 1, 1) := by decide +kernel
theorem dX2_typeOf_106 : decode cX2_typeOf 106 = .ok (.iconst 0, 1) := by decide +kernel
theorem dX2_typeOf_107 : decode cX2_typeOf 107 = .ok (.invokevirtual 84, 3) := by decide +kernel
theorem dX2_typeOf_110 : decode cX2_typeOf 110 = .ok (.invokevirtual 112, 3) := by decide +kernel
theorem dX2_typeOf_113 : decode cX2_typeOf 113 = .ok (.ireturn, 1) := by decide +kernel
theorem dX2_typeOf_114 : decode cX2_typeOf 114 = .ok (.aload_n 0, 1) := by decide +kernel
theorem dX2_typeOf_115 : decode cX2_typeOf 115 = .ok (.aload_n 0, 1) := by decide +kernel
theorem dX2_typeOf_116 : decode cX2_typeOf 116 = .ok (.iload_n 1, 1) := by decide +kernel
theorem dX2_typeOf_117 : decode cX2_typeOf 117 = .ok (.iconst 0, 1) := by decide +kernel
theorem dX2_typeOf_118 : decode cX2_typeOf 118 = .ok (.invokevirtual 84, 3) := by decide +kernel
theorem dX2_typeOf_121 : decode cX2_typeOf 121 = .ok (.aload_n 0, 1) := by decide +kernel
theorem dX2_typeOf_122 : decode cX2_typeOf 122 = .ok (.iload_n 1, 1) := by decide +kernel
theorem dX2_typeOf_123 : decode cX2_typeOf 123 = .ok (.iconst 1, 1) := by decide +kernel
theorem dX2_typeOf_124 : decode cX2_typeOf 124 = .ok (.invokevirtual 84, 3) := by decide +kernel
theorem dX2_typeOf_127 : decode cX2_typeOf 127 = .ok (.invokevirtual 115, 3) := by decide +kernel
theorem dX2_typeOf_130 : decode cX2_typeOf 130 = .ok (.ireturn, 1) := by decide +kernel
theorem dX2_typeOf_131 : decode cX2_typeOf 131 = .ok (.aload_n 0, 1) := by decide +kernel
theorem dX2_typeOf_132 : decode cX2_typeOf 132 = .ok (.getfield 24, 3) := by decide +kernel
theorem dX2_typeOf_135 : decode cX2_typeOf 135 = .ok (.iconst 2, 1) := by decide +kernel
theorem dX2_typeOf_136 : decode cX2_typeOf 136 = .ok (.invokevirtual 95, 3) := by decide +kernel
theorem dX2_typeOf_139 : decode cX2_typeOf 139 = .ok (.ireturn, 1) := by decide +kernel
theorem dX2_typeOf_140 : decode cX2_typeOf 140 = .ok (.aload_n 0, 1) := by decide +kernel
theorem dX2_typeOf_141 : decode cX2_typeOf 141 = .ok (.iload_n 1, 1) := by decide +kernel
theorem dX2_typeOf_142 : decode cX2_typeOf 142 = .ok (.invokevirtual 118, 3) := by decide +kernel
theorem dX2_typeOf_145 : decode cX2_typeOf 145 = .ok (.ifCond .eq 14, 3) := by decide +kernel
theorem dX2_typeOf_148 : decode cX2_typeOf 148 = .ok (.aload_n 0, 1) := by decide +kernel
theorem dX2_typeOf_149 : decode cX2_typeOf 149 = .ok (.getfield 24, 3) := by decide +kernel
theorem dX2_typeOf_152 : decode cX2_typeOf 152 = .ok (.iconst 2, 1) := by decide +kernel
theorem dX2_typeOf_153 : decode cX2_typeOf 153 = .ok (.invokevirtual 95, 3) := by decide +kernel
theorem dX2_typeOf_156 : decode cX2_typeOf 156 = .ok (.goto 5, 3) := by decide +kernel
theorem dX2_typeOf_159 : decode cX2_typeOf 159 = .ok (.bipush (-15), 2) := by decide +kernel
theorem dX2_typeOf_161 : decode cX2_typeOf 161 = .ok (.ireturn, 1) := by decide +kernel
theorem dX2_typeOf_162 : decode cX2_typeOf 162 = .ok (.aload_n 0, 1) := by decide +kernel
theorem dX2_typeOf_163 : decode cX2_typeOf 163 = .ok (.iload_n 1, 1) := by decide +kernel
theorem dX2_typeOf_164 : decode cX2_typeOf 164 = .ok (.invokevirtual 118, 3) := by decide +kernel
theorem dX2_typeOf_167 : decode cX2_typeOf 167 = .ok (.ifCond .eq 14, 3) := by decide +kernel
theorem dX2_typeOf_170 : decode cX2_typeOf 170 = .ok (.aload_n 0, 1) := by decide +kernel
theorem dX2_typeOf_171 : decode cX2_typeOf 171 = .ok (.getfield 24, 3) := by decide +kernel
theorem dX2_typeOf_174 : decode cX2_typeOf 174 = .ok (.iconst 3, 1) := by decide +kernel
theorem dX2_typeOf_175 : decode cX2_typeOf 175 = .ok (.invokevirtual 95, 3) := by decide +kernel
theorem dX2_typeOf_178 : decode cX2_typeOf 178 = .ok (.goto 5, 3) := by decide +kernel
theorem dX2_typeOf_181 : decode cX2_typeOf 181 = .ok (.bipush (-15), 2) := by decide +kernel
theorem dX2_typeOf_183 : decode cX2_typeOf 183 = .ok (.ireturn, 1) := by decide +kernel
theorem dX2_typeOf_184 : decode cX2_typeOf 184 = .ok (.aload_n 0, 1) := by decide +kernel
theorem dX2_typeOf_185 : decode cX2_typeOf 185 = .ok (.getfield 24, 3) := by decide +kernel
theorem dX2_typeOf_188 : decode cX2_typeOf 188 = .ok (.iconst 3, 1) := by decide +kernel
theorem dX2_typeOf_189 : decode cX2_typeOf 189 = .ok (.invokevirtual 95, 3) := by decide +kernel
theorem dX2_typeOf_192 : decode cX2_typeOf 192 = .ok (.ireturn, 1) := by decide +kernel
theorem dX2_typeOf_193 : decode cX2_typeOf 193 = .ok (.aload_n 0, 1) := by decide +kernel
theorem dX2_typeOf_194 : decode cX2_typeOf 194 = .ok (.aload_n 0, 1) := by decide +kernel
theorem dX2_typeOf_195 : decode cX2_typeOf 195 = .ok (.iload_n 1, 1) := by decide +kernel
theorem dX2_typeOf_196 : decode cX2_typeOf 196 = .ok (.iconst 0, 1) := by decide +kernel
theorem dX2_typeOf_197 : decode cX2_typeOf 197 = .ok (.invokevirtual 84, 3) := by decide +kernel
theorem dX2_typeOf_200 : decode cX2_typeOf 200 = .ok (.iconst 3, 1) := by decide +kernel
theorem dX2_typeOf_201 : decode cX2_typeOf 201 = .ok (.invokevirtual 122, 3) := by decide +kernel
theorem dX2_typeOf_204 : decode cX2_typeOf 204 = .ok (.ifCond .eq 12, 3) := by decide +kernel
theorem dX2_typeOf_207 : decode cX2_typeOf 207 = .ok (.aload_n 0, 1) := by decide +kernel
theorem dX2_typeOf_208 : decode cX2_typeOf 208 = .ok (.iload_n 1, 1) := by decide +kernel
theorem dX2_typeOf_209 : decode cX2_typeOf 209 = .ok (.iconst 1, 1) := by decide +kernel
theorem dX2_typeOf_210 : decode cX2_typeOf 210 = .ok (.invokevirtual 84, 3) := by decide +kernel
theorem dX2_typeOf_213 : decode cX2_typeOf 213 = .ok (.goto 5, 3) := by decide +kernel
theorem dX2_typeOf_216 : decode cX2_typeOf 216 = .ok (.bipush (-15), 2) := by decide +kernel
theorem dX2_typeOf_218 : decode cX2_typeOf 218 = .ok (.ireturn, 1) := by decide +kernel
theorem dX2_typeOf_219 : decode cX2_typeOf 219 = .ok (.aload_n 0, 1) := by decide +kernel
theorem dX2_typeOf_220 : decode cX2_typeOf 220 = .ok (.iload_n 1, 1) := by decide +kernel
theorem dX2_typeOf_221 : decode cX2_typeOf 221 = .ok (.invokevirtual 126, 3) := by decide +kernel
theorem dX2_typeOf_224 : decode cX2_typeOf 224 = .ok (.ireturn, 1) := by decide +kernel
theorem dX2_typeOf_225 : decode cX2_typeOf 225 = .ok (.aload_n 0, 1) := by decide +kernel
theorem dX2_typeOf_226 : decode cX2_typeOf 226 = .ok (.aload_n 0, 1) := by decide +kernel
theorem dX2_typeOf_227 : decode cX2_typeOf 227 = .ok (.iload_n 1, 1) := by decide +kernel
theorem dX2_typeOf_228 : decode cX2_typeOf 228 = .ok (.iconst 0, 1) := by decide +kernel
theorem dX2_typeOf_229 : decode cX2_typeOf 229 = .ok (.invokevirtual 84, 3) := by decide +kernel
theorem dX2_typeOf_232 : decode cX2_typeOf 232 = .ok (.aload_n 0, 1) := by decide +kernel
theorem dX2_typeOf_233 : decode cX2_typeOf 233 = .ok (.getfield 36, 3) := by decide +kernel
theorem dX2_typeOf_236 : decode cX2_typeOf 236 = .ok (.iload_n 1, 1) := by decide +kernel
theorem dX2_typeOf_237 : decode cX2_typeOf 237 = .ok (.iconst 1, 1) := by decide +kernel
theorem dX2_typeOf_238 : decode cX2_typeOf 238 = .ok (.iadd, 1) := by decide +kernel
theorem dX2_typeOf_239 : decode cX2_typeOf 239 = .ok (.invokevirtual 72, 3) := by decide +kernel
theorem dX2_typeOf_242 : decode cX2_typeOf 242 = .ok (.invokevirtual 129, 3) := by decide +kernel
theorem dX2_typeOf_245 : decode cX2_typeOf 245 = .ok (.ireturn, 1) := by decide +kernel
theorem dX2_typeOf_246 : decode cX2_typeOf 246 = .ok (.aload_n 0, 1) := by decide +kernel
theorem dX2_typeOf_247 : decode cX2_typeOf 247 = .ok (.aload_n 0, 1) := by decide +kernel
theorem dX2_typeOf_248 : decode cX2_typeOf 248 = .ok (.getfield 36, 3) := by decide +kernel
theorem dX2_typeOf_251 : decode cX2_typeOf 251 = .ok (.iload_n 1, 1) := by decide +kernel
theorem dX2_typeOf_252 : decode cX2_typeOf 252 = .ok (.iconst 1, 1) := by decide +kernel
theorem dX2_typeOf_253 : decode cX2_typeOf 253 = .ok (.iadd, 1) := by decide +kernel
theorem dX2_typeOf_254 : decode cX2_typeOf 254 = .ok (.invokevirtual 72, 3) := by decide +kernel
theorem dX2_typeOf_257 : decode cX2_typeOf 257 = .ok (.aload_n 0, 1) := by decide +kernel
theorem dX2_typeOf_258 : decode cX2_typeOf 258 = .ok (.getfield 36, 3) := by decide +kernel
theorem dX2_typeOf_261 : decode cX2_typeOf 261 = .ok (.iload_n 1, 1) := by decide +kernel
theorem dX2_typeOf_262 : decode cX2_typeOf 262 = .ok (.iconst 2, 1) := by decide +kernel
theorem dX2_typeOf_263 : decode cX2_typeOf 263 = .ok (.iadd, 1) := by decide +kernel
theorem dX2_typeOf_264 : decode cX2_typeOf 264 = .ok (.invokevirtual 72, 3) := by decide +kernel
theorem dX2_typeOf_267 : decode cX2_typeOf 267 = .ok (.aload_n 0, 1) := by decide +kernel
theorem dX2_typeOf_268 : decode cX2_typeOf 268 = .ok (.iload_n 1, 1) := by decide +kernel
theorem dX2_typeOf_269 : decode cX2_typeOf 269 = .ok (.iconst 0, 1) := by decide +kernel
theorem dX2_typeOf_270 : decode cX2_typeOf 270 = .ok (.invokevirtual 84, 3) := by decide +kernel
theorem dX2_typeOf_273 : decode cX2_typeOf 273 = .ok (.invokevirtual 132, 3) := by decide +kernel
theorem dX2_typeOf_276 : decode cX2_typeOf 276 = .ok (.ireturn, 1) := by decide +kernel
theorem dX2_typeOf_277 : decode cX2_typeOf 277 = .ok (.aload_n 0, 1) := by decide +kernel
theorem dX2_typeOf_278 : decode cX2_typeOf 278 = .ok (.iload_n 1, 1) := by decide +kernel
theorem dX2_typeOf_279 : decode cX2_typeOf 279 = .ok (.invokevirtual 135, 3) := by decide +kernel
theorem dX2_typeOf_282 : decode cX2_typeOf 282 = .ok (.ireturn, 1) := by decide +kernel
theorem dX2_typeOf_283 : decode cX2_typeOf 283 = .ok (.aload_n 0, 1) := by decide +kernel
theorem dX2_typeOf_284 : decode cX2_typeOf 284 = .ok (.aload_n 0, 1) := by decide +kernel
theorem dX2_typeOf_285 : decode cX2_typeOf 285 = .ok (.getfield 36, 3) := by decide +kernel
theorem dX2_typeOf_288 : decode cX2_typeOf 288 = .ok (.iload_n 1, 1) := by decide +kernel
theorem dX2_typeOf_289 : decode cX2_typeOf 289 = .ok (.iconst 1, 1) := by decide +kernel
theorem dX2_typeOf_290 : decode cX2_typeOf 290 = .ok (.iadd, 1) := by decide +kernel
theorem dX2_typeOf_291 : decode cX2_typeOf 291 = .ok (.invokevirtual 72, 3) := by decide +kernel
theorem dX2_typeOf_294 : decode cX2_typeOf 294 = .ok (.aload_n 0, 1) := by decide +kernel
theorem dX2_typeOf_295 : decode cX2_typeOf 295 = .ok (.iload_n 1, 1) := by decide +kernel
theorem dX2_typeOf_296 : decode cX2_typeOf 296 = .ok (.iconst 0, 1) := by decide +kernel
theorem dX2_typeOf_297 : decode cX2_typeOf 297 = .ok (.invokevirtual 84, 3) := by decide +kernel
theorem dX2_typeOf_300 : decode cX2_typeOf 300 = .ok (.invokevirtual 138, 3) := by decide +kernel
theorem dX2_typeOf_303 : decode cX2_typeOf 303 = .ok (.ireturn, 1) := by decide +kernel
theorem dX2_typeOf_304 : decode cX2_typeOf 304 = .ok (.bipush (-15), 2) := by decide +kernel
theorem dX2_typeOf_306 : decode cX2_typeOf 306 = .ok (.ireturn, 1) := by decide +kernel
theorem dX2_isOrNothing_0 : decode cX2_isOrNothing 0 = .ok (.aload_n 0, 1) := by decide +kernel
theorem dX2_isOrNothing_1 : decode cX2_isOrNothing 1 = .ok (.getfield 24, 3) := by decide +kernel
theorem dX2_isOrNothing_4 : decode cX2_isOrNothing 4 = .ok (.iload_n 1, 1) := by decide +kernel
theorem dX2_isOrNothing_5 : decode cX2_isOrNothing 5 = .ok (.invokevirtual 87, 3) := by decide +kernel
theorem dX2_isOrNothing_8 : decode cX2_isOrNothing 8 = .ok (.iload_n 2, 1) := by decide +kernel
theorem dX2_isOrNothing_9 : decode cX2_isOrNothing 9 = .ok (.if_icmp .eq 15, 3) := by decide +kernel
theorem dX2_isOrNothing_12 : decode cX2_isOrNothing 12 = .ok (.aload_n 0, 1) := by decide +kernel
theorem dX2_isOrNothing_13 : decode cX2_isOrNothing 13 = .ok (.getfield 24, 3) := by decide +kernel
theorem dX2_isOrNothing_16 : decode cX2_isOrNothing 16 = .ok (.iload_n 1, 1) := by decide +kernel
theorem dX2_isOrNothing_17 : decode cX2_isOrNothing 17 = .ok (.invokevirtual 87, 3) := by decide +kernel
theorem dX2_isOrNothing_20 : decode cX2_isOrNothing 20 = .ok (.iconst 1, 1) := by decide +kernel
theorem dX2_isOrNothing_21 : decode cX2_isOrNothing 21 = .ok (.if_icmp .ne 7, 3) := by decide +kernel
theorem dX2_isOrNothing_24 : decode cX2_isOrNothing 24 = .ok (.iconst 1, 1) := by decide +kernel
theorem dX2_isOrNothing_25 : decode cX2_isOrNothing 25 = .ok (.goto 4, 3) := by decide +kernel
theorem dX2_isOrNothing_28 : decode cX2_isOrNothing 28 = .ok (.iconst 0, 1) := by decide +kernel
theorem dX2_isOrNothing_29 : decode cX2_isOrNothing 29 = .ok (.ireturn, 1) := by decide +kernel
theorem dX2_bothNumbers_0 : decode cX2_bothNumbers 0 = .ok (.aload_n 0, 1) := by decide +kernel
theorem dX2_bothNumbers_1 : decode cX2_bothNumbers 1 = .ok (.aload_n 0, 1) := by decide +kernel
theorem dX2_bothNumbers_2 : decode cX2_bothNumbers 2 = .ok (.iload_n 1, 1) := by decide +kernel
theorem dX2_bothNumbers_3 : decode cX2_bothNumbers 3 = .ok (.iconst 0, 1) := by decide +kernel
theorem dX2_bothNumbers_4 : decode cX2_bothNumbers 4 = .ok (.invokevirtual 84, 3) := by decide +kernel
theorem dX2_bothNumbers_7 : decode cX2_bothNumbers 7 = .ok (.iconst 2, 1) := by decide +kernel
theorem dX2_bothNumbers_8 : decode cX2_bothNumbers 8 = .ok (.invokevirtual 122, 3) := by decide +kernel
theorem dX2_bothNumbers_11 : decode cX2_bothNumbers 11 = .ok (.ifCond .eq 21, 3) := by decide +kernel
theorem dX2_bothNumbers_14 : decode cX2_bothNumbers 14 = .ok (.aload_n 0, 1) := by decide +kernel
theorem dX2_bothNumbers_15 : decode cX2_bothNumbers 15 = .ok (.aload_n 0, 1) := by decide +kernel
theorem dX2_bothNumbers_16 : decode cX2_bothNumbers 16 = .ok (.iload_n 1, 1) := by decide +kernel
theorem dX2_bothNumbers_17 : decode cX2_bothNumbers 17 = .ok (.iconst 1, 1) := by decide +kernel
theorem dX2_bothNumbers_18 : decode cX2_bothNumbers 18 = .ok (.invokevirtual 84, 3) := by decide +kernel
theorem dX2_bothNumbers_21 : decode cX2_bothNumbers 21 = .ok (.iconst 2, 1) := by decide +kernel
theorem dX2_bothNumbers_22 : decode cX2_bothNumbers 22 = .ok (.invokevirtual 122, 3) := by decide +kernel
theorem dX2_bothNumbers_25 : decode cX2_bothNumbers 25 = .ok (.ifCond .eq 7, 3) := by decide +kernel
theorem dX2_bothNumbers_28 : decode cX2_bothNumbers 28 = .ok (.iconst 1, 1) := by decide +kernel
theorem dX2_bothNumbers_29 : decode cX2_bothNumbers 29 = .ok (.goto 4, 3) := by decide +kernel
theorem dX2_bothNumbers_32 : decode cX2_bothNumbers 32 = .ok (.iconst 0, 1) := by decide +kernel
theorem dX2_bothNumbers_33 : decode cX2_bothNumbers 33 = .ok (.ireturn, 1) := by decide +kernel
theorem dX2_typeOfVariable_0 : decode cX2_typeOfVariable 0 = .ok (.iload_n 1, 1) := by decide +kernel
theorem dX2_typeOfVariable_1 : decode cX2_typeOfVariable 1 = .ok (.ifCond .lt 19, 3) := by decide +kernel
theorem dX2_typeOfVariable_4 : decode cX2_typeOfVariable 4 = .ok (.iload_n 1, 1) := by decide +kernel
theorem dX2_typeOfVariable_5 : decode cX2_typeOfVariable 5 = .ok (.sipush 200, 3) := by decide +kernel
theorem dX2_typeOfVariable_8 : decode cX2_typeOfVariable 8 = .ok (.if_icmp .ge 12, 3) := by decide +kernel
theorem dX2_typeOfVariable_11 : decode cX2_typeOfVariable 11 = .ok (.aload_n 0, 1) := by decide +kernel
theorem dX2_typeOfVariable_12 : decode cX2_typeOfVariable 12 = .ok (.getfield 15, 3) := by decide +kernel
theorem dX2_typeOfVariable_15 : decode cX2_typeOfVariable 15 = .ok (.iload_n 1, 1) := by decide +kernel
theorem dX2_typeOfVariable_16 : decode cX2_typeOfVariable 16 = .ok (.iaload, 1) := by decide +kernel
theorem dX2_typeOfVariable_17 : decode cX2_typeOfVariable 17 = .ok (.goto 5, 3) := by decide +kernel
theorem dX2_typeOfVariable_20 : decode cX2_typeOfVariable 20 = .ok (.bipush (-15), 2) := by decide +kernel
theorem dX2_typeOfVariable_22 : decode cX2_typeOfVariable 22 = .ok (.ireturn, 1) := by decide +kernel
theorem dX2_typeOfLambda_0 : decode cX2_typeOfLambda 0 = .ok (.aload_n 0, 1) := by decide +kernel
theorem dX2_typeOfLambda_1 : decode cX2_typeOfLambda 1 = .ok (.getfield 24, 3) := by decide +kernel
theorem dX2_typeOfLambda_4 : decode cX2_typeOfLambda 4 = .ok (.iconst 4, 1) := by decide +kernel
theorem dX2_typeOfLambda_5 : decode cX2_typeOfLambda 5 = .ok (.invokevirtual 95, 3) := by decide +kernel
theorem dX2_typeOfLambda_8 : decode cX2_typeOfLambda 8 = .ok (.istore_n 3, 1) := by decide +kernel
theorem dX2_typeOfLambda_9 : decode cX2_typeOfLambda 9 = .ok (.aload_n 0, 1) := by decide +kernel
theorem dX2_typeOfLambda_10 : decode cX2_typeOfLambda 10 = .ok (.getfield 24, 3) := by decide +kernel
theorem dX2_typeOfLambda_13 : decode cX2_typeOfLambda 13 = .ok (.iload_n 3, 1) := by decide +kernel
theorem dX2_typeOfLambda_14 : decode cX2_typeOfLambda 14 = .ok (.iconst 0, 1) := by decide +kernel
theorem dX2_typeOfLambda_15 : decode cX2_typeOfLambda 15 = .ok (.iload_n 1, 1) := by decide +kernel
theorem dX2_typeOfLambda_16 : decode cX2_typeOfLambda 16 = .ok (.invokevirtual 141, 3) := by decide +kernel
theorem dX2_typeOfLambda_19 : decode cX2_typeOfLambda 19 = .ok (.aload_n 0, 1) := by decide +kernel
theorem dX2_typeOfLambda_20 : decode cX2_typeOfLambda 20 = .ok (.getfield 24, 3) := by decide +kernel
theorem dX2_typeOfLambda_23 : decode cX2_typeOfLambda 23 = .ok (.iload_n 3, 1) := by decide +kernel
theorem dX2_typeOfLambda_24 : decode cX2_typeOfLambda 24 = .ok (.iconst 1, 1) := by decide +kernel
theorem dX2_typeOfLambda_25 : decode cX2_typeOfLambda 25 = .ok (.iload_n 2, 1) := by decide +kernel
theorem dX2_typeOfLambda_26 : decode cX2_typeOfLambda 26 = .ok (.invokevirtual 141, 3) := by decide +kernel
theorem dX2_typeOfLambda_29 : decode cX2_typeOfLambda 29 = .ok (.iload_n 3, 1) := by decide +kernel
theorem dX2_typeOfLambda_30 : decode cX2_typeOfLambda 30 = .ok (.ireturn, 1) := by decide +kernel
theorem dX2_typeOfApply_0 : decode cX2_typeOfApply 0 = .ok (.aload_n 0, 1) := by decide +kernel
theorem dX2_typeOfApply_1 : decode cX2_typeOfApply 1 = .ok (.getfield 24, 3) := by decide +kernel
theorem dX2_typeOfApply_4 : decode cX2_typeOfApply 4 = .ok (.iload_n 1, 1) := by decide +kernel
theorem dX2_typeOfApply_5 : decode cX2_typeOfApply 5 = .ok (.invokevirtual 87, 3) := by decide +kernel
theorem dX2_typeOfApply_8 : decode cX2_typeOfApply 8 = .ok (.iconst 1, 1) := by decide +kernel
theorem dX2_typeOfApply_9 : decode cX2_typeOfApply 9 = .ok (.if_icmp .ne 5, 3) := by decide +kernel
theorem dX2_typeOfApply_12 : decode cX2_typeOfApply 12 = .ok (.iload_n 1, 1) := by decide +kernel
theorem dX2_typeOfApply_13 : decode cX2_typeOfApply 13 = .ok (.ireturn, 1) := by decide +kernel
theorem dX2_typeOfApply_14 : decode cX2_typeOfApply 14 = .ok (.aload_n 0, 1) := by decide +kernel
theorem dX2_typeOfApply_15 : decode cX2_typeOfApply 15 = .ok (.getfield 24, 3) := by decide +kernel
theorem dX2_typeOfApply_18 : decode cX2_typeOfApply 18 = .ok (.iload_n 1, 1) := by decide +kernel
theorem dX2_typeOfApply_19 : decode cX2_typeOfApply 19 = .ok (.invokevirtual 87, 3) := by decide +kernel
theorem dX2_typeOfApply_22 : decode cX2_typeOfApply 22 = .ok (.iconst 4, 1) := by decide +kernel
theorem dX2_typeOfApply_23 : decode cX2_typeOfApply 23 = .ok (.if_icmp .ne 28, 3) := by decide +kernel
theorem dX2_typeOfApply_26 : decode cX2_typeOfApply 26 = .ok (.aload_n 0, 1) := by decide +kernel
theorem dX2_typeOfApply_27 : decode cX2_typeOfApply 27 = .ok (.getfield 28, 3) := by decide +kernel
theorem dX2_typeOfApply_30 : decode cX2_typeOfApply 30 = .ok (.iload_n 2, 1) := by decide +kernel
theorem dX2_typeOfApply_31 : decode cX2_typeOfApply 31 = .ok (.aload_n 0, 1) := by decide +kernel
theorem dX2_typeOfApply_32 : decode cX2_typeOfApply 32 = .ok (.getfield 24, 3) := by decide +kernel
theorem dX2_typeOfApply_35 : decode cX2_typeOfApply 35 = .ok (.iload_n 1, 1) := by decide +kernel
theorem dX2_typeOfApply_36 : decode cX2_typeOfApply 36 = .ok (.iconst 0, 1) := by decide +kernel
theorem dX2_typeOfApply_37 : decode cX2_typeOfApply 37 = .ok (.invokevirtual 92, 3) := by decide +kernel
theorem dX2_typeOfApply_40 : decode cX2_typeOfApply 40 = .ok (.invokevirtual 145, 3) := by decide +kernel
theorem dX2_typeOfApply_43 : decode cX2_typeOfApply 43 = .ok (.iconst (-1), 1) := by decide +kernel
theorem dX2_typeOfApply_44 : decode cX2_typeOfApply 44 = .ok (.if_icmp .ne 7, 3) := by decide +kernel
theorem dX2_typeOfApply_47 : decode cX2_typeOfApply 47 = .ok (.iconst 1, 1) := by decide +kernel
theorem dX2_typeOfApply_48 : decode cX2_typeOfApply 48 = .ok (.goto 4, 3) := by decide +kernel
theorem dX2_typeOfApply_51 : decode cX2_typeOfApply 51 = .ok (.iconst 0, 1) := by decide +kernel
theorem dX2_typeOfApply_52 : decode cX2_typeOfApply 52 = .ok (.istore_n 3, 1) := by decide +kernel
theorem dX2_typeOfApply_53 : decode cX2_typeOfApply 53 = .ok (.iload_n 3, 1) := by decide +kernel
theorem dX2_typeOfApply_54 : decode cX2_typeOfApply 54 = .ok (.ifCond .eq 15, 3) := by decide +kernel
theorem dX2_typeOfApply_57 : decode cX2_typeOfApply 57 = .ok (.aload_n 0, 1) := by decide +kernel
theorem dX2_typeOfApply_58 : decode cX2_typeOfApply 58 = .ok (.getfield 24, 3) := by decide +kernel
theorem dX2_typeOfApply_61 : decode cX2_typeOfApply 61 = .ok (.iload_n 1, 1) := by decide +kernel
theorem dX2_typeOfApply_62 : decode cX2_typeOfApply 62 = .ok (.iconst 1, 1) := by decide +kernel
theorem dX2_typeOfApply_63 : decode cX2_typeOfApply 63 = .ok (.invokevirtual 92, 3) := by decide +kernel
theorem dX2_typeOfApply_66 : decode cX2_typeOfApply 66 = .ok (.goto 5, 3) := by decide +kernel
theorem dX2_typeOfApply_69 : decode cX2_typeOfApply 69 = .ok (.bipush (-15), 2) := by decide +kernel
theorem dX2_typeOfApply_71 : decode cX2_typeOfApply 71 = .ok (.ireturn, 1) := by decide +kernel
theorem dX2_typeOfGather_0 : decode cX2_typeOfGather 0 = .ok (.aload_n 0, 1) := by decide +kernel
theorem dX2_typeOfGather_1 : decode cX2_typeOfGather 1 = .ok (.getfield 24, 3) := by decide +kernel
theorem dX2_typeOfGather_4 : decode cX2_typeOfGather 4 = .ok (.iconst 5, 1) := by decide +kernel
theorem dX2_typeOfGather_5 : decode cX2_typeOfGather 5 = .ok (.invokevirtual 95, 3) := by decide +kernel
theorem dX2_typeOfGather_8 : decode cX2_typeOfGather 8 = .ok (.istore_n 2, 1) := by decide +kernel
theorem dX2_typeOfGather_9 : decode cX2_typeOfGather 9 = .ok (.iconst 0, 1) := by decide +kernel
theorem dX2_typeOfGather_10 : decode cX2_typeOfGather 10 = .ok (.istore_n 3, 1) := by decide +kernel
theorem dX2_typeOfGather_11 : decode cX2_typeOfGather 11 = .ok (.iload_n 3, 1) := by decide +kernel
theorem dX2_typeOfGather_12 : decode cX2_typeOfGather 12 = .ok (.aload_n 0, 1) := by decide +kernel
theorem dX2_typeOfGather_13 : decode cX2_typeOfGather 13 = .ok (.getfield 36, 3) := by decide +kernel
theorem dX2_typeOfGather_16 : decode cX2_typeOfGather 16 = .ok (.iload_n 1, 1) := by decide +kernel
theorem dX2_typeOfGather_17 : decode cX2_typeOfGather 17 = .ok (.invokevirtual 81, 3) := by decide +kernel
theorem dX2_typeOfGather_20 : decode cX2_typeOfGather 20 = .ok (.if_icmp .ge 39, 3) := by decide +kernel
theorem dX2_typeOfGather_23 : decode cX2_typeOfGather 23 = .ok (.aload_n 0, 1) := by decide +kernel
theorem dX2_typeOfGather_24 : decode cX2_typeOfGather 24 = .ok (.getfield 24, 3) := by decide +kernel
theorem dX2_typeOfGather_27 : decode cX2_typeOfGather 27 = .ok (.iload_n 2, 1) := by decide +kernel
theorem dX2_typeOfGather_28 : decode cX2_typeOfGather 28 = .ok (.aload_n 0, 1) := by decide +kernel
theorem dX2_typeOfGather_29 : decode cX2_typeOfGather 29 = .ok (.getfield 36, 3) := by decide +kernel
theorem dX2_typeOfGather_32 : decode cX2_typeOfGather 32 = .ok (.aload_n 0, 1) := by decide +kernel
theorem dX2_typeOfGather_33 : decode cX2_typeOfGather 33 = .ok (.getfield 36, 3) := by decide +kernel
theorem dX2_typeOfGather_36 : decode cX2_typeOfGather 36 = .ok (.iload_n 1, 1) := by decide +kernel
theorem dX2_typeOfGather_37 : decode cX2_typeOfGather 37 = .ok (.iload_n 3, 1) := by decide +kernel
theorem dX2_typeOfGather_38 : decode cX2_typeOfGather 38 = .ok (.invokevirtual 98, 3) := by decide +kernel
theorem dX2_typeOfGather_41 : decode cX2_typeOfGather 41 = .ok (.invokevirtual 75, 3) := by decide +kernel
theorem dX2_typeOfGather_44 : decode cX2_typeOfGather 44 = .ok (.aload_n 0, 1) := by decide +kernel
theorem dX2_typeOfGather_45 : decode cX2_typeOfGather 45 = .ok (.iload_n 1, 1) := by decide +kernel
theorem dX2_typeOfGather_46 : decode cX2_typeOfGather 46 = .ok (.iload_n 3, 1) := by decide +kernel
theorem dX2_typeOfGather_47 : decode cX2_typeOfGather 47 = .ok (.invokevirtual 84, 3) := by decide +kernel
theorem dX2_typeOfGather_50 : decode cX2_typeOfGather 50 = .ok (.invokevirtual 141, 3) := by decide +kernel
theorem dX2_typeOfGather_53 : decode cX2_typeOfGather 53 = .ok (.iinc 3 1, 3) := by decide +kernel
theorem dX2_typeOfGather_56 : decode cX2_typeOfGather 56 = .ok (.goto (-45), 3) := by decide +kernel
theorem dX2_typeOfGather_59 : decode cX2_typeOfGather 59 = .ok (.iload_n 2, 1) := by decide +kernel
theorem dX2_typeOfGather_60 : decode cX2_typeOfGather 60 = .ok (.ireturn, 1) := by decide +kernel
theorem dX2_typeOfPick_0 : decode cX2_typeOfPick 0 = .ok (.aload_n 0, 1) := by decide +kernel
theorem dX2_typeOfPick_1 : decode cX2_typeOfPick 1 = .ok (.getfield 24, 3) := by decide +kernel
theorem dX2_typeOfPick_4 : decode cX2_typeOfPick 4 = .ok (.iload_n 1, 1) := by decide +kernel
theorem dX2_typeOfPick_5 : decode cX2_typeOfPick 5 = .ok (.invokevirtual 87, 3) := by decide +kernel
theorem dX2_typeOfPick_8 : decode cX2_typeOfPick 8 = .ok (.iconst 1, 1) := by decide +kernel
theorem dX2_typeOfPick_9 : decode cX2_typeOfPick 9 = .ok (.if_icmp .ne 5, 3) := by decide +kernel
theorem dX2_typeOfPick_12 : decode cX2_typeOfPick 12 = .ok (.iload_n 1, 1) := by decide +kernel
theorem dX2_typeOfPick_13 : decode cX2_typeOfPick 13 = .ok (.ireturn, 1) := by decide +kernel
theorem dX2_typeOfPick_14 : decode cX2_typeOfPick 14 = .ok (.aload_n 0, 1) := by decide +kernel
theorem dX2_typeOfPick_15 : decode cX2_typeOfPick 15 = .ok (.getfield 24, 3) := by decide +kernel
theorem dX2_typeOfPick_18 : decode cX2_typeOfPick 18 = .ok (.iload_n 1, 1) := by decide +kernel
theorem dX2_typeOfPick_19 : decode cX2_typeOfPick 19 = .ok (.invokevirtual 87, 3) := by decide +kernel
theorem dX2_typeOfPick_22 : decode cX2_typeOfPick 22 = .ok (.iconst 5, 1) := by decide +kernel
theorem dX2_typeOfPick_23 : decode cX2_typeOfPick 23 = .ok (.if_icmp .ne 15, 3) := by decide +kernel
theorem dX2_typeOfPick_26 : decode cX2_typeOfPick 26 = .ok (.aload_n 0, 1) := by decide +kernel
theorem dX2_typeOfPick_27 : decode cX2_typeOfPick 27 = .ok (.getfield 24, 3) := by decide +kernel
theorem dX2_typeOfPick_30 : decode cX2_typeOfPick 30 = .ok (.iload_n 1, 1) := by decide +kernel
theorem dX2_typeOfPick_31 : decode cX2_typeOfPick 31 = .ok (.iload_n 2, 1) := by decide +kernel
theorem dX2_typeOfPick_32 : decode cX2_typeOfPick 32 = .ok (.invokevirtual 92, 3) := by decide +kernel
theorem dX2_typeOfPick_35 : decode cX2_typeOfPick 35 = .ok (.goto 4, 3) := by decide +kernel
theorem dX2_typeOfPick_38 : decode cX2_typeOfPick 38 = .ok (.iconst (-1), 1) := by decide +kernel
theorem dX2_typeOfPick_39 : decode cX2_typeOfPick 39 = .ok (.istore_n 3, 1) := by decide +kernel
theorem dX2_typeOfPick_40 : decode cX2_typeOfPick 40 = .ok (.iload_n 3, 1) := by decide +kernel
theorem dX2_typeOfPick_41 : decode cX2_typeOfPick 41 = .ok (.iconst (-1), 1) := by decide +kernel
theorem dX2_typeOfPick_42 : decode cX2_typeOfPick 42 = .ok (.if_icmp .eq 7, 3) := by decide +kernel
theorem dX2_typeOfPick_45 : decode cX2_typeOfPick 45 = .ok (.iload_n 3, 1) := by decide +kernel
theorem dX2_typeOfPick_46 : decode cX2_typeOfPick 46 = .ok (.goto 5, 3) := by decide +kernel
theorem dX2_typeOfPick_49 : decode cX2_typeOfPick 49 = .ok (.bipush (-15), 2) := by decide +kernel
theorem dX2_typeOfPick_51 : decode cX2_typeOfPick 51 = .ok (.ireturn, 1) := by decide +kernel
theorem dX2_typeOfTag_0 : decode cX2_typeOfTag 0 = .ok (.aload_n 0, 1) := by decide +kernel
theorem dX2_typeOfTag_1 : decode cX2_typeOfTag 1 = .ok (.getfield 28, 3) := by decide +kernel
theorem dX2_typeOfTag_4 : decode cX2_typeOfTag 4 = .ok (.iload_n 3, 1) := by decide +kernel
theorem dX2_typeOfTag_5 : decode cX2_typeOfTag 5 = .ok (.aload_n 0, 1) := by decide +kernel
theorem dX2_typeOfTag_6 : decode cX2_typeOfTag 6 = .ok (.getfield 24, 3) := by decide +kernel
theorem dX2_typeOfTag_9 : decode cX2_typeOfTag 9 = .ok (.iload_n 1, 1) := by decide +kernel
theorem dX2_typeOfTag_10 : decode cX2_typeOfTag 10 = .ok (.iload_n 2, 1) := by decide +kernel
theorem dX2_typeOfTag_11 : decode cX2_typeOfTag 11 = .ok (.invokevirtual 92, 3) := by decide +kernel
theorem dX2_typeOfTag_14 : decode cX2_typeOfTag 14 = .ok (.invokevirtual 145, 3) := by decide +kernel
theorem dX2_typeOfTag_17 : decode cX2_typeOfTag 17 = .ok (.iconst (-1), 1) := by decide +kernel
theorem dX2_typeOfTag_18 : decode cX2_typeOfTag 18 = .ok (.if_icmp .ne 7, 3) := by decide +kernel
theorem dX2_typeOfTag_21 : decode cX2_typeOfTag 21 = .ok (.iload_n 1, 1) := by decide +kernel
theorem dX2_typeOfTag_22 : decode cX2_typeOfTag 22 = .ok (.goto 5, 3) := by decide +kernel
theorem dX2_typeOfTag_25 : decode cX2_typeOfTag 25 = .ok (.bipush (-15), 2) := by decide +kernel
theorem dX2_typeOfTag_27 : decode cX2_typeOfTag 27 = .ok (.ireturn, 1) := by decide +kernel
theorem dX2_typeOfSort_0 : decode cX2_typeOfSort 0 = .ok (.aload_n 0, 1) := by decide +kernel
theorem dX2_typeOfSort_1 : decode cX2_typeOfSort 1 = .ok (.getfield 36, 3) := by decide +kernel
theorem dX2_typeOfSort_4 : decode cX2_typeOfSort 4 = .ok (.iload_n 1, 1) := by decide +kernel
theorem dX2_typeOfSort_5 : decode cX2_typeOfSort 5 = .ok (.invokevirtual 81, 3) := by decide +kernel
theorem dX2_typeOfSort_8 : decode cX2_typeOfSort 8 = .ok (.iconst 1, 1) := by decide +kernel
theorem dX2_typeOfSort_9 : decode cX2_typeOfSort 9 = .ok (.isub, 1) := by decide +kernel
theorem dX2_typeOfSort_10 : decode cX2_typeOfSort 10 = .ok (.istore_n 2, 1) := by decide +kernel
theorem dX2_typeOfSort_11 : decode cX2_typeOfSort 11 = .ok (.iconst 0, 1) := by decide +kernel
theorem dX2_typeOfSort_12 : decode cX2_typeOfSort 12 = .ok (.istore_n 3, 1) := by decide +kernel
theorem dX2_typeOfSort_13 : decode cX2_typeOfSort 13 = .ok (.iconst 0, 1) := by decide +kernel
theorem dX2_typeOfSort_14 : decode cX2_typeOfSort 14 = .ok (.istore 4, 2) := by decide +kernel
theorem dX2_typeOfSort_16 : decode cX2_typeOfSort 16 = .ok (.iload 4, 2) := by decide +kernel
theorem dX2_typeOfSort_18 : decode cX2_typeOfSort 18 = .ok (.iload_n 2, 1) := by decide +kernel
theorem dX2_typeOfSort_19 : decode cX2_typeOfSort 19 = .ok (.if_icmp .ge 31, 3) := by decide +kernel
theorem dX2_typeOfSort_22 : decode cX2_typeOfSort 22 = .ok (.iload_n 3, 1) := by decide +kernel
theorem dX2_typeOfSort_23 : decode cX2_typeOfSort 23 = .ok (.iconst 1, 1) := by decide +kernel
theorem dX2_typeOfSort_24 : decode cX2_typeOfSort 24 = .ok (.aload_n 0, 1) := by decide +kernel
theorem dX2_typeOfSort_25 : decode cX2_typeOfSort 25 = .ok (.getfield 36, 3) := by decide +kernel
theorem dX2_typeOfSort_28 : decode cX2_typeOfSort 28 = .ok (.aload_n 0, 1) := by decide +kernel
theorem dX2_typeOfSort_29 : decode cX2_typeOfSort 29 = .ok (.getfield 36, 3) := by decide +kernel
theorem dX2_typeOfSort_32 : decode cX2_typeOfSort 32 = .ok (.iload_n 1, 1) := by decide +kernel
theorem dX2_typeOfSort_33 : decode cX2_typeOfSort 33 = .ok (.iload 4, 2) := by decide +kernel
theorem dX2_typeOfSort_35 : decode cX2_typeOfSort 35 = .ok (.invokevirtual 98, 3) := by decide +kernel
theorem dX2_typeOfSort_38 : decode cX2_typeOfSort 38 = .ok (.invokevirtual 75, 3) := by decide +kernel
theorem dX2_typeOfSort_41 : decode cX2_typeOfSort 41 = .ok (.ishl, 1) := by decide +kernel
theorem dX2_typeOfSort_42 : decode cX2_typeOfSort 42 = .ok (.ior, 1) := by decide +kernel
theorem dX2_typeOfSort_43 : decode cX2_typeOfSort 43 = .ok (.istore_n 3, 1) := by decide +kernel
theorem dX2_typeOfSort_44 : decode cX2_typeOfSort 44 = .ok (.iinc 4 1, 3) := by decide +kernel
theorem dX2_typeOfSort_47 : decode cX2_typeOfSort 47 = .ok (.goto (-31), 3) := by decide +kernel
theorem dX2_typeOfSort_50 : decode cX2_typeOfSort 50 = .ok (.aload_n 0, 1) := by decide +kernel
theorem dX2_typeOfSort_51 : decode cX2_typeOfSort 51 = .ok (.iload_n 1, 1) := by decide +kernel
theorem dX2_typeOfSort_52 : decode cX2_typeOfSort 52 = .ok (.iload_n 2, 1) := by decide +kernel
theorem dX2_typeOfSort_53 : decode cX2_typeOfSort 53 = .ok (.invokevirtual 84, 3) := by decide +kernel
theorem dX2_typeOfSort_56 : decode cX2_typeOfSort 56 = .ok (.istore 4, 2) := by decide +kernel
theorem dX2_typeOfSort_58 : decode cX2_typeOfSort 58 = .ok (.aload_n 0, 1) := by decide +kernel
theorem dX2_typeOfSort_59 : decode cX2_typeOfSort 59 = .ok (.iload 4, 2) := by decide +kernel
theorem dX2_typeOfSort_61 : decode cX2_typeOfSort 61 = .ok (.bipush 6, 2) := by decide +kernel
theorem dX2_typeOfSort_63 : decode cX2_typeOfSort 63 = .ok (.invokevirtual 122, 3) := by decide +kernel
theorem dX2_typeOfSort_66 : decode cX2_typeOfSort 66 = .ok (.ifCond .eq 19, 3) := by decide +kernel
theorem dX2_typeOfSort_69 : decode cX2_typeOfSort 69 = .ok (.aload_n 0, 1) := by decide +kernel
theorem dX2_typeOfSort_70 : decode cX2_typeOfSort 70 = .ok (.getfield 24, 3) := by decide +kernel
theorem dX2_typeOfSort_73 : decode cX2_typeOfSort 73 = .ok (.iload 4, 2) := by decide +kernel
theorem dX2_typeOfSort_75 : decode cX2_typeOfSort 75 = .ok (.invokevirtual 150, 3) := by decide +kernel
theorem dX2_typeOfSort_78 : decode cX2_typeOfSort 78 = .ok (.iload_n 3, 1) := by decide +kernel
theorem dX2_typeOfSort_79 : decode cX2_typeOfSort 79 = .ok (.iconst (-1), 1) := by decide +kernel
theorem dX2_typeOfSort_80 : decode cX2_typeOfSort 80 = .ok (.ixor, 1) := by decide +kernel
theorem dX2_typeOfSort_81 : decode cX2_typeOfSort 81 = .ok (.iand, 1) := by decide +kernel
theorem dX2_typeOfSort_82 : decode cX2_typeOfSort 82 = .ok (.ifCond .eq 6, 3) := by decide +kernel
theorem dX2_typeOfSort_85 : decode cX2_typeOfSort 85 = .ok (.bipush (-15), 2) := by decide +kernel
theorem dX2_typeOfSort_87 : decode cX2_typeOfSort 87 = .ok (.ireturn, 1) := by decide +kernel
theorem dX2_typeOfSort_88 : decode cX2_typeOfSort 88 = .ok (.iload_n 2, 1) := by decide +kernel
theorem dX2_typeOfSort_89 : decode cX2_typeOfSort 89 = .ok (.ifCond .ne 14, 3) := by decide +kernel
theorem dX2_typeOfSort_92 : decode cX2_typeOfSort 92 = .ok (.aload_n 0, 1) := by decide +kernel
theorem dX2_typeOfSort_93 : decode cX2_typeOfSort 93 = .ok (.getfield 24, 3) := by decide +kernel
theorem dX2_typeOfSort_96 : decode cX2_typeOfSort 96 = .ok (.iconst 1, 1) := by decide +kernel
theorem dX2_typeOfSort_97 : decode cX2_typeOfSort 97 = .ok (.invokevirtual 95, 3) := by decide +kernel
theorem dX2_typeOfSort_100 : decode cX2_typeOfSort 100 = .ok (.goto 9, 3) := by decide +kernel
theorem dX2_typeOfSort_103 : decode cX2_typeOfSort 103 = .ok (.aload_n 0, 1) := by decide +kernel
theorem dX2_typeOfSort_104 : decode cX2_typeOfSort 104 = .ok (.iload_n 1, 1) := by decide +kernel
theorem dX2_typeOfSort_105 : decode cX2_typeOfSort 105 = .ok (.iconst 0, 1) := by decide +kernel
theorem dX2_typeOfSort_106 : decode cX2_typeOfSort 106 = .ok (.invokevirtual 84, 3) := by decide +kernel
theorem dX2_typeOfSort_109 : decode cX2_typeOfSort 109 = .ok (.ireturn, 1) := by decide +kernel
theorem dX2_typeOfItself_0 : decode cX2_typeOfItself 0 = .ok (.aload_n 0, 1) := by decide +kernel
theorem dX2_typeOfItself_1 : decode cX2_typeOfItself 1 = .ok (.getfield 28, 3) := by decide +kernel
theorem dX2_typeOfItself_4 : decode cX2_typeOfItself 4 = .ok (.iload_n 2, 1) := by decide +kernel
theorem dX2_typeOfItself_5 : decode cX2_typeOfItself 5 = .ok (.iload_n 1, 1) := by decide +kernel
theorem dX2_typeOfItself_6 : decode cX2_typeOfItself 6 = .ok (.invokevirtual 145, 3) := by decide +kernel
theorem dX2_typeOfItself_9 : decode cX2_typeOfItself 9 = .ok (.iconst (-1), 1) := by decide +kernel
theorem dX2_typeOfItself_10 : decode cX2_typeOfItself 10 = .ok (.if_icmp .ne 7, 3) := by decide +kernel
theorem dX2_typeOfItself_13 : decode cX2_typeOfItself 13 = .ok (.iload_n 1, 1) := by decide +kernel
theorem dX2_typeOfItself_14 : decode cX2_typeOfItself 14 = .ok (.goto 5, 3) := by decide +kernel
theorem dX2_typeOfItself_17 : decode cX2_typeOfItself 17 = .ok (.bipush (-15), 2) := by decide +kernel
theorem dX2_typeOfItself_19 : decode cX2_typeOfItself 19 = .ok (.ireturn, 1) := by decide +kernel
theorem dX3_init_0 : decode cX3_init 0 = .ok (.aload_n 0, 1) := by decide +kernel
theorem dX3_init_1 : decode cX3_init 1 = .ok (.invokespecial 3, 3) := by decide +kernel
theorem dX3_init_4 : decode cX3_init 4 = .ok (.aload_n 0, 1) := by decide +kernel
theorem dX3_init_5 : decode cX3_init 5 = .ok (.sipush 400, 3) := by decide +kernel
theorem dX3_init_8 : decode cX3_init 8 = .ok (.newarray .int, 2) := by decide +kernel
theorem dX3_init_10 : decode cX3_init 10 = .ok (.putfield 11, 3) := by decide +kernel
theorem dX3_init_13 : decode cX3_init 13 = .ok (.aload_n 0, 1) := by decide +kernel
theorem dX3_init_14 : decode cX3_init 14 = .ok (.sipush 400, 3) := by decide +kernel
theorem dX3_init_17 : decode cX3_init 17 = .ok (.newarray .int, 2) := by decide +kernel
theorem dX3_init_19 : decode cX3_init 19 = .ok (.putfield 15, 3) := by decide +kernel
theorem dX3_init_22 : decode cX3_init 22 = .ok (.aload_n 0, 1) := by decide +kernel
theorem dX3_init_23 : decode cX3_init 23 = .ok (.sipush 3200, 3) := by decide +kernel
theorem dX3_init_26 : decode cX3_init 26 = .ok (.newarray .int, 2) := by decide +kernel
theorem dX3_init_28 : decode cX3_init 28 = .ok (.putfield 18, 3) := by decide +kernel
theorem dX3_init_31 : decode cX3_init 31 = .ok (.return_, 1) := by decide +kernel
theorem dX3_size_0 : decode cX3_size 0 = .ok (.aload_n 0, 1) := by decide +kernel
theorem dX3_size_1 : decode cX3_size 1 = .ok (.getfield 21, 3) := by decide +kernel
theorem dX3_size_4 : decode cX3_size 4 = .ok (.ireturn, 1) := by decide +kernel
theorem dX3_has_0 : decode cX3_has 0 = .ok (.iload_n 1, 1) := by decide +kernel
theorem dX3_has_1 : decode cX3_has 1 = .ok (.ifCond .lt 15, 3) := by decide +kernel
theorem dX3_has_4 : decode cX3_has 4 = .ok (.iload_n 1, 1) := by decide +kernel
theorem dX3_has_5 : decode cX3_has 5 = .ok (.aload_n 0, 1) := by decide +kernel
theorem dX3_has_6 : decode cX3_has 6 = .ok (.getfield 21, 3) := by decide +kernel
theorem dX3_has_9 : decode cX3_has 9 = .ok (.if_icmp .ge 7, 3) := by decide +kernel
theorem dX3_has_12 : decode cX3_has 12 = .ok (.iconst 1, 1) := by decide +kernel
theorem dX3_has_13 : decode cX3_has 13 = .ok (.goto 4, 3) := by decide +kernel
theorem dX3_has_16 : decode cX3_has 16 = .ok (.iconst 0, 1) := by decide +kernel
theorem dX3_has_17 : decode cX3_has 17 = .ok (.ireturn, 1) := by decide +kernel
theorem dX3_kindOf_0 : decode cX3_kindOf 0 = .ok (.iload_n 1, 1) := by decide +kernel
theorem dX3_kindOf_1 : decode cX3_kindOf 1 = .ok (.ifCond .lt 20, 3) := by decide +kernel
theorem dX3_kindOf_4 : decode cX3_kindOf 4 = .ok (.iload_n 1, 1) := by decide +kernel
theorem dX3_kindOf_5 : decode cX3_kindOf 5 = .ok (.aload_n 0, 1) := by decide +kernel
theorem dX3_kindOf_6 : decode cX3_kindOf 6 = .ok (.getfield 21, 3) := by decide +kernel
theorem dX3_kindOf_9 : decode cX3_kindOf 9 = .ok (.if_icmp .ge 12, 3) := by decide +kernel
theorem dX3_kindOf_12 : decode cX3_kindOf 12 = .ok (.aload_n 0, 1) := by decide +kernel
theorem dX3_kindOf_13 : decode cX3_kindOf 13 = .ok (.getfield 11, 3) := by decide +kernel
theorem dX3_kindOf_16 : decode cX3_kindOf 16 = .ok (.iload_n 1, 1) := by decide +kernel
theorem dX3_kindOf_17 : decode cX3_kindOf 17 = .ok (.iaload, 1) := by decide +kernel
theorem dX3_kindOf_18 : decode cX3_kindOf 18 = .ok (.goto 4, 3) := by decide +kernel
theorem dX3_kindOf_21 : decode cX3_kindOf 21 = .ok (.iconst (-1), 1) := by decide +kernel
theorem dX3_kindOf_22 : decode cX3_kindOf 22 = .ok (.ireturn, 1) := by decide +kernel
theorem dX3_labelsOf_0 : decode cX3_labelsOf 0 = .ok (.iload_n 1, 1) := by decide +kernel
theorem dX3_labelsOf_1 : decode cX3_labelsOf 1 = .ok (.ifCond .lt 20, 3) := by decide +kernel
theorem dX3_labelsOf_4 : decode cX3_labelsOf 4 = .ok (.iload_n 1, 1) := by decide +kernel
theorem dX3_labelsOf_5 : decode cX3_labelsOf 5 = .ok (.aload_n 0, 1) := by decide +kernel
theorem dX3_labelsOf_6 : decode cX3_labelsOf 6 = .ok (.getfield 21, 3) := by decide +kernel
theorem dX3_labelsOf_9 : decode cX3_labelsOf 9 = .ok (.if_icmp .ge 12, 3) := by decide +kernel
theorem dX3_labelsOf_12 : decode cX3_labelsOf 12 = .ok (.aload_n 0, 1) := by decide +kernel
theorem dX3_labelsOf_13 : decode cX3_labelsOf 13 = .ok (.getfield 15, 3) := by decide +kernel
theorem dX3_labelsOf_16 : decode cX3_labelsOf 16 = .ok (.iload_n 1, 1) := by decide +kernel
theorem dX3_labelsOf_17 : decode cX3_labelsOf 17 = .ok (.iaload, 1) := by decide +kernel
theorem dX3_labelsOf_18 : decode cX3_labelsOf 18 = .ok (.goto 4, 3) := by decide +kernel
theorem dX3_labelsOf_21 : decode cX3_labelsOf 21 = .ok (.iconst 0, 1) := by decide +kernel
theorem dX3_labelsOf_22 : decode cX3_labelsOf 22 = .ok (.ireturn, 1) := by decide +kernel
theorem dX3_partOf_0 : decode cX3_partOf 0 = .ok (.iload_n 1, 1) := by decide +kernel
theorem dX3_partOf_1 : decode cX3_partOf 1 = .ok (.ifCond .lt 25, 3) := by decide +kernel
theorem dX3_partOf_4 : decode cX3_partOf 4 = .ok (.iload_n 1, 1) := by decide +kernel
theorem dX3_partOf_5 : decode cX3_partOf 5 = .ok (.aload_n 0, 1) := by decide +kernel
theorem dX3_partOf_6 : decode cX3_partOf 6 = .ok (.getfield 21, 3) := by decide +kernel
theorem dX3_partOf_9 : decode cX3_partOf 9 = .ok (.if_icmp .ge 17, 3) := by decide +kernel
theorem dX3_partOf_12 : decode cX3_partOf 12 = .ok (.iload_n 2, 1) := by decide +kernel
theorem dX3_partOf_13 : decode cX3_partOf 13 = .ok (.ifCond .lt 13, 3) := by decide +kernel
theorem dX3_partOf_16 : decode cX3_partOf 16 = .ok (.iload_n 2, 1) := by decide +kernel
theorem dX3_partOf_17 : decode cX3_partOf 17 = .ok (.bipush 8, 2) := by decide +kernel
theorem dX3_partOf_19 : decode cX3_partOf 19 = .ok (.if_icmp .ge 7, 3) := by decide +kernel
theorem dX3_partOf_22 : decode cX3_partOf 22 = .ok (.iconst 1, 1) := by decide +kernel
theorem dX3_partOf_23 : decode cX3_partOf 23 = .ok (.goto 4, 3) := by decide +kernel
theorem dX3_partOf_26 : decode cX3_partOf 26 = .ok (.iconst 0, 1) := by decide +kernel
theorem dX3_partOf_27 : decode cX3_partOf 27 = .ok (.istore_n 3, 1) := by decide +kernel
theorem dX3_partOf_28 : decode cX3_partOf 28 = .ok (.iload_n 3, 1) := by decide +kernel
theorem dX3_partOf_29 : decode cX3_partOf 29 = .ok (.ifCond .eq 31, 3) := by decide +kernel
theorem dX3_partOf_32 : decode cX3_partOf 32 = .ok (.aload_n 0, 1) := by decide +kernel
theorem dX3_partOf_33 : decode cX3_partOf 33 = .ok (.getfield 15, 3) := by decide +kernel
theorem dX3_partOf_36 : decode cX3_partOf 36 = .ok (.iload_n 1, 1) := by decide +kernel
theorem dX3_partOf_37 : decode cX3_partOf 37 = .ok (.iaload, 1) := by decide +kernel
theorem dX3_partOf_38 : decode cX3_partOf 38 = .ok (.iload_n 2, 1) := by decide +kernel
theorem dX3_partOf_39 : decode cX3_partOf 39 = .ok (.ishr, 1) := by decide +kernel
theorem dX3_partOf_40 : decode cX3_partOf 40 = .ok (.iconst 1, 1) := by decide +kernel
theorem dX3_partOf_41 : decode cX3_partOf 41 = .ok (.iand, 1) := by decide +kernel
theorem dX3_partOf_42 : decode cX3_partOf 42 = .ok (.iconst 1, 1) := by decide +kernel
theorem dX3_partOf_43 : decode cX3_partOf 43 = .ok (.if_icmp .ne 17, 3) := by decide +kernel
theorem dX3_partOf_46 : decode cX3_partOf 46 = .ok (.aload_n 0, 1) := by decide +kernel
theorem dX3_partOf_47 : decode cX3_partOf 47 = .ok (.getfield 18, 3) := by decide +kernel
theorem dX3_partOf_50 : decode cX3_partOf 50 = .ok (.iload_n 1, 1) := by decide +kernel
theorem dX3_partOf_51 : decode cX3_partOf 51 = .ok (.bipush 8, 2) := by decide +kernel
theorem dX3_partOf_53 : decode cX3_partOf 53 = .ok (.imul, 1) := by decide +kernel
theorem dX3_partOf_54 : decode cX3_partOf 54 = .ok (.iload_n 2, 1) := by decide +kernel
theorem dX3_partOf_55 : decode cX3_partOf 55 = .ok (.iadd, 1) := by decide +kernel
theorem dX3_partOf_56 : decode cX3_partOf 56 = .ok (.iaload, 1) := by decide +kernel
theorem dX3_partOf_57 : decode cX3_partOf 57 = .ok (.goto 4, 3) := by decide +kernel
theorem dX3_partOf_60 : decode cX3_partOf 60 = .ok (.iconst (-1), 1) := by decide +kernel
theorem dX3_partOf_61 : decode cX3_partOf 61 = .ok (.ireturn, 1) := by decide +kernel
theorem dX3_make_0 : decode cX3_make 0 = .ok (.aload_n 0, 1) := by decide +kernel
theorem dX3_make_1 : decode cX3_make 1 = .ok (.getfield 21, 3) := by decide +kernel
theorem dX3_make_4 : decode cX3_make 4 = .ok (.sipush 200, 3) := by decide +kernel
theorem dX3_make_7 : decode cX3_make 7 = .ok (.if_icmp .ge 11, 3) := by decide +kernel
theorem dX3_make_10 : decode cX3_make 10 = .ok (.aload_n 0, 1) := by decide +kernel
theorem dX3_make_11 : decode cX3_make 11 = .ok (.iload_n 1, 1) := by decide +kernel
theorem dX3_make_12 : decode cX3_make 12 = .ok (.invokevirtual 25, 3) := by decide +kernel
theorem dX3_make_15 : decode cX3_make 15 = .ok (.goto 5, 3) := by decide +kernel
theorem dX3_make_18 : decode cX3_make 18 = .ok (.bipush (-3), 2) := by decide +kernel
theorem dX3_make_20 : decode cX3_make 20 = .ok (.ireturn, 1) := by decide +kernel
theorem dX3_draft_0 : decode cX3_draft 0 = .ok (.aload_n 0, 1) := by decide +kernel
theorem dX3_draft_1 : decode cX3_draft 1 = .ok (.getfield 21, 3) := by decide +kernel
theorem dX3_draft_4 : decode cX3_draft 4 = .ok (.sipush 400, 3) := by decide +kernel
theorem dX3_draft_7 : decode cX3_draft 7 = .ok (.if_icmp .lt 6, 3) := by decide +kernel
theorem dX3_draft_10 : decode cX3_draft 10 = .ok (.bipush (-3), 2) := by decide +kernel
theorem dX3_draft_12 : decode cX3_draft 12 = .ok (.ireturn, 1) := by decide +kernel
theorem dX3_draft_13 : decode cX3_draft 13 = .ok (.aload_n 0, 1) := by decide +kernel
theorem dX3_draft_14 : decode cX3_draft 14 = .ok (.getfield 11, 3) := by decide +kernel
theorem dX3_draft_17 : decode cX3_draft 17 = .ok (.aload_n 0, 1) := by decide +kernel
theorem dX3_draft_18 : decode cX3_draft 18 = .ok (.getfield 21, 3) := by decide +kernel
theorem dX3_draft_21 : decode cX3_draft 21 = .ok (.iload_n 1, 1) := by decide +kernel
theorem dX3_draft_22 : decode cX3_draft 22 = .ok (.iastore, 1) := by decide +kernel
theorem dX3_draft_23 : decode cX3_draft 23 = .ok (.aload_n 0, 1) := by decide +kernel
theorem dX3_draft_24 : decode cX3_draft 24 = .ok (.getfield 15, 3) := by decide +kernel
theorem dX3_draft_27 : decode cX3_draft 27 = .ok (.aload_n 0, 1) := by decide +kernel
theorem dX3_draft_28 : decode cX3_draft 28 = .ok (.getfield 21, 3) := by decide +kernel
theorem dX3_draft_31 : decode cX3_draft 31 = .ok (.iconst 0, 1) := by decide +kernel
theorem dX3_draft_32 : decode cX3_draft 32 = .ok (.iastore, 1) := by decide +kernel
theorem dX3_draft_33 : decode cX3_draft 33 = .ok (.aload_n 0, 1) := by decide +kernel
theorem dX3_draft_34 : decode cX3_draft 34 = .ok (.dup, 1) := by decide +kernel
theorem dX3_draft_35 : decode cX3_draft 35 = .ok (.getfield 21, 3) := by decide +kernel
theorem dX3_draft_38 : decode cX3_draft 38 = .ok (.iconst 1, 1) := by decide +kernel
theorem dX3_draft_39 : decode cX3_draft 39 = .ok (.iadd, 1) := by decide +kernel
theorem dX3_draft_40 : decode cX3_draft 40 = .ok (.putfield 21, 3) := by decide +kernel
theorem dX3_draft_43 : decode cX3_draft 43 = .ok (.aload_n 0, 1) := by decide +kernel
theorem dX3_draft_44 : decode cX3_draft 44 = .ok (.getfield 21, 3) := by decide +kernel
theorem dX3_draft_47 : decode cX3_draft 47 = .ok (.iconst 1, 1) := by decide +kernel
theorem dX3_draft_48 : decode cX3_draft 48 = .ok (.isub, 1) := by decide +kernel
theorem dX3_draft_49 : decode cX3_draft 49 = .ok (.ireturn, 1) := by decide +kernel
theorem dX3_setPart_0 : decode cX3_setPart 0 = .ok (.iload_n 1, 1) := by decide +kernel
theorem dX3_setPart_1 : decode cX3_setPart 1 = .ok (.ifCond .lt 45, 3) := by decide +kernel
theorem dX3_setPart_4 : decode cX3_setPart 4 = .ok (.iload_n 1, 1) := by decide +kernel
theorem dX3_setPart_5 : decode cX3_setPart 5 = .ok (.aload_n 0, 1) := by decide +kernel
theorem dX3_setPart_6 : decode cX3_setPart 6 = .ok (.getfield 21, 3) := by decide +kernel
theorem dX3_setPart_9 : decode cX3_setPart 9 = .ok (.if_icmp .ge 37, 3) := by decide +kernel
theorem dX3_setPart_12 : decode cX3_setPart 12 = .ok (.iload_n 2, 1) := by decide +kernel
theorem dX3_setPart_13 : decode cX3_setPart 13 = .ok (.ifCond .lt 33, 3) := by decide +kernel
theorem dX3_setPart_16 : decode cX3_setPart 16 = .ok (.iload_n 2, 1) := by decide +kernel
theorem dX3_setPart_17 : decode cX3_setPart 17 = .ok (.bipush 8, 2) := by decide +kernel
theorem dX3_setPart_19 : decode cX3_setPart 19 = .ok (.if_icmp .ge 27, 3) := by decide +kernel
theorem dX3_setPart_22 : decode cX3_setPart 22 = .ok (.aload_n 0, 1) := by decide +kernel
theorem dX3_setPart_23 : decode cX3_setPart 23 = .ok (.getfield 15, 3) := by decide +kernel
theorem dX3_setPart_26 : decode cX3_setPart 26 = .ok (.iload_n 1, 1) := by decide +kernel
theorem dX3_setPart_27 : decode cX3_setPart 27 = .ok (.dup2, 1) := by decide +kernel
theorem dX3_setPart_28 : decode cX3_setPart 28 = .ok (.iaload, 1) := by decide +kernel
theorem dX3_setPart_29 : decode cX3_setPart 29 = .ok (.iconst 1, 1) := by decide +kernel
theorem dX3_setPart_30 : decode cX3_setPart 30 = .ok (.iload_n 2, 1) := by decide +kernel
theorem dX3_setPart_31 : decode cX3_setPart 31 = .ok (.ishl, 1) := by decide +kernel
theorem dX3_setPart_32 : decode cX3_setPart 32 = .ok (.ior, 1) := by decide +kernel
theorem dX3_setPart_33 : decode cX3_setPart 33 = .ok (.iastore, 1) := by decide +kernel
theorem dX3_setPart_34 : decode cX3_setPart 34 = .ok (.aload_n 0, 1) := by decide +kernel
theorem dX3_setPart_35 : decode cX3_setPart 35 = .ok (.getfield 18, 3) := by decide +kernel
theorem dX3_setPart_38 : decode cX3_setPart 38 = .ok (.iload_n 1, 1) := by decide +kernel
theorem dX3_setPart_39 : decode cX3_setPart 39 = .ok (.bipush 8, 2) := by decide +kernel
theorem dX3_setPart_41 : decode cX3_setPart 41 = .ok (.imul, 1) := by decide +kernel
theorem dX3_setPart_42 : decode cX3_setPart 42 = .ok (.iload_n 2, 1) := by decide +kernel
theorem dX3_setPart_43 : decode cX3_setPart 43 = .ok (.iadd, 1) := by decide +kernel
theorem dX3_setPart_44 : decode cX3_setPart 44 = .ok (.iload_n 3, 1) := by decide +kernel
theorem dX3_setPart_45 : decode cX3_setPart 45 = .ok (.iastore, 1) := by decide +kernel
theorem dX3_setPart_46 : decode cX3_setPart 46 = .ok (.return_, 1) := by decide +kernel
theorem dX3_cutTo_0 : decode cX3_cutTo 0 = .ok (.iload_n 1, 1) := by decide +kernel
theorem dX3_cutTo_1 : decode cX3_cutTo 1 = .ok (.ifCond .lt 16, 3) := by decide +kernel
theorem dX3_cutTo_4 : decode cX3_cutTo 4 = .ok (.iload_n 1, 1) := by decide +kernel
theorem dX3_cutTo_5 : decode cX3_cutTo 5 = .ok (.aload_n 0, 1) := by decide +kernel
theorem dX3_cutTo_6 : decode cX3_cutTo 6 = .ok (.getfield 21, 3) := by decide +kernel
theorem dX3_cutTo_9 : decode cX3_cutTo 9 = .ok (.if_icmp .ge 8, 3) := by decide +kernel
theorem dX3_cutTo_12 : decode cX3_cutTo 12 = .ok (.aload_n 0, 1) := by decide +kernel
theorem dX3_cutTo_13 : decode cX3_cutTo 13 = .ok (.iload_n 1, 1) := by decide +kernel
theorem dX3_cutTo_14 : decode cX3_cutTo 14 = .ok (.putfield 21, 3) := by decide +kernel
theorem dX3_cutTo_17 : decode cX3_cutTo 17 = .ok (.return_, 1) := by decide +kernel
theorem dX4_init_0 : decode cX4_init 0 = .ok (.aload_n 0, 1) := by decide +kernel
theorem dX4_init_1 : decode cX4_init 1 = .ok (.invokespecial 3, 3) := by decide +kernel
theorem dX4_init_4 : decode cX4_init 4 = .ok (.aload_n 0, 1) := by decide +kernel
theorem dX4_init_5 : decode cX4_init 5 = .ok (.new 9, 3) := by decide +kernel
theorem dX4_init_8 : decode cX4_init 8 = .ok (.dup, 1) := by decide +kernel
theorem dX4_init_9 : decode cX4_init 9 = .ok (.invokespecial 11, 3) := by decide +kernel
theorem dX4_init_12 : decode cX4_init 12 = .ok (.putfield 12, 3) := by decide +kernel
theorem dX4_init_15 : decode cX4_init 15 = .ok (.aload_n 0, 1) := by decide +kernel
theorem dX4_init_16 : decode cX4_init 16 = .ok (.new 18, 3) := by decide +kernel
theorem dX4_init_19 : decode cX4_init 19 = .ok (.dup, 1) := by decide +kernel
theorem dX4_init_20 : decode cX4_init 20 = .ok (.invokespecial 20, 3) := by decide +kernel
theorem dX4_init_23 : decode cX4_init 23 = .ok (.putfield 21, 3) := by decide +kernel
theorem dX4_init_26 : decode cX4_init 26 = .ok (.aload_n 0, 1) := by decide +kernel
theorem dX4_init_27 : decode cX4_init 27 = .ok (.sipush 300, 3) := by decide +kernel
theorem dX4_init_30 : decode cX4_init 30 = .ok (.newarray .int, 2) := by decide +kernel
theorem dX4_init_32 : decode cX4_init 32 = .ok (.putfield 25, 3) := by decide +kernel
theorem dX4_init_35 : decode cX4_init 35 = .ok (.aload_n 0, 1) := by decide +kernel
theorem dX4_init_36 : decode cX4_init 36 = .ok (.sipush 300, 3) := by decide +kernel
theorem dX4_init_39 : decode cX4_init 39 = .ok (.newarray .int, 2) := by decide +kernel
theorem dX4_init_41 : decode cX4_init 41 = .ok (.putfield 29, 3) := by decide +kernel
theorem dX4_init_44 : decode cX4_init 44 = .ok (.aload_n 0, 1) := by decide +kernel
theorem dX4_init_45 : decode cX4_init 45 = .ok (.sipush 300, 3) := by decide +kernel
theorem dX4_init_48 : decode cX4_init 48 = .ok (.newarray .int, 2) := by decide +kernel
theorem dX4_init_50 : decode cX4_init 50 = .ok (.putfield 32, 3) := by decide +kernel
theorem dX4_init_53 : decode cX4_init 53 = .ok (.aload_n 0, 1) := by decide +kernel
theorem dX4_init_54 : decode cX4_init 54 = .ok (.sipush 2400, 3) := by decide +kernel
theorem dX4_init_57 : decode cX4_init 57 = .ok (.newarray .int, 2) := by decide +kernel
theorem dX4_init_59 : decode cX4_init 59 = .ok (.putfield 35, 3) := by decide +kernel
theorem dX4_init_62 : decode cX4_init 62 = .ok (.aload_n 0, 1) := by decide +kernel
theorem dX4_init_63 : decode cX4_init 63 = .ok (.aload_n 1, 1) := by decide +kernel
theorem dX4_init_64 : decode cX4_init 64 = .ok (.putfield 38, 3) := by decide +kernel
theorem dX4_init_67 : decode cX4_init 67 = .ok (.return_, 1) := by decide +kernel
theorem dX4_values_0 : decode cX4_values 0 = .ok (.aload_n 0, 1) := by decide +kernel
theorem dX4_values_1 : decode cX4_values 1 = .ok (.getfield 12, 3) := by decide +kernel
theorem dX4_values_4 : decode cX4_values 4 = .ok (.areturn, 1) := by decide +kernel
theorem dX4_steps_0 : decode cX4_steps 0 = .ok (.aload_n 0, 1) := by decide +kernel
theorem dX4_steps_1 : decode cX4_steps 1 = .ok (.getfield 42, 3) := by decide +kernel
theorem dX4_steps_4 : decode cX4_steps 4 = .ok (.ireturn, 1) := by decide +kernel
theorem dX4_forget_0 : decode cX4_forget 0 = .ok (.aload_n 0, 1) := by decide +kernel
theorem dX4_forget_1 : decode cX4_forget 1 = .ok (.getfield 12, 3) := by decide +kernel
theorem dX4_forget_4 : decode cX4_forget 4 = .ok (.invokevirtual 46, 3) := by decide +kernel
theorem dX4_forget_7 : decode cX4_forget 7 = .ok (.aload_n 0, 1) := by decide +kernel
theorem dX4_forget_8 : decode cX4_forget 8 = .ok (.getfield 21, 3) := by decide +kernel
theorem dX4_forget_11 : decode cX4_forget 11 = .ok (.invokevirtual 49, 3) := by decide +kernel
theorem dX4_forget_14 : decode cX4_forget 14 = .ok (.aload_n 0, 1) := by decide +kernel
theorem dX4_forget_15 : decode cX4_forget 15 = .ok (.iconst 0, 1) := by decide +kernel
theorem dX4_forget_16 : decode cX4_forget 16 = .ok (.putfield 50, 3) := by decide +kernel
theorem dX4_forget_19 : decode cX4_forget 19 = .ok (.aload_n 0, 1) := by decide +kernel
theorem dX4_forget_20 : decode cX4_forget 20 = .ok (.iconst 0, 1) := by decide +kernel
theorem dX4_forget_21 : decode cX4_forget 21 = .ok (.putfield 42, 3) := by decide +kernel
theorem dX4_forget_24 : decode cX4_forget 24 = .ok (.return_, 1) := by decide +kernel
theorem dX4_perform_0 : decode cX4_perform 0 = .ok (.aload_n 0, 1) := by decide +kernel
theorem dX4_perform_1 : decode cX4_perform 1 = .ok (.invokevirtual 53, 3) := by decide +kernel
theorem dX4_perform_4 : decode cX4_perform 4 = .ok (.aload_n 0, 1) := by decide +kernel
theorem dX4_perform_5 : decode cX4_perform 5 = .ok (.aload_n 1, 1) := by decide +kernel
theorem dX4_perform_6 : decode cX4_perform 6 = .ok (.putfield 38, 3) := by decide +kernel
theorem dX4_perform_9 : decode cX4_perform 9 = .ok (.aload_n 0, 1) := by decide +kernel
theorem dX4_perform_10 : decode cX4_perform 10 = .ok (.iconst (-1), 1) := by decide +kernel
theorem dX4_perform_11 : decode cX4_perform 11 = .ok (.putfield 56, 3) := by decide +kernel
theorem dX4_perform_14 : decode cX4_perform 14 = .ok (.aload_n 0, 1) := by decide +kernel
theorem dX4_perform_15 : decode cX4_perform 15 = .ok (.iconst 0, 1) := by decide +kernel
theorem dX4_perform_16 : decode cX4_perform 16 = .ok (.iconst (-1), 1) := by decide +kernel
theorem dX4_perform_17 : decode cX4_perform 17 = .ok (.invokevirtual 59, 3) := by decide +kernel
theorem dX4_perform_20 : decode cX4_perform 20 = .ok (.iconst 0, 1) := by decide +kernel
theorem dX4_perform_21 : decode cX4_perform 21 = .ok (.istore_n 3, 1) := by decide +kernel
theorem dX4_perform_22 : decode cX4_perform 22 = .ok (.iload_n 3, 1) := by decide +kernel
theorem dX4_perform_23 : decode cX4_perform 23 = .ok (.ldc 63, 2) := by decide +kernel
theorem dX4_perform_25 : decode cX4_perform 25 = .ok (.if_icmp .ge 108, 3) := by decide +kernel
theorem dX4_perform_28 : decode cX4_perform 28 = .ok (.aload_n 0, 1) := by decide +kernel
theorem dX4_perform_29 : decode cX4_perform 29 = .ok (.getfield 64, 3) := by decide +kernel
theorem dX4_perform_32 : decode cX4_perform 32 = .ok (.iconst (-1), 1) := by decide +kernel
theorem dX4_perform_33 : decode cX4_perform 33 = .ok (.if_icmp .ne 15, 3) := by decide +kernel
theorem dX4_perform_36 : decode cX4_perform 36 = .ok (.aload_n 0, 1) := by decide +kernel
theorem dX4_perform_37 : decode cX4_perform 37 = .ok (.getfield 50, 3) := by decide +kernel
theorem dX4_perform_40 : decode cX4_perform 40 = .ok (.ifCond .ne 8, 3) := by decide +kernel
theorem dX4_perform_43 : decode cX4_perform 43 = .ok (.aload_n 0, 1) := by decide +kernel
theorem dX4_perform_44 : decode cX4_perform 44 = .ok (.getfield 67, 3) := by decide +kernel
theorem dX4_perform_47 : decode cX4_perform 47 = .ok (.ireturn, 1) := by decide +kernel
theorem dX4_perform_48 : decode cX4_perform 48 = .ok (.aload_n 0, 1) := by decide +kernel
theorem dX4_perform_49 : decode cX4_perform 49 = .ok (.getfield 64, 3) := by decide +kernel
theorem dX4_perform_52 : decode cX4_perform 52 = .ok (.iconst (-1), 1) := by decide +kernel
theorem dX4_perform_53 : decode cX4_perform 53 = .ok (.if_icmp .ne 10, 3) := by decide +kernel
theorem dX4_perform_56 : decode cX4_perform 56 = .ok (.aload_n 0, 1) := by decide +kernel
theorem dX4_perform_57 : decode cX4_perform 57 = .ok (.invokevirtual 70, 3) := by decide +kernel
theorem dX4_perform_60 : decode cX4_perform 60 = .ok (.goto 48, 3) := by decide +kernel
theorem dX4_perform_63 : decode cX4_perform 63 = .ok (.aload_n 0, 1) := by decide +kernel
theorem dX4_perform_64 : decode cX4_perform 64 = .ok (.getfield 42, 3) := by decide +kernel
theorem dX4_perform_67 : decode cX4_perform 67 = .ok (.iload_n 2, 1) := by decide +kernel
theorem dX4_perform_68 : decode cX4_perform 68 = .ok (.if_icmp .lt 5, 3) := by decide +kernel
theorem dX4_perform_71 : decode cX4_perform 71 = .ok (.iconst (-1), 1) := by decide +kernel
theorem dX4_perform_72 : decode cX4_perform 72 = .ok (.ireturn, 1) := by decide +kernel
theorem dX4_perform_73 : decode cX4_perform 73 = .ok (.aload_n 0, 1) := by decide +kernel
theorem dX4_perform_74 : decode cX4_perform 74 = .ok (.getfield 50, 3) := by decide +kernel
theorem dX4_perform_77 : decode cX4_perform 77 = .ok (.sipush 300, 3) := by decide +kernel
theorem dX4_perform_80 : decode cX4_perform 80 = .ok (.if_icmp .lt 6, 3) := by decide +kernel
theorem dX4_perform_83 : decode cX4_perform 83 = .ok (.bipush (-16), 2) := by decide +kernel
theorem dX4_perform_85 : decode cX4_perform 85 = .ok (.ireturn, 1) := by decide +kernel
theorem dX4_perform_86 : decode cX4_perform 86 = .ok (.aload_n 0, 1) := by decide +kernel
theorem dX4_perform_87 : decode cX4_perform 87 = .ok (.dup, 1) := by decide +kernel
theorem dX4_perform_88 : decode cX4_perform 88 = .ok (.getfield 42, 3) := by decide +kernel
theorem dX4_perform_91 : decode cX4_perform 91 = .ok (.iconst 1, 1) := by decide +kernel
theorem dX4_perform_92 : decode cX4_perform 92 = .ok (.iadd, 1) := by decide +kernel
theorem dX4_perform_93 : decode cX4_perform 93 = .ok (.putfield 42, 3) := by decide +kernel
theorem dX4_perform_96 : decode cX4_perform 96 = .ok (.aload_n 0, 1) := by decide +kernel
theorem dX4_perform_97 : decode cX4_perform 97 = .ok (.aload_n 0, 1) := by decide +kernel
theorem dX4_perform_98 : decode cX4_perform 98 = .ok (.getfield 64, 3) := by decide +kernel
theorem dX4_perform_101 : decode cX4_perform 101 = .ok (.aload_n 0, 1) := by decide +kernel
theorem dX4_perform_102 : decode cX4_perform 102 = .ok (.getfield 73, 3) := by decide +kernel
theorem dX4_perform_105 : decode cX4_perform 105 = .ok (.invokevirtual 76, 3) := by decide +kernel
theorem dX4_perform_108 : decode cX4_perform 108 = .ok (.aload_n 0, 1) := by decide +kernel
theorem dX4_perform_109 : decode cX4_perform 109 = .ok (.getfield 64, 3) := by decide +kernel
theorem dX4_perform_112 : decode cX4_perform 112 = .ok (.iconst (-1), 1) := by decide +kernel
theorem dX4_perform_113 : decode cX4_perform 113 = .ok (.if_icmp .ne 14, 3) := by decide +kernel
theorem dX4_perform_116 : decode cX4_perform 116 = .ok (.aload_n 0, 1) := by decide +kernel
theorem dX4_perform_117 : decode cX4_perform 117 = .ok (.getfield 67, 3) := by decide +kernel
theorem dX4_perform_120 : decode cX4_perform 120 = .ok (.iconst (-1), 1) := by decide +kernel
theorem dX4_perform_121 : decode cX4_perform 121 = .ok (.if_icmp .ne 6, 3) := by decide +kernel
theorem dX4_perform_124 : decode cX4_perform 124 = .ok (.bipush (-16), 2) := by decide +kernel
theorem dX4_perform_126 : decode cX4_perform 126 = .ok (.ireturn, 1) := by decide +kernel
theorem dX4_perform_127 : decode cX4_perform 127 = .ok (.iinc 3 1, 3) := by decide +kernel
theorem dX4_perform_130 : decode cX4_perform 130 = .ok (.goto (-108), 3) := by decide +kernel
theorem dX4_perform_133 : decode cX4_perform 133 = .ok (.iconst (-1), 1) := by decide +kernel
theorem dX4_perform_134 : decode cX4_perform 134 = .ok (.ireturn, 1) := by decide +kernel
theorem dX4_want_0 : decode cX4_want 0 = .ok (.aload_n 0, 1) := by decide +kernel
theorem dX4_want_1 : decode cX4_want 1 = .ok (.iload_n 1, 1) := by decide +kernel
theorem dX4_want_2 : decode cX4_want 2 = .ok (.putfield 64, 3) := by decide +kernel
theorem dX4_want_5 : decode cX4_want 5 = .ok (.aload_n 0, 1) := by decide +kernel
theorem dX4_want_6 : decode cX4_want 6 = .ok (.iload_n 2, 1) := by decide +kernel
theorem dX4_want_7 : decode cX4_want 7 = .ok (.putfield 73, 3) := by decide +kernel
theorem dX4_want_10 : decode cX4_want 10 = .ok (.return_, 1) := by decide +kernel
theorem dX4_give_0 : decode cX4_give 0 = .ok (.aload_n 0, 1) := by decide +kernel
theorem dX4_give_1 : decode cX4_give 1 = .ok (.iconst (-1), 1) := by decide +kernel
theorem dX4_give_2 : decode cX4_give 2 = .ok (.putfield 64, 3) := by decide +kernel
theorem dX4_give_5 : decode cX4_give 5 = .ok (.aload_n 0, 1) := by decide +kernel
theorem dX4_give_6 : decode cX4_give 6 = .ok (.iload_n 1, 1) := by decide +kernel
theorem dX4_give_7 : decode cX4_give 7 = .ok (.putfield 67, 3) := by decide +kernel
theorem dX4_give_10 : decode cX4_give 10 = .ok (.return_, 1) := by decide +kernel
theorem dX4_begin_0 : decode cX4_begin 0 = .ok (.aload_n 0, 1) := by decide +kernel
theorem dX4_begin_1 : decode cX4_begin 1 = .ok (.getfield 38, 3) := by decide +kernel
theorem dX4_begin_4 : decode cX4_begin 4 = .ok (.iload_n 1, 1) := by decide +kernel
theorem dX4_begin_5 : decode cX4_begin 5 = .ok (.invokevirtual 79, 3) := by decide +kernel
theorem dX4_begin_8 : decode cX4_begin 8 = .ok (.tableswitch 172 20 33 #[72, 97, 172, 106, 172, 172, 131, 147, 172, 172, 172, 172, 172, 163], 72) := by decide +kernel
theorem dX4_begin_80 : decode cX4_begin 80 = .ok (.aload_n 0, 1) := by decide +kernel
theorem dX4_begin_81 : decode cX4_begin 81 = .ok (.aload_n 0, 1) := by decide +kernel
theorem dX4_begin_82 : decode cX4_begin 82 = .ok (.getfield 21, 3) := by decide +kernel
theorem dX4_begin_85 : decode cX4_begin 85 = .ok (.iload_n 2, 1) := by decide +kernel
theorem dX4_begin_86 : decode cX4_begin 86 = .ok (.aload_n 0, 1) := by decide +kernel
theorem dX4_begin_87 : decode cX4_begin 87 = .ok (.getfield 38, 3) := by decide +kernel
theorem dX4_begin_90 : decode cX4_begin 90 = .ok (.iload_n 1, 1) := by decide +kernel
theorem dX4_begin_91 : decode cX4_begin 91 = .ok (.iconst 1, 1) := by decide +kernel
theorem dX4_begin_92 : decode cX4_begin 92 = .ok (.iadd, 1) := by decide +kernel
theorem dX4_begin_93 : decode cX4_begin 93 = .ok (.invokevirtual 79, 3) := by decide +kernel
theorem dX4_begin_96 : decode cX4_begin 96 = .ok (.invokevirtual 85, 3) := by decide +kernel
theorem dX4_begin_99 : decode cX4_begin 99 = .ok (.invokevirtual 89, 3) := by decide +kernel
theorem dX4_begin_102 : decode cX4_begin 102 = .ok (.goto 84, 3) := by decide +kernel
theorem dX4_begin_105 : decode cX4_begin 105 = .ok (.aload_n 0, 1) := by decide +kernel
theorem dX4_begin_106 : decode cX4_begin 106 = .ok (.iload_n 1, 1) := by decide +kernel
theorem dX4_begin_107 : decode cX4_begin 107 = .ok (.iload_n 2, 1) := by decide +kernel
theorem dX4_begin_108 : decode cX4_begin 108 = .ok (.invokevirtual 93, 3) := by decide +kernel
theorem dX4_begin_111 : decode cX4_begin 111 = .ok (.goto 75, 3) := by decide +kernel
theorem dX4_begin_114 : decode cX4_begin 114 = .ok (.aload_n 0, 1) := by decide +kernel
theorem dX4_begin_115 : decode cX4_begin 115 = .ok (.aload_n 0, 1) := by decide +kernel
theorem dX4_begin_116 : decode cX4_begin 116 = .ok (.getfield 12, 3) := by decide +kernel
theorem dX4_begin_119 : decode cX4_begin 119 = .ok (.iconst 2, 1) := by decide +kernel
theorem dX4_begin_120 : decode cX4_begin 120 = .ok (.aload_n 0, 1) := by decide +kernel
theorem dX4_begin_121 : decode cX4_begin 121 = .ok (.getfield 38, 3) := by decide +kernel
theorem dX4_begin_124 : decode cX4_begin 124 = .ok (.iload_n 1, 1) := by decide +kernel
theorem dX4_begin_125 : decode cX4_begin 125 = .ok (.iconst 1, 1) := by decide +kernel
theorem dX4_begin_126 : decode cX4_begin 126 = .ok (.iadd, 1) := by decide +kernel
theorem dX4_begin_127 : decode cX4_begin 127 = .ok (.invokevirtual 79, 3) := by decide +kernel
theorem dX4_begin_130 : decode cX4_begin 130 = .ok (.invokevirtual 96, 3) := by decide +kernel
theorem dX4_begin_133 : decode cX4_begin 133 = .ok (.invokevirtual 89, 3) := by decide +kernel
theorem dX4_begin_136 : decode cX4_begin 136 = .ok (.goto 50, 3) := by decide +kernel
theorem dX4_begin_139 : decode cX4_begin 139 = .ok (.aload_n 0, 1) := by decide +kernel
theorem dX4_begin_140 : decode cX4_begin 140 = .ok (.aload_n 0, 1) := by decide +kernel
theorem dX4_begin_141 : decode cX4_begin 141 = .ok (.getfield 12, 3) := by decide +kernel
theorem dX4_begin_144 : decode cX4_begin 144 = .ok (.iconst 3, 1) := by decide +kernel
theorem dX4_begin_145 : decode cX4_begin 145 = .ok (.iconst 1, 1) := by decide +kernel
theorem dX4_begin_146 : decode cX4_begin 146 = .ok (.invokevirtual 96, 3) := by decide +kernel
theorem dX4_begin_149 : decode cX4_begin 149 = .ok (.invokevirtual 89, 3) := by decide +kernel
theorem dX4_begin_152 : decode cX4_begin 152 = .ok (.goto 34, 3) := by decide +kernel
theorem dX4_begin_155 : decode cX4_begin 155 = .ok (.aload_n 0, 1) := by decide +kernel
theorem dX4_begin_156 : decode cX4_begin 156 = .ok (.aload_n 0, 1) := by decide +kernel
theorem dX4_begin_157 : decode cX4_begin 157 = .ok (.getfield 12, 3) := by decide +kernel
theorem dX4_begin_160 : decode cX4_begin 160 = .ok (.iconst 3, 1) := by decide +kernel
theorem dX4_begin_161 : decode cX4_begin 161 = .ok (.iconst 0, 1) := by decide +kernel
theorem dX4_begin_162 : decode cX4_begin 162 = .ok (.invokevirtual 96, 3) := by decide +kernel
theorem dX4_begin_165 : decode cX4_begin 165 = .ok (.invokevirtual 89, 3) := by decide +kernel
theorem dX4_begin_168 : decode cX4_begin 168 = .ok (.goto 18, 3) := by decide +kernel
theorem dX4_begin_171 : decode cX4_begin 171 = .ok (.aload_n 0, 1) := by decide +kernel
theorem dX4_begin_172 : decode cX4_begin 172 = .ok (.iload_n 1, 1) := by decide +kernel
theorem dX4_begin_173 : decode cX4_begin 173 = .ok (.iload_n 2, 1) := by decide +kernel
theorem dX4_begin_174 : decode cX4_begin 174 = .ok (.invokevirtual 99, 3) := by decide +kernel
theorem dX4_begin_177 : decode cX4_begin 177 = .ok (.goto 9, 3) := by decide +kernel
theorem dX4_begin_180 : decode cX4_begin 180 = .ok (.aload_n 0, 1) := by decide +kernel
theorem dX4_begin_181 : decode cX4_begin 181 = .ok (.iload_n 1, 1) := by decide +kernel
theorem dX4_begin_182 : decode cX4_begin 182 = .ok (.iload_n 2, 1) := by decide +kernel
theorem dX4_begin_183 : decode cX4_begin 183 = .ok (.invokevirtual 102, 3) := by decide +kernel
theorem dX4_begin_186 : decode cX4_begin 186 = .ok (.return_, 1) := by decide +kernel
theorem dX4_beginLambda_0 : decode cX4_beginLambda 0 = .ok (.aload_n 0, 1) := by decide +kernel
theorem dX4_beginLambda_1 : decode cX4_beginLambda 1 = .ok (.getfield 56, 3) := by decide +kernel
theorem dX4_beginLambda_4 : decode cX4_beginLambda 4 = .ok (.iconst (-1), 1) := by decide +kernel
theorem dX4_beginLambda_5 : decode cX4_beginLambda 5 = .ok (.if_icmp .ne 15, 3) := by decide +kernel
theorem dX4_beginLambda_8 : decode cX4_beginLambda 8 = .ok (.aload_n 0, 1) := by decide +kernel
theorem dX4_beginLambda_9 : decode cX4_beginLambda 9 = .ok (.getfield 12, 3) := by decide +kernel
theorem dX4_beginLambda_12 : decode cX4_beginLambda 12 = .ok (.iconst 4, 1) := by decide +kernel
theorem dX4_beginLambda_13 : decode cX4_beginLambda 13 = .ok (.iconst 0, 1) := by decide +kernel
theorem dX4_beginLambda_14 : decode cX4_beginLambda 14 = .ok (.invokevirtual 96, 3) := by decide +kernel
theorem dX4_beginLambda_17 : decode cX4_beginLambda 17 = .ok (.goto 7, 3) := by decide +kernel
theorem dX4_beginLambda_20 : decode cX4_beginLambda 20 = .ok (.aload_n 0, 1) := by decide +kernel
theorem dX4_beginLambda_21 : decode cX4_beginLambda 21 = .ok (.getfield 56, 3) := by decide +kernel
theorem dX4_beginLambda_24 : decode cX4_beginLambda 24 = .ok (.istore_n 3, 1) := by decide +kernel
theorem dX4_beginLambda_25 : decode cX4_beginLambda 25 = .ok (.aload_n 0, 1) := by decide +kernel
theorem dX4_beginLambda_26 : decode cX4_beginLambda 26 = .ok (.iconst (-1), 1) := by decide +kernel
theorem dX4_beginLambda_27 : decode cX4_beginLambda 27 = .ok (.putfield 56, 3) := by decide +kernel
theorem dX4_beginLambda_30 : decode cX4_beginLambda 30 = .ok (.aload_n 0, 1) := by decide +kernel
theorem dX4_beginLambda_31 : decode cX4_beginLambda 31 = .ok (.getfield 12, 3) := by decide +kernel
theorem dX4_beginLambda_34 : decode cX4_beginLambda 34 = .ok (.iload_n 3, 1) := by decide +kernel
theorem dX4_beginLambda_35 : decode cX4_beginLambda 35 = .ok (.iload_n 1, 1) := by decide +kernel
theorem dX4_beginLambda_36 : decode cX4_beginLambda 36 = .ok (.iload_n 2, 1) := by decide +kernel
theorem dX4_beginLambda_37 : decode cX4_beginLambda 37 = .ok (.invokevirtual 105, 3) := by decide +kernel
theorem dX4_beginLambda_40 : decode cX4_beginLambda 40 = .ok (.aload_n 0, 1) := by decide +kernel
theorem dX4_beginLambda_41 : decode cX4_beginLambda 41 = .ok (.iload_n 3, 1) := by decide +kernel
theorem dX4_beginLambda_42 : decode cX4_beginLambda 42 = .ok (.invokevirtual 89, 3) := by decide +kernel
theorem dX4_beginLambda_45 : decode cX4_beginLambda 45 = .ok (.return_, 1) := by decide +kernel
theorem dX4_beginItself_0 : decode cX4_beginItself 0 = .ok (.aload_n 0, 1) := by decide +kernel
theorem dX4_beginItself_1 : decode cX4_beginItself 1 = .ok (.getfield 12, 3) := by decide +kernel
theorem dX4_beginItself_4 : decode cX4_beginItself 4 = .ok (.iconst 4, 1) := by decide +kernel
theorem dX4_beginItself_5 : decode cX4_beginItself 5 = .ok (.iconst 0, 1) := by decide +kernel
theorem dX4_beginItself_6 : decode cX4_beginItself 6 = .ok (.invokevirtual 96, 3) := by decide +kernel
theorem dX4_beginItself_9 : decode cX4_beginItself 9 = .ok (.istore_n 3, 1) := by decide +kernel
theorem dX4_beginItself_10 : decode cX4_beginItself 10 = .ok (.iload_n 3, 1) := by decide +kernel
theorem dX4_beginItself_11 : decode cX4_beginItself 11 = .ok (.iconst (-1), 1) := by decide +kernel
theorem dX4_beginItself_12 : decode cX4_beginItself 12 = .ok (.if_icmp .ne 9, 3) := by decide +kernel
theorem dX4_beginItself_15 : decode cX4_beginItself 15 = .ok (.aload_n 0, 1) := by decide +kernel
theorem dX4_beginItself_16 : decode cX4_beginItself 16 = .ok (.iconst (-1), 1) := by decide +kernel
theorem dX4_beginItself_17 : decode cX4_beginItself 17 = .ok (.invokevirtual 89, 3) := by decide +kernel
theorem dX4_beginItself_20 : decode cX4_beginItself 20 = .ok (.return_, 1) := by decide +kernel
theorem dX4_beginItself_21 : decode cX4_beginItself 21 = .ok (.aload_n 0, 1) := by decide +kernel
theorem dX4_beginItself_22 : decode cX4_beginItself 22 = .ok (.iload_n 3, 1) := by decide +kernel
theorem dX4_beginItself_23 : decode cX4_beginItself 23 = .ok (.putfield 56, 3) := by decide +kernel
theorem dX4_beginItself_26 : decode cX4_beginItself 26 = .ok (.aload_n 0, 1) := by decide +kernel
theorem dX4_beginItself_27 : decode cX4_beginItself 27 = .ok (.aload_n 0, 1) := by decide +kernel
theorem dX4_beginItself_28 : decode cX4_beginItself 28 = .ok (.getfield 38, 3) := by decide +kernel
theorem dX4_beginItself_31 : decode cX4_beginItself 31 = .ok (.iload_n 1, 1) := by decide +kernel
theorem dX4_beginItself_32 : decode cX4_beginItself 32 = .ok (.iconst 0, 1) := by decide +kernel
theorem dX4_beginItself_33 : decode cX4_beginItself 33 = .ok (.invokevirtual 109, 3) := by decide +kernel
theorem dX4_beginItself_36 : decode cX4_beginItself 36 = .ok (.aload_n 0, 1) := by decide +kernel
theorem dX4_beginItself_37 : decode cX4_beginItself 37 = .ok (.getfield 21, 3) := by decide +kernel
theorem dX4_beginItself_40 : decode cX4_beginItself 40 = .ok (.iload_n 3, 1) := by decide +kernel
theorem dX4_beginItself_41 : decode cX4_beginItself 41 = .ok (.iload_n 2, 1) := by decide +kernel
theorem dX4_beginItself_42 : decode cX4_beginItself 42 = .ok (.invokevirtual 112, 3) := by decide +kernel
theorem dX4_beginItself_45 : decode cX4_beginItself 45 = .ok (.invokevirtual 59, 3) := by decide +kernel
theorem dX4_beginItself_48 : decode cX4_beginItself 48 = .ok (.return_, 1) := by decide +kernel
theorem dX4_beginOpen_0 : decode cX4_beginOpen 0 = .ok (.aload_n 0, 1) := by decide +kernel
theorem dX4_beginOpen_1 : decode cX4_beginOpen 1 = .ok (.getfield 38, 3) := by decide +kernel
theorem dX4_beginOpen_4 : decode cX4_beginOpen 4 = .ok (.iload_n 1, 1) := by decide +kernel
theorem dX4_beginOpen_5 : decode cX4_beginOpen 5 = .ok (.invokevirtual 113, 3) := by decide +kernel
theorem dX4_beginOpen_8 : decode cX4_beginOpen 8 = .ok (.ifCond .ne 17, 3) := by decide +kernel
theorem dX4_beginOpen_11 : decode cX4_beginOpen 11 = .ok (.aload_n 0, 1) := by decide +kernel
theorem dX4_beginOpen_12 : decode cX4_beginOpen 12 = .ok (.aload_n 0, 1) := by decide +kernel
theorem dX4_beginOpen_13 : decode cX4_beginOpen 13 = .ok (.getfield 12, 3) := by decide +kernel
theorem dX4_beginOpen_16 : decode cX4_beginOpen 16 = .ok (.iconst 5, 1) := by decide +kernel
theorem dX4_beginOpen_17 : decode cX4_beginOpen 17 = .ok (.iconst 0, 1) := by decide +kernel
theorem dX4_beginOpen_18 : decode cX4_beginOpen 18 = .ok (.invokevirtual 96, 3) := by decide +kernel
theorem dX4_beginOpen_21 : decode cX4_beginOpen 21 = .ok (.invokevirtual 89, 3) := by decide +kernel
theorem dX4_beginOpen_24 : decode cX4_beginOpen 24 = .ok (.return_, 1) := by decide +kernel
theorem dX4_beginOpen_25 : decode cX4_beginOpen 25 = .ok (.aload_n 0, 1) := by decide +kernel
theorem dX4_beginOpen_26 : decode cX4_beginOpen 26 = .ok (.iload_n 1, 1) := by decide +kernel
theorem dX4_beginOpen_27 : decode cX4_beginOpen 27 = .ok (.iload_n 2, 1) := by decide +kernel
theorem dX4_beginOpen_28 : decode cX4_beginOpen 28 = .ok (.invokevirtual 116, 3) := by decide +kernel
theorem dX4_beginOpen_31 : decode cX4_beginOpen 31 = .ok (.aload_n 0, 1) := by decide +kernel
theorem dX4_beginOpen_32 : decode cX4_beginOpen 32 = .ok (.aload_n 0, 1) := by decide +kernel
theorem dX4_beginOpen_33 : decode cX4_beginOpen 33 = .ok (.getfield 38, 3) := by decide +kernel
theorem dX4_beginOpen_36 : decode cX4_beginOpen 36 = .ok (.iload_n 1, 1) := by decide +kernel
theorem dX4_beginOpen_37 : decode cX4_beginOpen 37 = .ok (.iconst 0, 1) := by decide +kernel
theorem dX4_beginOpen_38 : decode cX4_beginOpen 38 = .ok (.invokevirtual 119, 3) := by decide +kernel
theorem dX4_beginOpen_41 : decode cX4_beginOpen 41 = .ok (.iload_n 2, 1) := by decide +kernel
theorem dX4_beginOpen_42 : decode cX4_beginOpen 42 = .ok (.invokevirtual 59, 3) := by decide +kernel
theorem dX4_beginOpen_45 : decode cX4_beginOpen 45 = .ok (.return_, 1) := by decide +kernel
theorem dX4_push_0 : decode cX4_push 0 = .ok (.aload_n 0, 1) := by decide +kernel
theorem dX4_push_1 : decode cX4_push 1 = .ok (.getfield 50, 3) := by decide +kernel
theorem dX4_push_4 : decode cX4_push 4 = .ok (.sipush 300, 3) := by decide +kernel
theorem dX4_push_7 : decode cX4_push 7 = .ok (.if_icmp .ge 43, 3) := by decide +kernel
theorem dX4_push_10 : decode cX4_push 10 = .ok (.aload_n 0, 1) := by decide +kernel
theorem dX4_push_11 : decode cX4_push 11 = .ok (.getfield 25, 3) := by decide +kernel
theorem dX4_push_14 : decode cX4_push 14 = .ok (.aload_n 0, 1) := by decide +kernel
theorem dX4_push_15 : decode cX4_push 15 = .ok (.getfield 50, 3) := by decide +kernel
theorem dX4_push_18 : decode cX4_push 18 = .ok (.iload_n 1, 1) := by decide +kernel
theorem dX4_push_19 : decode cX4_push 19 = .ok (.iastore, 1) := by decide +kernel
theorem dX4_push_20 : decode cX4_push 20 = .ok (.aload_n 0, 1) := by decide +kernel
theorem dX4_push_21 : decode cX4_push 21 = .ok (.getfield 29, 3) := by decide +kernel
theorem dX4_push_24 : decode cX4_push 24 = .ok (.aload_n 0, 1) := by decide +kernel
theorem dX4_push_25 : decode cX4_push 25 = .ok (.getfield 50, 3) := by decide +kernel
theorem dX4_push_28 : decode cX4_push 28 = .ok (.iload_n 2, 1) := by decide +kernel
theorem dX4_push_29 : decode cX4_push 29 = .ok (.iastore, 1) := by decide +kernel
theorem dX4_push_30 : decode cX4_push 30 = .ok (.aload_n 0, 1) := by decide +kernel
theorem dX4_push_31 : decode cX4_push 31 = .ok (.getfield 32, 3) := by decide +kernel
theorem dX4_push_34 : decode cX4_push 34 = .ok (.aload_n 0, 1) := by decide +kernel
theorem dX4_push_35 : decode cX4_push 35 = .ok (.getfield 50, 3) := by decide +kernel
theorem dX4_push_38 : decode cX4_push 38 = .ok (.iconst 0, 1) := by decide +kernel
theorem dX4_push_39 : decode cX4_push 39 = .ok (.iastore, 1) := by decide +kernel
theorem dX4_push_40 : decode cX4_push 40 = .ok (.aload_n 0, 1) := by decide +kernel
theorem dX4_push_41 : decode cX4_push 41 = .ok (.dup, 1) := by decide +kernel
theorem dX4_push_42 : decode cX4_push 42 = .ok (.getfield 50, 3) := by decide +kernel
theorem dX4_push_45 : decode cX4_push 45 = .ok (.iconst 1, 1) := by decide +kernel
theorem dX4_push_46 : decode cX4_push 46 = .ok (.iadd, 1) := by decide +kernel
theorem dX4_push_47 : decode cX4_push 47 = .ok (.putfield 50, 3) := by decide +kernel
theorem dX4_push_50 : decode cX4_push 50 = .ok (.return_, 1) := by decide +kernel
theorem dX4_resume_0 : decode cX4_resume 0 = .ok (.aload_n 0, 1) := by decide +kernel
theorem dX4_resume_1 : decode cX4_resume 1 = .ok (.getfield 50, 3) := by decide +kernel
theorem dX4_resume_4 : decode cX4_resume 4 = .ok (.iconst 1, 1) := by decide +kernel
theorem dX4_resume_5 : decode cX4_resume 5 = .ok (.isub, 1) := by decide +kernel
theorem dX4_resume_6 : decode cX4_resume 6 = .ok (.istore_n 1, 1) := by decide +kernel
theorem dX4_resume_7 : decode cX4_resume 7 = .ok (.iload_n 1, 1) := by decide +kernel
theorem dX4_resume_8 : decode cX4_resume 8 = .ok (.ifCond .lt 10, 3) := by decide +kernel
theorem dX4_resume_11 : decode cX4_resume 11 = .ok (.iload_n 1, 1) := by decide +kernel
theorem dX4_resume_12 : decode cX4_resume 12 = .ok (.sipush 300, 3) := by decide +kernel
theorem dX4_resume_15 : decode cX4_resume 15 = .ok (.if_icmp .lt 4, 3) := by decide +kernel
theorem dX4_resume_18 : decode cX4_resume 18 = .ok (.return_, 1) := by decide +kernel
theorem dX4_resume_19 : decode cX4_resume 19 = .ok (.aload_n 0, 1) := by decide +kernel
theorem dX4_resume_20 : decode cX4_resume 20 = .ok (.getfield 25, 3) := by decide +kernel
theorem dX4_resume_23 : decode cX4_resume 23 = .ok (.iload_n 1, 1) := by decide +kernel
theorem dX4_resume_24 : decode cX4_resume 24 = .ok (.iaload, 1) := by decide +kernel
theorem dX4_resume_25 : decode cX4_resume 25 = .ok (.istore_n 2, 1) := by decide +kernel
theorem dX4_resume_26 : decode cX4_resume 26 = .ok (.aload_n 0, 1) := by decide +kernel
theorem dX4_resume_27 : decode cX4_resume 27 = .ok (.getfield 32, 3) := by decide +kernel
theorem dX4_resume_30 : decode cX4_resume 30 = .ok (.iload_n 1, 1) := by decide +kernel
theorem dX4_resume_31 : decode cX4_resume 31 = .ok (.iaload, 1) := by decide +kernel
theorem dX4_resume_32 : decode cX4_resume 32 = .ok (.bipush 8, 2) := by decide +kernel
theorem dX4_resume_34 : decode cX4_resume 34 = .ok (.if_icmp .ge 33, 3) := by decide +kernel
theorem dX4_resume_37 : decode cX4_resume 37 = .ok (.aload_n 0, 1) := by decide +kernel
theorem dX4_resume_38 : decode cX4_resume 38 = .ok (.getfield 35, 3) := by decide +kernel
theorem dX4_resume_41 : decode cX4_resume 41 = .ok (.iload_n 1, 1) := by decide +kernel
theorem dX4_resume_42 : decode cX4_resume 42 = .ok (.bipush 8, 2) := by decide +kernel
theorem dX4_resume_44 : decode cX4_resume 44 = .ok (.imul, 1) := by decide +kernel
theorem dX4_resume_45 : decode cX4_resume 45 = .ok (.aload_n 0, 1) := by decide +kernel
theorem dX4_resume_46 : decode cX4_resume 46 = .ok (.getfield 32, 3) := by decide +kernel
theorem dX4_resume_49 : decode cX4_resume 49 = .ok (.iload_n 1, 1) := by decide +kernel
theorem dX4_resume_50 : decode cX4_resume 50 = .ok (.iaload, 1) := by decide +kernel
theorem dX4_resume_51 : decode cX4_resume 51 = .ok (.iadd, 1) := by decide +kernel
theorem dX4_resume_52 : decode cX4_resume 52 = .ok (.aload_n 0, 1) := by decide +kernel
theorem dX4_resume_53 : decode cX4_resume 53 = .ok (.getfield 67, 3) := by decide +kernel
theorem dX4_resume_56 : decode cX4_resume 56 = .ok (.iastore, 1) := by decide +kernel
theorem dX4_resume_57 : decode cX4_resume 57 = .ok (.aload_n 0, 1) := by decide +kernel
theorem dX4_resume_58 : decode cX4_resume 58 = .ok (.getfield 32, 3) := by decide +kernel
theorem dX4_resume_61 : decode cX4_resume 61 = .ok (.iload_n 1, 1) := by decide +kernel
theorem dX4_resume_62 : decode cX4_resume 62 = .ok (.dup2, 1) := by decide +kernel
theorem dX4_resume_63 : decode cX4_resume 63 = .ok (.iaload, 1) := by decide +kernel
theorem dX4_resume_64 : decode cX4_resume 64 = .ok (.iconst 1, 1) := by decide +kernel
theorem dX4_resume_65 : decode cX4_resume 65 = .ok (.iadd, 1) := by decide +kernel
theorem dX4_resume_66 : decode cX4_resume 66 = .ok (.iastore, 1) := by decide +kernel
theorem dX4_resume_67 : decode cX4_resume 67 = .ok (.aload_n 0, 1) := by decide +kernel
theorem dX4_resume_68 : decode cX4_resume 68 = .ok (.getfield 32, 3) := by decide +kernel
theorem dX4_resume_71 : decode cX4_resume 71 = .ok (.iload_n 1, 1) := by decide +kernel
theorem dX4_resume_72 : decode cX4_resume 72 = .ok (.iaload, 1) := by decide +kernel
theorem dX4_resume_73 : decode cX4_resume 73 = .ok (.aload_n 0, 1) := by decide +kernel
theorem dX4_resume_74 : decode cX4_resume 74 = .ok (.iload_n 2, 1) := by decide +kernel
theorem dX4_resume_75 : decode cX4_resume 75 = .ok (.invokevirtual 122, 3) := by decide +kernel
theorem dX4_resume_78 : decode cX4_resume 78 = .ok (.if_icmp .ge 28, 3) := by decide +kernel
theorem dX4_resume_81 : decode cX4_resume 81 = .ok (.aload_n 0, 1) := by decide +kernel
theorem dX4_resume_82 : decode cX4_resume 82 = .ok (.aload_n 0, 1) := by decide +kernel
theorem dX4_resume_83 : decode cX4_resume 83 = .ok (.getfield 38, 3) := by decide +kernel
theorem dX4_resume_86 : decode cX4_resume 86 = .ok (.iload_n 2, 1) := by decide +kernel
theorem dX4_resume_87 : decode cX4_resume 87 = .ok (.aload_n 0, 1) := by decide +kernel
theorem dX4_resume_88 : decode cX4_resume 88 = .ok (.getfield 32, 3) := by decide +kernel
theorem dX4_resume_91 : decode cX4_resume 91 = .ok (.iload_n 1, 1) := by decide +kernel
theorem dX4_resume_92 : decode cX4_resume 92 = .ok (.iaload, 1) := by decide +kernel
theorem dX4_resume_93 : decode cX4_resume 93 = .ok (.invokevirtual 119, 3) := by decide +kernel
theorem dX4_resume_96 : decode cX4_resume 96 = .ok (.aload_n 0, 1) := by decide +kernel
theorem dX4_resume_97 : decode cX4_resume 97 = .ok (.getfield 29, 3) := by decide +kernel
theorem dX4_resume_100 : decode cX4_resume 100 = .ok (.iload_n 1, 1) := by decide +kernel
theorem dX4_resume_101 : decode cX4_resume 101 = .ok (.iaload, 1) := by decide +kernel
theorem dX4_resume_102 : decode cX4_resume 102 = .ok (.invokevirtual 59, 3) := by decide +kernel
theorem dX4_resume_105 : decode cX4_resume 105 = .ok (.return_, 1) := by decide +kernel
theorem dX4_resume_106 : decode cX4_resume 106 = .ok (.aload_n 0, 1) := by decide +kernel
theorem dX4_resume_107 : decode cX4_resume 107 = .ok (.iload_n 1, 1) := by decide +kernel
theorem dX4_resume_108 : decode cX4_resume 108 = .ok (.putfield 50, 3) := by decide +kernel
theorem dX4_resume_111 : decode cX4_resume 111 = .ok (.aload_n 0, 1) := by decide +kernel
theorem dX4_resume_112 : decode cX4_resume 112 = .ok (.iload_n 2, 1) := by decide +kernel
theorem dX4_resume_113 : decode cX4_resume 113 = .ok (.aload_n 0, 1) := by decide +kernel
theorem dX4_resume_114 : decode cX4_resume 114 = .ok (.iload_n 1, 1) := by decide +kernel
theorem dX4_resume_115 : decode cX4_resume 115 = .ok (.iconst 0, 1) := by decide +kernel
theorem dX4_resume_116 : decode cX4_resume 116 = .ok (.invokevirtual 125, 3) := by decide +kernel
theorem dX4_resume_119 : decode cX4_resume 119 = .ok (.aload_n 0, 1) := by decide +kernel
theorem dX4_resume_120 : decode cX4_resume 120 = .ok (.getfield 29, 3) := by decide +kernel
theorem dX4_resume_123 : decode cX4_resume 123 = .ok (.iload_n 1, 1) := by decide +kernel
theorem dX4_resume_124 : decode cX4_resume 124 = .ok (.iaload, 1) := by decide +kernel
theorem dX4_resume_125 : decode cX4_resume 125 = .ok (.invokevirtual 128, 3) := by decide +kernel
theorem dX4_resume_128 : decode cX4_resume 128 = .ok (.return_, 1) := by decide +kernel
theorem dX4_gottenBy_0 : decode cX4_gottenBy 0 = .ok (.iload_n 1, 1) := by decide +kernel
theorem dX4_gottenBy_1 : decode cX4_gottenBy 1 = .ok (.ifCond .lt 34, 3) := by decide +kernel
theorem dX4_gottenBy_4 : decode cX4_gottenBy 4 = .ok (.iload_n 1, 1) := by decide +kernel
theorem dX4_gottenBy_5 : decode cX4_gottenBy 5 = .ok (.sipush 300, 3) := by decide +kernel
theorem dX4_gottenBy_8 : decode cX4_gottenBy 8 = .ok (.if_icmp .ge 27, 3) := by decide +kernel
theorem dX4_gottenBy_11 : decode cX4_gottenBy 11 = .ok (.iload_n 2, 1) := by decide +kernel
theorem dX4_gottenBy_12 : decode cX4_gottenBy 12 = .ok (.ifCond .lt 23, 3) := by decide +kernel
theorem dX4_gottenBy_15 : decode cX4_gottenBy 15 = .ok (.iload_n 2, 1) := by decide +kernel
theorem dX4_gottenBy_16 : decode cX4_gottenBy 16 = .ok (.bipush 8, 2) := by decide +kernel
theorem dX4_gottenBy_18 : decode cX4_gottenBy 18 = .ok (.if_icmp .ge 17, 3) := by decide +kernel
theorem dX4_gottenBy_21 : decode cX4_gottenBy 21 = .ok (.aload_n 0, 1) := by decide +kernel
theorem dX4_gottenBy_22 : decode cX4_gottenBy 22 = .ok (.getfield 35, 3) := by decide +kernel
theorem dX4_gottenBy_25 : decode cX4_gottenBy 25 = .ok (.iload_n 1, 1) := by decide +kernel
theorem dX4_gottenBy_26 : decode cX4_gottenBy 26 = .ok (.bipush 8, 2) := by decide +kernel
theorem dX4_gottenBy_28 : decode cX4_gottenBy 28 = .ok (.imul, 1) := by decide +kernel
theorem dX4_gottenBy_29 : decode cX4_gottenBy 29 = .ok (.iload_n 2, 1) := by decide +kernel
theorem dX4_gottenBy_30 : decode cX4_gottenBy 30 = .ok (.iadd, 1) := by decide +kernel
theorem dX4_gottenBy_31 : decode cX4_gottenBy 31 = .ok (.iaload, 1) := by decide +kernel
theorem dX4_gottenBy_32 : decode cX4_gottenBy 32 = .ok (.goto 4, 3) := by decide +kernel
theorem dX4_gottenBy_35 : decode cX4_gottenBy 35 = .ok (.iconst (-1), 1) := by decide +kernel
theorem dX4_gottenBy_36 : decode cX4_gottenBy 36 = .ok (.ireturn, 1) := by decide +kernel
theorem dX4_neededBy_0 : decode cX4_neededBy 0 = .ok (.aload_n 0, 1) := by decide +kernel
theorem dX4_neededBy_1 : decode cX4_neededBy 1 = .ok (.getfield 38, 3) := by decide +kernel
theorem dX4_neededBy_4 : decode cX4_neededBy 4 = .ok (.iload_n 1, 1) := by decide +kernel
theorem dX4_neededBy_5 : decode cX4_neededBy 5 = .ok (.invokevirtual 79, 3) := by decide +kernel
theorem dX4_neededBy_8 : decode cX4_neededBy 8 = .ok (.istore_n 2, 1) := by decide +kernel
theorem dX4_neededBy_9 : decode cX4_neededBy 9 = .ok (.iload_n 2, 1) := by decide +kernel
theorem dX4_neededBy_10 : decode cX4_neededBy 10 = .ok (.bipush 28, 2) := by decide +kernel
theorem dX4_neededBy_12 : decode cX4_neededBy 12 = .ok (.if_icmp .eq 9, 3) := by decide +kernel
theorem dX4_neededBy_15 : decode cX4_neededBy 15 = .ok (.iload_n 2, 1) := by decide +kernel
theorem dX4_neededBy_16 : decode cX4_neededBy 16 = .ok (.bipush 32, 2) := by decide +kernel
theorem dX4_neededBy_18 : decode cX4_neededBy 18 = .ok (.if_icmp .ne 7, 3) := by decide +kernel
theorem dX4_neededBy_21 : decode cX4_neededBy 21 = .ok (.iconst 1, 1) := by decide +kernel
theorem dX4_neededBy_22 : decode cX4_neededBy 22 = .ok (.goto 11, 3) := by decide +kernel
theorem dX4_neededBy_25 : decode cX4_neededBy 25 = .ok (.aload_n 0, 1) := by decide +kernel
theorem dX4_neededBy_26 : decode cX4_neededBy 26 = .ok (.getfield 38, 3) := by decide +kernel
theorem dX4_neededBy_29 : decode cX4_neededBy 29 = .ok (.iload_n 1, 1) := by decide +kernel
theorem dX4_neededBy_30 : decode cX4_neededBy 30 = .ok (.invokevirtual 113, 3) := by decide +kernel
theorem dX4_neededBy_33 : decode cX4_neededBy 33 = .ok (.ireturn, 1) := by decide +kernel
theorem dX4_finish_0 : decode cX4_finish 0 = .ok (.aload_n 0, 1) := by decide +kernel
theorem dX4_finish_1 : decode cX4_finish 1 = .ok (.getfield 38, 3) := by decide +kernel
theorem dX4_finish_4 : decode cX4_finish 4 = .ok (.iload_n 1, 1) := by decide +kernel
theorem dX4_finish_5 : decode cX4_finish 5 = .ok (.invokevirtual 79, 3) := by decide +kernel
theorem dX4_finish_8 : decode cX4_finish 8 = .ok (.tableswitch 271 22 31 #[56, 271, 98, 133, 271, 271, 175, 208, 224, 249], 56) := by decide +kernel
theorem dX4_finish_64 : decode cX4_finish 64 = .ok (.aload_n 0, 1) := by decide +kernel
theorem dX4_finish_65 : decode cX4_finish 65 = .ok (.aload_n 0, 1) := by decide +kernel
theorem dX4_finish_66 : decode cX4_finish 66 = .ok (.getfield 38, 3) := by decide +kernel
theorem dX4_finish_69 : decode cX4_finish 69 = .ok (.aload_n 0, 1) := by decide +kernel
theorem dX4_finish_70 : decode cX4_finish 70 = .ok (.getfield 12, 3) := by decide +kernel
theorem dX4_finish_73 : decode cX4_finish 73 = .ok (.iload_n 2, 1) := by decide +kernel
theorem dX4_finish_74 : decode cX4_finish 74 = .ok (.invokevirtual 131, 3) := by decide +kernel
theorem dX4_finish_77 : decode cX4_finish 77 = .ok (.iconst 0, 1) := by decide +kernel
theorem dX4_finish_78 : decode cX4_finish 78 = .ok (.invokevirtual 109, 3) := by decide +kernel
theorem dX4_finish_81 : decode cX4_finish 81 = .ok (.aload_n 0, 1) := by decide +kernel
theorem dX4_finish_82 : decode cX4_finish 82 = .ok (.getfield 21, 3) := by decide +kernel
theorem dX4_finish_85 : decode cX4_finish 85 = .ok (.aload_n 0, 1) := by decide +kernel
theorem dX4_finish_86 : decode cX4_finish 86 = .ok (.getfield 67, 3) := by decide +kernel
theorem dX4_finish_89 : decode cX4_finish 89 = .ok (.aload_n 0, 1) := by decide +kernel
theorem dX4_finish_90 : decode cX4_finish 90 = .ok (.getfield 12, 3) := by decide +kernel
theorem dX4_finish_93 : decode cX4_finish 93 = .ok (.iload_n 2, 1) := by decide +kernel
theorem dX4_finish_94 : decode cX4_finish 94 = .ok (.invokevirtual 134, 3) := by decide +kernel
theorem dX4_finish_97 : decode cX4_finish 97 = .ok (.invokevirtual 112, 3) := by decide +kernel
theorem dX4_finish_100 : decode cX4_finish 100 = .ok (.invokevirtual 59, 3) := by decide +kernel
theorem dX4_finish_103 : decode cX4_finish 103 = .ok (.goto 206, 3) := by decide +kernel
theorem dX4_finish_106 : decode cX4_finish 106 = .ok (.aload_n 0, 1) := by decide +kernel
theorem dX4_finish_107 : decode cX4_finish 107 = .ok (.aload_n 0, 1) := by decide +kernel
theorem dX4_finish_108 : decode cX4_finish 108 = .ok (.getfield 12, 3) := by decide +kernel
theorem dX4_finish_111 : decode cX4_finish 111 = .ok (.iconst 2, 1) := by decide +kernel
theorem dX4_finish_112 : decode cX4_finish 112 = .ok (.aload_n 0, 1) := by decide +kernel
theorem dX4_finish_113 : decode cX4_finish 113 = .ok (.getfield 12, 3) := by decide +kernel
theorem dX4_finish_116 : decode cX4_finish 116 = .ok (.iload_n 2, 1) := by decide +kernel
theorem dX4_finish_117 : decode cX4_finish 117 = .ok (.invokevirtual 137, 3) := by decide +kernel
theorem dX4_finish_120 : decode cX4_finish 120 = .ok (.aload_n 0, 1) := by decide +kernel
theorem dX4_finish_121 : decode cX4_finish 121 = .ok (.getfield 12, 3) := by decide +kernel
theorem dX4_finish_124 : decode cX4_finish 124 = .ok (.aload_n 0, 1) := by decide +kernel
theorem dX4_finish_125 : decode cX4_finish 125 = .ok (.getfield 67, 3) := by decide +kernel
theorem dX4_finish_128 : decode cX4_finish 128 = .ok (.invokevirtual 137, 3) := by decide +kernel
theorem dX4_finish_131 : decode cX4_finish 131 = .ok (.iadd, 1) := by decide +kernel
theorem dX4_finish_132 : decode cX4_finish 132 = .ok (.invokevirtual 96, 3) := by decide +kernel
theorem dX4_finish_135 : decode cX4_finish 135 = .ok (.invokevirtual 89, 3) := by decide +kernel
theorem dX4_finish_138 : decode cX4_finish 138 = .ok (.goto 171, 3) := by decide +kernel
theorem dX4_finish_141 : decode cX4_finish 141 = .ok (.aload_n 0, 1) := by decide +kernel
theorem dX4_finish_142 : decode cX4_finish 142 = .ok (.aload_n 0, 1) := by decide +kernel
theorem dX4_finish_143 : decode cX4_finish 143 = .ok (.getfield 12, 3) := by decide +kernel
theorem dX4_finish_146 : decode cX4_finish 146 = .ok (.iconst 3, 1) := by decide +kernel
theorem dX4_finish_147 : decode cX4_finish 147 = .ok (.aload_n 0, 1) := by decide +kernel
theorem dX4_finish_148 : decode cX4_finish 148 = .ok (.getfield 12, 3) := by decide +kernel
theorem dX4_finish_151 : decode cX4_finish 151 = .ok (.iload_n 2, 1) := by decide +kernel
theorem dX4_finish_152 : decode cX4_finish 152 = .ok (.invokevirtual 137, 3) := by decide +kernel
theorem dX4_finish_155 : decode cX4_finish 155 = .ok (.aload_n 0, 1) := by decide +kernel
theorem dX4_finish_156 : decode cX4_finish 156 = .ok (.getfield 12, 3) := by decide +kernel
theorem dX4_finish_159 : decode cX4_finish 159 = .ok (.aload_n 0, 1) := by decide +kernel
theorem dX4_finish_160 : decode cX4_finish 160 = .ok (.getfield 67, 3) := by decide +kernel
theorem dX4_finish_163 : decode cX4_finish 163 = .ok (.invokevirtual 137, 3) := by decide +kernel
theorem dX4_finish_166 : decode cX4_finish 166 = .ok (.if_icmp .ge 7, 3) := by decide +kernel
theorem dX4_finish_169 : decode cX4_finish 169 = .ok (.iconst 1, 1) := by decide +kernel
theorem dX4_finish_170 : decode cX4_finish 170 = .ok (.goto 4, 3) := by decide +kernel
theorem dX4_finish_173 : decode cX4_finish 173 = .ok (.iconst 0, 1) := by decide +kernel
theorem dX4_finish_174 : decode cX4_finish 174 = .ok (.invokevirtual 96, 3) := by decide +kernel
theorem dX4_finish_177 : decode cX4_finish 177 = .ok (.invokevirtual 89, 3) := by decide +kernel
theorem dX4_finish_180 : decode cX4_finish 180 = .ok (.goto 129, 3) := by decide +kernel
theorem dX4_finish_183 : decode cX4_finish 183 = .ok (.aload_n 0, 1) := by decide +kernel
theorem dX4_finish_184 : decode cX4_finish 184 = .ok (.aload_n 0, 1) := by decide +kernel
theorem dX4_finish_185 : decode cX4_finish 185 = .ok (.getfield 38, 3) := by decide +kernel
theorem dX4_finish_188 : decode cX4_finish 188 = .ok (.iload_n 1, 1) := by decide +kernel
theorem dX4_finish_189 : decode cX4_finish 189 = .ok (.aload_n 0, 1) := by decide +kernel
theorem dX4_finish_190 : decode cX4_finish 190 = .ok (.getfield 12, 3) := by decide +kernel
theorem dX4_finish_193 : decode cX4_finish 193 = .ok (.iload_n 2, 1) := by decide +kernel
theorem dX4_finish_194 : decode cX4_finish 194 = .ok (.invokevirtual 137, 3) := by decide +kernel
theorem dX4_finish_197 : decode cX4_finish 197 = .ok (.iconst 1, 1) := by decide +kernel
theorem dX4_finish_198 : decode cX4_finish 198 = .ok (.if_icmp .ne 7, 3) := by decide +kernel
theorem dX4_finish_201 : decode cX4_finish 201 = .ok (.iconst 1, 1) := by decide +kernel
theorem dX4_finish_202 : decode cX4_finish 202 = .ok (.goto 4, 3) := by decide +kernel
theorem dX4_finish_205 : decode cX4_finish 205 = .ok (.iconst 2, 1) := by decide +kernel
theorem dX4_finish_206 : decode cX4_finish 206 = .ok (.invokevirtual 109, 3) := by decide +kernel
theorem dX4_finish_209 : decode cX4_finish 209 = .ok (.iload_n 3, 1) := by decide +kernel
theorem dX4_finish_210 : decode cX4_finish 210 = .ok (.invokevirtual 59, 3) := by decide +kernel
theorem dX4_finish_213 : decode cX4_finish 213 = .ok (.goto 96, 3) := by decide +kernel
theorem dX4_finish_216 : decode cX4_finish 216 = .ok (.aload_n 0, 1) := by decide +kernel
theorem dX4_finish_217 : decode cX4_finish 217 = .ok (.aload_n 0, 1) := by decide +kernel
theorem dX4_finish_218 : decode cX4_finish 218 = .ok (.iload_n 1, 1) := by decide +kernel
theorem dX4_finish_219 : decode cX4_finish 219 = .ok (.aload_n 0, 1) := by decide +kernel
theorem dX4_finish_220 : decode cX4_finish 220 = .ok (.getfield 50, 3) := by decide +kernel
theorem dX4_finish_223 : decode cX4_finish 223 = .ok (.invokevirtual 140, 3) := by decide +kernel
theorem dX4_finish_226 : decode cX4_finish 226 = .ok (.invokevirtual 89, 3) := by decide +kernel
theorem dX4_finish_229 : decode cX4_finish 229 = .ok (.goto 80, 3) := by decide +kernel
theorem dX4_finish_232 : decode cX4_finish 232 = .ok (.aload_n 0, 1) := by decide +kernel
theorem dX4_finish_233 : decode cX4_finish 233 = .ok (.aload_n 0, 1) := by decide +kernel
theorem dX4_finish_234 : decode cX4_finish 234 = .ok (.getfield 12, 3) := by decide +kernel
theorem dX4_finish_237 : decode cX4_finish 237 = .ok (.iload_n 2, 1) := by decide +kernel
theorem dX4_finish_238 : decode cX4_finish 238 = .ok (.aload_n 0, 1) := by decide +kernel
theorem dX4_finish_239 : decode cX4_finish 239 = .ok (.getfield 38, 3) := by decide +kernel
theorem dX4_finish_242 : decode cX4_finish 242 = .ok (.iload_n 1, 1) := by decide +kernel
theorem dX4_finish_243 : decode cX4_finish 243 = .ok (.iconst 1, 1) := by decide +kernel
theorem dX4_finish_244 : decode cX4_finish 244 = .ok (.iadd, 1) := by decide +kernel
theorem dX4_finish_245 : decode cX4_finish 245 = .ok (.invokevirtual 79, 3) := by decide +kernel
theorem dX4_finish_248 : decode cX4_finish 248 = .ok (.invokevirtual 143, 3) := by decide +kernel
theorem dX4_finish_251 : decode cX4_finish 251 = .ok (.invokevirtual 89, 3) := by decide +kernel
theorem dX4_finish_254 : decode cX4_finish 254 = .ok (.goto 55, 3) := by decide +kernel
theorem dX4_finish_257 : decode cX4_finish 257 = .ok (.aload_n 0, 1) := by decide +kernel
theorem dX4_finish_258 : decode cX4_finish 258 = .ok (.aload_n 0, 1) := by decide +kernel
theorem dX4_finish_259 : decode cX4_finish 259 = .ok (.aload_n 0, 1) := by decide +kernel
theorem dX4_finish_260 : decode cX4_finish 260 = .ok (.getfield 38, 3) := by decide +kernel
theorem dX4_finish_263 : decode cX4_finish 263 = .ok (.iload_n 1, 1) := by decide +kernel
theorem dX4_finish_264 : decode cX4_finish 264 = .ok (.iconst 2, 1) := by decide +kernel
theorem dX4_finish_265 : decode cX4_finish 265 = .ok (.iadd, 1) := by decide +kernel
theorem dX4_finish_266 : decode cX4_finish 266 = .ok (.invokevirtual 79, 3) := by decide +kernel
theorem dX4_finish_269 : decode cX4_finish 269 = .ok (.iload_n 2, 1) := by decide +kernel
theorem dX4_finish_270 : decode cX4_finish 270 = .ok (.invokevirtual 146, 3) := by decide +kernel
theorem dX4_finish_273 : decode cX4_finish 273 = .ok (.invokevirtual 89, 3) := by decide +kernel
theorem dX4_finish_276 : decode cX4_finish 276 = .ok (.goto 33, 3) := by decide +kernel
theorem dX4_finish_279 : decode cX4_finish 279 = .ok (.aload_n 0, 1) := by decide +kernel
theorem dX4_finish_280 : decode cX4_finish 280 = .ok (.aload_n 0, 1) := by decide +kernel
theorem dX4_finish_281 : decode cX4_finish 281 = .ok (.iload_n 1, 1) := by decide +kernel
theorem dX4_finish_282 : decode cX4_finish 282 = .ok (.aload_n 0, 1) := by decide +kernel
theorem dX4_finish_283 : decode cX4_finish 283 = .ok (.getfield 12, 3) := by decide +kernel
theorem dX4_finish_286 : decode cX4_finish 286 = .ok (.iload_n 2, 1) := by decide +kernel
theorem dX4_finish_287 : decode cX4_finish 287 = .ok (.invokevirtual 137, 3) := by decide +kernel
theorem dX4_finish_290 : decode cX4_finish 290 = .ok (.invokevirtual 149, 3) := by decide +kernel
theorem dX4_finish_293 : decode cX4_finish 293 = .ok (.aload_n 0, 1) := by decide +kernel
theorem dX4_finish_294 : decode cX4_finish 294 = .ok (.getfield 21, 3) := by decide +kernel
theorem dX4_finish_297 : decode cX4_finish 297 = .ok (.aload_n 0, 1) := by decide +kernel
theorem dX4_finish_298 : decode cX4_finish 298 = .ok (.iload_n 2, 1) := by decide +kernel
theorem dX4_finish_299 : decode cX4_finish 299 = .ok (.invokevirtual 152, 3) := by decide +kernel
theorem dX4_finish_302 : decode cX4_finish 302 = .ok (.iload_n 3, 1) := by decide +kernel
theorem dX4_finish_303 : decode cX4_finish 303 = .ok (.invokevirtual 112, 3) := by decide +kernel
theorem dX4_finish_306 : decode cX4_finish 306 = .ok (.invokevirtual 59, 3) := by decide +kernel
theorem dX4_finish_309 : decode cX4_finish 309 = .ok (.return_, 1) := by decide +kernel
theorem dX4_gather_0 : decode cX4_gather 0 = .ok (.iconst 0, 1) := by decide +kernel
theorem dX4_gather_1 : decode cX4_gather 1 = .ok (.istore_n 3, 1) := by decide +kernel
theorem dX4_gather_2 : decode cX4_gather 2 = .ok (.iconst 0, 1) := by decide +kernel
theorem dX4_gather_3 : decode cX4_gather 3 = .ok (.istore 4, 2) := by decide +kernel
theorem dX4_gather_5 : decode cX4_gather 5 = .ok (.iload 4, 2) := by decide +kernel
theorem dX4_gather_7 : decode cX4_gather 7 = .ok (.aload_n 0, 1) := by decide +kernel
theorem dX4_gather_8 : decode cX4_gather 8 = .ok (.getfield 38, 3) := by decide +kernel
theorem dX4_gather_11 : decode cX4_gather 11 = .ok (.iload_n 1, 1) := by decide +kernel
theorem dX4_gather_12 : decode cX4_gather 12 = .ok (.invokevirtual 113, 3) := by decide +kernel
theorem dX4_gather_15 : decode cX4_gather 15 = .ok (.if_icmp .ge 31, 3) := by decide +kernel
theorem dX4_gather_18 : decode cX4_gather 18 = .ok (.iload_n 3, 1) := by decide +kernel
theorem dX4_gather_19 : decode cX4_gather 19 = .ok (.iconst 1, 1) := by decide +kernel
theorem dX4_gather_20 : decode cX4_gather 20 = .ok (.aload_n 0, 1) := by decide +kernel
theorem dX4_gather_21 : decode cX4_gather 21 = .ok (.getfield 38, 3) := by decide +kernel
theorem dX4_gather_24 : decode cX4_gather 24 = .ok (.aload_n 0, 1) := by decide +kernel
theorem dX4_gather_25 : decode cX4_gather 25 = .ok (.getfield 38, 3) := by decide +kernel
theorem dX4_gather_28 : decode cX4_gather 28 = .ok (.iload_n 1, 1) := by decide +kernel
theorem dX4_gather_29 : decode cX4_gather 29 = .ok (.iload 4, 2) := by decide +kernel
theorem dX4_gather_31 : decode cX4_gather 31 = .ok (.invokevirtual 109, 3) := by decide +kernel
theorem dX4_gather_34 : decode cX4_gather 34 = .ok (.invokevirtual 155, 3) := by decide +kernel
theorem dX4_gather_37 : decode cX4_gather 37 = .ok (.ishl, 1) := by decide +kernel
theorem dX4_gather_38 : decode cX4_gather 38 = .ok (.ior, 1) := by decide +kernel
theorem dX4_gather_39 : decode cX4_gather 39 = .ok (.istore_n 3, 1) := by decide +kernel
theorem dX4_gather_40 : decode cX4_gather 40 = .ok (.iinc 4 1, 3) := by decide +kernel
theorem dX4_gather_43 : decode cX4_gather 43 = .ok (.goto (-38), 3) := by decide +kernel
theorem dX4_gather_46 : decode cX4_gather 46 = .ok (.aload_n 0, 1) := by decide +kernel
theorem dX4_gather_47 : decode cX4_gather 47 = .ok (.getfield 12, 3) := by decide +kernel
theorem dX4_gather_50 : decode cX4_gather 50 = .ok (.iconst 5, 1) := by decide +kernel
theorem dX4_gather_51 : decode cX4_gather 51 = .ok (.iload_n 3, 1) := by decide +kernel
theorem dX4_gather_52 : decode cX4_gather 52 = .ok (.invokevirtual 96, 3) := by decide +kernel
theorem dX4_gather_55 : decode cX4_gather 55 = .ok (.istore 4, 2) := by decide +kernel
theorem dX4_gather_57 : decode cX4_gather 57 = .ok (.iconst 0, 1) := by decide +kernel
theorem dX4_gather_58 : decode cX4_gather 58 = .ok (.istore 5, 2) := by decide +kernel
theorem dX4_gather_60 : decode cX4_gather 60 = .ok (.iload 5, 2) := by decide +kernel
theorem dX4_gather_62 : decode cX4_gather 62 = .ok (.aload_n 0, 1) := by decide +kernel
theorem dX4_gather_63 : decode cX4_gather 63 = .ok (.getfield 38, 3) := by decide +kernel
theorem dX4_gather_66 : decode cX4_gather 66 = .ok (.iload_n 1, 1) := by decide +kernel
theorem dX4_gather_67 : decode cX4_gather 67 = .ok (.invokevirtual 113, 3) := by decide +kernel
theorem dX4_gather_70 : decode cX4_gather 70 = .ok (.if_icmp .ge 42, 3) := by decide +kernel
theorem dX4_gather_73 : decode cX4_gather 73 = .ok (.aload_n 0, 1) := by decide +kernel
theorem dX4_gather_74 : decode cX4_gather 74 = .ok (.getfield 12, 3) := by decide +kernel
theorem dX4_gather_77 : decode cX4_gather 77 = .ok (.iload 4, 2) := by decide +kernel
theorem dX4_gather_79 : decode cX4_gather 79 = .ok (.aload_n 0, 1) := by decide +kernel
theorem dX4_gather_80 : decode cX4_gather 80 = .ok (.getfield 38, 3) := by decide +kernel
theorem dX4_gather_83 : decode cX4_gather 83 = .ok (.aload_n 0, 1) := by decide +kernel
theorem dX4_gather_84 : decode cX4_gather 84 = .ok (.getfield 38, 3) := by decide +kernel
theorem dX4_gather_87 : decode cX4_gather 87 = .ok (.iload_n 1, 1) := by decide +kernel
theorem dX4_gather_88 : decode cX4_gather 88 = .ok (.iload 5, 2) := by decide +kernel
theorem dX4_gather_90 : decode cX4_gather 90 = .ok (.invokevirtual 109, 3) := by decide +kernel
theorem dX4_gather_93 : decode cX4_gather 93 = .ok (.invokevirtual 155, 3) := by decide +kernel
theorem dX4_gather_96 : decode cX4_gather 96 = .ok (.aload_n 0, 1) := by decide +kernel
theorem dX4_gather_97 : decode cX4_gather 97 = .ok (.iload_n 2, 1) := by decide +kernel
theorem dX4_gather_98 : decode cX4_gather 98 = .ok (.iload 5, 2) := by decide +kernel
theorem dX4_gather_100 : decode cX4_gather 100 = .ok (.invokevirtual 125, 3) := by decide +kernel
theorem dX4_gather_103 : decode cX4_gather 103 = .ok (.invokevirtual 158, 3) := by decide +kernel
theorem dX4_gather_106 : decode cX4_gather 106 = .ok (.iinc 5 1, 3) := by decide +kernel
theorem dX4_gather_109 : decode cX4_gather 109 = .ok (.goto (-49), 3) := by decide +kernel
theorem dX4_gather_112 : decode cX4_gather 112 = .ok (.iload 4, 2) := by decide +kernel
theorem dX4_gather_114 : decode cX4_gather 114 = .ok (.ireturn, 1) := by decide +kernel
theorem dX4_tag_0 : decode cX4_tag 0 = .ok (.aload_n 0, 1) := by decide +kernel
theorem dX4_tag_1 : decode cX4_tag 1 = .ok (.getfield 12, 3) := by decide +kernel
theorem dX4_tag_4 : decode cX4_tag 4 = .ok (.bipush 6, 2) := by decide +kernel
theorem dX4_tag_6 : decode cX4_tag 6 = .ok (.iload_n 1, 1) := by decide +kernel
theorem dX4_tag_7 : decode cX4_tag 7 = .ok (.invokevirtual 96, 3) := by decide +kernel
theorem dX4_tag_10 : decode cX4_tag 10 = .ok (.istore_n 3, 1) := by decide +kernel
theorem dX4_tag_11 : decode cX4_tag 11 = .ok (.aload_n 0, 1) := by decide +kernel
theorem dX4_tag_12 : decode cX4_tag 12 = .ok (.getfield 12, 3) := by decide +kernel
theorem dX4_tag_15 : decode cX4_tag 15 = .ok (.iload_n 3, 1) := by decide +kernel
theorem dX4_tag_16 : decode cX4_tag 16 = .ok (.iload_n 1, 1) := by decide +kernel
theorem dX4_tag_17 : decode cX4_tag 17 = .ok (.iload_n 2, 1) := by decide +kernel
theorem dX4_tag_18 : decode cX4_tag 18 = .ok (.invokevirtual 158, 3) := by decide +kernel
theorem dX4_tag_21 : decode cX4_tag 21 = .ok (.iload_n 3, 1) := by decide +kernel
theorem dX4_tag_22 : decode cX4_tag 22 = .ok (.ireturn, 1) := by decide +kernel
theorem dX4_partOfChoice_0 : decode cX4_partOfChoice 0 = .ok (.aload_n 0, 1) := by decide +kernel
theorem dX4_partOfChoice_1 : decode cX4_partOfChoice 1 = .ok (.getfield 12, 3) := by decide +kernel
theorem dX4_partOfChoice_4 : decode cX4_partOfChoice 4 = .ok (.iload_n 1, 1) := by decide +kernel
theorem dX4_partOfChoice_5 : decode cX4_partOfChoice 5 = .ok (.aload_n 0, 1) := by decide +kernel
theorem dX4_partOfChoice_6 : decode cX4_partOfChoice 6 = .ok (.getfield 12, 3) := by decide +kernel
theorem dX4_partOfChoice_9 : decode cX4_partOfChoice 9 = .ok (.iload_n 1, 1) := by decide +kernel
theorem dX4_partOfChoice_10 : decode cX4_partOfChoice 10 = .ok (.invokevirtual 137, 3) := by decide +kernel
theorem dX4_partOfChoice_13 : decode cX4_partOfChoice 13 = .ok (.invokevirtual 143, 3) := by decide +kernel
theorem dX4_partOfChoice_16 : decode cX4_partOfChoice 16 = .ok (.ireturn, 1) := by decide +kernel
theorem dX4_caseFor_0 : decode cX4_caseFor 0 = .ok (.iconst 0, 1) := by decide +kernel
theorem dX4_caseFor_1 : decode cX4_caseFor 1 = .ok (.istore_n 3, 1) := by decide +kernel
theorem dX4_caseFor_2 : decode cX4_caseFor 2 = .ok (.iload_n 3, 1) := by decide +kernel
theorem dX4_caseFor_3 : decode cX4_caseFor 3 = .ok (.aload_n 0, 1) := by decide +kernel
theorem dX4_caseFor_4 : decode cX4_caseFor 4 = .ok (.getfield 38, 3) := by decide +kernel
theorem dX4_caseFor_7 : decode cX4_caseFor 7 = .ok (.iload_n 1, 1) := by decide +kernel
theorem dX4_caseFor_8 : decode cX4_caseFor 8 = .ok (.invokevirtual 113, 3) := by decide +kernel
theorem dX4_caseFor_11 : decode cX4_caseFor 11 = .ok (.iconst 1, 1) := by decide +kernel
theorem dX4_caseFor_12 : decode cX4_caseFor 12 = .ok (.isub, 1) := by decide +kernel
theorem dX4_caseFor_13 : decode cX4_caseFor 13 = .ok (.if_icmp .ge 39, 3) := by decide +kernel
theorem dX4_caseFor_16 : decode cX4_caseFor 16 = .ok (.aload_n 0, 1) := by decide +kernel
theorem dX4_caseFor_17 : decode cX4_caseFor 17 = .ok (.getfield 38, 3) := by decide +kernel
theorem dX4_caseFor_20 : decode cX4_caseFor 20 = .ok (.aload_n 0, 1) := by decide +kernel
theorem dX4_caseFor_21 : decode cX4_caseFor 21 = .ok (.getfield 38, 3) := by decide +kernel
theorem dX4_caseFor_24 : decode cX4_caseFor 24 = .ok (.iload_n 1, 1) := by decide +kernel
theorem dX4_caseFor_25 : decode cX4_caseFor 25 = .ok (.iload_n 3, 1) := by decide +kernel
theorem dX4_caseFor_26 : decode cX4_caseFor 26 = .ok (.invokevirtual 109, 3) := by decide +kernel
theorem dX4_caseFor_29 : decode cX4_caseFor 29 = .ok (.invokevirtual 155, 3) := by decide +kernel
theorem dX4_caseFor_32 : decode cX4_caseFor 32 = .ok (.iload_n 2, 1) := by decide +kernel
theorem dX4_caseFor_33 : decode cX4_caseFor 33 = .ok (.if_icmp .ne 13, 3) := by decide +kernel
theorem dX4_caseFor_36 : decode cX4_caseFor 36 = .ok (.aload_n 0, 1) := by decide +kernel
theorem dX4_caseFor_37 : decode cX4_caseFor 37 = .ok (.getfield 38, 3) := by decide +kernel
theorem dX4_caseFor_40 : decode cX4_caseFor 40 = .ok (.iload_n 1, 1) := by decide +kernel
theorem dX4_caseFor_41 : decode cX4_caseFor 41 = .ok (.iload_n 3, 1) := by decide +kernel
theorem dX4_caseFor_42 : decode cX4_caseFor 42 = .ok (.invokevirtual 109, 3) := by decide +kernel
theorem dX4_caseFor_45 : decode cX4_caseFor 45 = .ok (.ireturn, 1) := by decide +kernel
theorem dX4_caseFor_46 : decode cX4_caseFor 46 = .ok (.iinc 3 1, 3) := by decide +kernel
theorem dX4_caseFor_49 : decode cX4_caseFor 49 = .ok (.goto (-47), 3) := by decide +kernel
theorem dX4_caseFor_52 : decode cX4_caseFor 52 = .ok (.iconst (-1), 1) := by decide +kernel
theorem dX4_caseFor_53 : decode cX4_caseFor 53 = .ok (.ireturn, 1) := by decide +kernel
theorem dX5_init_0 : decode cX5_init 0 = .ok (.aload_n 0, 1) := by decide +kernel
theorem dX5_init_1 : decode cX5_init 1 = .ok (.invokespecial 3, 3) := by decide +kernel
theorem dX5_init_4 : decode cX5_init 4 = .ok (.aload_n 0, 1) := by decide +kernel
theorem dX5_init_5 : decode cX5_init 5 = .ok (.ldc 11, 2) := by decide +kernel
theorem dX5_init_7 : decode cX5_init 7 = .ok (.newarray .long, 2) := by decide +kernel
theorem dX5_init_9 : decode cX5_init 9 = .ok (.putfield 12, 3) := by decide +kernel
theorem dX5_init_12 : decode cX5_init 12 = .ok (.aload_n 0, 1) := by decide +kernel
theorem dX5_init_13 : decode cX5_init 13 = .ok (.sipush 625, 3) := by decide +kernel
theorem dX5_init_16 : decode cX5_init 16 = .ok (.newarray .long, 2) := by decide +kernel
theorem dX5_init_18 : decode cX5_init 18 = .ok (.putfield 16, 3) := by decide +kernel
theorem dX5_init_21 : decode cX5_init 21 = .ok (.aload_n 0, 1) := by decide +kernel
theorem dX5_init_22 : decode cX5_init 22 = .ok (.aload_n 1, 1) := by decide +kernel
theorem dX5_init_23 : decode cX5_init 23 = .ok (.putfield 19, 3) := by decide +kernel
theorem dX5_init_26 : decode cX5_init 26 = .ok (.return_, 1) := by decide +kernel
theorem dX5_distance_0 : decode cX5_distance 0 = .ok (.aload_n 0, 1) := by decide +kernel
theorem dX5_distance_1 : decode cX5_distance 1 = .ok (.iload_n 1, 1) := by decide +kernel
theorem dX5_distance_2 : decode cX5_distance 2 = .ok (.iload_n 2, 1) := by decide +kernel
theorem dX5_distance_3 : decode cX5_distance 3 = .ok (.invokevirtual 23, 3) := by decide +kernel
theorem dX5_distance_6 : decode cX5_distance 6 = .ok (.istore_n 3, 1) := by decide +kernel
theorem dX5_distance_7 : decode cX5_distance 7 = .ok (.iload_n 3, 1) := by decide +kernel
theorem dX5_distance_8 : decode cX5_distance 8 = .ok (.iconst (-1), 1) := by decide +kernel
theorem dX5_distance_9 : decode cX5_distance 9 = .ok (.if_icmp .ne 7, 3) := by decide +kernel
theorem dX5_distance_12 : decode cX5_distance 12 = .ok (.iconst (-1), 1) := by decide +kernel
theorem dX5_distance_13 : decode cX5_distance 13 = .ok (.goto 8, 3) := by decide +kernel
theorem dX5_distance_16 : decode cX5_distance 16 = .ok (.aload_n 0, 1) := by decide +kernel
theorem dX5_distance_17 : decode cX5_distance 17 = .ok (.iload_n 3, 1) := by decide +kernel
theorem dX5_distance_18 : decode cX5_distance 18 = .ok (.invokevirtual 27, 3) := by decide +kernel
theorem dX5_distance_21 : decode cX5_distance 21 = .ok (.ireturn, 1) := by decide +kernel
theorem dX5_labelOnWay_0 : decode cX5_labelOnWay 0 = .ok (.aload_n 0, 1) := by decide +kernel
theorem dX5_labelOnWay_1 : decode cX5_labelOnWay 1 = .ok (.iload_n 1, 1) := by decide +kernel
theorem dX5_labelOnWay_2 : decode cX5_labelOnWay 2 = .ok (.iload_n 2, 1) := by decide +kernel
theorem dX5_labelOnWay_3 : decode cX5_labelOnWay 3 = .ok (.invokevirtual 23, 3) := by decide +kernel
theorem dX5_labelOnWay_6 : decode cX5_labelOnWay 6 = .ok (.istore 4, 2) := by decide +kernel
theorem dX5_labelOnWay_8 : decode cX5_labelOnWay 8 = .ok (.iload 4, 2) := by decide +kernel
theorem dX5_labelOnWay_10 : decode cX5_labelOnWay 10 = .ok (.iconst (-1), 1) := by decide +kernel
theorem dX5_labelOnWay_11 : decode cX5_labelOnWay 11 = .ok (.if_icmp .ne 7, 3) := by decide +kernel
theorem dX5_labelOnWay_14 : decode cX5_labelOnWay 14 = .ok (.iconst 0, 1) := by decide +kernel
theorem dX5_labelOnWay_15 : decode cX5_labelOnWay 15 = .ok (.goto 9, 3) := by decide +kernel
theorem dX5_labelOnWay_18 : decode cX5_labelOnWay 18 = .ok (.aload_n 0, 1) := by decide +kernel
theorem dX5_labelOnWay_19 : decode cX5_labelOnWay 19 = .ok (.iload 4, 2) := by decide +kernel
theorem dX5_labelOnWay_21 : decode cX5_labelOnWay 21 = .ok (.invokevirtual 27, 3) := by decide +kernel
theorem dX5_labelOnWay_24 : decode cX5_labelOnWay 24 = .ok (.istore 5, 2) := by decide +kernel
theorem dX5_labelOnWay_26 : decode cX5_labelOnWay 26 = .ok (.iload_n 3, 1) := by decide +kernel
theorem dX5_labelOnWay_27 : decode cX5_labelOnWay 27 = .ok (.ifCond .lt 9, 3) := by decide +kernel
theorem dX5_labelOnWay_30 : decode cX5_labelOnWay 30 = .ok (.iload_n 3, 1) := by decide +kernel
theorem dX5_labelOnWay_31 : decode cX5_labelOnWay 31 = .ok (.iload 5, 2) := by decide +kernel
theorem dX5_labelOnWay_33 : decode cX5_labelOnWay 33 = .ok (.if_icmp .lt 5, 3) := by decide +kernel
theorem dX5_labelOnWay_36 : decode cX5_labelOnWay 36 = .ok (.iconst (-1), 1) := by decide +kernel
theorem dX5_labelOnWay_37 : decode cX5_labelOnWay 37 = .ok (.ireturn, 1) := by decide +kernel
theorem dX5_labelOnWay_38 : decode cX5_labelOnWay 38 = .ok (.iload 5, 2) := by decide +kernel
theorem dX5_labelOnWay_40 : decode cX5_labelOnWay 40 = .ok (.iconst 1, 1) := by decide +kernel
theorem dX5_labelOnWay_41 : decode cX5_labelOnWay 41 = .ok (.isub, 1) := by decide +kernel
theorem dX5_labelOnWay_42 : decode cX5_labelOnWay 42 = .ok (.istore 6, 2) := by decide +kernel
theorem dX5_labelOnWay_44 : decode cX5_labelOnWay 44 = .ok (.iload 6, 2) := by decide +kernel
theorem dX5_labelOnWay_46 : decode cX5_labelOnWay 46 = .ok (.iload_n 3, 1) := by decide +kernel
theorem dX5_labelOnWay_47 : decode cX5_labelOnWay 47 = .ok (.if_icmp .le 17, 3) := by decide +kernel
theorem dX5_labelOnWay_50 : decode cX5_labelOnWay 50 = .ok (.aload_n 0, 1) := by decide +kernel
theorem dX5_labelOnWay_51 : decode cX5_labelOnWay 51 = .ok (.iload 4, 2) := by decide +kernel
theorem dX5_labelOnWay_53 : decode cX5_labelOnWay 53 = .ok (.invokevirtual 31, 3) := by decide +kernel
theorem dX5_labelOnWay_56 : decode cX5_labelOnWay 56 = .ok (.istore 4, 2) := by decide +kernel
theorem dX5_labelOnWay_58 : decode cX5_labelOnWay 58 = .ok (.iinc 6 (-1), 3) := by decide +kernel
theorem dX5_labelOnWay_61 : decode cX5_labelOnWay 61 = .ok (.goto (-17), 3) := by decide +kernel
theorem dX5_labelOnWay_64 : decode cX5_labelOnWay 64 = .ok (.iload 4, 2) := by decide +kernel
theorem dX5_labelOnWay_66 : decode cX5_labelOnWay 66 = .ok (.ifCond .lt 30, 3) := by decide +kernel
theorem dX5_labelOnWay_69 : decode cX5_labelOnWay 69 = .ok (.iload 4, 2) := by decide +kernel
theorem dX5_labelOnWay_71 : decode cX5_labelOnWay 71 = .ok (.aload_n 0, 1) := by decide +kernel
theorem dX5_labelOnWay_72 : decode cX5_labelOnWay 72 = .ok (.getfield 34, 3) := by decide +kernel
theorem dX5_labelOnWay_75 : decode cX5_labelOnWay 75 = .ok (.if_icmp .ge 21, 3) := by decide +kernel
theorem dX5_labelOnWay_78 : decode cX5_labelOnWay 78 = .ok (.aload_n 0, 1) := by decide +kernel
theorem dX5_labelOnWay_79 : decode cX5_labelOnWay 79 = .ok (.getfield 12, 3) := by decide +kernel
theorem dX5_labelOnWay_82 : decode cX5_labelOnWay 82 = .ok (.iload 4, 2) := by decide +kernel
theorem dX5_labelOnWay_84 : decode cX5_labelOnWay 84 = .ok (.laload, 1) := by decide +kernel
theorem dX5_labelOnWay_85 : decode cX5_labelOnWay 85 = .ok (.bipush 16, 2) := by decide +kernel
theorem dX5_labelOnWay_87 : decode cX5_labelOnWay 87 = .ok (.lshr, 1) := by decide +kernel
theorem dX5_labelOnWay_88 : decode cX5_labelOnWay 88 = .ok (.ldc2_w 38, 3) := by decide +kernel
theorem dX5_labelOnWay_91 : decode cX5_labelOnWay 91 = .ok (.land, 1) := by decide +kernel
theorem dX5_labelOnWay_92 : decode cX5_labelOnWay 92 = .ok (.l2i, 1) := by decide +kernel
theorem dX5_labelOnWay_93 : decode cX5_labelOnWay 93 = .ok (.goto 4, 3) := by decide +kernel
theorem dX5_labelOnWay_96 : decode cX5_labelOnWay 96 = .ok (.iconst (-1), 1) := by decide +kernel
theorem dX5_labelOnWay_97 : decode cX5_labelOnWay 97 = .ok (.ireturn, 1) := by decide +kernel
theorem dX5_stepsTo_0 : decode cX5_stepsTo 0 = .ok (.iconst 0, 1) := by decide +kernel
theorem dX5_stepsTo_1 : decode cX5_stepsTo 1 = .ok (.istore_n 2, 1) := by decide +kernel
theorem dX5_stepsTo_2 : decode cX5_stepsTo 2 = .ok (.iload_n 1, 1) := by decide +kernel
theorem dX5_stepsTo_3 : decode cX5_stepsTo 3 = .ok (.istore_n 3, 1) := by decide +kernel
theorem dX5_stepsTo_4 : decode cX5_stepsTo 4 = .ok (.iload_n 3, 1) := by decide +kernel
theorem dX5_stepsTo_5 : decode cX5_stepsTo 5 = .ok (.ifCond .le 23, 3) := by decide +kernel
theorem dX5_stepsTo_8 : decode cX5_stepsTo 8 = .ok (.iload_n 2, 1) := by decide +kernel
theorem dX5_stepsTo_9 : decode cX5_stepsTo 9 = .ok (.aload_n 0, 1) := by decide +kernel
theorem dX5_stepsTo_10 : decode cX5_stepsTo 10 = .ok (.getfield 34, 3) := by decide +kernel
theorem dX5_stepsTo_13 : decode cX5_stepsTo 13 = .ok (.if_icmp .ge 15, 3) := by decide +kernel
theorem dX5_stepsTo_16 : decode cX5_stepsTo 16 = .ok (.iinc 2 1, 3) := by decide +kernel
theorem dX5_stepsTo_19 : decode cX5_stepsTo 19 = .ok (.aload_n 0, 1) := by decide +kernel
theorem dX5_stepsTo_20 : decode cX5_stepsTo 20 = .ok (.iload_n 3, 1) := by decide +kernel
theorem dX5_stepsTo_21 : decode cX5_stepsTo 21 = .ok (.invokevirtual 31, 3) := by decide +kernel
theorem dX5_stepsTo_24 : decode cX5_stepsTo 24 = .ok (.istore_n 3, 1) := by decide +kernel
theorem dX5_stepsTo_25 : decode cX5_stepsTo 25 = .ok (.goto (-21), 3) := by decide +kernel
theorem dX5_stepsTo_28 : decode cX5_stepsTo 28 = .ok (.iload_n 2, 1) := by decide +kernel
theorem dX5_stepsTo_29 : decode cX5_stepsTo 29 = .ok (.ireturn, 1) := by decide +kernel
theorem dX5_cameFrom_0 : decode cX5_cameFrom 0 = .ok (.iload_n 1, 1) := by decide +kernel
theorem dX5_cameFrom_1 : decode cX5_cameFrom 1 = .ok (.ifCond .lt 24, 3) := by decide +kernel
theorem dX5_cameFrom_4 : decode cX5_cameFrom 4 = .ok (.iload_n 1, 1) := by decide +kernel
theorem dX5_cameFrom_5 : decode cX5_cameFrom 5 = .ok (.aload_n 0, 1) := by decide +kernel
theorem dX5_cameFrom_6 : decode cX5_cameFrom 6 = .ok (.getfield 34, 3) := by decide +kernel
theorem dX5_cameFrom_9 : decode cX5_cameFrom 9 = .ok (.if_icmp .ge 16, 3) := by decide +kernel
theorem dX5_cameFrom_12 : decode cX5_cameFrom 12 = .ok (.aload_n 0, 1) := by decide +kernel
theorem dX5_cameFrom_13 : decode cX5_cameFrom 13 = .ok (.getfield 12, 3) := by decide +kernel
theorem dX5_cameFrom_16 : decode cX5_cameFrom 16 = .ok (.iload_n 1, 1) := by decide +kernel
theorem dX5_cameFrom_17 : decode cX5_cameFrom 17 = .ok (.laload, 1) := by decide +kernel
theorem dX5_cameFrom_18 : decode cX5_cameFrom 18 = .ok (.bipush 19, 2) := by decide +kernel
theorem dX5_cameFrom_20 : decode cX5_cameFrom 20 = .ok (.lshr, 1) := by decide +kernel
theorem dX5_cameFrom_21 : decode cX5_cameFrom 21 = .ok (.l2i, 1) := by decide +kernel
theorem dX5_cameFrom_22 : decode cX5_cameFrom 22 = .ok (.goto 4, 3) := by decide +kernel
theorem dX5_cameFrom_25 : decode cX5_cameFrom 25 = .ok (.iconst 0, 1) := by decide +kernel
theorem dX5_cameFrom_26 : decode cX5_cameFrom 26 = .ok (.ireturn, 1) := by decide +kernel
theorem dX5_search_0 : decode cX5_search 0 = .ok (.aload_n 0, 1) := by decide +kernel
theorem dX5_search_1 : decode cX5_search 1 = .ok (.invokevirtual 40, 3) := by decide +kernel
theorem dX5_search_4 : decode cX5_search 4 = .ok (.aload_n 0, 1) := by decide +kernel
theorem dX5_search_5 : decode cX5_search 5 = .ok (.iload_n 1, 1) := by decide +kernel
theorem dX5_search_6 : decode cX5_search 6 = .ok (.iload_n 2, 1) := by decide +kernel
theorem dX5_search_7 : decode cX5_search 7 = .ok (.iconst 0, 1) := by decide +kernel
theorem dX5_search_8 : decode cX5_search 8 = .ok (.iconst 0, 1) := by decide +kernel
theorem dX5_search_9 : decode cX5_search 9 = .ok (.invokevirtual 43, 3) := by decide +kernel
theorem dX5_search_12 : decode cX5_search 12 = .ok (.iconst 0, 1) := by decide +kernel
theorem dX5_search_13 : decode cX5_search 13 = .ok (.istore_n 3, 1) := by decide +kernel
theorem dX5_search_14 : decode cX5_search 14 = .ok (.iload_n 3, 1) := by decide +kernel
theorem dX5_search_15 : decode cX5_search 15 = .ok (.aload_n 0, 1) := by decide +kernel
theorem dX5_search_16 : decode cX5_search 16 = .ok (.getfield 34, 3) := by decide +kernel
theorem dX5_search_19 : decode cX5_search 19 = .ok (.if_icmp .ge 66, 3) := by decide +kernel
theorem dX5_search_22 : decode cX5_search 22 = .ok (.iload_n 3, 1) := by decide +kernel
theorem dX5_search_23 : decode cX5_search 23 = .ok (.ldc 11, 2) := by decide +kernel
theorem dX5_search_25 : decode cX5_search 25 = .ok (.if_icmp .ge 60, 3) := by decide +kernel
theorem dX5_search_28 : decode cX5_search 28 = .ok (.aload_n 0, 1) := by decide +kernel
theorem dX5_search_29 : decode cX5_search 29 = .ok (.getfield 12, 3) := by decide +kernel
theorem dX5_search_32 : decode cX5_search 32 = .ok (.iload_n 3, 1) := by decide +kernel
theorem dX5_search_33 : decode cX5_search 33 = .ok (.laload, 1) := by decide +kernel
theorem dX5_search_34 : decode cX5_search 34 = .ok (.bipush 8, 2) := by decide +kernel
theorem dX5_search_36 : decode cX5_search 36 = .ok (.lshr, 1) := by decide +kernel
theorem dX5_search_37 : decode cX5_search 37 = .ok (.ldc2_w 47, 3) := by decide +kernel
theorem dX5_search_40 : decode cX5_search 40 = .ok (.land, 1) := by decide +kernel
theorem dX5_search_41 : decode cX5_search 41 = .ok (.l2i, 1) := by decide +kernel
theorem dX5_search_42 : decode cX5_search 42 = .ok (.istore 4, 2) := by decide +kernel
theorem dX5_search_44 : decode cX5_search 44 = .ok (.aload_n 0, 1) := by decide +kernel
theorem dX5_search_45 : decode cX5_search 45 = .ok (.getfield 12, 3) := by decide +kernel
theorem dX5_search_48 : decode cX5_search 48 = .ok (.iload_n 3, 1) := by decide +kernel
theorem dX5_search_49 : decode cX5_search 49 = .ok (.laload, 1) := by decide +kernel
theorem dX5_search_50 : decode cX5_search 50 = .ok (.ldc2_w 47, 3) := by decide +kernel
theorem dX5_search_53 : decode cX5_search 53 = .ok (.land, 1) := by decide +kernel
theorem dX5_search_54 : decode cX5_search 54 = .ok (.l2i, 1) := by decide +kernel
theorem dX5_search_55 : decode cX5_search 55 = .ok (.istore 5, 2) := by decide +kernel
theorem dX5_search_57 : decode cX5_search 57 = .ok (.aload_n 0, 1) := by decide +kernel
theorem dX5_search_58 : decode cX5_search 58 = .ok (.iload 4, 2) := by decide +kernel
theorem dX5_search_60 : decode cX5_search 60 = .ok (.iload 5, 2) := by decide +kernel
theorem dX5_search_62 : decode cX5_search 62 = .ok (.invokevirtual 49, 3) := by decide +kernel
theorem dX5_search_65 : decode cX5_search 65 = .ok (.ifCond .ne 5, 3) := by decide +kernel
theorem dX5_search_68 : decode cX5_search 68 = .ok (.iload_n 3, 1) := by decide +kernel
theorem dX5_search_69 : decode cX5_search 69 = .ok (.ireturn, 1) := by decide +kernel
theorem dX5_search_70 : decode cX5_search 70 = .ok (.aload_n 0, 1) := by decide +kernel
theorem dX5_search_71 : decode cX5_search 71 = .ok (.iload 4, 2) := by decide +kernel
theorem dX5_search_73 : decode cX5_search 73 = .ok (.iload 5, 2) := by decide +kernel
theorem dX5_search_75 : decode cX5_search 75 = .ok (.iload_n 3, 1) := by decide +kernel
theorem dX5_search_76 : decode cX5_search 76 = .ok (.invokevirtual 53, 3) := by decide +kernel
theorem dX5_search_79 : decode cX5_search 79 = .ok (.iinc 3 1, 3) := by decide +kernel
theorem dX5_search_82 : decode cX5_search 82 = .ok (.goto (-68), 3) := by decide +kernel
theorem dX5_search_85 : decode cX5_search 85 = .ok (.iconst (-1), 1) := by decide +kernel
theorem dX5_search_86 : decode cX5_search 86 = .ok (.ireturn, 1) := by decide +kernel
theorem dX5_forget_0 : decode cX5_forget 0 = .ok (.iconst 0, 1) := by decide +kernel
theorem dX5_forget_1 : decode cX5_forget 1 = .ok (.istore_n 1, 1) := by decide +kernel
theorem dX5_forget_2 : decode cX5_forget 2 = .ok (.iload_n 1, 1) := by decide +kernel
theorem dX5_forget_3 : decode cX5_forget 3 = .ok (.aload_n 0, 1) := by decide +kernel
theorem dX5_forget_4 : decode cX5_forget 4 = .ok (.getfield 34, 3) := by decide +kernel
theorem dX5_forget_7 : decode cX5_forget 7 = .ok (.if_icmp .ge 62, 3) := by decide +kernel
theorem dX5_forget_10 : decode cX5_forget 10 = .ok (.iload_n 1, 1) := by decide +kernel
theorem dX5_forget_11 : decode cX5_forget 11 = .ok (.ldc 11, 2) := by decide +kernel
theorem dX5_forget_13 : decode cX5_forget 13 = .ok (.if_icmp .ge 56, 3) := by decide +kernel
theorem dX5_forget_16 : decode cX5_forget 16 = .ok (.aload_n 0, 1) := by decide +kernel
theorem dX5_forget_17 : decode cX5_forget 17 = .ok (.getfield 12, 3) := by decide +kernel
theorem dX5_forget_20 : decode cX5_forget 20 = .ok (.iload_n 1, 1) := by decide +kernel
theorem dX5_forget_21 : decode cX5_forget 21 = .ok (.laload, 1) := by decide +kernel
theorem dX5_forget_22 : decode cX5_forget 22 = .ok (.bipush 8, 2) := by decide +kernel
theorem dX5_forget_24 : decode cX5_forget 24 = .ok (.lshr, 1) := by decide +kernel
theorem dX5_forget_25 : decode cX5_forget 25 = .ok (.ldc2_w 47, 3) := by decide +kernel
theorem dX5_forget_28 : decode cX5_forget 28 = .ok (.land, 1) := by decide +kernel
theorem dX5_forget_29 : decode cX5_forget 29 = .ok (.l2i, 1) := by decide +kernel
theorem dX5_forget_30 : decode cX5_forget 30 = .ok (.sipush 200, 3) := by decide +kernel
theorem dX5_forget_33 : decode cX5_forget 33 = .ok (.imul, 1) := by decide +kernel
theorem dX5_forget_34 : decode cX5_forget 34 = .ok (.aload_n 0, 1) := by decide +kernel
theorem dX5_forget_35 : decode cX5_forget 35 = .ok (.getfield 12, 3) := by decide +kernel
theorem dX5_forget_38 : decode cX5_forget 38 = .ok (.iload_n 1, 1) := by decide +kernel
theorem dX5_forget_39 : decode cX5_forget 39 = .ok (.laload, 1) := by decide +kernel
theorem dX5_forget_40 : decode cX5_forget 40 = .ok (.ldc2_w 47, 3) := by decide +kernel
theorem dX5_forget_43 : decode cX5_forget 43 = .ok (.land, 1) := by decide +kernel
theorem dX5_forget_44 : decode cX5_forget 44 = .ok (.l2i, 1) := by decide +kernel
theorem dX5_forget_45 : decode cX5_forget 45 = .ok (.iadd, 1) := by decide +kernel
theorem dX5_forget_46 : decode cX5_forget 46 = .ok (.istore_n 2, 1) := by decide +kernel
theorem dX5_forget_47 : decode cX5_forget 47 = .ok (.iload_n 2, 1) := by decide +kernel
theorem dX5_forget_48 : decode cX5_forget 48 = .ok (.ldc 11, 2) := by decide +kernel
theorem dX5_forget_50 : decode cX5_forget 50 = .ok (.if_icmp .ge 13, 3) := by decide +kernel
theorem dX5_forget_53 : decode cX5_forget 53 = .ok (.aload_n 0, 1) := by decide +kernel
theorem dX5_forget_54 : decode cX5_forget 54 = .ok (.getfield 16, 3) := by decide +kernel
theorem dX5_forget_57 : decode cX5_forget 57 = .ok (.iload_n 2, 1) := by decide +kernel
theorem dX5_forget_58 : decode cX5_forget 58 = .ok (.bipush 6, 2) := by decide +kernel
theorem dX5_forget_60 : decode cX5_forget 60 = .ok (.ishr, 1) := by decide +kernel
theorem dX5_forget_61 : decode cX5_forget 61 = .ok (.lconst 0, 1) := by decide +kernel
theorem dX5_forget_62 : decode cX5_forget 62 = .ok (.lastore, 1) := by decide +kernel
theorem dX5_forget_63 : decode cX5_forget 63 = .ok (.iinc 1 1, 3) := by decide +kernel
theorem dX5_forget_66 : decode cX5_forget 66 = .ok (.goto (-64), 3) := by decide +kernel
theorem dX5_forget_69 : decode cX5_forget 69 = .ok (.aload_n 0, 1) := by decide +kernel
theorem dX5_forget_70 : decode cX5_forget 70 = .ok (.iconst 0, 1) := by decide +kernel
theorem dX5_forget_71 : decode cX5_forget 71 = .ok (.putfield 34, 3) := by decide +kernel
theorem dX5_forget_74 : decode cX5_forget 74 = .ok (.return_, 1) := by decide +kernel
theorem dX5_fitAtSight_0 : decode cX5_fitAtSight 0 = .ok (.aload_n 0, 1) := by decide +kernel
theorem dX5_fitAtSight_1 : decode cX5_fitAtSight 1 = .ok (.getfield 19, 3) := by decide +kernel
theorem dX5_fitAtSight_4 : decode cX5_fitAtSight 4 = .ok (.iload_n 1, 1) := by decide +kernel
theorem dX5_fitAtSight_5 : decode cX5_fitAtSight 5 = .ok (.invokevirtual 57, 3) := by decide +kernel
theorem dX5_fitAtSight_8 : decode cX5_fitAtSight 8 = .ok (.istore_n 3, 1) := by decide +kernel
theorem dX5_fitAtSight_9 : decode cX5_fitAtSight 9 = .ok (.iload_n 3, 1) := by decide +kernel
theorem dX5_fitAtSight_10 : decode cX5_fitAtSight 10 = .ok (.iconst 1, 1) := by decide +kernel
theorem dX5_fitAtSight_11 : decode cX5_fitAtSight 11 = .ok (.if_icmp .eq 14, 3) := by decide +kernel
theorem dX5_fitAtSight_14 : decode cX5_fitAtSight 14 = .ok (.aload_n 0, 1) := by decide +kernel
theorem dX5_fitAtSight_15 : decode cX5_fitAtSight 15 = .ok (.getfield 19, 3) := by decide +kernel
theorem dX5_fitAtSight_18 : decode cX5_fitAtSight 18 = .ok (.iload_n 2, 1) := by decide +kernel
theorem dX5_fitAtSight_19 : decode cX5_fitAtSight 19 = .ok (.invokevirtual 57, 3) := by decide +kernel
theorem dX5_fitAtSight_22 : decode cX5_fitAtSight 22 = .ok (.ifCond .ne 5, 3) := by decide +kernel
theorem dX5_fitAtSight_25 : decode cX5_fitAtSight 25 = .ok (.iconst 1, 1) := by decide +kernel
theorem dX5_fitAtSight_26 : decode cX5_fitAtSight 26 = .ok (.ireturn, 1) := by decide +kernel
theorem dX5_fitAtSight_27 : decode cX5_fitAtSight 27 = .ok (.iload_n 3, 1) := by decide +kernel
theorem dX5_fitAtSight_28 : decode cX5_fitAtSight 28 = .ok (.aload_n 0, 1) := by decide +kernel
theorem dX5_fitAtSight_29 : decode cX5_fitAtSight 29 = .ok (.getfield 19, 3) := by decide +kernel
theorem dX5_fitAtSight_32 : decode cX5_fitAtSight 32 = .ok (.iload_n 2, 1) := by decide +kernel
theorem dX5_fitAtSight_33 : decode cX5_fitAtSight 33 = .ok (.invokevirtual 57, 3) := by decide +kernel
theorem dX5_fitAtSight_36 : decode cX5_fitAtSight 36 = .ok (.if_icmp .eq 5, 3) := by decide +kernel
theorem dX5_fitAtSight_39 : decode cX5_fitAtSight 39 = .ok (.iconst 0, 1) := by decide +kernel
theorem dX5_fitAtSight_40 : decode cX5_fitAtSight 40 = .ok (.ireturn, 1) := by decide +kernel
theorem dX5_fitAtSight_41 : decode cX5_fitAtSight 41 = .ok (.iload_n 3, 1) := by decide +kernel
theorem dX5_fitAtSight_42 : decode cX5_fitAtSight 42 = .ok (.iconst 5, 1) := by decide +kernel
theorem dX5_fitAtSight_43 : decode cX5_fitAtSight 43 = .ok (.if_icmp .ne 31, 3) := by decide +kernel
theorem dX5_fitAtSight_46 : decode cX5_fitAtSight 46 = .ok (.aload_n 0, 1) := by decide +kernel
theorem dX5_fitAtSight_47 : decode cX5_fitAtSight 47 = .ok (.getfield 19, 3) := by decide +kernel
theorem dX5_fitAtSight_50 : decode cX5_fitAtSight 50 = .ok (.iload_n 2, 1) := by decide +kernel
theorem dX5_fitAtSight_51 : decode cX5_fitAtSight 51 = .ok (.invokevirtual 62, 3) := by decide +kernel
theorem dX5_fitAtSight_54 : decode cX5_fitAtSight 54 = .ok (.aload_n 0, 1) := by decide +kernel
theorem dX5_fitAtSight_55 : decode cX5_fitAtSight 55 = .ok (.getfield 19, 3) := by decide +kernel
theorem dX5_fitAtSight_58 : decode cX5_fitAtSight 58 = .ok (.iload_n 1, 1) := by decide +kernel
theorem dX5_fitAtSight_59 : decode cX5_fitAtSight 59 = .ok (.invokevirtual 62, 3) := by decide +kernel
theorem dX5_fitAtSight_62 : decode cX5_fitAtSight 62 = .ok (.iconst (-1), 1) := by decide +kernel
theorem dX5_fitAtSight_63 : decode cX5_fitAtSight 63 = .ok (.ixor, 1) := by decide +kernel
theorem dX5_fitAtSight_64 : decode cX5_fitAtSight 64 = .ok (.iand, 1) := by decide +kernel
theorem dX5_fitAtSight_65 : decode cX5_fitAtSight 65 = .ok (.ifCond .ne 7, 3) := by decide +kernel
theorem dX5_fitAtSight_68 : decode cX5_fitAtSight 68 = .ok (.iconst 1, 1) := by decide +kernel
theorem dX5_fitAtSight_69 : decode cX5_fitAtSight 69 = .ok (.goto 4, 3) := by decide +kernel
theorem dX5_fitAtSight_72 : decode cX5_fitAtSight 72 = .ok (.iconst 0, 1) := by decide +kernel
theorem dX5_fitAtSight_73 : decode cX5_fitAtSight 73 = .ok (.ireturn, 1) := by decide +kernel
theorem dX5_fitAtSight_74 : decode cX5_fitAtSight 74 = .ok (.iload_n 3, 1) := by decide +kernel
theorem dX5_fitAtSight_75 : decode cX5_fitAtSight 75 = .ok (.bipush 6, 2) := by decide +kernel
theorem dX5_fitAtSight_77 : decode cX5_fitAtSight 77 = .ok (.if_icmp .ne 25, 3) := by decide +kernel
theorem dX5_fitAtSight_80 : decode cX5_fitAtSight 80 = .ok (.aload_n 0, 1) := by decide +kernel
theorem dX5_fitAtSight_81 : decode cX5_fitAtSight 81 = .ok (.getfield 19, 3) := by decide +kernel
theorem dX5_fitAtSight_84 : decode cX5_fitAtSight 84 = .ok (.iload_n 1, 1) := by decide +kernel
theorem dX5_fitAtSight_85 : decode cX5_fitAtSight 85 = .ok (.invokevirtual 62, 3) := by decide +kernel
theorem dX5_fitAtSight_88 : decode cX5_fitAtSight 88 = .ok (.aload_n 0, 1) := by decide +kernel
theorem dX5_fitAtSight_89 : decode cX5_fitAtSight 89 = .ok (.getfield 19, 3) := by decide +kernel
theorem dX5_fitAtSight_92 : decode cX5_fitAtSight 92 = .ok (.iload_n 2, 1) := by decide +kernel
theorem dX5_fitAtSight_93 : decode cX5_fitAtSight 93 = .ok (.invokevirtual 62, 3) := by decide +kernel
theorem dX5_fitAtSight_96 : decode cX5_fitAtSight 96 = .ok (.iconst (-1), 1) := by decide +kernel
theorem dX5_fitAtSight_97 : decode cX5_fitAtSight 97 = .ok (.ixor, 1) := by decide +kernel
theorem dX5_fitAtSight_98 : decode cX5_fitAtSight 98 = .ok (.iand, 1) := by decide +kernel
theorem dX5_fitAtSight_99 : decode cX5_fitAtSight 99 = .ok (.ifCond .ne 7, 3) := by decide +kernel
theorem dX5_fitAtSight_102 : decode cX5_fitAtSight 102 = .ok (.iconst 1, 1) := by decide +kernel
theorem dX5_fitAtSight_103 : decode cX5_fitAtSight 103 = .ok (.goto 4, 3) := by decide +kernel
theorem dX5_fitAtSight_106 : decode cX5_fitAtSight 106 = .ok (.iconst 0, 1) := by decide +kernel
theorem dX5_fitAtSight_107 : decode cX5_fitAtSight 107 = .ok (.ireturn, 1) := by decide +kernel
theorem dX5_enterParts_0 : decode cX5_enterParts 0 = .ok (.iconst 0, 1) := by decide +kernel
theorem dX5_enterParts_1 : decode cX5_enterParts 1 = .ok (.istore 4, 2) := by decide +kernel
theorem dX5_enterParts_3 : decode cX5_enterParts 3 = .ok (.iload 4, 2) := by decide +kernel
theorem dX5_enterParts_5 : decode cX5_enterParts 5 = .ok (.bipush 8, 2) := by decide +kernel
theorem dX5_enterParts_7 : decode cX5_enterParts 7 = .ok (.if_icmp .ge 100, 3) := by decide +kernel
theorem dX5_enterParts_10 : decode cX5_enterParts 10 = .ok (.aload_n 0, 1) := by decide +kernel
theorem dX5_enterParts_11 : decode cX5_enterParts 11 = .ok (.getfield 19, 3) := by decide +kernel
theorem dX5_enterParts_14 : decode cX5_enterParts 14 = .ok (.iload_n 1, 1) := by decide +kernel
theorem dX5_enterParts_15 : decode cX5_enterParts 15 = .ok (.iload 4, 2) := by decide +kernel
theorem dX5_enterParts_17 : decode cX5_enterParts 17 = .ok (.invokevirtual 65, 3) := by decide +kernel
theorem dX5_enterParts_20 : decode cX5_enterParts 20 = .ok (.istore 5, 2) := by decide +kernel
theorem dX5_enterParts_22 : decode cX5_enterParts 22 = .ok (.aload_n 0, 1) := by decide +kernel
theorem dX5_enterParts_23 : decode cX5_enterParts 23 = .ok (.getfield 19, 3) := by decide +kernel
theorem dX5_enterParts_26 : decode cX5_enterParts 26 = .ok (.iload_n 2, 1) := by decide +kernel
theorem dX5_enterParts_27 : decode cX5_enterParts 27 = .ok (.iload 4, 2) := by decide +kernel
theorem dX5_enterParts_29 : decode cX5_enterParts 29 = .ok (.invokevirtual 65, 3) := by decide +kernel
theorem dX5_enterParts_32 : decode cX5_enterParts 32 = .ok (.istore 6, 2) := by decide +kernel
theorem dX5_enterParts_34 : decode cX5_enterParts 34 = .ok (.aload_n 0, 1) := by decide +kernel
theorem dX5_enterParts_35 : decode cX5_enterParts 35 = .ok (.getfield 19, 3) := by decide +kernel
theorem dX5_enterParts_38 : decode cX5_enterParts 38 = .ok (.iload_n 1, 1) := by decide +kernel
theorem dX5_enterParts_39 : decode cX5_enterParts 39 = .ok (.invokevirtual 57, 3) := by decide +kernel
theorem dX5_enterParts_42 : decode cX5_enterParts 42 = .ok (.iconst 4, 1) := by decide +kernel
theorem dX5_enterParts_43 : decode cX5_enterParts 43 = .ok (.if_icmp .ne 12, 3) := by decide +kernel
theorem dX5_enterParts_46 : decode cX5_enterParts 46 = .ok (.iload 4, 2) := by decide +kernel
theorem dX5_enterParts_48 : decode cX5_enterParts 48 = .ok (.ifCond .ne 7, 3) := by decide +kernel
theorem dX5_enterParts_51 : decode cX5_enterParts 51 = .ok (.iconst 1, 1) := by decide +kernel
theorem dX5_enterParts_52 : decode cX5_enterParts 52 = .ok (.goto 4, 3) := by decide +kernel
theorem dX5_enterParts_55 : decode cX5_enterParts 55 = .ok (.iconst 0, 1) := by decide +kernel
theorem dX5_enterParts_56 : decode cX5_enterParts 56 = .ok (.istore 7, 2) := by decide +kernel
theorem dX5_enterParts_58 : decode cX5_enterParts 58 = .ok (.iload 5, 2) := by decide +kernel
theorem dX5_enterParts_60 : decode cX5_enterParts 60 = .ok (.iconst (-1), 1) := by decide +kernel
theorem dX5_enterParts_61 : decode cX5_enterParts 61 = .ok (.if_icmp .eq 40, 3) := by decide +kernel
theorem dX5_enterParts_64 : decode cX5_enterParts 64 = .ok (.iload 6, 2) := by decide +kernel
theorem dX5_enterParts_66 : decode cX5_enterParts 66 = .ok (.iconst (-1), 1) := by decide +kernel
theorem dX5_enterParts_67 : decode cX5_enterParts 67 = .ok (.if_icmp .eq 34, 3) := by decide +kernel
theorem dX5_enterParts_70 : decode cX5_enterParts 70 = .ok (.aload_n 0, 1) := by decide +kernel
theorem dX5_enterParts_71 : decode cX5_enterParts 71 = .ok (.iload 7, 2) := by decide +kernel
theorem dX5_enterParts_73 : decode cX5_enterParts 73 = .ok (.ifCond .eq 8, 3) := by decide +kernel
theorem dX5_enterParts_76 : decode cX5_enterParts 76 = .ok (.iload 6, 2) := by decide +kernel
theorem dX5_enterParts_78 : decode cX5_enterParts 78 = .ok (.goto 5, 3) := by decide +kernel
theorem dX5_enterParts_81 : decode cX5_enterParts 81 = .ok (.iload 5, 2) := by decide +kernel
theorem dX5_enterParts_83 : decode cX5_enterParts 83 = .ok (.iload 7, 2) := by decide +kernel
theorem dX5_enterParts_85 : decode cX5_enterParts 85 = .ok (.ifCond .eq 8, 3) := by decide +kernel
theorem dX5_enterParts_88 : decode cX5_enterParts 88 = .ok (.iload 5, 2) := by decide +kernel
theorem dX5_enterParts_90 : decode cX5_enterParts 90 = .ok (.goto 5, 3) := by decide +kernel
theorem dX5_enterParts_93 : decode cX5_enterParts 93 = .ok (.iload 6, 2) := by decide +kernel
theorem dX5_enterParts_95 : decode cX5_enterParts 95 = .ok (.iload 4, 2) := by decide +kernel
theorem dX5_enterParts_97 : decode cX5_enterParts 97 = .ok (.iload_n 3, 1) := by decide +kernel
theorem dX5_enterParts_98 : decode cX5_enterParts 98 = .ok (.invokevirtual 43, 3) := by decide +kernel
theorem dX5_enterParts_101 : decode cX5_enterParts 101 = .ok (.iinc 4 1, 3) := by decide +kernel
theorem dX5_enterParts_104 : decode cX5_enterParts 104 = .ok (.goto (-101), 3) := by decide +kernel
theorem dX5_enterParts_107 : decode cX5_enterParts 107 = .ok (.return_, 1) := by decide +kernel
theorem dX5_enter_0 : decode cX5_enter 0 = .ok (.iload_n 1, 1) := by decide +kernel
theorem dX5_enter_1 : decode cX5_enter 1 = .ok (.ifCond .lt 30, 3) := by decide +kernel
theorem dX5_enter_4 : decode cX5_enter 4 = .ok (.iload_n 1, 1) := by decide +kernel
theorem dX5_enter_5 : decode cX5_enter 5 = .ok (.sipush 200, 3) := by decide +kernel
theorem dX5_enter_8 : decode cX5_enter 8 = .ok (.if_icmp .ge 23, 3) := by decide +kernel
theorem dX5_enter_11 : decode cX5_enter 11 = .ok (.iload_n 2, 1) := by decide +kernel
theorem dX5_enter_12 : decode cX5_enter 12 = .ok (.ifCond .lt 19, 3) := by decide +kernel
theorem dX5_enter_15 : decode cX5_enter 15 = .ok (.iload_n 2, 1) := by decide +kernel
theorem dX5_enter_16 : decode cX5_enter 16 = .ok (.sipush 200, 3) := by decide +kernel
theorem dX5_enter_19 : decode cX5_enter 19 = .ok (.if_icmp .ge 12, 3) := by decide +kernel
theorem dX5_enter_22 : decode cX5_enter 22 = .ok (.aload_n 0, 1) := by decide +kernel
theorem dX5_enter_23 : decode cX5_enter 23 = .ok (.getfield 34, 3) := by decide +kernel
theorem dX5_enter_26 : decode cX5_enter 26 = .ok (.ldc 11, 2) := by decide +kernel
theorem dX5_enter_28 : decode cX5_enter 28 = .ok (.if_icmp .lt 4, 3) := by decide +kernel
theorem dX5_enter_31 : decode cX5_enter 31 = .ok (.return_, 1) := by decide +kernel
theorem dX5_enter_32 : decode cX5_enter 32 = .ok (.iload_n 1, 1) := by decide +kernel
theorem dX5_enter_33 : decode cX5_enter 33 = .ok (.sipush 200, 3) := by decide +kernel
theorem dX5_enter_36 : decode cX5_enter 36 = .ok (.imul, 1) := by decide +kernel
theorem dX5_enter_37 : decode cX5_enter 37 = .ok (.iload_n 2, 1) := by decide +kernel
theorem dX5_enter_38 : decode cX5_enter 38 = .ok (.iadd, 1) := by decide +kernel
theorem dX5_enter_39 : decode cX5_enter 39 = .ok (.istore 5, 2) := by decide +kernel
theorem dX5_enter_41 : decode cX5_enter 41 = .ok (.lconst 1, 1) := by decide +kernel
theorem dX5_enter_42 : decode cX5_enter 42 = .ok (.iload 5, 2) := by decide +kernel
theorem dX5_enter_44 : decode cX5_enter 44 = .ok (.bipush 63, 2) := by decide +kernel
theorem dX5_enter_46 : decode cX5_enter 46 = .ok (.iand, 1) := by decide +kernel
theorem dX5_enter_47 : decode cX5_enter 47 = .ok (.lshl, 1) := by decide +kernel
theorem dX5_enter_48 : decode cX5_enter 48 = .ok (.lstore 6, 2) := by decide +kernel
theorem dX5_enter_50 : decode cX5_enter 50 = .ok (.aload_n 0, 1) := by decide +kernel
theorem dX5_enter_51 : decode cX5_enter 51 = .ok (.getfield 16, 3) := by decide +kernel
theorem dX5_enter_54 : decode cX5_enter 54 = .ok (.iload 5, 2) := by decide +kernel
theorem dX5_enter_56 : decode cX5_enter 56 = .ok (.bipush 6, 2) := by decide +kernel
theorem dX5_enter_58 : decode cX5_enter 58 = .ok (.ishr, 1) := by decide +kernel
theorem dX5_enter_59 : decode cX5_enter 59 = .ok (.laload, 1) := by decide +kernel
theorem dX5_enter_60 : decode cX5_enter 60 = .ok (.lload 6, 2) := by decide +kernel
theorem dX5_enter_62 : decode cX5_enter 62 = .ok (.land, 1) := by decide +kernel
theorem dX5_enter_63 : decode cX5_enter 63 = .ok (.lconst 0, 1) := by decide +kernel
theorem dX5_enter_64 : decode cX5_enter 64 = .ok (.lcmp, 1) := by decide +kernel
theorem dX5_enter_65 : decode cX5_enter 65 = .ok (.ifCond .ne 58, 3) := by decide +kernel
theorem dX5_enter_68 : decode cX5_enter 68 = .ok (.aload_n 0, 1) := by decide +kernel
theorem dX5_enter_69 : decode cX5_enter 69 = .ok (.getfield 16, 3) := by decide +kernel
theorem dX5_enter_72 : decode cX5_enter 72 = .ok (.iload 5, 2) := by decide +kernel
theorem dX5_enter_74 : decode cX5_enter 74 = .ok (.bipush 6, 2) := by decide +kernel
theorem dX5_enter_76 : decode cX5_enter 76 = .ok (.ishr, 1) := by decide +kernel
theorem dX5_enter_77 : decode cX5_enter 77 = .ok (.dup2, 1) := by decide +kernel
theorem dX5_enter_78 : decode cX5_enter 78 = .ok (.laload, 1) := by decide +kernel
theorem dX5_enter_79 : decode cX5_enter 79 = .ok (.lload 6, 2) := by decide +kernel
theorem dX5_enter_81 : decode cX5_enter 81 = .ok (.lor, 1) := by decide +kernel
theorem dX5_enter_82 : decode cX5_enter 82 = .ok (.lastore, 1) := by decide +kernel
theorem dX5_enter_83 : decode cX5_enter 83 = .ok (.aload_n 0, 1) := by decide +kernel
theorem dX5_enter_84 : decode cX5_enter 84 = .ok (.getfield 12, 3) := by decide +kernel
theorem dX5_enter_87 : decode cX5_enter 87 = .ok (.aload_n 0, 1) := by decide +kernel
theorem dX5_enter_88 : decode cX5_enter 88 = .ok (.getfield 34, 3) := by decide +kernel
theorem dX5_enter_91 : decode cX5_enter 91 = .ok (.iload 4, 2) := by decide +kernel
theorem dX5_enter_93 : decode cX5_enter 93 = .ok (.i2l, 1) := by decide +kernel
theorem dX5_enter_94 : decode cX5_enter 94 = .ok (.bipush 19, 2) := by decide +kernel
theorem dX5_enter_96 : decode cX5_enter 96 = .ok (.lshl, 1) := by decide +kernel
theorem dX5_enter_97 : decode cX5_enter 97 = .ok (.iload_n 3, 1) := by decide +kernel
theorem dX5_enter_98 : decode cX5_enter 98 = .ok (.i2l, 1) := by decide +kernel
theorem dX5_enter_99 : decode cX5_enter 99 = .ok (.bipush 16, 2) := by decide +kernel
theorem dX5_enter_101 : decode cX5_enter 101 = .ok (.lshl, 1) := by decide +kernel
theorem dX5_enter_102 : decode cX5_enter 102 = .ok (.lor, 1) := by decide +kernel
theorem dX5_enter_103 : decode cX5_enter 103 = .ok (.iload_n 1, 1) := by decide +kernel
theorem dX5_enter_104 : decode cX5_enter 104 = .ok (.i2l, 1) := by decide +kernel
theorem dX5_enter_105 : decode cX5_enter 105 = .ok (.bipush 8, 2) := by decide +kernel
theorem dX5_enter_107 : decode cX5_enter 107 = .ok (.lshl, 1) := by decide +kernel
theorem dX5_enter_108 : decode cX5_enter 108 = .ok (.lor, 1) := by decide +kernel
theorem dX5_enter_109 : decode cX5_enter 109 = .ok (.iload_n 2, 1) := by decide +kernel
theorem dX5_enter_110 : decode cX5_enter 110 = .ok (.i2l, 1) := by decide +kernel
theorem dX5_enter_111 : decode cX5_enter 111 = .ok (.lor, 1) := by decide +kernel
theorem dX5_enter_112 : decode cX5_enter 112 = .ok (.lastore, 1) := by decide +kernel
theorem dX5_enter_113 : decode cX5_enter 113 = .ok (.aload_n 0, 1) := by decide +kernel
theorem dX5_enter_114 : decode cX5_enter 114 = .ok (.dup, 1) := by decide +kernel
theorem dX5_enter_115 : decode cX5_enter 115 = .ok (.getfield 34, 3) := by decide +kernel
theorem dX5_enter_118 : decode cX5_enter 118 = .ok (.iconst 1, 1) := by decide +kernel
theorem dX5_enter_119 : decode cX5_enter 119 = .ok (.iadd, 1) := by decide +kernel
theorem dX5_enter_120 : decode cX5_enter 120 = .ok (.putfield 34, 3) := by decide +kernel
theorem dX5_enter_123 : decode cX5_enter 123 = .ok (.return_, 1) := by decide +kernel
theorem dX6_init_0 : decode cX6_init 0 = .ok (.aload_n 0, 1) := by decide +kernel
theorem dX6_init_1 : decode cX6_init 1 = .ok (.invokespecial 3, 3) := by decide +kernel
theorem dX6_init_4 : decode cX6_init 4 = .ok (.aload_n 0, 1) := by decide +kernel
theorem dX6_init_5 : decode cX6_init 5 = .ok (.sipush 200, 3) := by decide +kernel
theorem dX6_init_8 : decode cX6_init 8 = .ok (.newarray .int, 2) := by decide +kernel
theorem dX6_init_10 : decode cX6_init 10 = .ok (.putfield 9, 3) := by decide +kernel
theorem dX6_init_13 : decode cX6_init 13 = .ok (.aload_n 0, 1) := by decide +kernel
theorem dX6_init_14 : decode cX6_init 14 = .ok (.sipush 1800, 3) := by decide +kernel
theorem dX6_init_17 : decode cX6_init 17 = .ok (.newarray .int, 2) := by decide +kernel
theorem dX6_init_19 : decode cX6_init 19 = .ok (.putfield 15, 3) := by decide +kernel
theorem dX6_init_22 : decode cX6_init 22 = .ok (.aload_n 0, 1) := by decide +kernel
theorem dX6_init_23 : decode cX6_init 23 = .ok (.sipush 200, 3) := by decide +kernel
theorem dX6_init_26 : decode cX6_init 26 = .ok (.newarray .int, 2) := by decide +kernel
theorem dX6_init_28 : decode cX6_init 28 = .ok (.putfield 18, 3) := by decide +kernel
theorem dX6_init_31 : decode cX6_init 31 = .ok (.aload_n 0, 1) := by decide +kernel
theorem dX6_init_32 : decode cX6_init 32 = .ok (.sipush 200, 3) := by decide +kernel
theorem dX6_init_35 : decode cX6_init 35 = .ok (.newarray .int, 2) := by decide +kernel
theorem dX6_init_37 : decode cX6_init 37 = .ok (.putfield 21, 3) := by decide +kernel
theorem dX6_init_40 : decode cX6_init 40 = .ok (.aload_n 0, 1) := by decide +kernel
theorem dX6_init_41 : decode cX6_init 41 = .ok (.sipush 200, 3) := by decide +kernel
theorem dX6_init_44 : decode cX6_init 44 = .ok (.newarray .int, 2) := by decide +kernel
theorem dX6_init_46 : decode cX6_init 46 = .ok (.putfield 24, 3) := by decide +kernel
theorem dX6_init_49 : decode cX6_init 49 = .ok (.return_, 1) := by decide +kernel
theorem dX6_start_0 : decode cX6_start 0 = .ok (.aload_n 1, 1) := by decide +kernel
theorem dX6_start_1 : decode cX6_start 1 = .ok (.aload_n 0, 1) := by decide +kernel
theorem dX6_start_2 : decode cX6_start 2 = .ok (.getfield 9, 3) := by decide +kernel
theorem dX6_start_5 : decode cX6_start 5 = .ok (.invokevirtual 27, 3) := by decide +kernel
theorem dX6_start_8 : decode cX6_start 8 = .ok (.return_, 1) := by decide +kernel
theorem dX6_add_0 : decode cX6_add 0 = .ok (.iload_n 1, 1) := by decide +kernel
theorem dX6_add_1 : decode cX6_add 1 = .ok (.ifCond .lt 17, 3) := by decide +kernel
theorem dX6_add_4 : decode cX6_add 4 = .ok (.iload_n 1, 1) := by decide +kernel
theorem dX6_add_5 : decode cX6_add 5 = .ok (.sipush 200, 3) := by decide +kernel
theorem dX6_add_8 : decode cX6_add 8 = .ok (.if_icmp .ge 10, 3) := by decide +kernel
theorem dX6_add_11 : decode cX6_add 11 = .ok (.aload_n 0, 1) := by decide +kernel
theorem dX6_add_12 : decode cX6_add 12 = .ok (.getfield 18, 3) := by decide +kernel
theorem dX6_add_15 : decode cX6_add 15 = .ok (.iload_n 1, 1) := by decide +kernel
theorem dX6_add_16 : decode cX6_add 16 = .ok (.iconst 0, 1) := by decide +kernel
theorem dX6_add_17 : decode cX6_add 17 = .ok (.iastore, 1) := by decide +kernel
theorem dX6_add_18 : decode cX6_add 18 = .ok (.return_, 1) := by decide +kernel
theorem dX6_addKid_0 : decode cX6_addKid 0 = .ok (.iload_n 1, 1) := by decide +kernel
theorem dX6_addKid_1 : decode cX6_addKid 1 = .ok (.ifCond .lt 48, 3) := by decide +kernel
theorem dX6_addKid_4 : decode cX6_addKid 4 = .ok (.iload_n 1, 1) := by decide +kernel
theorem dX6_addKid_5 : decode cX6_addKid 5 = .ok (.sipush 200, 3) := by decide +kernel
theorem dX6_addKid_8 : decode cX6_addKid 8 = .ok (.if_icmp .ge 41, 3) := by decide +kernel
theorem dX6_addKid_11 : decode cX6_addKid 11 = .ok (.aload_n 0, 1) := by decide +kernel
theorem dX6_addKid_12 : decode cX6_addKid 12 = .ok (.getfield 18, 3) := by decide +kernel
theorem dX6_addKid_15 : decode cX6_addKid 15 = .ok (.iload_n 1, 1) := by decide +kernel
theorem dX6_addKid_16 : decode cX6_addKid 16 = .ok (.iaload, 1) := by decide +kernel
theorem dX6_addKid_17 : decode cX6_addKid 17 = .ok (.bipush 9, 2) := by decide +kernel
theorem dX6_addKid_19 : decode cX6_addKid 19 = .ok (.if_icmp .ge 30, 3) := by decide +kernel
theorem dX6_addKid_22 : decode cX6_addKid 22 = .ok (.aload_n 0, 1) := by decide +kernel
theorem dX6_addKid_23 : decode cX6_addKid 23 = .ok (.getfield 15, 3) := by decide +kernel
theorem dX6_addKid_26 : decode cX6_addKid 26 = .ok (.iload_n 1, 1) := by decide +kernel
theorem dX6_addKid_27 : decode cX6_addKid 27 = .ok (.bipush 9, 2) := by decide +kernel
theorem dX6_addKid_29 : decode cX6_addKid 29 = .ok (.imul, 1) := by decide +kernel
theorem dX6_addKid_30 : decode cX6_addKid 30 = .ok (.aload_n 0, 1) := by decide +kernel
theorem dX6_addKid_31 : decode cX6_addKid 31 = .ok (.getfield 18, 3) := by decide +kernel
theorem dX6_addKid_34 : decode cX6_addKid 34 = .ok (.iload_n 1, 1) := by decide +kernel
theorem dX6_addKid_35 : decode cX6_addKid 35 = .ok (.iaload, 1) := by decide +kernel
theorem dX6_addKid_36 : decode cX6_addKid 36 = .ok (.iadd, 1) := by decide +kernel
theorem dX6_addKid_37 : decode cX6_addKid 37 = .ok (.iload_n 2, 1) := by decide +kernel
theorem dX6_addKid_38 : decode cX6_addKid 38 = .ok (.iastore, 1) := by decide +kernel
theorem dX6_addKid_39 : decode cX6_addKid 39 = .ok (.aload_n 0, 1) := by decide +kernel
theorem dX6_addKid_40 : decode cX6_addKid 40 = .ok (.getfield 18, 3) := by decide +kernel
theorem dX6_addKid_43 : decode cX6_addKid 43 = .ok (.iload_n 1, 1) := by decide +kernel
theorem dX6_addKid_44 : decode cX6_addKid 44 = .ok (.dup2, 1) := by decide +kernel
theorem dX6_addKid_45 : decode cX6_addKid 45 = .ok (.iaload, 1) := by decide +kernel
theorem dX6_addKid_46 : decode cX6_addKid 46 = .ok (.iconst 1, 1) := by decide +kernel
theorem dX6_addKid_47 : decode cX6_addKid 47 = .ok (.iadd, 1) := by decide +kernel
theorem dX6_addKid_48 : decode cX6_addKid 48 = .ok (.iastore, 1) := by decide +kernel
theorem dX6_addKid_49 : decode cX6_addKid 49 = .ok (.return_, 1) := by decide +kernel
theorem dX6_setOuter_0 : decode cX6_setOuter 0 = .ok (.iload_n 1, 1) := by decide +kernel
theorem dX6_setOuter_1 : decode cX6_setOuter 1 = .ok (.ifCond .lt 17, 3) := by decide +kernel
theorem dX6_setOuter_4 : decode cX6_setOuter 4 = .ok (.iload_n 1, 1) := by decide +kernel
theorem dX6_setOuter_5 : decode cX6_setOuter 5 = .ok (.sipush 200, 3) := by decide +kernel
theorem dX6_setOuter_8 : decode cX6_setOuter 8 = .ok (.if_icmp .ge 10, 3) := by decide +kernel
theorem dX6_setOuter_11 : decode cX6_setOuter 11 = .ok (.aload_n 0, 1) := by decide +kernel
theorem dX6_setOuter_12 : decode cX6_setOuter 12 = .ok (.getfield 21, 3) := by decide +kernel
theorem dX6_setOuter_15 : decode cX6_setOuter 15 = .ok (.iload_n 1, 1) := by decide +kernel
theorem dX6_setOuter_16 : decode cX6_setOuter 16 = .ok (.iload_n 2, 1) := by decide +kernel
theorem dX6_setOuter_17 : decode cX6_setOuter 17 = .ok (.iastore, 1) := by decide +kernel
theorem dX6_setOuter_18 : decode cX6_setOuter 18 = .ok (.return_, 1) := by decide +kernel
theorem dX6_setHome_0 : decode cX6_setHome 0 = .ok (.iload_n 1, 1) := by decide +kernel
theorem dX6_setHome_1 : decode cX6_setHome 1 = .ok (.ifCond .lt 17, 3) := by decide +kernel
theorem dX6_setHome_4 : decode cX6_setHome 4 = .ok (.iload_n 1, 1) := by decide +kernel
theorem dX6_setHome_5 : decode cX6_setHome 5 = .ok (.sipush 200, 3) := by decide +kernel
theorem dX6_setHome_8 : decode cX6_setHome 8 = .ok (.if_icmp .ge 10, 3) := by decide +kernel
theorem dX6_setHome_11 : decode cX6_setHome 11 = .ok (.aload_n 0, 1) := by decide +kernel
theorem dX6_setHome_12 : decode cX6_setHome 12 = .ok (.getfield 24, 3) := by decide +kernel
theorem dX6_setHome_15 : decode cX6_setHome 15 = .ok (.iload_n 1, 1) := by decide +kernel
theorem dX6_setHome_16 : decode cX6_setHome 16 = .ok (.iload_n 2, 1) := by decide +kernel
theorem dX6_setHome_17 : decode cX6_setHome 17 = .ok (.iastore, 1) := by decide +kernel
theorem dX6_setHome_18 : decode cX6_setHome 18 = .ok (.return_, 1) := by decide +kernel
theorem dX6_word_0 : decode cX6_word 0 = .ok (.iload_n 1, 1) := by decide +kernel
theorem dX6_word_1 : decode cX6_word 1 = .ok (.ifCond .lt 19, 3) := by decide +kernel
theorem dX6_word_4 : decode cX6_word 4 = .ok (.iload_n 1, 1) := by decide +kernel
theorem dX6_word_5 : decode cX6_word 5 = .ok (.sipush 200, 3) := by decide +kernel
theorem dX6_word_8 : decode cX6_word 8 = .ok (.if_icmp .ge 12, 3) := by decide +kernel
theorem dX6_word_11 : decode cX6_word 11 = .ok (.aload_n 0, 1) := by decide +kernel
theorem dX6_word_12 : decode cX6_word 12 = .ok (.getfield 9, 3) := by decide +kernel
theorem dX6_word_15 : decode cX6_word 15 = .ok (.iload_n 1, 1) := by decide +kernel
theorem dX6_word_16 : decode cX6_word 16 = .ok (.iaload, 1) := by decide +kernel
theorem dX6_word_17 : decode cX6_word 17 = .ok (.goto 4, 3) := by decide +kernel
theorem dX6_word_20 : decode cX6_word 20 = .ok (.iconst (-1), 1) := by decide +kernel
theorem dX6_word_21 : decode cX6_word 21 = .ok (.ireturn, 1) := by decide +kernel
theorem dX6_kidCount_0 : decode cX6_kidCount 0 = .ok (.iload_n 1, 1) := by decide +kernel
theorem dX6_kidCount_1 : decode cX6_kidCount 1 = .ok (.ifCond .lt 19, 3) := by decide +kernel
theorem dX6_kidCount_4 : decode cX6_kidCount 4 = .ok (.iload_n 1, 1) := by decide +kernel
theorem dX6_kidCount_5 : decode cX6_kidCount 5 = .ok (.sipush 200, 3) := by decide +kernel
theorem dX6_kidCount_8 : decode cX6_kidCount 8 = .ok (.if_icmp .ge 12, 3) := by decide +kernel
theorem dX6_kidCount_11 : decode cX6_kidCount 11 = .ok (.aload_n 0, 1) := by decide +kernel
theorem dX6_kidCount_12 : decode cX6_kidCount 12 = .ok (.getfield 18, 3) := by decide +kernel
theorem dX6_kidCount_15 : decode cX6_kidCount 15 = .ok (.iload_n 1, 1) := by decide +kernel
theorem dX6_kidCount_16 : decode cX6_kidCount 16 = .ok (.iaload, 1) := by decide +kernel
theorem dX6_kidCount_17 : decode cX6_kidCount 17 = .ok (.goto 4, 3) := by decide +kernel
theorem dX6_kidCount_20 : decode cX6_kidCount 20 = .ok (.iconst 0, 1) := by decide +kernel
theorem dX6_kidCount_21 : decode cX6_kidCount 21 = .ok (.ireturn, 1) := by decide +kernel
theorem dX6_kid_0 : decode cX6_kid 0 = .ok (.iload_n 1, 1) := by decide +kernel
theorem dX6_kid_1 : decode cX6_kid 1 = .ok (.ifCond .lt 24, 3) := by decide +kernel
theorem dX6_kid_4 : decode cX6_kid 4 = .ok (.iload_n 1, 1) := by decide +kernel
theorem dX6_kid_5 : decode cX6_kid 5 = .ok (.sipush 200, 3) := by decide +kernel
theorem dX6_kid_8 : decode cX6_kid 8 = .ok (.if_icmp .ge 17, 3) := by decide +kernel
theorem dX6_kid_11 : decode cX6_kid 11 = .ok (.iload_n 2, 1) := by decide +kernel
theorem dX6_kid_12 : decode cX6_kid 12 = .ok (.ifCond .lt 13, 3) := by decide +kernel
theorem dX6_kid_15 : decode cX6_kid 15 = .ok (.iload_n 2, 1) := by decide +kernel
theorem dX6_kid_16 : decode cX6_kid 16 = .ok (.bipush 9, 2) := by decide +kernel
theorem dX6_kid_18 : decode cX6_kid 18 = .ok (.if_icmp .ge 7, 3) := by decide +kernel
theorem dX6_kid_21 : decode cX6_kid 21 = .ok (.iconst 1, 1) := by decide +kernel
theorem dX6_kid_22 : decode cX6_kid 22 = .ok (.goto 4, 3) := by decide +kernel
theorem dX6_kid_25 : decode cX6_kid 25 = .ok (.iconst 0, 1) := by decide +kernel
theorem dX6_kid_26 : decode cX6_kid 26 = .ok (.istore_n 3, 1) := by decide +kernel
theorem dX6_kid_27 : decode cX6_kid 27 = .ok (.iload_n 3, 1) := by decide +kernel
theorem dX6_kid_28 : decode cX6_kid 28 = .ok (.ifCond .eq 27, 3) := by decide +kernel
theorem dX6_kid_31 : decode cX6_kid 31 = .ok (.iload_n 2, 1) := by decide +kernel
theorem dX6_kid_32 : decode cX6_kid 32 = .ok (.aload_n 0, 1) := by decide +kernel
theorem dX6_kid_33 : decode cX6_kid 33 = .ok (.getfield 18, 3) := by decide +kernel
theorem dX6_kid_36 : decode cX6_kid 36 = .ok (.iload_n 1, 1) := by decide +kernel
theorem dX6_kid_37 : decode cX6_kid 37 = .ok (.iaload, 1) := by decide +kernel
theorem dX6_kid_38 : decode cX6_kid 38 = .ok (.if_icmp .ge 17, 3) := by decide +kernel
theorem dX6_kid_41 : decode cX6_kid 41 = .ok (.aload_n 0, 1) := by decide +kernel
theorem dX6_kid_42 : decode cX6_kid 42 = .ok (.getfield 15, 3) := by decide +kernel
theorem dX6_kid_45 : decode cX6_kid 45 = .ok (.iload_n 1, 1) := by decide +kernel
theorem dX6_kid_46 : decode cX6_kid 46 = .ok (.bipush 9, 2) := by decide +kernel
theorem dX6_kid_48 : decode cX6_kid 48 = .ok (.imul, 1) := by decide +kernel
theorem dX6_kid_49 : decode cX6_kid 49 = .ok (.iload_n 2, 1) := by decide +kernel
theorem dX6_kid_50 : decode cX6_kid 50 = .ok (.iadd, 1) := by decide +kernel
theorem dX6_kid_51 : decode cX6_kid 51 = .ok (.iaload, 1) := by decide +kernel
theorem dX6_kid_52 : decode cX6_kid 52 = .ok (.goto 4, 3) := by decide +kernel
theorem dX6_kid_55 : decode cX6_kid 55 = .ok (.iconst (-1), 1) := by decide +kernel
theorem dX6_kid_56 : decode cX6_kid 56 = .ok (.ireturn, 1) := by decide +kernel
theorem dX6_kidInTurn_0 : decode cX6_kidInTurn 0 = .ok (.aload_n 0, 1) := by decide +kernel
theorem dX6_kidInTurn_1 : decode cX6_kidInTurn 1 = .ok (.iload_n 1, 1) := by decide +kernel
theorem dX6_kidInTurn_2 : decode cX6_kidInTurn 2 = .ok (.invokevirtual 33, 3) := by decide +kernel
theorem dX6_kidInTurn_5 : decode cX6_kidInTurn 5 = .ok (.istore_n 3, 1) := by decide +kernel
theorem dX6_kidInTurn_6 : decode cX6_kidInTurn 6 = .ok (.aload_n 0, 1) := by decide +kernel
theorem dX6_kidInTurn_7 : decode cX6_kidInTurn 7 = .ok (.iload_n 1, 1) := by decide +kernel
theorem dX6_kidInTurn_8 : decode cX6_kidInTurn 8 = .ok (.invokevirtual 37, 3) := by decide +kernel
theorem dX6_kidInTurn_11 : decode cX6_kidInTurn 11 = .ok (.bipush 32, 2) := by decide +kernel
theorem dX6_kidInTurn_13 : decode cX6_kidInTurn 13 = .ok (.if_icmp .ne 8, 3) := by decide +kernel
theorem dX6_kidInTurn_16 : decode cX6_kidInTurn 16 = .ok (.iload_n 2, 1) := by decide +kernel
theorem dX6_kidInTurn_17 : decode cX6_kidInTurn 17 = .ok (.iload_n 3, 1) := by decide +kernel
theorem dX6_kidInTurn_18 : decode cX6_kidInTurn 18 = .ok (.if_icmp .lt 10, 3) := by decide +kernel
theorem dX6_kidInTurn_21 : decode cX6_kidInTurn 21 = .ok (.aload_n 0, 1) := by decide +kernel
theorem dX6_kidInTurn_22 : decode cX6_kidInTurn 22 = .ok (.iload_n 1, 1) := by decide +kernel
theorem dX6_kidInTurn_23 : decode cX6_kidInTurn 23 = .ok (.iload_n 2, 1) := by decide +kernel
theorem dX6_kidInTurn_24 : decode cX6_kidInTurn 24 = .ok (.invokevirtual 40, 3) := by decide +kernel
theorem dX6_kidInTurn_27 : decode cX6_kidInTurn 27 = .ok (.ireturn, 1) := by decide +kernel
theorem dX6_kidInTurn_28 : decode cX6_kidInTurn 28 = .ok (.iload_n 2, 1) := by decide +kernel
theorem dX6_kidInTurn_29 : decode cX6_kidInTurn 29 = .ok (.ifCond .ne 14, 3) := by decide +kernel
theorem dX6_kidInTurn_32 : decode cX6_kidInTurn 32 = .ok (.aload_n 0, 1) := by decide +kernel
theorem dX6_kidInTurn_33 : decode cX6_kidInTurn 33 = .ok (.iload_n 1, 1) := by decide +kernel
theorem dX6_kidInTurn_34 : decode cX6_kidInTurn 34 = .ok (.iload_n 3, 1) := by decide +kernel
theorem dX6_kidInTurn_35 : decode cX6_kidInTurn 35 = .ok (.iconst 1, 1) := by decide +kernel
theorem dX6_kidInTurn_36 : decode cX6_kidInTurn 36 = .ok (.isub, 1) := by decide +kernel
theorem dX6_kidInTurn_37 : decode cX6_kidInTurn 37 = .ok (.invokevirtual 40, 3) := by decide +kernel
theorem dX6_kidInTurn_40 : decode cX6_kidInTurn 40 = .ok (.goto 11, 3) := by decide +kernel
theorem dX6_kidInTurn_43 : decode cX6_kidInTurn 43 = .ok (.aload_n 0, 1) := by decide +kernel
theorem dX6_kidInTurn_44 : decode cX6_kidInTurn 44 = .ok (.iload_n 1, 1) := by decide +kernel
theorem dX6_kidInTurn_45 : decode cX6_kidInTurn 45 = .ok (.iload_n 2, 1) := by decide +kernel
theorem dX6_kidInTurn_46 : decode cX6_kidInTurn 46 = .ok (.iconst 1, 1) := by decide +kernel
theorem dX6_kidInTurn_47 : decode cX6_kidInTurn 47 = .ok (.isub, 1) := by decide +kernel
theorem dX6_kidInTurn_48 : decode cX6_kidInTurn 48 = .ok (.invokevirtual 40, 3) := by decide +kernel
theorem dX6_kidInTurn_51 : decode cX6_kidInTurn 51 = .ok (.ireturn, 1) := by decide +kernel
theorem dX6_labelOf_0 : decode cX6_labelOf 0 = .ok (.iload_n 1, 1) := by decide +kernel
theorem dX6_labelOf_1 : decode cX6_labelOf 1 = .ok (.ifCond .le 21, 3) := by decide +kernel
theorem dX6_labelOf_4 : decode cX6_labelOf 4 = .ok (.iload_n 1, 1) := by decide +kernel
theorem dX6_labelOf_5 : decode cX6_labelOf 5 = .ok (.sipush 200, 3) := by decide +kernel
theorem dX6_labelOf_8 : decode cX6_labelOf 8 = .ok (.if_icmp .gt 14, 3) := by decide +kernel
theorem dX6_labelOf_11 : decode cX6_labelOf 11 = .ok (.aload_n 0, 1) := by decide +kernel
theorem dX6_labelOf_12 : decode cX6_labelOf 12 = .ok (.getfield 9, 3) := by decide +kernel
theorem dX6_labelOf_15 : decode cX6_labelOf 15 = .ok (.iload_n 1, 1) := by decide +kernel
theorem dX6_labelOf_16 : decode cX6_labelOf 16 = .ok (.iconst 1, 1) := by decide +kernel
theorem dX6_labelOf_17 : decode cX6_labelOf 17 = .ok (.isub, 1) := by decide +kernel
theorem dX6_labelOf_18 : decode cX6_labelOf 18 = .ok (.iaload, 1) := by decide +kernel
theorem dX6_labelOf_19 : decode cX6_labelOf 19 = .ok (.goto 4, 3) := by decide +kernel
theorem dX6_labelOf_22 : decode cX6_labelOf 22 = .ok (.iconst (-1), 1) := by decide +kernel
theorem dX6_labelOf_23 : decode cX6_labelOf 23 = .ok (.ireturn, 1) := by decide +kernel
theorem dX6_outer_0 : decode cX6_outer 0 = .ok (.iload_n 1, 1) := by decide +kernel
theorem dX6_outer_1 : decode cX6_outer 1 = .ok (.ifCond .lt 19, 3) := by decide +kernel
theorem dX6_outer_4 : decode cX6_outer 4 = .ok (.iload_n 1, 1) := by decide +kernel
theorem dX6_outer_5 : decode cX6_outer 5 = .ok (.sipush 200, 3) := by decide +kernel
theorem dX6_outer_8 : decode cX6_outer 8 = .ok (.if_icmp .ge 12, 3) := by decide +kernel
theorem dX6_outer_11 : decode cX6_outer 11 = .ok (.aload_n 0, 1) := by decide +kernel
theorem dX6_outer_12 : decode cX6_outer 12 = .ok (.getfield 21, 3) := by decide +kernel
theorem dX6_outer_15 : decode cX6_outer 15 = .ok (.iload_n 1, 1) := by decide +kernel
theorem dX6_outer_16 : decode cX6_outer 16 = .ok (.iaload, 1) := by decide +kernel
theorem dX6_outer_17 : decode cX6_outer 17 = .ok (.goto 4, 3) := by decide +kernel
theorem dX6_outer_20 : decode cX6_outer 20 = .ok (.iconst (-1), 1) := by decide +kernel
theorem dX6_outer_21 : decode cX6_outer 21 = .ok (.ireturn, 1) := by decide +kernel
theorem dX6_home_0 : decode cX6_home 0 = .ok (.iload_n 1, 1) := by decide +kernel
theorem dX6_home_1 : decode cX6_home 1 = .ok (.ifCond .lt 19, 3) := by decide +kernel
theorem dX6_home_4 : decode cX6_home 4 = .ok (.iload_n 1, 1) := by decide +kernel
theorem dX6_home_5 : decode cX6_home 5 = .ok (.sipush 200, 3) := by decide +kernel
theorem dX6_home_8 : decode cX6_home 8 = .ok (.if_icmp .ge 12, 3) := by decide +kernel
theorem dX6_home_11 : decode cX6_home 11 = .ok (.aload_n 0, 1) := by decide +kernel
theorem dX6_home_12 : decode cX6_home 12 = .ok (.getfield 24, 3) := by decide +kernel
theorem dX6_home_15 : decode cX6_home 15 = .ok (.iload_n 1, 1) := by decide +kernel
theorem dX6_home_16 : decode cX6_home 16 = .ok (.iaload, 1) := by decide +kernel
theorem dX6_home_17 : decode cX6_home 17 = .ok (.goto 4, 3) := by decide +kernel
theorem dX6_home_20 : decode cX6_home 20 = .ok (.iconst (-1), 1) := by decide +kernel
theorem dX6_home_21 : decode cX6_home 21 = .ok (.ireturn, 1) := by decide +kernel
