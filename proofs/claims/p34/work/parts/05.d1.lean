theorem dX4_divideDown_14 : decode cX4_divideDown 14 = .ok (.lconst 0, 1) := by decide +kernel
theorem dX4_divideDown_15 : decode cX4_divideDown 15 = .ok (.lreturn, 1) := by decide +kernel
theorem dX4_startTrial_0 : decode cX4_startTrial 0 = .ok (.aload_n 0, 1) := by decide +kernel
theorem dX4_startTrial_1 : decode cX4_startTrial 1 = .ok (.getfield 47, 3) := by decide +kernel
theorem dX4_startTrial_4 : decode cX4_startTrial 4 = .ok (.aload_n 0, 1) := by decide +kernel
theorem dX4_startTrial_5 : decode cX4_startTrial 5 = .ok (.getfield 19, 3) := by decide +kernel
theorem dX4_startTrial_8 : decode cX4_startTrial 8 = .ok (.invokevirtual 273, 3) := by decide +kernel
theorem dX4_startTrial_11 : decode cX4_startTrial 11 = .ok (.aload_n 0, 1) := by decide +kernel
theorem dX4_startTrial_12 : decode cX4_startTrial 12 = .ok (.getfield 50, 3) := by decide +kernel
theorem dX4_startTrial_15 : decode cX4_startTrial 15 = .ok (.invokevirtual 185, 3) := by decide +kernel
theorem dX4_startTrial_18 : decode cX4_startTrial 18 = .ok (.return_, 1) := by decide +kernel
theorem dX4_staysInReach_0 : decode cX4_staysInReach 0 = .ok (.iconst 0, 1) := by decide +kernel
theorem dX4_staysInReach_1 : decode cX4_staysInReach 1 = .ok (.istore_n 2, 1) := by decide +kernel
theorem dX4_staysInReach_2 : decode cX4_staysInReach 2 = .ok (.iload_n 2, 1) := by decide +kernel
theorem dX4_staysInReach_3 : decode cX4_staysInReach 3 = .ok (.iload_n 1, 1) := by decide +kernel
theorem dX4_staysInReach_4 : decode cX4_staysInReach 4 = .ok (.if_icmp .ge 38, 3) := by decide +kernel
theorem dX4_staysInReach_7 : decode cX4_staysInReach 7 = .ok (.aload_n 0, 1) := by decide +kernel
theorem dX4_staysInReach_8 : decode cX4_staysInReach 8 = .ok (.getfield 50, 3) := by decide +kernel
theorem dX4_staysInReach_11 : decode cX4_staysInReach 11 = .ok (.invokevirtual 262, 3) := by decide +kernel
theorem dX4_staysInReach_14 : decode cX4_staysInReach 14 = .ok (.pop, 1) := by decide +kernel
theorem dX4_staysInReach_15 : decode cX4_staysInReach 15 = .ok (.aload_n 0, 1) := by decide +kernel
theorem dX4_staysInReach_16 : decode cX4_staysInReach 16 = .ok (.getfield 47, 3) := by decide +kernel
theorem dX4_staysInReach_19 : decode cX4_staysInReach 19 = .ok (.getfield 98, 3) := by decide +kernel
theorem dX4_staysInReach_22 : decode cX4_staysInReach 22 = .ok (.aload_n 0, 1) := by decide +kernel
theorem dX4_staysInReach_23 : decode cX4_staysInReach 23 = .ok (.getfield 47, 3) := by decide +kernel
theorem dX4_staysInReach_26 : decode cX4_staysInReach 26 = .ok (.getfield 82, 3) := by decide +kernel
theorem dX4_staysInReach_29 : decode cX4_staysInReach 29 = .ok (.iconst 3, 1) := by decide +kernel
theorem dX4_staysInReach_30 : decode cX4_staysInReach 30 = .ok (.iaload, 1) := by decide +kernel
theorem dX4_staysInReach_31 : decode cX4_staysInReach 31 = .ok (.if_icmp .ge 5, 3) := by decide +kernel
theorem dX4_staysInReach_34 : decode cX4_staysInReach 34 = .ok (.iconst 0, 1) := by decide +kernel
theorem dX4_staysInReach_35 : decode cX4_staysInReach 35 = .ok (.ireturn, 1) := by decide +kernel
theorem dX4_staysInReach_36 : decode cX4_staysInReach 36 = .ok (.iinc 2 1, 3) := by decide +kernel
theorem dX4_staysInReach_39 : decode cX4_staysInReach 39 = .ok (.goto (-37), 3) := by decide +kernel
theorem dX4_staysInReach_42 : decode cX4_staysInReach 42 = .ok (.iconst 1, 1) := by decide +kernel
theorem dX4_staysInReach_43 : decode cX4_staysInReach 43 = .ok (.ireturn, 1) := by decide +kernel
theorem dX4_firstFall_0 : decode cX4_firstFall 0 = .ok (.iconst 0, 1) := by decide +kernel
theorem dX4_firstFall_1 : decode cX4_firstFall 1 = .ok (.istore_n 2, 1) := by decide +kernel
theorem dX4_firstFall_2 : decode cX4_firstFall 2 = .ok (.iload_n 2, 1) := by decide +kernel
theorem dX4_firstFall_3 : decode cX4_firstFall 3 = .ok (.iload_n 1, 1) := by decide +kernel
theorem dX4_firstFall_4 : decode cX4_firstFall 4 = .ok (.if_icmp .ge 27, 3) := by decide +kernel
theorem dX4_firstFall_7 : decode cX4_firstFall 7 = .ok (.aload_n 0, 1) := by decide +kernel
theorem dX4_firstFall_8 : decode cX4_firstFall 8 = .ok (.getfield 50, 3) := by decide +kernel
theorem dX4_firstFall_11 : decode cX4_firstFall 11 = .ok (.invokevirtual 262, 3) := by decide +kernel
theorem dX4_firstFall_14 : decode cX4_firstFall 14 = .ok (.ifCond .le 11, 3) := by decide +kernel
theorem dX4_firstFall_17 : decode cX4_firstFall 17 = .ok (.aload_n 0, 1) := by decide +kernel
theorem dX4_firstFall_18 : decode cX4_firstFall 18 = .ok (.getfield 50, 3) := by decide +kernel
theorem dX4_firstFall_21 : decode cX4_firstFall 21 = .ok (.getfield 326, 3) := by decide +kernel
theorem dX4_firstFall_24 : decode cX4_firstFall 24 = .ok (.ireturn, 1) := by decide +kernel
theorem dX4_firstFall_25 : decode cX4_firstFall 25 = .ok (.iinc 2 1, 3) := by decide +kernel
theorem dX4_firstFall_28 : decode cX4_firstFall 28 = .ok (.goto (-26), 3) := by decide +kernel
theorem dX4_firstFall_31 : decode cX4_firstFall 31 = .ok (.bipush (-9), 2) := by decide +kernel
theorem dX4_firstFall_33 : decode cX4_firstFall 33 = .ok (.ireturn, 1) := by decide +kernel
theorem dX4_withoutGroups_0 : decode cX4_withoutGroups 0 = .ok (.lload_n 0, 1) := by decide +kernel
theorem dX4_withoutGroups_1 : decode cX4_withoutGroups 1 = .ok (.lstore_n 3, 1) := by decide +kernel
theorem dX4_withoutGroups_2 : decode cX4_withoutGroups 2 = .ok (.iconst 0, 1) := by decide +kernel
theorem dX4_withoutGroups_3 : decode cX4_withoutGroups 3 = .ok (.istore 5, 2) := by decide +kernel
theorem dX4_withoutGroups_5 : decode cX4_withoutGroups 5 = .ok (.iload 5, 2) := by decide +kernel
theorem dX4_withoutGroups_7 : decode cX4_withoutGroups 7 = .ok (.iload_n 2, 1) := by decide +kernel
theorem dX4_withoutGroups_8 : decode cX4_withoutGroups 8 = .ok (.if_icmp .ge 15, 3) := by decide +kernel
theorem dX4_withoutGroups_11 : decode cX4_withoutGroups 11 = .ok (.lload_n 3, 1) := by decide +kernel
theorem dX4_withoutGroups_12 : decode cX4_withoutGroups 12 = .ok (.ldc2_w 287, 3) := by decide +kernel
theorem dX4_withoutGroups_15 : decode cX4_withoutGroups 15 = .ok (.ldiv, 1) := by decide +kernel
theorem dX4_withoutGroups_16 : decode cX4_withoutGroups 16 = .ok (.lstore_n 3, 1) := by decide +kernel
theorem dX4_withoutGroups_17 : decode cX4_withoutGroups 17 = .ok (.iinc 5 1, 3) := by decide +kernel
theorem dX4_withoutGroups_20 : decode cX4_withoutGroups 20 = .ok (.goto (-15), 3) := by decide +kernel
theorem dX4_withoutGroups_23 : decode cX4_withoutGroups 23 = .ok (.lload_n 3, 1) := by decide +kernel
theorem dX4_withoutGroups_24 : decode cX4_withoutGroups 24 = .ok (.lreturn, 1) := by decide +kernel
theorem dX4_commandSucceeds_0 : decode cX4_commandSucceeds 0 = .ok (.iload_n 1, 1) := by decide +kernel
theorem dX4_commandSucceeds_1 : decode cX4_commandSucceeds 1 = .ok (.sipush 1000, 3) := by decide +kernel
theorem dX4_commandSucceeds_4 : decode cX4_commandSucceeds 4 = .ok (.idiv, 1) := by decide +kernel
theorem dX4_commandSucceeds_5 : decode cX4_commandSucceeds 5 = .ok (.bipush 10, 2) := by decide +kernel
theorem dX4_commandSucceeds_7 : decode cX4_commandSucceeds 7 = .ok (.irem, 1) := by decide +kernel
theorem dX4_commandSucceeds_8 : decode cX4_commandSucceeds 8 = .ok (.istore_n 2, 1) := by decide +kernel
theorem dX4_commandSucceeds_9 : decode cX4_commandSucceeds 9 = .ok (.iload_n 1, 1) := by decide +kernel
theorem dX4_commandSucceeds_10 : decode cX4_commandSucceeds 10 = .ok (.sipush 1000, 3) := by decide +kernel
theorem dX4_commandSucceeds_13 : decode cX4_commandSucceeds 13 = .ok (.irem, 1) := by decide +kernel
theorem dX4_commandSucceeds_14 : decode cX4_commandSucceeds 14 = .ok (.istore_n 3, 1) := by decide +kernel
theorem dX4_commandSucceeds_15 : decode cX4_commandSucceeds 15 = .ok (.iload_n 1, 1) := by decide +kernel
theorem dX4_commandSucceeds_16 : decode cX4_commandSucceeds 16 = .ok (.sipush 10000, 3) := by decide +kernel
theorem dX4_commandSucceeds_19 : decode cX4_commandSucceeds 19 = .ok (.idiv, 1) := by decide +kernel
theorem dX4_commandSucceeds_20 : decode cX4_commandSucceeds 20 = .ok (.tableswitch 233 1 9 #[52, 70, 77, 95, 123, 144, 165, 188, 212], 52) := by decide +kernel
theorem dX4_commandSucceeds_72 : decode cX4_commandSucceeds 72 = .ok (.iload_n 2, 1) := by decide +kernel
theorem dX4_commandSucceeds_73 : decode cX4_commandSucceeds 73 = .ok (.ifCond .ne 15, 3) := by decide +kernel
theorem dX4_commandSucceeds_76 : decode cX4_commandSucceeds 76 = .ok (.aload_n 0, 1) := by decide +kernel
theorem dX4_commandSucceeds_77 : decode cX4_commandSucceeds 77 = .ok (.iload_n 3, 1) := by decide +kernel
theorem dX4_commandSucceeds_78 : decode cX4_commandSucceeds 78 = .ok (.invokevirtual 329, 3) := by decide +kernel
theorem dX4_commandSucceeds_81 : decode cX4_commandSucceeds 81 = .ok (.ifCond .eq 7, 3) := by decide +kernel
theorem dX4_commandSucceeds_84 : decode cX4_commandSucceeds 84 = .ok (.iconst 1, 1) := by decide +kernel
theorem dX4_commandSucceeds_85 : decode cX4_commandSucceeds 85 = .ok (.goto 4, 3) := by decide +kernel
theorem dX4_commandSucceeds_88 : decode cX4_commandSucceeds 88 = .ok (.iconst 0, 1) := by decide +kernel
theorem dX4_commandSucceeds_89 : decode cX4_commandSucceeds 89 = .ok (.ireturn, 1) := by decide +kernel
theorem dX4_commandSucceeds_90 : decode cX4_commandSucceeds 90 = .ok (.aload_n 0, 1) := by decide +kernel
theorem dX4_commandSucceeds_91 : decode cX4_commandSucceeds 91 = .ok (.iload_n 2, 1) := by decide +kernel
theorem dX4_commandSucceeds_92 : decode cX4_commandSucceeds 92 = .ok (.iload_n 3, 1) := by decide +kernel
theorem dX4_commandSucceeds_93 : decode cX4_commandSucceeds 93 = .ok (.invokevirtual 332, 3) := by decide +kernel
theorem dX4_commandSucceeds_96 : decode cX4_commandSucceeds 96 = .ok (.ireturn, 1) := by decide +kernel
theorem dX4_commandSucceeds_97 : decode cX4_commandSucceeds 97 = .ok (.iload_n 2, 1) := by decide +kernel
theorem dX4_commandSucceeds_98 : decode cX4_commandSucceeds 98 = .ok (.ifCond .ne 15, 3) := by decide +kernel
theorem dX4_commandSucceeds_101 : decode cX4_commandSucceeds 101 = .ok (.aload_n 0, 1) := by decide +kernel
theorem dX4_commandSucceeds_102 : decode cX4_commandSucceeds 102 = .ok (.iload_n 3, 1) := by decide +kernel
theorem dX4_commandSucceeds_103 : decode cX4_commandSucceeds 103 = .ok (.invokevirtual 335, 3) := by decide +kernel
theorem dX4_commandSucceeds_106 : decode cX4_commandSucceeds 106 = .ok (.ifCond .eq 7, 3) := by decide +kernel
theorem dX4_commandSucceeds_109 : decode cX4_commandSucceeds 109 = .ok (.iconst 1, 1) := by decide +kernel
theorem dX4_commandSucceeds_110 : decode cX4_commandSucceeds 110 = .ok (.goto 4, 3) := by decide +kernel
theorem dX4_commandSucceeds_113 : decode cX4_commandSucceeds 113 = .ok (.iconst 0, 1) := by decide +kernel
theorem dX4_commandSucceeds_114 : decode cX4_commandSucceeds 114 = .ok (.ireturn, 1) := by decide +kernel
theorem dX4_commandSucceeds_115 : decode cX4_commandSucceeds 115 = .ok (.iload_n 2, 1) := by decide +kernel
theorem dX4_commandSucceeds_116 : decode cX4_commandSucceeds 116 = .ok (.iconst 1, 1) := by decide +kernel
theorem dX4_commandSucceeds_117 : decode cX4_commandSucceeds 117 = .ok (.if_icmp .gt 24, 3) := by decide +kernel
theorem dX4_commandSucceeds_120 : decode cX4_commandSucceeds 120 = .ok (.aload_n 0, 1) := by decide +kernel
theorem dX4_commandSucceeds_121 : decode cX4_commandSucceeds 121 = .ok (.iload_n 2, 1) := by decide +kernel
theorem dX4_commandSucceeds_122 : decode cX4_commandSucceeds 122 = .ok (.ifCond .ne 7, 3) := by decide +kernel
theorem dX4_commandSucceeds_125 : decode cX4_commandSucceeds 125 = .ok (.iload_n 3, 1) := by decide +kernel
theorem dX4_commandSucceeds_126 : decode cX4_commandSucceeds 126 = .ok (.goto 5, 3) := by decide +kernel
theorem dX4_commandSucceeds_129 : decode cX4_commandSucceeds 129 = .ok (.iload_n 3, 1) := by decide +kernel
theorem dX4_commandSucceeds_130 : decode cX4_commandSucceeds 130 = .ok (.ineg, 1) := by decide +kernel
theorem dX4_commandSucceeds_131 : decode cX4_commandSucceeds 131 = .ok (.invokevirtual 338, 3) := by decide +kernel
theorem dX4_commandSucceeds_134 : decode cX4_commandSucceeds 134 = .ok (.ifCond .eq 7, 3) := by decide +kernel
theorem dX4_commandSucceeds_137 : decode cX4_commandSucceeds 137 = .ok (.iconst 1, 1) := by decide +kernel
theorem dX4_commandSucceeds_138 : decode cX4_commandSucceeds 138 = .ok (.goto 4, 3) := by decide +kernel
theorem dX4_commandSucceeds_141 : decode cX4_commandSucceeds 141 = .ok (.iconst 0, 1) := by decide +kernel
theorem dX4_commandSucceeds_142 : decode cX4_commandSucceeds 142 = .ok (.ireturn, 1) := by decide +kernel
theorem dX4_commandSucceeds_143 : decode cX4_commandSucceeds 143 = .ok (.iload_n 2, 1) := by decide +kernel
theorem dX4_commandSucceeds_144 : decode cX4_commandSucceeds 144 = .ok (.ifCond .ne 18, 3) := by decide +kernel
theorem dX4_commandSucceeds_147 : decode cX4_commandSucceeds 147 = .ok (.iload_n 3, 1) := by decide +kernel
theorem dX4_commandSucceeds_148 : decode cX4_commandSucceeds 148 = .ok (.ifCond .ne 14, 3) := by decide +kernel
theorem dX4_commandSucceeds_151 : decode cX4_commandSucceeds 151 = .ok (.aload_n 0, 1) := by decide +kernel
theorem dX4_commandSucceeds_152 : decode cX4_commandSucceeds 152 = .ok (.invokevirtual 341, 3) := by decide +kernel
theorem dX4_commandSucceeds_155 : decode cX4_commandSucceeds 155 = .ok (.ifCond .eq 7, 3) := by decide +kernel
theorem dX4_commandSucceeds_158 : decode cX4_commandSucceeds 158 = .ok (.iconst 1, 1) := by decide +kernel
theorem dX4_commandSucceeds_159 : decode cX4_commandSucceeds 159 = .ok (.goto 4, 3) := by decide +kernel
theorem dX4_commandSucceeds_162 : decode cX4_commandSucceeds 162 = .ok (.iconst 0, 1) := by decide +kernel
theorem dX4_commandSucceeds_163 : decode cX4_commandSucceeds 163 = .ok (.ireturn, 1) := by decide +kernel
theorem dX4_commandSucceeds_164 : decode cX4_commandSucceeds 164 = .ok (.iload_n 2, 1) := by decide +kernel
theorem dX4_commandSucceeds_165 : decode cX4_commandSucceeds 165 = .ok (.ifCond .ne 18, 3) := by decide +kernel
theorem dX4_commandSucceeds_168 : decode cX4_commandSucceeds 168 = .ok (.iload_n 3, 1) := by decide +kernel
theorem dX4_commandSucceeds_169 : decode cX4_commandSucceeds 169 = .ok (.aload_n 0, 1) := by decide +kernel
theorem dX4_commandSucceeds_170 : decode cX4_commandSucceeds 170 = .ok (.getfield 47, 3) := by decide +kernel
theorem dX4_commandSucceeds_173 : decode cX4_commandSucceeds 173 = .ok (.invokevirtual 130, 3) := by decide +kernel
theorem dX4_commandSucceeds_176 : decode cX4_commandSucceeds 176 = .ok (.if_icmp .ne 7, 3) := by decide +kernel
theorem dX4_commandSucceeds_179 : decode cX4_commandSucceeds 179 = .ok (.iconst 1, 1) := by decide +kernel
theorem dX4_commandSucceeds_180 : decode cX4_commandSucceeds 180 = .ok (.goto 4, 3) := by decide +kernel
theorem dX4_commandSucceeds_183 : decode cX4_commandSucceeds 183 = .ok (.iconst 0, 1) := by decide +kernel
theorem dX4_commandSucceeds_184 : decode cX4_commandSucceeds 184 = .ok (.ireturn, 1) := by decide +kernel
theorem dX4_commandSucceeds_185 : decode cX4_commandSucceeds 185 = .ok (.aload_n 0, 1) := by decide +kernel
theorem dX4_commandSucceeds_186 : decode cX4_commandSucceeds 186 = .ok (.getfield 47, 3) := by decide +kernel
theorem dX4_commandSucceeds_189 : decode cX4_commandSucceeds 189 = .ok (.getfield 98, 3) := by decide +kernel
theorem dX4_commandSucceeds_192 : decode cX4_commandSucceeds 192 = .ok (.iload_n 2, 1) := by decide +kernel
theorem dX4_commandSucceeds_193 : decode cX4_commandSucceeds 193 = .ok (.sipush 1000, 3) := by decide +kernel
theorem dX4_commandSucceeds_196 : decode cX4_commandSucceeds 196 = .ok (.imul, 1) := by decide +kernel
theorem dX4_commandSucceeds_197 : decode cX4_commandSucceeds 197 = .ok (.iload_n 3, 1) := by decide +kernel
theorem dX4_commandSucceeds_198 : decode cX4_commandSucceeds 198 = .ok (.iadd, 1) := by decide +kernel
theorem dX4_commandSucceeds_199 : decode cX4_commandSucceeds 199 = .ok (.if_icmp .lt 7, 3) := by decide +kernel
theorem dX4_commandSucceeds_202 : decode cX4_commandSucceeds 202 = .ok (.iconst 1, 1) := by decide +kernel
theorem dX4_commandSucceeds_203 : decode cX4_commandSucceeds 203 = .ok (.goto 4, 3) := by decide +kernel
theorem dX4_commandSucceeds_206 : decode cX4_commandSucceeds 206 = .ok (.iconst 0, 1) := by decide +kernel
theorem dX4_commandSucceeds_207 : decode cX4_commandSucceeds 207 = .ok (.ireturn, 1) := by decide +kernel
theorem dX4_commandSucceeds_208 : decode cX4_commandSucceeds 208 = .ok (.iload_n 2, 1) := by decide +kernel
theorem dX4_commandSucceeds_209 : decode cX4_commandSucceeds 209 = .ok (.ifCond .ne 21, 3) := by decide +kernel
theorem dX4_commandSucceeds_212 : decode cX4_commandSucceeds 212 = .ok (.aload_n 0, 1) := by decide +kernel
theorem dX4_commandSucceeds_213 : decode cX4_commandSucceeds 213 = .ok (.getfield 47, 3) := by decide +kernel
theorem dX4_commandSucceeds_216 : decode cX4_commandSucceeds 216 = .ok (.getfield 121, 3) := by decide +kernel
theorem dX4_commandSucceeds_219 : decode cX4_commandSucceeds 219 = .ok (.bipush 60, 2) := by decide +kernel
theorem dX4_commandSucceeds_221 : decode cX4_commandSucceeds 221 = .ok (.idiv, 1) := by decide +kernel
theorem dX4_commandSucceeds_222 : decode cX4_commandSucceeds 222 = .ok (.iload_n 3, 1) := by decide +kernel
theorem dX4_commandSucceeds_223 : decode cX4_commandSucceeds 223 = .ok (.if_icmp .ne 7, 3) := by decide +kernel
theorem dX4_commandSucceeds_226 : decode cX4_commandSucceeds 226 = .ok (.iconst 1, 1) := by decide +kernel
theorem dX4_commandSucceeds_227 : decode cX4_commandSucceeds 227 = .ok (.goto 4, 3) := by decide +kernel
theorem dX4_commandSucceeds_230 : decode cX4_commandSucceeds 230 = .ok (.iconst 0, 1) := by decide +kernel
theorem dX4_commandSucceeds_231 : decode cX4_commandSucceeds 231 = .ok (.ireturn, 1) := by decide +kernel
theorem dX4_commandSucceeds_232 : decode cX4_commandSucceeds 232 = .ok (.iload_n 2, 1) := by decide +kernel
theorem dX4_commandSucceeds_233 : decode cX4_commandSucceeds 233 = .ok (.ifCond .ne 18, 3) := by decide +kernel
theorem dX4_commandSucceeds_236 : decode cX4_commandSucceeds 236 = .ok (.iload_n 3, 1) := by decide +kernel
theorem dX4_commandSucceeds_237 : decode cX4_commandSucceeds 237 = .ok (.aload_n 0, 1) := by decide +kernel
theorem dX4_commandSucceeds_238 : decode cX4_commandSucceeds 238 = .ok (.getfield 47, 3) := by decide +kernel
theorem dX4_commandSucceeds_241 : decode cX4_commandSucceeds 241 = .ok (.getfield 133, 3) := by decide +kernel
theorem dX4_commandSucceeds_244 : decode cX4_commandSucceeds 244 = .ok (.if_icmp .ne 7, 3) := by decide +kernel
theorem dX4_commandSucceeds_247 : decode cX4_commandSucceeds 247 = .ok (.iconst 1, 1) := by decide +kernel
theorem dX4_commandSucceeds_248 : decode cX4_commandSucceeds 248 = .ok (.goto 4, 3) := by decide +kernel
theorem dX4_commandSucceeds_251 : decode cX4_commandSucceeds 251 = .ok (.iconst 0, 1) := by decide +kernel
theorem dX4_commandSucceeds_252 : decode cX4_commandSucceeds 252 = .ok (.ireturn, 1) := by decide +kernel
theorem dX4_commandSucceeds_253 : decode cX4_commandSucceeds 253 = .ok (.iconst 0, 1) := by decide +kernel
theorem dX4_commandSucceeds_254 : decode cX4_commandSucceeds 254 = .ok (.ireturn, 1) := by decide +kernel
theorem dX4_trialSwings_0 : decode cX4_trialSwings 0 = .ok (.iload_n 1, 1) := by decide +kernel
theorem dX4_trialSwings_1 : decode cX4_trialSwings 1 = .ok (.invokestatic 176, 3) := by decide +kernel
theorem dX4_trialSwings_4 : decode cX4_trialSwings 4 = .ok (.ifCond .ne 5, 3) := by decide +kernel
theorem dX4_trialSwings_7 : decode cX4_trialSwings 7 = .ok (.iconst 0, 1) := by decide +kernel
theorem dX4_trialSwings_8 : decode cX4_trialSwings 8 = .ok (.ireturn, 1) := by decide +kernel
theorem dX4_trialSwings_9 : decode cX4_trialSwings 9 = .ok (.aload_n 0, 1) := by decide +kernel
theorem dX4_trialSwings_10 : decode cX4_trialSwings 10 = .ok (.getfield 50, 3) := by decide +kernel
theorem dX4_trialSwings_13 : decode cX4_trialSwings 13 = .ok (.invokevirtual 185, 3) := by decide +kernel
theorem dX4_trialSwings_16 : decode cX4_trialSwings 16 = .ok (.aload_n 0, 1) := by decide +kernel
theorem dX4_trialSwings_17 : decode cX4_trialSwings 17 = .ok (.getfield 50, 3) := by decide +kernel
theorem dX4_trialSwings_20 : decode cX4_trialSwings 20 = .ok (.iload_n 1, 1) := by decide +kernel
theorem dX4_trialSwings_21 : decode cX4_trialSwings 21 = .ok (.invokevirtual 186, 3) := by decide +kernel
theorem dX4_trialSwings_24 : decode cX4_trialSwings 24 = .ok (.pop, 1) := by decide +kernel
theorem dX4_trialSwings_25 : decode cX4_trialSwings 25 = .ok (.iconst 1, 1) := by decide +kernel
theorem dX4_trialSwings_26 : decode cX4_trialSwings 26 = .ok (.ireturn, 1) := by decide +kernel
theorem dX4_trialSets_0 : decode cX4_trialSets 0 = .ok (.iload_n 1, 1) := by decide +kernel
theorem dX4_trialSets_1 : decode cX4_trialSets 1 = .ok (.iload_n 2, 1) := by decide +kernel
theorem dX4_trialSets_2 : decode cX4_trialSets 2 = .ok (.invokestatic 167, 3) := by decide +kernel
theorem dX4_trialSets_5 : decode cX4_trialSets 5 = .ok (.ifCond .ne 5, 3) := by decide +kernel
theorem dX4_trialSets_8 : decode cX4_trialSets 8 = .ok (.iconst 0, 1) := by decide +kernel
theorem dX4_trialSets_9 : decode cX4_trialSets 9 = .ok (.ireturn, 1) := by decide +kernel
theorem dX4_trialSets_10 : decode cX4_trialSets 10 = .ok (.aload_n 0, 1) := by decide +kernel
theorem dX4_trialSets_11 : decode cX4_trialSets 11 = .ok (.getfield 47, 3) := by decide +kernel
theorem dX4_trialSets_14 : decode cX4_trialSets 14 = .ok (.iload_n 1, 1) := by decide +kernel
theorem dX4_trialSets_15 : decode cX4_trialSets 15 = .ok (.iload_n 2, 1) := by decide +kernel
theorem dX4_trialSets_16 : decode cX4_trialSets 16 = .ok (.invokevirtual 191, 3) := by decide +kernel
theorem dX4_trialSets_19 : decode cX4_trialSets 19 = .ok (.iconst 1, 1) := by decide +kernel
theorem dX4_trialSets_20 : decode cX4_trialSets 20 = .ok (.ireturn, 1) := by decide +kernel
theorem dX4_trialIsPushed_0 : decode cX4_trialIsPushed 0 = .ok (.iload_n 1, 1) := by decide +kernel
theorem dX4_trialIsPushed_1 : decode cX4_trialIsPushed 1 = .ok (.invokestatic 195, 3) := by decide +kernel
theorem dX4_trialIsPushed_4 : decode cX4_trialIsPushed 4 = .ok (.ifCond .ne 5, 3) := by decide +kernel
theorem dX4_trialIsPushed_7 : decode cX4_trialIsPushed 7 = .ok (.iconst 0, 1) := by decide +kernel
theorem dX4_trialIsPushed_8 : decode cX4_trialIsPushed 8 = .ok (.ireturn, 1) := by decide +kernel
theorem dX4_trialIsPushed_9 : decode cX4_trialIsPushed 9 = .ok (.aload_n 0, 1) := by decide +kernel
theorem dX4_trialIsPushed_10 : decode cX4_trialIsPushed 10 = .ok (.getfield 47, 3) := by decide +kernel
theorem dX4_trialIsPushed_13 : decode cX4_trialIsPushed 13 = .ok (.iload_n 1, 1) := by decide +kernel
theorem dX4_trialIsPushed_14 : decode cX4_trialIsPushed 14 = .ok (.invokevirtual 200, 3) := by decide +kernel
theorem dX4_trialIsPushed_17 : decode cX4_trialIsPushed 17 = .ok (.iconst 1, 1) := by decide +kernel
theorem dX4_trialIsPushed_18 : decode cX4_trialIsPushed 18 = .ok (.ireturn, 1) := by decide +kernel
theorem dX4_trialIsNudged_0 : decode cX4_trialIsNudged 0 = .ok (.iload_n 1, 1) := by decide +kernel
theorem dX4_trialIsNudged_1 : decode cX4_trialIsNudged 1 = .ok (.invokestatic 203, 3) := by decide +kernel
theorem dX4_trialIsNudged_4 : decode cX4_trialIsNudged 4 = .ok (.ifCond .ne 5, 3) := by decide +kernel
theorem dX4_trialIsNudged_7 : decode cX4_trialIsNudged 7 = .ok (.iconst 0, 1) := by decide +kernel
theorem dX4_trialIsNudged_8 : decode cX4_trialIsNudged 8 = .ok (.ireturn, 1) := by decide +kernel
theorem dX4_trialIsNudged_9 : decode cX4_trialIsNudged 9 = .ok (.aload_n 0, 1) := by decide +kernel
theorem dX4_trialIsNudged_10 : decode cX4_trialIsNudged 10 = .ok (.getfield 47, 3) := by decide +kernel
theorem dX4_trialIsNudged_13 : decode cX4_trialIsNudged 13 = .ok (.iload_n 1, 1) := by decide +kernel
theorem dX4_trialIsNudged_14 : decode cX4_trialIsNudged 14 = .ok (.invokevirtual 208, 3) := by decide +kernel
theorem dX4_trialIsNudged_17 : decode cX4_trialIsNudged 17 = .ok (.iconst 1, 1) := by decide +kernel
theorem dX4_trialIsNudged_18 : decode cX4_trialIsNudged 18 = .ok (.ireturn, 1) := by decide +kernel
theorem dX4_trialRaises_0 : decode cX4_trialRaises 0 = .ok (.aload_n 0, 1) := by decide +kernel
theorem dX4_trialRaises_1 : decode cX4_trialRaises 1 = .ok (.getfield 47, 3) := by decide +kernel
theorem dX4_trialRaises_4 : decode cX4_trialRaises 4 = .ok (.invokevirtual 221, 3) := by decide +kernel
theorem dX4_trialRaises_7 : decode cX4_trialRaises 7 = .ok (.iconst 1, 1) := by decide +kernel
theorem dX4_trialRaises_8 : decode cX4_trialRaises 8 = .ok (.ireturn, 1) := by decide +kernel
theorem dJ9_floorDiv_f86c9_0 : decode cJ9_floorDiv_f86c9 0 = .ok (.lload_n 0, 1) := by decide +kernel
theorem dJ9_floorDiv_f86c9_1 : decode cJ9_floorDiv_f86c9 1 = .ok (.lload_n 2, 1) := by decide +kernel
theorem dJ9_floorDiv_f86c9_2 : decode cJ9_floorDiv_f86c9 2 = .ok (.ldiv, 1) := by decide +kernel
theorem dJ9_floorDiv_f86c9_3 : decode cJ9_floorDiv_f86c9 3 = .ok (.lstore 4, 2) := by decide +kernel
theorem dJ9_floorDiv_f86c9_5 : decode cJ9_floorDiv_f86c9 5 = .ok (.lload_n 0, 1) := by decide +kernel
theorem dJ9_floorDiv_f86c9_6 : decode cJ9_floorDiv_f86c9 6 = .ok (.lload_n 2, 1) := by decide +kernel
theorem dJ9_floorDiv_f86c9_7 : decode cJ9_floorDiv_f86c9 7 = .ok (.lxor, 1) := by decide +kernel
theorem dJ9_floorDiv_f86c9_8 : decode cJ9_floorDiv_f86c9 8 = .ok (.lconst 0, 1) := by decide +kernel
theorem dJ9_floorDiv_f86c9_9 : decode cJ9_floorDiv_f86c9 9 = .ok (.lcmp, 1) := by decide +kernel
theorem dJ9_floorDiv_f86c9_10 : decode cJ9_floorDiv_f86c9 10 = .ok (.ifCond .ge 17, 3) := by decide +kernel
theorem dJ9_floorDiv_f86c9_13 : decode cJ9_floorDiv_f86c9 13 = .ok (.lload 4, 2) := by decide +kernel
theorem dJ9_floorDiv_f86c9_15 : decode cJ9_floorDiv_f86c9 15 = .ok (.lload_n 2, 1) := by decide +kernel
theorem dJ9_floorDiv_f86c9_16 : decode cJ9_floorDiv_f86c9 16 = .ok (.lmul, 1) := by decide +kernel
theorem dJ9_floorDiv_f86c9_17 : decode cJ9_floorDiv_f86c9 17 = .ok (.lload_n 0, 1) := by decide +kernel
theorem dJ9_floorDiv_f86c9_18 : decode cJ9_floorDiv_f86c9 18 = .ok (.lcmp, 1) := by decide +kernel
theorem dJ9_floorDiv_f86c9_19 : decode cJ9_floorDiv_f86c9 19 = .ok (.ifCond .eq 8, 3) := by decide +kernel
theorem dJ9_floorDiv_f86c9_22 : decode cJ9_floorDiv_f86c9 22 = .ok (.lload 4, 2) := by decide +kernel
theorem dJ9_floorDiv_f86c9_24 : decode cJ9_floorDiv_f86c9 24 = .ok (.lconst 1, 1) := by decide +kernel
theorem dJ9_floorDiv_f86c9_25 : decode cJ9_floorDiv_f86c9 25 = .ok (.lsub, 1) := by decide +kernel
theorem dJ9_floorDiv_f86c9_26 : decode cJ9_floorDiv_f86c9 26 = .ok (.lreturn, 1) := by decide +kernel
theorem dJ9_floorDiv_f86c9_27 : decode cJ9_floorDiv_f86c9 27 = .ok (.lload 4, 2) := by decide +kernel
theorem dJ9_floorDiv_f86c9_29 : decode cJ9_floorDiv_f86c9 29 = .ok (.lreturn, 1) := by decide +kernel
theorem dJ9_floorMod_f86c9_0 : decode cJ9_floorMod_f86c9 0 = .ok (.lload_n 0, 1) := by decide +kernel
theorem dJ9_floorMod_f86c9_1 : decode cJ9_floorMod_f86c9 1 = .ok (.lload_n 2, 1) := by decide +kernel
theorem dJ9_floorMod_f86c9_2 : decode cJ9_floorMod_f86c9 2 = .ok (.lrem, 1) := by decide +kernel
theorem dJ9_floorMod_f86c9_3 : decode cJ9_floorMod_f86c9 3 = .ok (.lstore 4, 2) := by decide +kernel
theorem dJ9_floorMod_f86c9_5 : decode cJ9_floorMod_f86c9 5 = .ok (.lload_n 0, 1) := by decide +kernel
theorem dJ9_floorMod_f86c9_6 : decode cJ9_floorMod_f86c9 6 = .ok (.lload_n 2, 1) := by decide +kernel
theorem dJ9_floorMod_f86c9_7 : decode cJ9_floorMod_f86c9 7 = .ok (.lxor, 1) := by decide +kernel
theorem dJ9_floorMod_f86c9_8 : decode cJ9_floorMod_f86c9 8 = .ok (.lconst 0, 1) := by decide +kernel
theorem dJ9_floorMod_f86c9_9 : decode cJ9_floorMod_f86c9 9 = .ok (.lcmp, 1) := by decide +kernel
theorem dJ9_floorMod_f86c9_10 : decode cJ9_floorMod_f86c9 10 = .ok (.ifCond .ge 15, 3) := by decide +kernel
theorem dJ9_floorMod_f86c9_13 : decode cJ9_floorMod_f86c9 13 = .ok (.lload 4, 2) := by decide +kernel
theorem dJ9_floorMod_f86c9_15 : decode cJ9_floorMod_f86c9 15 = .ok (.lconst 0, 1) := by decide +kernel
theorem dJ9_floorMod_f86c9_16 : decode cJ9_floorMod_f86c9 16 = .ok (.lcmp, 1) := by decide +kernel
theorem dJ9_floorMod_f86c9_17 : decode cJ9_floorMod_f86c9 17 = .ok (.ifCond .eq 8, 3) := by decide +kernel
theorem dJ9_floorMod_f86c9_20 : decode cJ9_floorMod_f86c9 20 = .ok (.lload 4, 2) := by decide +kernel
theorem dJ9_floorMod_f86c9_22 : decode cJ9_floorMod_f86c9 22 = .ok (.lload_n 2, 1) := by decide +kernel
theorem dJ9_floorMod_f86c9_23 : decode cJ9_floorMod_f86c9 23 = .ok (.ladd, 1) := by decide +kernel
theorem dJ9_floorMod_f86c9_24 : decode cJ9_floorMod_f86c9 24 = .ok (.lreturn, 1) := by decide +kernel
theorem dJ9_floorMod_f86c9_25 : decode cJ9_floorMod_f86c9 25 = .ok (.lload 4, 2) := by decide +kernel
theorem dJ9_floorMod_f86c9_27 : decode cJ9_floorMod_f86c9 27 = .ok (.lreturn, 1) := by decide +kernel
theorem dJ9_abs_0f7a4_0 : decode cJ9_abs_0f7a4 0 = .ok (.iload_n 0, 1) := by decide +kernel
theorem dJ9_abs_0f7a4_1 : decode cJ9_abs_0f7a4 1 = .ok (.ifCond .ge 8, 3) := by decide +kernel
theorem dJ9_abs_0f7a4_4 : decode cJ9_abs_0f7a4 4 = .ok (.iload_n 0, 1) := by decide +kernel
theorem dJ9_abs_0f7a4_5 : decode cJ9_abs_0f7a4 5 = .ok (.ineg, 1) := by decide +kernel
theorem dJ9_abs_0f7a4_6 : decode cJ9_abs_0f7a4 6 = .ok (.goto 4, 3) := by decide +kernel
theorem dJ9_abs_0f7a4_9 : decode cJ9_abs_0f7a4 9 = .ok (.iload_n 0, 1) := by decide +kernel
theorem dJ9_abs_0f7a4_10 : decode cJ9_abs_0f7a4 10 = .ok (.ireturn, 1) := by decide +kernel
theorem dJ9_max_7cf53_0 : decode cJ9_max_7cf53 0 = .ok (.iload_n 0, 1) := by decide +kernel
theorem dJ9_max_7cf53_1 : decode cJ9_max_7cf53 1 = .ok (.iload_n 1, 1) := by decide +kernel
theorem dJ9_max_7cf53_2 : decode cJ9_max_7cf53 2 = .ok (.if_icmp .lt 7, 3) := by decide +kernel
theorem dJ9_max_7cf53_5 : decode cJ9_max_7cf53 5 = .ok (.iload_n 0, 1) := by decide +kernel
theorem dJ9_max_7cf53_6 : decode cJ9_max_7cf53 6 = .ok (.goto 4, 3) := by decide +kernel
theorem dJ9_max_7cf53_9 : decode cJ9_max_7cf53 9 = .ok (.iload_n 1, 1) := by decide +kernel
theorem dJ9_max_7cf53_10 : decode cJ9_max_7cf53 10 = .ok (.ireturn, 1) := by decide +kernel
theorem dJ9_min_7cf53_0 : decode cJ9_min_7cf53 0 = .ok (.iload_n 0, 1) := by decide +kernel
theorem dJ9_min_7cf53_1 : decode cJ9_min_7cf53 1 = .ok (.iload_n 1, 1) := by decide +kernel
theorem dJ9_min_7cf53_2 : decode cJ9_min_7cf53 2 = .ok (.if_icmp .gt 7, 3) := by decide +kernel
theorem dJ9_min_7cf53_5 : decode cJ9_min_7cf53 5 = .ok (.iload_n 0, 1) := by decide +kernel
theorem dJ9_min_7cf53_6 : decode cJ9_min_7cf53 6 = .ok (.goto 4, 3) := by decide +kernel
theorem dJ9_min_7cf53_9 : decode cJ9_min_7cf53 9 = .ok (.iload_n 1, 1) := by decide +kernel
theorem dJ9_min_7cf53_10 : decode cJ9_min_7cf53 10 = .ok (.ireturn, 1) := by decide +kernel
theorem dL_tryAppend_0 : decode cL_tryAppend 0 = .ok (.aload_n 0, 1) := by decide +kernel
theorem dL_tryAppend_1 : decode cL_tryAppend 1 = .ok (.iload_n 1, 1) := by decide +kernel
theorem dL_tryAppend_2 : decode cL_tryAppend 2 = .ok (.invokevirtual 7, 3) := by decide +kernel
theorem dL_tryAppend_5 : decode cL_tryAppend 5 = .ok (.ireturn, 1) := by decide +kernel
theorem dL_tryAppend_6 : decode cL_tryAppend 6 = .ok (.astore_n 2, 1) := by decide +kernel
theorem dL_tryAppend_7 : decode cL_tryAppend 7 = .ok (.sipush (-1002), 3) := by decide +kernel
theorem dL_tryAppend_10 : decode cL_tryAppend 10 = .ok (.ireturn, 1) := by decide +kernel
theorem dL_tryAppend_11 : decode cL_tryAppend 11 = .ok (.astore_n 2, 1) := by decide +kernel
theorem dL_tryAppend_12 : decode cL_tryAppend 12 = .ok (.sipush (-1003), 3) := by decide +kernel
theorem dL_tryAppend_15 : decode cL_tryAppend 15 = .ok (.ireturn, 1) := by decide +kernel
theorem dL_tryLoad_0 : decode cL_tryLoad 0 = .ok (.aload_n 0, 1) := by decide +kernel
theorem dL_tryLoad_1 : decode cL_tryLoad 1 = .ok (.invokevirtual 17, 3) := by decide +kernel
theorem dL_tryLoad_4 : decode cL_tryLoad 4 = .ok (.ireturn, 1) := by decide +kernel
theorem dL_tryLoad_5 : decode cL_tryLoad 5 = .ok (.astore_n 1, 1) := by decide +kernel
theorem dL_tryLoad_6 : decode cL_tryLoad 6 = .ok (.sipush (-1003), 3) := by decide +kernel
theorem dL_tryLoad_9 : decode cL_tryLoad 9 = .ok (.ireturn, 1) := by decide +kernel
theorem dL_tryAbout_0 : decode cL_tryAbout 0 = .ok (.aload_n 0, 1) := by decide +kernel
theorem dL_tryAbout_1 : decode cL_tryAbout 1 = .ok (.iload_n 1, 1) := by decide +kernel
theorem dL_tryAbout_2 : decode cL_tryAbout 2 = .ok (.invokevirtual 21, 3) := by decide +kernel
theorem dL_tryAbout_5 : decode cL_tryAbout 5 = .ok (.ireturn, 1) := by decide +kernel
theorem dL_tryAbout_6 : decode cL_tryAbout 6 = .ok (.astore_n 2, 1) := by decide +kernel
theorem dL_tryAbout_7 : decode cL_tryAbout 7 = .ok (.sipush (-1002), 3) := by decide +kernel
theorem dL_tryAbout_10 : decode cL_tryAbout 10 = .ok (.ireturn, 1) := by decide +kernel
theorem dL_tryPin_0 : decode cL_tryPin 0 = .ok (.aload_n 0, 1) := by decide +kernel
theorem dL_tryPin_1 : decode cL_tryPin 1 = .ok (.iload_n 1, 1) := by decide +kernel
theorem dL_tryPin_2 : decode cL_tryPin 2 = .ok (.iload_n 2, 1) := by decide +kernel
theorem dL_tryPin_3 : decode cL_tryPin 3 = .ok (.invokevirtual 24, 3) := by decide +kernel
theorem dL_tryPin_6 : decode cL_tryPin 6 = .ok (.ireturn, 1) := by decide +kernel
theorem dL_tryPin_7 : decode cL_tryPin 7 = .ok (.astore_n 3, 1) := by decide +kernel
theorem dL_tryPin_8 : decode cL_tryPin 8 = .ok (.sipush (-1001), 3) := by decide +kernel
theorem dL_tryPin_11 : decode cL_tryPin 11 = .ok (.ireturn, 1) := by decide +kernel
theorem dL_tryPin_12 : decode cL_tryPin 12 = .ok (.astore_n 3, 1) := by decide +kernel
theorem dL_tryPin_13 : decode cL_tryPin 13 = .ok (.sipush (-1002), 3) := by decide +kernel
theorem dL_tryPin_16 : decode cL_tryPin 16 = .ok (.ireturn, 1) := by decide +kernel
theorem dL_tryHit_0 : decode cL_tryHit 0 = .ok (.aload_n 0, 1) := by decide +kernel
theorem dL_tryHit_1 : decode cL_tryHit 1 = .ok (.iload_n 1, 1) := by decide +kernel
theorem dL_tryHit_2 : decode cL_tryHit 2 = .ok (.iload_n 2, 1) := by decide +kernel
theorem dL_tryHit_3 : decode cL_tryHit 3 = .ok (.invokevirtual 30, 3) := by decide +kernel
theorem dL_tryHit_6 : decode cL_tryHit 6 = .ok (.ireturn, 1) := by decide +kernel
theorem dL_tryHit_7 : decode cL_tryHit 7 = .ok (.astore_n 3, 1) := by decide +kernel
theorem dL_tryHit_8 : decode cL_tryHit 8 = .ok (.sipush (-1002), 3) := by decide +kernel
theorem dL_tryHit_11 : decode cL_tryHit 11 = .ok (.ireturn, 1) := by decide +kernel
theorem dL_tryReading_0 : decode cL_tryReading 0 = .ok (.aload_n 0, 1) := by decide +kernel
theorem dL_tryReading_1 : decode cL_tryReading 1 = .ok (.iload_n 1, 1) := by decide +kernel
theorem dL_tryReading_2 : decode cL_tryReading 2 = .ok (.iload_n 2, 1) := by decide +kernel
theorem dL_tryReading_3 : decode cL_tryReading 3 = .ok (.invokevirtual 33, 3) := by decide +kernel
theorem dL_tryReading_6 : decode cL_tryReading 6 = .ok (.ireturn, 1) := by decide +kernel
theorem dL_tryReading_7 : decode cL_tryReading 7 = .ok (.astore_n 3, 1) := by decide +kernel
theorem dL_tryReading_8 : decode cL_tryReading 8 = .ok (.sipush (-1001), 3) := by decide +kernel
theorem dL_tryReading_11 : decode cL_tryReading 11 = .ok (.ireturn, 1) := by decide +kernel
theorem dL_tryReading_12 : decode cL_tryReading 12 = .ok (.astore_n 3, 1) := by decide +kernel
theorem dL_tryReading_13 : decode cL_tryReading 13 = .ok (.sipush (-1002), 3) := by decide +kernel
theorem dL_tryReading_16 : decode cL_tryReading 16 = .ok (.ireturn, 1) := by decide +kernel
theorem dL_trySine_0 : decode cL_trySine 0 = .ok (.aload_n 0, 1) := by decide +kernel
theorem dL_trySine_1 : decode cL_trySine 1 = .ok (.iload_n 1, 1) := by decide +kernel
theorem dL_trySine_2 : decode cL_trySine 2 = .ok (.invokevirtual 36, 3) := by decide +kernel
theorem dL_trySine_5 : decode cL_trySine 5 = .ok (.ireturn, 1) := by decide +kernel
theorem dL_trySine_6 : decode cL_trySine 6 = .ok (.astore_n 2, 1) := by decide +kernel
theorem dL_trySine_7 : decode cL_trySine 7 = .ok (.sipush (-1002), 3) := by decide +kernel
theorem dL_trySine_10 : decode cL_trySine 10 = .ok (.ireturn, 1) := by decide +kernel
theorem dL_trySwing_0 : decode cL_trySwing 0 = .ok (.aload_n 0, 1) := by decide +kernel
theorem dL_trySwing_1 : decode cL_trySwing 1 = .ok (.iload_n 1, 1) := by decide +kernel
theorem dL_trySwing_2 : decode cL_trySwing 2 = .ok (.invokevirtual 39, 3) := by decide +kernel
theorem dL_trySwing_5 : decode cL_trySwing 5 = .ok (.ireturn, 1) := by decide +kernel
theorem dL_trySwing_6 : decode cL_trySwing 6 = .ok (.astore_n 2, 1) := by decide +kernel
theorem dL_trySwing_7 : decode cL_trySwing 7 = .ok (.sipush (-1002), 3) := by decide +kernel
theorem dL_trySwing_10 : decode cL_trySwing 10 = .ok (.ireturn, 1) := by decide +kernel
theorem dL_trySet_0 : decode cL_trySet 0 = .ok (.aload_n 0, 1) := by decide +kernel
theorem dL_trySet_1 : decode cL_trySet 1 = .ok (.iload_n 1, 1) := by decide +kernel
theorem dL_trySet_2 : decode cL_trySet 2 = .ok (.iload_n 2, 1) := by decide +kernel
theorem dL_trySet_3 : decode cL_trySet 3 = .ok (.invokevirtual 42, 3) := by decide +kernel
theorem dL_trySet_6 : decode cL_trySet 6 = .ok (.ireturn, 1) := by decide +kernel
theorem dL_trySet_7 : decode cL_trySet 7 = .ok (.astore_n 3, 1) := by decide +kernel
theorem dL_trySet_8 : decode cL_trySet 8 = .ok (.sipush (-1002), 3) := by decide +kernel
theorem dL_trySet_11 : decode cL_trySet 11 = .ok (.ireturn, 1) := by decide +kernel
theorem dL_tryPush_0 : decode cL_tryPush 0 = .ok (.aload_n 0, 1) := by decide +kernel
theorem dL_tryPush_1 : decode cL_tryPush 1 = .ok (.iload_n 1, 1) := by decide +kernel
theorem dL_tryPush_2 : decode cL_tryPush 2 = .ok (.invokevirtual 45, 3) := by decide +kernel
theorem dL_tryPush_5 : decode cL_tryPush 5 = .ok (.ireturn, 1) := by decide +kernel
theorem dL_tryPush_6 : decode cL_tryPush 6 = .ok (.astore_n 2, 1) := by decide +kernel
theorem dL_tryPush_7 : decode cL_tryPush 7 = .ok (.sipush (-1002), 3) := by decide +kernel
theorem dL_tryPush_10 : decode cL_tryPush 10 = .ok (.ireturn, 1) := by decide +kernel
theorem dL_tryNudge_0 : decode cL_tryNudge 0 = .ok (.aload_n 0, 1) := by decide +kernel
theorem dL_tryNudge_1 : decode cL_tryNudge 1 = .ok (.iload_n 1, 1) := by decide +kernel
theorem dL_tryNudge_2 : decode cL_tryNudge 2 = .ok (.invokevirtual 48, 3) := by decide +kernel
theorem dL_tryNudge_5 : decode cL_tryNudge 5 = .ok (.ireturn, 1) := by decide +kernel
theorem dL_tryNudge_6 : decode cL_tryNudge 6 = .ok (.astore_n 2, 1) := by decide +kernel
theorem dL_tryNudge_7 : decode cL_tryNudge 7 = .ok (.sipush (-1002), 3) := by decide +kernel
theorem dL_tryNudge_10 : decode cL_tryNudge 10 = .ok (.ireturn, 1) := by decide +kernel
theorem dL_tryAddPin_0 : decode cL_tryAddPin 0 = .ok (.aload_n 0, 1) := by decide +kernel
theorem dL_tryAddPin_1 : decode cL_tryAddPin 1 = .ok (.iload_n 1, 1) := by decide +kernel
theorem dL_tryAddPin_2 : decode cL_tryAddPin 2 = .ok (.invokevirtual 51, 3) := by decide +kernel
theorem dL_tryAddPin_5 : decode cL_tryAddPin 5 = .ok (.ireturn, 1) := by decide +kernel
theorem dL_tryAddPin_6 : decode cL_tryAddPin 6 = .ok (.astore_n 2, 1) := by decide +kernel
theorem dL_tryAddPin_7 : decode cL_tryAddPin 7 = .ok (.sipush (-1002), 3) := by decide +kernel
theorem dL_tryAddPin_10 : decode cL_tryAddPin 10 = .ok (.ireturn, 1) := by decide +kernel
theorem dL_tryAddPin_11 : decode cL_tryAddPin 11 = .ok (.astore_n 2, 1) := by decide +kernel
theorem dL_tryAddPin_12 : decode cL_tryAddPin 12 = .ok (.sipush (-1003), 3) := by decide +kernel
theorem dL_tryAddPin_15 : decode cL_tryAddPin 15 = .ok (.ireturn, 1) := by decide +kernel
theorem dL_tryRemovePin_0 : decode cL_tryRemovePin 0 = .ok (.aload_n 0, 1) := by decide +kernel
theorem dL_tryRemovePin_1 : decode cL_tryRemovePin 1 = .ok (.iload_n 1, 1) := by decide +kernel
theorem dL_tryRemovePin_2 : decode cL_tryRemovePin 2 = .ok (.invokevirtual 54, 3) := by decide +kernel
theorem dL_tryRemovePin_5 : decode cL_tryRemovePin 5 = .ok (.ireturn, 1) := by decide +kernel
theorem dL_tryRemovePin_6 : decode cL_tryRemovePin 6 = .ok (.astore_n 2, 1) := by decide +kernel
theorem dL_tryRemovePin_7 : decode cL_tryRemovePin 7 = .ok (.sipush (-1001), 3) := by decide +kernel
theorem dL_tryRemovePin_10 : decode cL_tryRemovePin 10 = .ok (.ireturn, 1) := by decide +kernel
theorem dL_tryRead_0 : decode cL_tryRead 0 = .ok (.aload_n 0, 1) := by decide +kernel
theorem dL_tryRead_1 : decode cL_tryRead 1 = .ok (.invokevirtual 57, 3) := by decide +kernel
theorem dL_tryRead_4 : decode cL_tryRead 4 = .ok (.ireturn, 1) := by decide +kernel
theorem dL_tryRead_5 : decode cL_tryRead 5 = .ok (.astore_n 1, 1) := by decide +kernel
theorem dL_tryRead_6 : decode cL_tryRead 6 = .ok (.sipush (-1003), 3) := by decide +kernel
theorem dL_tryRead_9 : decode cL_tryRead 9 = .ok (.ireturn, 1) := by decide +kernel
theorem dL_tryUndo_0 : decode cL_tryUndo 0 = .ok (.aload_n 0, 1) := by decide +kernel
theorem dL_tryUndo_1 : decode cL_tryUndo 1 = .ok (.invokevirtual 60, 3) := by decide +kernel
theorem dL_tryUndo_4 : decode cL_tryUndo 4 = .ok (.ireturn, 1) := by decide +kernel
theorem dL_tryUndo_5 : decode cL_tryUndo 5 = .ok (.astore_n 1, 1) := by decide +kernel
theorem dL_tryUndo_6 : decode cL_tryUndo 6 = .ok (.sipush (-1003), 3) := by decide +kernel
theorem dL_tryUndo_9 : decode cL_tryUndo 9 = .ok (.ireturn, 1) := by decide +kernel
theorem dL_tryMove_0 : decode cL_tryMove 0 = .ok (.aload_n 0, 1) := by decide +kernel
theorem dL_tryMove_1 : decode cL_tryMove 1 = .ok (.iload_n 1, 1) := by decide +kernel
theorem dL_tryMove_2 : decode cL_tryMove 2 = .ok (.iload_n 2, 1) := by decide +kernel
theorem dL_tryMove_3 : decode cL_tryMove 3 = .ok (.invokevirtual 63, 3) := by decide +kernel
theorem dL_tryMove_6 : decode cL_tryMove 6 = .ok (.ireturn, 1) := by decide +kernel
theorem dL_tryMove_7 : decode cL_tryMove 7 = .ok (.astore_n 3, 1) := by decide +kernel
theorem dL_tryMove_8 : decode cL_tryMove 8 = .ok (.sipush (-1001), 3) := by decide +kernel
theorem dL_tryMove_11 : decode cL_tryMove 11 = .ok (.ireturn, 1) := by decide +kernel
theorem dL_tryMove_12 : decode cL_tryMove 12 = .ok (.astore_n 3, 1) := by decide +kernel
theorem dL_tryMove_13 : decode cL_tryMove 13 = .ok (.sipush (-1002), 3) := by decide +kernel
theorem dL_tryMove_16 : decode cL_tryMove 16 = .ok (.ireturn, 1) := by decide +kernel
theorem dL_tryTime_0 : decode cL_tryTime 0 = .ok (.aload_n 0, 1) := by decide +kernel
theorem dL_tryTime_1 : decode cL_tryTime 1 = .ok (.iload_n 1, 1) := by decide +kernel
theorem dL_tryTime_2 : decode cL_tryTime 2 = .ok (.iload_n 2, 1) := by decide +kernel
theorem dL_tryTime_3 : decode cL_tryTime 3 = .ok (.invokevirtual 66, 3) := by decide +kernel
theorem dL_tryTime_6 : decode cL_tryTime 6 = .ok (.ireturn, 1) := by decide +kernel
theorem dL_tryTime_7 : decode cL_tryTime 7 = .ok (.astore_n 3, 1) := by decide +kernel
theorem dL_tryTime_8 : decode cL_tryTime 8 = .ok (.sipush (-1001), 3) := by decide +kernel
theorem dL_tryTime_11 : decode cL_tryTime 11 = .ok (.ireturn, 1) := by decide +kernel
theorem dL_tryTime_12 : decode cL_tryTime 12 = .ok (.astore_n 3, 1) := by decide +kernel
theorem dL_tryTime_13 : decode cL_tryTime 13 = .ok (.sipush (-1002), 3) := by decide +kernel
theorem dL_tryTime_16 : decode cL_tryTime 16 = .ok (.ireturn, 1) := by decide +kernel
theorem dL_tryLatitudeFrom_0 : decode cL_tryLatitudeFrom 0 = .ok (.aload_n 0, 1) := by decide +kernel
theorem dL_tryLatitudeFrom_1 : decode cL_tryLatitudeFrom 1 = .ok (.iload_n 1, 1) := by decide +kernel
theorem dL_tryLatitudeFrom_2 : decode cL_tryLatitudeFrom 2 = .ok (.iload_n 2, 1) := by decide +kernel
theorem dL_tryLatitudeFrom_3 : decode cL_tryLatitudeFrom 3 = .ok (.invokevirtual 69, 3) := by decide +kernel
theorem dL_tryLatitudeFrom_6 : decode cL_tryLatitudeFrom 6 = .ok (.ireturn, 1) := by decide +kernel
theorem dL_tryLatitudeFrom_7 : decode cL_tryLatitudeFrom 7 = .ok (.astore_n 3, 1) := by decide +kernel
theorem dL_tryLatitudeFrom_8 : decode cL_tryLatitudeFrom 8 = .ok (.sipush (-1001), 3) := by decide +kernel
theorem dL_tryLatitudeFrom_11 : decode cL_tryLatitudeFrom 11 = .ok (.ireturn, 1) := by decide +kernel
theorem dL_tryLatitudeFrom_12 : decode cL_tryLatitudeFrom 12 = .ok (.astore_n 3, 1) := by decide +kernel
theorem dL_tryLatitudeFrom_13 : decode cL_tryLatitudeFrom 13 = .ok (.sipush (-1002), 3) := by decide +kernel
theorem dL_tryLatitudeFrom_16 : decode cL_tryLatitudeFrom 16 = .ok (.ireturn, 1) := by decide +kernel
theorem dL_tryAhead_0 : decode cL_tryAhead 0 = .ok (.aload_n 0, 1) := by decide +kernel
theorem dL_tryAhead_1 : decode cL_tryAhead 1 = .ok (.iload_n 1, 1) := by decide +kernel
theorem dL_tryAhead_2 : decode cL_tryAhead 2 = .ok (.iload_n 2, 1) := by decide +kernel
theorem dL_tryAhead_3 : decode cL_tryAhead 3 = .ok (.invokevirtual 72, 3) := by decide +kernel
theorem dL_tryAhead_6 : decode cL_tryAhead 6 = .ok (.ireturn, 1) := by decide +kernel
theorem dL_tryAhead_7 : decode cL_tryAhead 7 = .ok (.astore_n 3, 1) := by decide +kernel
theorem dL_tryAhead_8 : decode cL_tryAhead 8 = .ok (.sipush (-1002), 3) := by decide +kernel
theorem dL_tryAhead_11 : decode cL_tryAhead 11 = .ok (.ireturn, 1) := by decide +kernel
theorem dL_tryFallsAfter_0 : decode cL_tryFallsAfter 0 = .ok (.aload_n 0, 1) := by decide +kernel
theorem dL_tryFallsAfter_1 : decode cL_tryFallsAfter 1 = .ok (.iload_n 1, 1) := by decide +kernel
theorem dL_tryFallsAfter_2 : decode cL_tryFallsAfter 2 = .ok (.invokevirtual 75, 3) := by decide +kernel
theorem dL_tryFallsAfter_5 : decode cL_tryFallsAfter 5 = .ok (.ireturn, 1) := by decide +kernel
theorem dL_tryFallsAfter_6 : decode cL_tryFallsAfter 6 = .ok (.astore_n 2, 1) := by decide +kernel
theorem dL_tryFallsAfter_7 : decode cL_tryFallsAfter 7 = .ok (.sipush (-1001), 3) := by decide +kernel
theorem dL_tryFallsAfter_10 : decode cL_tryFallsAfter 10 = .ok (.ireturn, 1) := by decide +kernel
theorem dL_tryLowAfter_0 : decode cL_tryLowAfter 0 = .ok (.aload_n 0, 1) := by decide +kernel
theorem dL_tryLowAfter_1 : decode cL_tryLowAfter 1 = .ok (.iload_n 1, 1) := by decide +kernel
theorem dL_tryLowAfter_2 : decode cL_tryLowAfter 2 = .ok (.invokevirtual 78, 3) := by decide +kernel
theorem dL_tryLowAfter_5 : decode cL_tryLowAfter 5 = .ok (.ireturn, 1) := by decide +kernel
theorem dL_tryLowAfter_6 : decode cL_tryLowAfter 6 = .ok (.astore_n 2, 1) := by decide +kernel
theorem dL_tryLowAfter_7 : decode cL_tryLowAfter 7 = .ok (.sipush (-1002), 3) := by decide +kernel
theorem dL_tryLowAfter_10 : decode cL_tryLowAfter 10 = .ok (.ireturn, 1) := by decide +kernel
theorem dL_tryPushFor_0 : decode cL_tryPushFor 0 = .ok (.aload_n 0, 1) := by decide +kernel
theorem dL_tryPushFor_1 : decode cL_tryPushFor 1 = .ok (.iload_n 1, 1) := by decide +kernel
theorem dL_tryPushFor_2 : decode cL_tryPushFor 2 = .ok (.invokevirtual 81, 3) := by decide +kernel
theorem dL_tryPushFor_5 : decode cL_tryPushFor 5 = .ok (.ireturn, 1) := by decide +kernel
theorem dL_tryPushFor_6 : decode cL_tryPushFor 6 = .ok (.astore_n 2, 1) := by decide +kernel
theorem dL_tryPushFor_7 : decode cL_tryPushFor 7 = .ok (.sipush (-1002), 3) := by decide +kernel
theorem dL_tryPushFor_10 : decode cL_tryPushFor 10 = .ok (.ireturn, 1) := by decide +kernel
theorem dL_tryFreeStart_0 : decode cL_tryFreeStart 0 = .ok (.aload_n 0, 1) := by decide +kernel
theorem dL_tryFreeStart_1 : decode cL_tryFreeStart 1 = .ok (.iload_n 1, 1) := by decide +kernel
theorem dL_tryFreeStart_2 : decode cL_tryFreeStart 2 = .ok (.invokevirtual 84, 3) := by decide +kernel
theorem dL_tryFreeStart_5 : decode cL_tryFreeStart 5 = .ok (.ireturn, 1) := by decide +kernel
theorem dL_tryFreeStart_6 : decode cL_tryFreeStart 6 = .ok (.astore_n 2, 1) := by decide +kernel
theorem dL_tryFreeStart_7 : decode cL_tryFreeStart 7 = .ok (.sipush (-1002), 3) := by decide +kernel
theorem dL_tryFreeStart_10 : decode cL_tryFreeStart 10 = .ok (.ireturn, 1) := by decide +kernel
theorem dL_tryScript_0 : decode cL_tryScript 0 = .ok (.aload_n 0, 1) := by decide +kernel
theorem dL_tryScript_1 : decode cL_tryScript 1 = .ok (.iload_n 1, 1) := by decide +kernel
theorem dL_tryScript_2 : decode cL_tryScript 2 = .ok (.lload_n 2, 1) := by decide +kernel
theorem dL_tryScript_3 : decode cL_tryScript 3 = .ok (.invokevirtual 87, 3) := by decide +kernel
theorem dL_tryScript_6 : decode cL_tryScript 6 = .ok (.ireturn, 1) := by decide +kernel
theorem dL_tryScript_7 : decode cL_tryScript 7 = .ok (.astore 4, 2) := by decide +kernel
theorem dL_tryScript_9 : decode cL_tryScript 9 = .ok (.sipush (-1002), 3) := by decide +kernel
theorem dL_tryScript_12 : decode cL_tryScript 12 = .ok (.ireturn, 1) := by decide +kernel
theorem dL_trySimulate_0 : decode cL_trySimulate 0 = .ok (.aload_n 0, 1) := by decide +kernel
theorem dL_trySimulate_1 : decode cL_trySimulate 1 = .ok (.lload_n 1, 1) := by decide +kernel
theorem dL_trySimulate_2 : decode cL_trySimulate 2 = .ok (.iload_n 3, 1) := by decide +kernel
theorem dL_trySimulate_3 : decode cL_trySimulate 3 = .ok (.invokevirtual 91, 3) := by decide +kernel
theorem dL_trySimulate_6 : decode cL_trySimulate 6 = .ok (.ireturn, 1) := by decide +kernel
theorem dL_trySimulate_7 : decode cL_trySimulate 7 = .ok (.astore 4, 2) := by decide +kernel
theorem dL_trySimulate_9 : decode cL_trySimulate 9 = .ok (.sipush (-1002), 3) := by decide +kernel
theorem dL_trySimulate_12 : decode cL_trySimulate 12 = .ok (.ireturn, 1) := by decide +kernel
theorem dL_trySave_0 : decode cL_trySave 0 = .ok (.aload_n 0, 1) := by decide +kernel
theorem dL_trySave_1 : decode cL_trySave 1 = .ok (.iload_n 1, 1) := by decide +kernel
theorem dL_trySave_2 : decode cL_trySave 2 = .ok (.invokevirtual 95, 3) := by decide +kernel
theorem dL_trySave_5 : decode cL_trySave 5 = .ok (.ireturn, 1) := by decide +kernel
theorem dL_trySave_6 : decode cL_trySave 6 = .ok (.astore_n 2, 1) := by decide +kernel
theorem dL_trySave_7 : decode cL_trySave 7 = .ok (.sipush (-1001), 3) := by decide +kernel
theorem dL_trySave_10 : decode cL_trySave 10 = .ok (.ireturn, 1) := by decide +kernel
theorem dL_tryRestore_0 : decode cL_tryRestore 0 = .ok (.aload_n 0, 1) := by decide +kernel
theorem dL_tryRestore_1 : decode cL_tryRestore 1 = .ok (.iload_n 1, 1) := by decide +kernel
theorem dL_tryRestore_2 : decode cL_tryRestore 2 = .ok (.invokevirtual 98, 3) := by decide +kernel
theorem dL_tryRestore_5 : decode cL_tryRestore 5 = .ok (.ireturn, 1) := by decide +kernel
theorem dL_tryRestore_6 : decode cL_tryRestore 6 = .ok (.astore_n 2, 1) := by decide +kernel
theorem dL_tryRestore_7 : decode cL_tryRestore 7 = .ok (.sipush (-1001), 3) := by decide +kernel
theorem dL_tryRestore_10 : decode cL_tryRestore 10 = .ok (.ireturn, 1) := by decide +kernel
theorem dL_tryRestore_11 : decode cL_tryRestore 11 = .ok (.astore_n 2, 1) := by decide +kernel
theorem dL_tryRestore_12 : decode cL_tryRestore 12 = .ok (.sipush (-1003), 3) := by decide +kernel
theorem dL_tryRestore_15 : decode cL_tryRestore 15 = .ok (.ireturn, 1) := by decide +kernel
theorem dL_number_0 : decode cL_number 0 = .ok (.iload_n 1, 1) := by decide +kernel
theorem dL_number_1 : decode cL_number 1 = .ok (.aload_n 0, 1) := by decide +kernel
theorem dL_number_2 : decode cL_number 2 = .ok (.arraylength, 1) := by decide +kernel
theorem dL_number_3 : decode cL_number 3 = .ok (.if_icmp .ge 9, 3) := by decide +kernel
theorem dL_number_6 : decode cL_number 6 = .ok (.aload_n 0, 1) := by decide +kernel
theorem dL_number_7 : decode cL_number 7 = .ok (.iload_n 1, 1) := by decide +kernel
theorem dL_number_8 : decode cL_number 8 = .ok (.iaload, 1) := by decide +kernel
theorem dL_number_9 : decode cL_number 9 = .ok (.goto 13, 3) := by decide +kernel
theorem dL_number_12 : decode cL_number 12 = .ok (.ldc 101, 2) := by decide +kernel
theorem dL_number_14 : decode cL_number 14 = .ok (.iload_n 1, 1) := by decide +kernel
theorem dL_number_15 : decode cL_number 15 = .ok (.iconst 5, 1) := by decide +kernel
theorem dL_number_16 : decode cL_number 16 = .ok (.iadd, 1) := by decide +kernel
theorem dL_number_17 : decode cL_number 17 = .ok (.imul, 1) := by decide +kernel
theorem dL_number_18 : decode cL_number 18 = .ok (.sipush 10037, 3) := by decide +kernel
theorem dL_number_21 : decode cL_number 21 = .ok (.iadd, 1) := by decide +kernel
theorem dL_number_22 : decode cL_number 22 = .ok (.ldc 102, 2) := by decide +kernel
theorem dL_number_24 : decode cL_number 24 = .ok (.iand, 1) := by decide +kernel
theorem dL_number_25 : decode cL_number 25 = .ok (.ireturn, 1) := by decide +kernel
theorem dL_put_0 : decode cL_put 0 = .ok (.aload_n 0, 1) := by decide +kernel
theorem dL_put_1 : decode cL_put 1 = .ok (.iload_n 2, 1) := by decide +kernel
theorem dL_put_2 : decode cL_put 2 = .ok (.invokestatic 103, 3) := by decide +kernel
theorem dL_put_5 : decode cL_put 5 = .ok (.ifCond .le 15, 3) := by decide +kernel
theorem dL_put_8 : decode cL_put 8 = .ok (.aload_n 1, 1) := by decide +kernel
theorem dL_put_9 : decode cL_put 9 = .ok (.iload_n 2, 1) := by decide +kernel
theorem dL_put_10 : decode cL_put 10 = .ok (.invokestatic 103, 3) := by decide +kernel
theorem dL_put_13 : decode cL_put 13 = .ok (.ifCond .le 7, 3) := by decide +kernel
theorem dL_put_16 : decode cL_put 16 = .ok (.iconst 1, 1) := by decide +kernel
theorem dL_put_17 : decode cL_put 17 = .ok (.goto 4, 3) := by decide +kernel
theorem dL_put_20 : decode cL_put 20 = .ok (.iconst 0, 1) := by decide +kernel
theorem dL_put_21 : decode cL_put 21 = .ok (.ireturn, 1) := by decide +kernel
theorem dL_two_0 : decode cL_two 0 = .ok (.aload_n 0, 1) := by decide +kernel
theorem dL_two_1 : decode cL_two 1 = .ok (.aload_n 1, 1) := by decide +kernel
theorem dL_two_2 : decode cL_two 2 = .ok (.bipush 48, 2) := by decide +kernel
theorem dL_two_4 : decode cL_two 4 = .ok (.iload_n 2, 1) := by decide +kernel
theorem dL_two_5 : decode cL_two 5 = .ok (.bipush 10, 2) := by decide +kernel
theorem dL_two_7 : decode cL_two 7 = .ok (.idiv, 1) := by decide +kernel
theorem dL_two_8 : decode cL_two 8 = .ok (.iadd, 1) := by decide +kernel
theorem dL_two_9 : decode cL_two 9 = .ok (.invokestatic 109, 3) := by decide +kernel
theorem dL_two_12 : decode cL_two 12 = .ok (.ifCond .eq 22, 3) := by decide +kernel
theorem dL_two_15 : decode cL_two 15 = .ok (.aload_n 0, 1) := by decide +kernel
theorem dL_two_16 : decode cL_two 16 = .ok (.aload_n 1, 1) := by decide +kernel
theorem dL_two_17 : decode cL_two 17 = .ok (.bipush 48, 2) := by decide +kernel
theorem dL_two_19 : decode cL_two 19 = .ok (.iload_n 2, 1) := by decide +kernel
theorem dL_two_20 : decode cL_two 20 = .ok (.bipush 10, 2) := by decide +kernel
theorem dL_two_22 : decode cL_two 22 = .ok (.irem, 1) := by decide +kernel
theorem dL_two_23 : decode cL_two 23 = .ok (.iadd, 1) := by decide +kernel
theorem dL_two_24 : decode cL_two 24 = .ok (.invokestatic 109, 3) := by decide +kernel
theorem dL_two_27 : decode cL_two 27 = .ok (.ifCond .eq 7, 3) := by decide +kernel
theorem dL_two_30 : decode cL_two 30 = .ok (.iconst 1, 1) := by decide +kernel
theorem dL_two_31 : decode cL_two 31 = .ok (.goto 4, 3) := by decide +kernel
theorem dL_two_34 : decode cL_two 34 = .ok (.iconst 0, 1) := by decide +kernel
theorem dL_two_35 : decode cL_two 35 = .ok (.ireturn, 1) := by decide +kernel
theorem dL_told_0 : decode cL_told 0 = .ok (.aload_n 2, 1) := by decide +kernel
theorem dL_told_1 : decode cL_told 1 = .ok (.iload_n 3, 1) := by decide +kernel
theorem dL_told_2 : decode cL_told 2 = .ok (.invokestatic 113, 3) := by decide +kernel
theorem dL_told_5 : decode cL_told 5 = .ok (.istore 4, 2) := by decide +kernel
theorem dL_told_7 : decode cL_told 7 = .ok (.aload_n 2, 1) := by decide +kernel
theorem dL_told_8 : decode cL_told 8 = .ok (.iload_n 3, 1) := by decide +kernel
theorem dL_told_9 : decode cL_told 9 = .ok (.iconst 1, 1) := by decide +kernel
theorem dL_told_10 : decode cL_told 10 = .ok (.iadd, 1) := by decide +kernel
theorem dL_told_11 : decode cL_told 11 = .ok (.invokestatic 113, 3) := by decide +kernel
theorem dL_told_14 : decode cL_told 14 = .ok (.istore 5, 2) := by decide +kernel
theorem dL_told_16 : decode cL_told 16 = .ok (.iload 4, 2) := by decide +kernel
theorem dL_told_18 : decode cL_told 18 = .ok (.bipush 91, 2) := by decide +kernel
theorem dL_told_20 : decode cL_told 20 = .ok (.irem, 1) := by decide +kernel
theorem dL_told_21 : decode cL_told 21 = .ok (.istore 6, 2) := by decide +kernel
theorem dL_told_23 : decode cL_told 23 = .ok (.iload 4, 2) := by decide +kernel
theorem dL_told_25 : decode cL_told 25 = .ok (.sipush 128, 3) := by decide +kernel
theorem dL_told_28 : decode cL_told 28 = .ok (.idiv, 1) := by decide +kernel
theorem dL_told_29 : decode cL_told 29 = .ok (.iconst 2, 1) := by decide +kernel
theorem dL_told_30 : decode cL_told 30 = .ok (.irem, 1) := by decide +kernel
theorem dL_told_31 : decode cL_told 31 = .ok (.ifCond .ne 7, 3) := by decide +kernel
theorem dL_told_34 : decode cL_told 34 = .ok (.iconst 1, 1) := by decide +kernel
theorem dL_told_35 : decode cL_told 35 = .ok (.goto 4, 3) := by decide +kernel
theorem dL_told_38 : decode cL_told 38 = .ok (.iconst 0, 1) := by decide +kernel
theorem dL_told_39 : decode cL_told 39 = .ok (.istore 7, 2) := by decide +kernel
theorem dL_told_41 : decode cL_told 41 = .ok (.bipush 60, 2) := by decide +kernel
theorem dL_told_43 : decode cL_told 43 = .ok (.iload 4, 2) := by decide +kernel
theorem dL_told_45 : decode cL_told 45 = .ok (.sipush 256, 3) := by decide +kernel
theorem dL_told_48 : decode cL_told 48 = .ok (.idiv, 1) := by decide +kernel
theorem dL_told_49 : decode cL_told 49 = .ok (.bipush 120, 2) := by decide +kernel
theorem dL_told_51 : decode cL_told 51 = .ok (.irem, 1) := by decide +kernel
theorem dL_told_52 : decode cL_told 52 = .ok (.iadd, 1) := by decide +kernel
theorem dL_told_53 : decode cL_told 53 = .ok (.istore 8, 2) := by decide +kernel
theorem dL_told_55 : decode cL_told 55 = .ok (.iload 5, 2) := by decide +kernel
theorem dL_told_57 : decode cL_told 57 = .ok (.sipush 128, 3) := by decide +kernel
theorem dL_told_60 : decode cL_told 60 = .ok (.idiv, 1) := by decide +kernel
theorem dL_told_61 : decode cL_told 61 = .ok (.sipush 10000, 3) := by decide +kernel
theorem dL_told_64 : decode cL_told 64 = .ok (.irem, 1) := by decide +kernel
theorem dL_told_65 : decode cL_told 65 = .ok (.istore 9, 2) := by decide +kernel
theorem dL_told_67 : decode cL_told 67 = .ok (.iload 5, 2) := by decide +kernel
theorem dL_told_69 : decode cL_told 69 = .ok (.bipush 9, 2) := by decide +kernel
theorem dL_told_71 : decode cL_told 71 = .ok (.irem, 1) := by decide +kernel
theorem dL_told_72 : decode cL_told 72 = .ok (.istore 10, 2) := by decide +kernel
theorem dL_told_74 : decode cL_told 74 = .ok (.iload 5, 2) := by decide +kernel
theorem dL_told_76 : decode cL_told 76 = .ok (.bipush 16, 2) := by decide +kernel
theorem dL_told_78 : decode cL_told 78 = .ok (.idiv, 1) := by decide +kernel
theorem dL_told_79 : decode cL_told 79 = .ok (.bipush 8, 2) := by decide +kernel
theorem dL_told_81 : decode cL_told 81 = .ok (.irem, 1) := by decide +kernel
theorem dL_told_82 : decode cL_told 82 = .ok (.istore 11, 2) := by decide +kernel
theorem dL_told_84 : decode cL_told 84 = .ok (.aload_n 0, 1) := by decide +kernel
theorem dL_told_85 : decode cL_told 85 = .ok (.invokevirtual 117, 3) := by decide +kernel
theorem dL_told_88 : decode cL_told 88 = .ok (.aload_n 1, 1) := by decide +kernel
theorem dL_told_89 : decode cL_told 89 = .ok (.invokevirtual 117, 3) := by decide +kernel
theorem dL_told_92 : decode cL_told 92 = .ok (.if_icmp .ne 158, 3) := by decide +kernel
theorem dL_told_95 : decode cL_told 95 = .ok (.aload_n 0, 1) := by decide +kernel
theorem dL_told_96 : decode cL_told 96 = .ok (.aload_n 1, 1) := by decide +kernel
theorem dL_told_97 : decode cL_told 97 = .ok (.bipush 70, 2) := by decide +kernel
theorem dL_told_99 : decode cL_told 99 = .ok (.invokestatic 109, 3) := by decide +kernel
theorem dL_told_102 : decode cL_told 102 = .ok (.ifCond .eq 148, 3) := by decide +kernel
theorem dL_told_105 : decode cL_told 105 = .ok (.aload_n 0, 1) := by decide +kernel
theorem dL_told_106 : decode cL_told 106 = .ok (.aload_n 1, 1) := by decide +kernel
theorem dL_told_107 : decode cL_told 107 = .ok (.iload 7, 2) := by decide +kernel
theorem dL_told_109 : decode cL_told 109 = .ok (.ifCond .eq 8, 3) := by decide +kernel
theorem dL_told_112 : decode cL_told 112 = .ok (.bipush 45, 2) := by decide +kernel
theorem dL_told_114 : decode cL_told 114 = .ok (.goto 5, 3) := by decide +kernel
theorem dL_told_117 : decode cL_told 117 = .ok (.bipush 43, 2) := by decide +kernel
theorem dL_told_119 : decode cL_told 119 = .ok (.invokestatic 109, 3) := by decide +kernel
theorem dL_told_122 : decode cL_told 122 = .ok (.ifCond .eq 128, 3) := by decide +kernel
theorem dL_told_125 : decode cL_told 125 = .ok (.aload_n 0, 1) := by decide +kernel
theorem dL_told_126 : decode cL_told 126 = .ok (.invokevirtual 120, 3) := by decide +kernel
theorem dL_told_129 : decode cL_told 129 = .ok (.iconst 2, 1) := by decide +kernel
theorem dL_told_130 : decode cL_told 130 = .ok (.if_icmp .ne 120, 3) := by decide +kernel
theorem dL_told_133 : decode cL_told 133 = .ok (.aload_n 0, 1) := by decide +kernel
theorem dL_told_134 : decode cL_told 134 = .ok (.aload_n 1, 1) := by decide +kernel
theorem dL_told_135 : decode cL_told 135 = .ok (.iload 6, 2) := by decide +kernel
theorem dL_told_137 : decode cL_told 137 = .ok (.invokestatic 123, 3) := by decide +kernel
theorem dL_told_140 : decode cL_told 140 = .ok (.ifCond .eq 110, 3) := by decide +kernel
theorem dL_told_143 : decode cL_told 143 = .ok (.aload_n 0, 1) := by decide +kernel
theorem dL_told_144 : decode cL_told 144 = .ok (.invokevirtual 120, 3) := by decide +kernel
theorem dL_told_147 : decode cL_told 147 = .ok (.iconst 4, 1) := by decide +kernel
theorem dL_told_148 : decode cL_told 148 = .ok (.if_icmp .ne 102, 3) := by decide +kernel
theorem dL_told_151 : decode cL_told 151 = .ok (.aload_n 0, 1) := by decide +kernel
theorem dL_told_152 : decode cL_told 152 = .ok (.aload_n 1, 1) := by decide +kernel
theorem dL_told_153 : decode cL_told 153 = .ok (.bipush 48, 2) := by decide +kernel
theorem dL_told_155 : decode cL_told 155 = .ok (.iload 8, 2) := by decide +kernel
theorem dL_told_157 : decode cL_told 157 = .ok (.bipush 100, 2) := by decide +kernel
theorem dL_told_159 : decode cL_told 159 = .ok (.idiv, 1) := by decide +kernel
theorem dL_told_160 : decode cL_told 160 = .ok (.iadd, 1) := by decide +kernel
theorem dL_told_161 : decode cL_told 161 = .ok (.invokestatic 109, 3) := by decide +kernel
theorem dL_told_164 : decode cL_told 164 = .ok (.ifCond .eq 86, 3) := by decide +kernel
theorem dL_told_167 : decode cL_told 167 = .ok (.aload_n 0, 1) := by decide +kernel
theorem dL_told_168 : decode cL_told 168 = .ok (.aload_n 1, 1) := by decide +kernel
theorem dL_told_169 : decode cL_told 169 = .ok (.iload 8, 2) := by decide +kernel
theorem dL_told_171 : decode cL_told 171 = .ok (.bipush 100, 2) := by decide +kernel
theorem dL_told_173 : decode cL_told 173 = .ok (.irem, 1) := by decide +kernel
theorem dL_told_174 : decode cL_told 174 = .ok (.invokestatic 123, 3) := by decide +kernel
theorem dL_told_177 : decode cL_told 177 = .ok (.ifCond .eq 73, 3) := by decide +kernel
theorem dL_told_180 : decode cL_told 180 = .ok (.aload_n 0, 1) := by decide +kernel
theorem dL_told_181 : decode cL_told 181 = .ok (.invokevirtual 120, 3) := by decide +kernel
theorem dL_told_184 : decode cL_told 184 = .ok (.bipush 7, 2) := by decide +kernel
theorem dL_told_186 : decode cL_told 186 = .ok (.if_icmp .ne 64, 3) := by decide +kernel
theorem dL_told_189 : decode cL_told 189 = .ok (.aload_n 0, 1) := by decide +kernel
theorem dL_told_190 : decode cL_told 190 = .ok (.aload_n 1, 1) := by decide +kernel
theorem dL_told_191 : decode cL_told 191 = .ok (.iload 5, 2) := by decide +kernel
theorem dL_told_193 : decode cL_told 193 = .ok (.bipush 100, 2) := by decide +kernel
theorem dL_told_195 : decode cL_told 195 = .ok (.irem, 1) := by decide +kernel
theorem dL_told_196 : decode cL_told 196 = .ok (.invokestatic 123, 3) := by decide +kernel
theorem dL_told_199 : decode cL_told 199 = .ok (.ifCond .eq 51, 3) := by decide +kernel
theorem dL_told_202 : decode cL_told 202 = .ok (.aload_n 0, 1) := by decide +kernel
theorem dL_told_203 : decode cL_told 203 = .ok (.aload_n 1, 1) := by decide +kernel
theorem dL_told_204 : decode cL_told 204 = .ok (.iload 9, 2) := by decide +kernel
theorem dL_told_206 : decode cL_told 206 = .ok (.bipush 100, 2) := by decide +kernel
theorem dL_told_208 : decode cL_told 208 = .ok (.idiv, 1) := by decide +kernel
theorem dL_told_209 : decode cL_told 209 = .ok (.invokestatic 123, 3) := by decide +kernel
theorem dL_told_212 : decode cL_told 212 = .ok (.ifCond .eq 38, 3) := by decide +kernel
theorem dL_told_215 : decode cL_told 215 = .ok (.aload_n 0, 1) := by decide +kernel
theorem dL_told_216 : decode cL_told 216 = .ok (.invokevirtual 120, 3) := by decide +kernel
theorem dL_told_219 : decode cL_told 219 = .ok (.bipush 11, 2) := by decide +kernel
theorem dL_told_221 : decode cL_told 221 = .ok (.if_icmp .ne 29, 3) := by decide +kernel
theorem dL_told_224 : decode cL_told 224 = .ok (.aload_n 0, 1) := by decide +kernel
theorem dL_told_225 : decode cL_told 225 = .ok (.aload_n 1, 1) := by decide +kernel
theorem dL_told_226 : decode cL_told 226 = .ok (.iload 9, 2) := by decide +kernel
theorem dL_told_228 : decode cL_told 228 = .ok (.bipush 100, 2) := by decide +kernel
theorem dL_told_230 : decode cL_told 230 = .ok (.irem, 1) := by decide +kernel
theorem dL_told_231 : decode cL_told 231 = .ok (.invokestatic 123, 3) := by decide +kernel
theorem dL_told_234 : decode cL_told 234 = .ok (.ifCond .eq 16, 3) := by decide +kernel
theorem dL_told_237 : decode cL_told 237 = .ok (.aload_n 0, 1) := by decide +kernel
theorem dL_told_238 : decode cL_told 238 = .ok (.invokevirtual 120, 3) := by decide +kernel
theorem dL_told_241 : decode cL_told 241 = .ok (.bipush (-9), 2) := by decide +kernel
theorem dL_told_243 : decode cL_told 243 = .ok (.if_icmp .ne 7, 3) := by decide +kernel
theorem dL_told_246 : decode cL_told 246 = .ok (.iconst 1, 1) := by decide +kernel
theorem dL_told_247 : decode cL_told 247 = .ok (.goto 4, 3) := by decide +kernel
theorem dL_told_250 : decode cL_told 250 = .ok (.iconst 0, 1) := by decide +kernel
theorem dL_told_251 : decode cL_told 251 = .ok (.istore 12, 2) := by decide +kernel
theorem dL_told_253 : decode cL_told 253 = .ok (.iconst 0, 1) := by decide +kernel
theorem dL_told_254 : decode cL_told 254 = .ok (.istore 13, 2) := by decide +kernel
theorem dL_told_256 : decode cL_told 256 = .ok (.iload 13, 2) := by decide +kernel
theorem dL_told_258 : decode cL_told 258 = .ok (.iload 10, 2) := by decide +kernel
theorem dL_told_260 : decode cL_told 260 = .ok (.if_icmp .ge 111, 3) := by decide +kernel
theorem dL_told_263 : decode cL_told 263 = .ok (.iload 12, 2) := by decide +kernel
theorem dL_told_265 : decode cL_told 265 = .ok (.ifCond .eq 106, 3) := by decide +kernel
theorem dL_told_268 : decode cL_told 268 = .ok (.iload 13, 2) := by decide +kernel
theorem dL_told_270 : decode cL_told 270 = .ok (.iconst 2, 1) := by decide +kernel
theorem dL_told_271 : decode cL_told 271 = .ok (.irem, 1) := by decide +kernel
theorem dL_told_272 : decode cL_told 272 = .ok (.ifCond .ne 13, 3) := by decide +kernel
theorem dL_told_275 : decode cL_told 275 = .ok (.iload 11, 2) := by decide +kernel
theorem dL_told_277 : decode cL_told 277 = .ok (.iconst 1, 1) := by decide +kernel
theorem dL_told_278 : decode cL_told 278 = .ok (.iadd, 1) := by decide +kernel
theorem dL_told_279 : decode cL_told 279 = .ok (.iload 13, 2) := by decide +kernel
theorem dL_told_281 : decode cL_told 281 = .ok (.iadd, 1) := by decide +kernel
theorem dL_told_282 : decode cL_told 282 = .ok (.goto 12, 3) := by decide +kernel
theorem dL_told_285 : decode cL_told 285 = .ok (.sipush 179, 3) := by decide +kernel
theorem dL_told_288 : decode cL_told 288 = .ok (.iload 11, 2) := by decide +kernel
theorem dL_told_290 : decode cL_told 290 = .ok (.isub, 1) := by decide +kernel
theorem dL_told_291 : decode cL_told 291 = .ok (.iload 13, 2) := by decide +kernel
theorem dL_told_293 : decode cL_told 293 = .ok (.isub, 1) := by decide +kernel
theorem dL_told_294 : decode cL_told 294 = .ok (.istore 14, 2) := by decide +kernel
theorem dL_told_296 : decode cL_told 296 = .ok (.aload_n 0, 1) := by decide +kernel
theorem dL_told_297 : decode cL_told 297 = .ok (.aload_n 1, 1) := by decide +kernel
theorem dL_told_298 : decode cL_told 298 = .ok (.bipush 112, 2) := by decide +kernel
theorem dL_told_300 : decode cL_told 300 = .ok (.invokestatic 109, 3) := by decide +kernel
theorem dL_told_303 : decode cL_told 303 = .ok (.ifCond .eq 59, 3) := by decide +kernel
theorem dL_told_306 : decode cL_told 306 = .ok (.aload_n 0, 1) := by decide +kernel
theorem dL_told_307 : decode cL_told 307 = .ok (.invokevirtual 120, 3) := by decide +kernel
theorem dL_told_310 : decode cL_told 310 = .ok (.bipush 14, 2) := by decide +kernel
theorem dL_told_312 : decode cL_told 312 = .ok (.iconst 4, 1) := by decide +kernel
theorem dL_told_313 : decode cL_told 313 = .ok (.iload 13, 2) := by decide +kernel
theorem dL_told_315 : decode cL_told 315 = .ok (.imul, 1) := by decide +kernel
theorem dL_told_316 : decode cL_told 316 = .ok (.iadd, 1) := by decide +kernel
theorem dL_told_317 : decode cL_told 317 = .ok (.if_icmp .ne 45, 3) := by decide +kernel
theorem dL_told_320 : decode cL_told 320 = .ok (.aload_n 0, 1) := by decide +kernel
theorem dL_told_321 : decode cL_told 321 = .ok (.aload_n 1, 1) := by decide +kernel
theorem dL_told_322 : decode cL_told 322 = .ok (.bipush 48, 2) := by decide +kernel
theorem dL_told_324 : decode cL_told 324 = .ok (.iload 14, 2) := by decide +kernel
theorem dL_told_326 : decode cL_told 326 = .ok (.bipush 100, 2) := by decide +kernel
theorem dL_told_328 : decode cL_told 328 = .ok (.idiv, 1) := by decide +kernel
theorem dL_told_329 : decode cL_told 329 = .ok (.iadd, 1) := by decide +kernel
theorem dL_told_330 : decode cL_told 330 = .ok (.invokestatic 109, 3) := by decide +kernel
theorem dL_told_333 : decode cL_told 333 = .ok (.ifCond .eq 29, 3) := by decide +kernel
theorem dL_told_336 : decode cL_told 336 = .ok (.aload_n 0, 1) := by decide +kernel
theorem dL_told_337 : decode cL_told 337 = .ok (.aload_n 1, 1) := by decide +kernel
theorem dL_told_338 : decode cL_told 338 = .ok (.iload 14, 2) := by decide +kernel
theorem dL_told_340 : decode cL_told 340 = .ok (.bipush 100, 2) := by decide +kernel
theorem dL_told_342 : decode cL_told 342 = .ok (.irem, 1) := by decide +kernel
theorem dL_told_343 : decode cL_told 343 = .ok (.invokestatic 123, 3) := by decide +kernel
theorem dL_told_346 : decode cL_told 346 = .ok (.ifCond .eq 16, 3) := by decide +kernel
theorem dL_told_349 : decode cL_told 349 = .ok (.aload_n 0, 1) := by decide +kernel
theorem dL_told_350 : decode cL_told 350 = .ok (.invokevirtual 120, 3) := by decide +kernel
theorem dL_told_353 : decode cL_told 353 = .ok (.bipush (-9), 2) := by decide +kernel
theorem dL_told_355 : decode cL_told 355 = .ok (.if_icmp .ne 7, 3) := by decide +kernel
theorem dL_told_358 : decode cL_told 358 = .ok (.iconst 1, 1) := by decide +kernel
theorem dL_told_359 : decode cL_told 359 = .ok (.goto 4, 3) := by decide +kernel
theorem dL_told_362 : decode cL_told 362 = .ok (.iconst 0, 1) := by decide +kernel
theorem dL_told_363 : decode cL_told 363 = .ok (.istore 12, 2) := by decide +kernel
theorem dL_told_365 : decode cL_told 365 = .ok (.iinc 13 1, 3) := by decide +kernel
theorem dL_told_368 : decode cL_told 368 = .ok (.goto (-112), 3) := by decide +kernel
theorem dL_told_371 : decode cL_told 371 = .ok (.iload 12, 2) := by decide +kernel
theorem dL_told_373 : decode cL_told 373 = .ok (.ifCond .eq 146, 3) := by decide +kernel
theorem dL_told_376 : decode cL_told 376 = .ok (.aload_n 0, 1) := by decide +kernel
theorem dL_told_377 : decode cL_told 377 = .ok (.invokestatic 126, 3) := by decide +kernel
theorem dL_told_380 : decode cL_told 380 = .ok (.iload 10, 2) := by decide +kernel
theorem dL_told_382 : decode cL_told 382 = .ok (.if_icmp .ne 137, 3) := by decide +kernel
theorem dL_told_385 : decode cL_told 385 = .ok (.aload_n 1, 1) := by decide +kernel
theorem dL_told_386 : decode cL_told 386 = .ok (.invokestatic 126, 3) := by decide +kernel
theorem dL_told_389 : decode cL_told 389 = .ok (.iload 10, 2) := by decide +kernel
theorem dL_told_391 : decode cL_told 391 = .ok (.if_icmp .ne 128, 3) := by decide +kernel
theorem dL_told_394 : decode cL_told 394 = .ok (.aload_n 0, 1) := by decide +kernel
theorem dL_told_395 : decode cL_told 395 = .ok (.iconst 0, 1) := by decide +kernel
theorem dL_told_396 : decode cL_told 396 = .ok (.invokestatic 130, 3) := by decide +kernel
theorem dL_told_399 : decode cL_told 399 = .ok (.iload 7, 2) := by decide +kernel
theorem dL_told_401 : decode cL_told 401 = .ok (.ifCond .eq 9, 3) := by decide +kernel
theorem dL_told_404 : decode cL_told 404 = .ok (.iload 6, 2) := by decide +kernel
theorem dL_told_406 : decode cL_told 406 = .ok (.ineg, 1) := by decide +kernel
theorem dL_told_407 : decode cL_told 407 = .ok (.goto 5, 3) := by decide +kernel
theorem dL_told_410 : decode cL_told 410 = .ok (.iload 6, 2) := by decide +kernel
theorem dL_told_412 : decode cL_told 412 = .ok (.if_icmp .ne 107, 3) := by decide +kernel
theorem dL_told_415 : decode cL_told 415 = .ok (.aload_n 0, 1) := by decide +kernel
theorem dL_told_416 : decode cL_told 416 = .ok (.iconst 1, 1) := by decide +kernel
theorem dL_told_417 : decode cL_told 417 = .ok (.invokestatic 130, 3) := by decide +kernel
theorem dL_told_420 : decode cL_told 420 = .ok (.iload 8, 2) := by decide +kernel
theorem dL_told_422 : decode cL_told 422 = .ok (.if_icmp .ne 97, 3) := by decide +kernel
theorem dL_told_425 : decode cL_told 425 = .ok (.aload_n 0, 1) := by decide +kernel
theorem dL_told_426 : decode cL_told 426 = .ok (.iconst 2, 1) := by decide +kernel
theorem dL_told_427 : decode cL_told 427 = .ok (.invokestatic 130, 3) := by decide +kernel
theorem dL_told_430 : decode cL_told 430 = .ok (.iload 5, 2) := by decide +kernel
theorem dL_told_432 : decode cL_told 432 = .ok (.bipush 100, 2) := by decide +kernel
theorem dL_told_434 : decode cL_told 434 = .ok (.irem, 1) := by decide +kernel
theorem dL_told_435 : decode cL_told 435 = .ok (.if_icmp .ne 84, 3) := by decide +kernel
theorem dL_told_438 : decode cL_told 438 = .ok (.aload_n 0, 1) := by decide +kernel
theorem dL_told_439 : decode cL_told 439 = .ok (.bipush 7, 2) := by decide +kernel
theorem dL_told_441 : decode cL_told 441 = .ok (.invokestatic 130, 3) := by decide +kernel
theorem dL_told_444 : decode cL_told 444 = .ok (.iload 9, 2) := by decide +kernel
theorem dL_told_446 : decode cL_told 446 = .ok (.if_icmp .ne 73, 3) := by decide +kernel
theorem dL_told_449 : decode cL_told 449 = .ok (.aload_n 0, 1) := by decide +kernel
theorem dL_told_450 : decode cL_told 450 = .ok (.bipush 10, 2) := by decide +kernel
theorem dL_told_452 : decode cL_told 452 = .ok (.invokestatic 130, 3) := by decide +kernel
theorem dL_told_455 : decode cL_told 455 = .ok (.iload 10, 2) := by decide +kernel
theorem dL_told_457 : decode cL_told 457 = .ok (.if_icmp .ne 62, 3) := by decide +kernel
theorem dL_told_460 : decode cL_told 460 = .ok (.aload_n 0, 1) := by decide +kernel
theorem dL_told_461 : decode cL_told 461 = .ok (.invokestatic 133, 3) := by decide +kernel
theorem dL_told_464 : decode cL_told 464 = .ok (.sipush (-1003), 3) := by decide +kernel
theorem dL_told_467 : decode cL_told 467 = .ok (.if_icmp .ne 52, 3) := by decide +kernel
theorem dL_told_470 : decode cL_told 470 = .ok (.aload_n 1, 1) := by decide +kernel
theorem dL_told_471 : decode cL_told 471 = .ok (.iconst 1, 1) := by decide +kernel
theorem dL_told_472 : decode cL_told 472 = .ok (.invokestatic 136, 3) := by decide +kernel
theorem dL_told_475 : decode cL_told 475 = .ok (.sipush (-1003), 3) := by decide +kernel
theorem dL_told_478 : decode cL_told 478 = .ok (.if_icmp .ne 41, 3) := by decide +kernel
theorem dL_told_481 : decode cL_told 481 = .ok (.aload_n 0, 1) := by decide +kernel
theorem dL_told_482 : decode cL_told 482 = .ok (.aload_n 1, 1) := by decide +kernel
theorem dL_told_483 : decode cL_told 483 = .ok (.bipush 120, 2) := by decide +kernel
theorem dL_told_485 : decode cL_told 485 = .ok (.invokestatic 109, 3) := by decide +kernel
theorem dL_told_488 : decode cL_told 488 = .ok (.ifCond .eq 31, 3) := by decide +kernel
theorem dL_told_491 : decode cL_told 491 = .ok (.aload_n 0, 1) := by decide +kernel
theorem dL_told_492 : decode cL_told 492 = .ok (.invokevirtual 120, 3) := by decide +kernel
theorem dL_told_495 : decode cL_told 495 = .ok (.bipush 13, 2) := by decide +kernel
theorem dL_told_497 : decode cL_told 497 = .ok (.iconst 4, 1) := by decide +kernel
theorem dL_told_498 : decode cL_told 498 = .ok (.iload 10, 2) := by decide +kernel
theorem dL_told_500 : decode cL_told 500 = .ok (.imul, 1) := by decide +kernel
theorem dL_told_501 : decode cL_told 501 = .ok (.iadd, 1) := by decide +kernel
theorem dL_told_502 : decode cL_told 502 = .ok (.if_icmp .ne 17, 3) := by decide +kernel
theorem dL_told_505 : decode cL_told 505 = .ok (.aload_n 0, 1) := by decide +kernel
theorem dL_told_506 : decode cL_told 506 = .ok (.invokestatic 126, 3) := by decide +kernel
theorem dL_told_509 : decode cL_told 509 = .ok (.sipush (-1003), 3) := by decide +kernel
theorem dL_told_512 : decode cL_told 512 = .ok (.if_icmp .ne 7, 3) := by decide +kernel
theorem dL_told_515 : decode cL_told 515 = .ok (.iconst 1, 1) := by decide +kernel
theorem dL_told_516 : decode cL_told 516 = .ok (.goto 4, 3) := by decide +kernel
theorem dL_told_519 : decode cL_told 519 = .ok (.iconst 0, 1) := by decide +kernel
theorem dL_told_520 : decode cL_told 520 = .ok (.ireturn, 1) := by decide +kernel
theorem dL_alike_0 : decode cL_alike 0 = .ok (.iconst 1, 1) := by decide +kernel
theorem dL_alike_1 : decode cL_alike 1 = .ok (.istore_n 2, 1) := by decide +kernel
theorem dL_alike_2 : decode cL_alike 2 = .ok (.iconst 0, 1) := by decide +kernel
theorem dL_alike_3 : decode cL_alike 3 = .ok (.istore_n 3, 1) := by decide +kernel
theorem dL_alike_4 : decode cL_alike 4 = .ok (.iload_n 3, 1) := by decide +kernel
theorem dL_alike_5 : decode cL_alike 5 = .ok (.bipush 13, 2) := by decide +kernel
theorem dL_alike_7 : decode cL_alike 7 = .ok (.if_icmp .ge 32, 3) := by decide +kernel
theorem dL_alike_10 : decode cL_alike 10 = .ok (.iload_n 2, 1) := by decide +kernel
theorem dL_alike_11 : decode cL_alike 11 = .ok (.ifCond .eq 20, 3) := by decide +kernel
theorem dL_alike_14 : decode cL_alike 14 = .ok (.aload_n 0, 1) := by decide +kernel
theorem dL_alike_15 : decode cL_alike 15 = .ok (.iload_n 3, 1) := by decide +kernel
theorem dL_alike_16 : decode cL_alike 16 = .ok (.invokestatic 130, 3) := by decide +kernel
theorem dL_alike_19 : decode cL_alike 19 = .ok (.aload_n 1, 1) := by decide +kernel
theorem dL_alike_20 : decode cL_alike 20 = .ok (.iload_n 3, 1) := by decide +kernel
theorem dL_alike_21 : decode cL_alike 21 = .ok (.invokestatic 130, 3) := by decide +kernel
theorem dL_alike_24 : decode cL_alike 24 = .ok (.if_icmp .ne 7, 3) := by decide +kernel
theorem dL_alike_27 : decode cL_alike 27 = .ok (.iconst 1, 1) := by decide +kernel
theorem dL_alike_28 : decode cL_alike 28 = .ok (.goto 4, 3) := by decide +kernel
theorem dL_alike_31 : decode cL_alike 31 = .ok (.iconst 0, 1) := by decide +kernel
theorem dL_alike_32 : decode cL_alike 32 = .ok (.istore_n 2, 1) := by decide +kernel
theorem dL_alike_33 : decode cL_alike 33 = .ok (.iinc 3 1, 3) := by decide +kernel
theorem dL_alike_36 : decode cL_alike 36 = .ok (.goto (-32), 3) := by decide +kernel
theorem dL_alike_39 : decode cL_alike 39 = .ok (.iconst 0, 1) := by decide +kernel
theorem dL_alike_40 : decode cL_alike 40 = .ok (.istore_n 3, 1) := by decide +kernel
theorem dL_alike_41 : decode cL_alike 41 = .ok (.iload_n 3, 1) := by decide +kernel
theorem dL_alike_42 : decode cL_alike 42 = .ok (.aload_n 0, 1) := by decide +kernel
theorem dL_alike_43 : decode cL_alike 43 = .ok (.bipush 9, 2) := by decide +kernel
theorem dL_alike_45 : decode cL_alike 45 = .ok (.invokestatic 130, 3) := by decide +kernel
theorem dL_alike_48 : decode cL_alike 48 = .ok (.if_icmp .ge 64, 3) := by decide +kernel
theorem dL_alike_51 : decode cL_alike 51 = .ok (.iload_n 2, 1) := by decide +kernel
theorem dL_alike_52 : decode cL_alike 52 = .ok (.ifCond .eq 60, 3) := by decide +kernel
theorem dL_alike_55 : decode cL_alike 55 = .ok (.aload_n 0, 1) := by decide +kernel
theorem dL_alike_56 : decode cL_alike 56 = .ok (.iload_n 3, 1) := by decide +kernel
theorem dL_alike_57 : decode cL_alike 57 = .ok (.iconst 0, 1) := by decide +kernel
theorem dL_alike_58 : decode cL_alike 58 = .ok (.invokestatic 139, 3) := by decide +kernel
theorem dL_alike_61 : decode cL_alike 61 = .ok (.aload_n 1, 1) := by decide +kernel
theorem dL_alike_62 : decode cL_alike 62 = .ok (.iload_n 3, 1) := by decide +kernel
theorem dL_alike_63 : decode cL_alike 63 = .ok (.iconst 0, 1) := by decide +kernel
theorem dL_alike_64 : decode cL_alike 64 = .ok (.invokestatic 139, 3) := by decide +kernel
theorem dL_alike_67 : decode cL_alike 67 = .ok (.if_icmp .ne 37, 3) := by decide +kernel
theorem dL_alike_70 : decode cL_alike 70 = .ok (.aload_n 0, 1) := by decide +kernel
theorem dL_alike_71 : decode cL_alike 71 = .ok (.iload_n 3, 1) := by decide +kernel
theorem dL_alike_72 : decode cL_alike 72 = .ok (.iconst 1, 1) := by decide +kernel
theorem dL_alike_73 : decode cL_alike 73 = .ok (.invokestatic 139, 3) := by decide +kernel
theorem dL_alike_76 : decode cL_alike 76 = .ok (.aload_n 1, 1) := by decide +kernel
theorem dL_alike_77 : decode cL_alike 77 = .ok (.iload_n 3, 1) := by decide +kernel
theorem dL_alike_78 : decode cL_alike 78 = .ok (.iconst 1, 1) := by decide +kernel
theorem dL_alike_79 : decode cL_alike 79 = .ok (.invokestatic 139, 3) := by decide +kernel
theorem dL_alike_82 : decode cL_alike 82 = .ok (.if_icmp .ne 22, 3) := by decide +kernel
theorem dL_alike_85 : decode cL_alike 85 = .ok (.aload_n 0, 1) := by decide +kernel
theorem dL_alike_86 : decode cL_alike 86 = .ok (.iload_n 3, 1) := by decide +kernel
theorem dL_alike_87 : decode cL_alike 87 = .ok (.iconst 2, 1) := by decide +kernel
theorem dL_alike_88 : decode cL_alike 88 = .ok (.invokestatic 139, 3) := by decide +kernel
theorem dL_alike_91 : decode cL_alike 91 = .ok (.aload_n 1, 1) := by decide +kernel
theorem dL_alike_92 : decode cL_alike 92 = .ok (.iload_n 3, 1) := by decide +kernel
theorem dL_alike_93 : decode cL_alike 93 = .ok (.iconst 2, 1) := by decide +kernel
theorem dL_alike_94 : decode cL_alike 94 = .ok (.invokestatic 139, 3) := by decide +kernel
theorem dL_alike_97 : decode cL_alike 97 = .ok (.if_icmp .ne 7, 3) := by decide +kernel
theorem dL_alike_100 : decode cL_alike 100 = .ok (.iconst 1, 1) := by decide +kernel
theorem dL_alike_101 : decode cL_alike 101 = .ok (.goto 4, 3) := by decide +kernel
theorem dL_alike_104 : decode cL_alike 104 = .ok (.iconst 0, 1) := by decide +kernel
theorem dL_alike_105 : decode cL_alike 105 = .ok (.istore_n 2, 1) := by decide +kernel
theorem dL_alike_106 : decode cL_alike 106 = .ok (.iinc 3 1, 3) := by decide +kernel
theorem dL_alike_109 : decode cL_alike 109 = .ok (.goto (-68), 3) := by decide +kernel
theorem dL_alike_112 : decode cL_alike 112 = .ok (.iconst 0, 1) := by decide +kernel
theorem dL_alike_113 : decode cL_alike 113 = .ok (.istore_n 3, 1) := by decide +kernel
theorem dL_alike_114 : decode cL_alike 114 = .ok (.iload_n 3, 1) := by decide +kernel
theorem dL_alike_115 : decode cL_alike 115 = .ok (.bipush 60, 2) := by decide +kernel
theorem dL_alike_117 : decode cL_alike 117 = .ok (.if_icmp .ge 65, 3) := by decide +kernel
theorem dL_alike_120 : decode cL_alike 120 = .ok (.iload_n 2, 1) := by decide +kernel
theorem dL_alike_121 : decode cL_alike 121 = .ok (.ifCond .eq 61, 3) := by decide +kernel
theorem dL_alike_124 : decode cL_alike 124 = .ok (.aload_n 0, 1) := by decide +kernel
theorem dL_alike_125 : decode cL_alike 125 = .ok (.iload_n 3, 1) := by decide +kernel
theorem dL_alike_126 : decode cL_alike 126 = .ok (.iconst 3, 1) := by decide +kernel
theorem dL_alike_127 : decode cL_alike 127 = .ok (.idiv, 1) := by decide +kernel
theorem dL_alike_128 : decode cL_alike 128 = .ok (.iload_n 3, 1) := by decide +kernel
theorem dL_alike_129 : decode cL_alike 129 = .ok (.iconst 3, 1) := by decide +kernel
theorem dL_alike_130 : decode cL_alike 130 = .ok (.irem, 1) := by decide +kernel
theorem dL_alike_131 : decode cL_alike 131 = .ok (.invokestatic 143, 3) := by decide +kernel
theorem dL_alike_134 : decode cL_alike 134 = .ok (.aload_n 1, 1) := by decide +kernel
theorem dL_alike_135 : decode cL_alike 135 = .ok (.iload_n 3, 1) := by decide +kernel
theorem dL_alike_136 : decode cL_alike 136 = .ok (.iconst 3, 1) := by decide +kernel
theorem dL_alike_137 : decode cL_alike 137 = .ok (.idiv, 1) := by decide +kernel
theorem dL_alike_138 : decode cL_alike 138 = .ok (.iload_n 3, 1) := by decide +kernel
theorem dL_alike_139 : decode cL_alike 139 = .ok (.iconst 3, 1) := by decide +kernel
theorem dL_alike_140 : decode cL_alike 140 = .ok (.irem, 1) := by decide +kernel
theorem dL_alike_141 : decode cL_alike 141 = .ok (.invokestatic 143, 3) := by decide +kernel
theorem dL_alike_144 : decode cL_alike 144 = .ok (.if_icmp .ne 30, 3) := by decide +kernel
theorem dL_alike_147 : decode cL_alike 147 = .ok (.aload_n 0, 1) := by decide +kernel
theorem dL_alike_148 : decode cL_alike 148 = .ok (.iload_n 3, 1) := by decide +kernel
theorem dL_alike_149 : decode cL_alike 149 = .ok (.iconst 3, 1) := by decide +kernel
theorem dL_alike_150 : decode cL_alike 150 = .ok (.idiv, 1) := by decide +kernel
theorem dL_alike_151 : decode cL_alike 151 = .ok (.iload_n 3, 1) := by decide +kernel
theorem dL_alike_152 : decode cL_alike 152 = .ok (.iconst 3, 1) := by decide +kernel
theorem dL_alike_153 : decode cL_alike 153 = .ok (.irem, 1) := by decide +kernel
theorem dL_alike_154 : decode cL_alike 154 = .ok (.invokestatic 146, 3) := by decide +kernel
theorem dL_alike_157 : decode cL_alike 157 = .ok (.aload_n 1, 1) := by decide +kernel
theorem dL_alike_158 : decode cL_alike 158 = .ok (.iload_n 3, 1) := by decide +kernel
theorem dL_alike_159 : decode cL_alike 159 = .ok (.iconst 3, 1) := by decide +kernel
theorem dL_alike_160 : decode cL_alike 160 = .ok (.idiv, 1) := by decide +kernel
theorem dL_alike_161 : decode cL_alike 161 = .ok (.iload_n 3, 1) := by decide +kernel
theorem dL_alike_162 : decode cL_alike 162 = .ok (.iconst 3, 1) := by decide +kernel
theorem dL_alike_163 : decode cL_alike 163 = .ok (.irem, 1) := by decide +kernel
theorem dL_alike_164 : decode cL_alike 164 = .ok (.invokestatic 146, 3) := by decide +kernel
theorem dL_alike_167 : decode cL_alike 167 = .ok (.if_icmp .ne 7, 3) := by decide +kernel
theorem dL_alike_170 : decode cL_alike 170 = .ok (.iconst 1, 1) := by decide +kernel
theorem dL_alike_171 : decode cL_alike 171 = .ok (.goto 4, 3) := by decide +kernel
theorem dL_alike_174 : decode cL_alike 174 = .ok (.iconst 0, 1) := by decide +kernel
theorem dL_alike_175 : decode cL_alike 175 = .ok (.istore_n 2, 1) := by decide +kernel
theorem dL_alike_176 : decode cL_alike 176 = .ok (.iinc 3 1, 3) := by decide +kernel
theorem dL_alike_179 : decode cL_alike 179 = .ok (.goto (-65), 3) := by decide +kernel
theorem dL_alike_182 : decode cL_alike 182 = .ok (.iload_n 2, 1) := by decide +kernel
theorem dL_alike_183 : decode cL_alike 183 = .ok (.ireturn, 1) := by decide +kernel
theorem dL_refuses_0 : decode cL_refuses 0 = .ok (.aload_n 0, 1) := by decide +kernel
theorem dL_refuses_1 : decode cL_refuses 1 = .ok (.bipush 9, 2) := by decide +kernel
theorem dL_refuses_3 : decode cL_refuses 3 = .ok (.invokestatic 130, 3) := by decide +kernel
theorem dL_refuses_6 : decode cL_refuses 6 = .ok (.istore_n 1, 1) := by decide +kernel
theorem dL_refuses_7 : decode cL_refuses 7 = .ok (.aload_n 0, 1) := by decide +kernel
theorem dL_refuses_8 : decode cL_refuses 8 = .ok (.bipush 12, 2) := by decide +kernel
theorem dL_refuses_10 : decode cL_refuses 10 = .ok (.invokestatic 130, 3) := by decide +kernel
theorem dL_refuses_13 : decode cL_refuses 13 = .ok (.istore_n 2, 1) := by decide +kernel
theorem dL_refuses_14 : decode cL_refuses 14 = .ok (.aload_n 0, 1) := by decide +kernel
theorem dL_refuses_15 : decode cL_refuses 15 = .ok (.bipush 13, 2) := by decide +kernel
theorem dL_refuses_17 : decode cL_refuses 17 = .ok (.invokestatic 130, 3) := by decide +kernel
theorem dL_refuses_20 : decode cL_refuses 20 = .ok (.sipush (-1002), 3) := by decide +kernel
theorem dL_refuses_23 : decode cL_refuses 23 = .ok (.if_icmp .ne 278, 3) := by decide +kernel
theorem dL_refuses_26 : decode cL_refuses 26 = .ok (.aload_n 0, 1) := by decide +kernel
theorem dL_refuses_27 : decode cL_refuses 27 = .ok (.iload_n 1, 1) := by decide +kernel
theorem dL_refuses_28 : decode cL_refuses 28 = .ok (.iconst 3, 1) := by decide +kernel
theorem dL_refuses_29 : decode cL_refuses 29 = .ok (.invokestatic 139, 3) := by decide +kernel
theorem dL_refuses_32 : decode cL_refuses 32 = .ok (.sipush (-1001), 3) := by decide +kernel
theorem dL_refuses_35 : decode cL_refuses 35 = .ok (.if_icmp .ne 266, 3) := by decide +kernel
theorem dL_refuses_38 : decode cL_refuses 38 = .ok (.iload_n 1, 1) := by decide +kernel
theorem dL_refuses_39 : decode cL_refuses 39 = .ok (.ifCond .eq 31, 3) := by decide +kernel
theorem dL_refuses_42 : decode cL_refuses 42 = .ok (.aload_n 0, 1) := by decide +kernel
theorem dL_refuses_43 : decode cL_refuses 43 = .ok (.iconst 0, 1) := by decide +kernel
theorem dL_refuses_44 : decode cL_refuses 44 = .ok (.iconst 3, 1) := by decide +kernel
theorem dL_refuses_45 : decode cL_refuses 45 = .ok (.invokestatic 139, 3) := by decide +kernel
theorem dL_refuses_48 : decode cL_refuses 48 = .ok (.sipush (-1002), 3) := by decide +kernel
theorem dL_refuses_51 : decode cL_refuses 51 = .ok (.if_icmp .ne 250, 3) := by decide +kernel
theorem dL_refuses_54 : decode cL_refuses 54 = .ok (.aload_n 0, 1) := by decide +kernel
theorem dL_refuses_55 : decode cL_refuses 55 = .ok (.aload_n 0, 1) := by decide +kernel
theorem dL_refuses_56 : decode cL_refuses 56 = .ok (.iconst 0, 1) := by decide +kernel
theorem dL_refuses_57 : decode cL_refuses 57 = .ok (.iconst 0, 1) := by decide +kernel
theorem dL_refuses_58 : decode cL_refuses 58 = .ok (.invokestatic 139, 3) := by decide +kernel
theorem dL_refuses_61 : decode cL_refuses 61 = .ok (.invokestatic 149, 3) := by decide +kernel
theorem dL_refuses_64 : decode cL_refuses 64 = .ok (.sipush (-1003), 3) := by decide +kernel
theorem dL_refuses_67 : decode cL_refuses 67 = .ok (.if_icmp .ne 234, 3) := by decide +kernel
theorem dL_refuses_70 : decode cL_refuses 70 = .ok (.aload_n 0, 1) := by decide +kernel
theorem dL_refuses_71 : decode cL_refuses 71 = .ok (.iconst (-1), 1) := by decide +kernel
theorem dL_refuses_72 : decode cL_refuses 72 = .ok (.iconst 0, 1) := by decide +kernel
theorem dL_refuses_73 : decode cL_refuses 73 = .ok (.invokestatic 143, 3) := by decide +kernel
theorem dL_refuses_76 : decode cL_refuses 76 = .ok (.sipush (-1002), 3) := by decide +kernel
theorem dL_refuses_79 : decode cL_refuses 79 = .ok (.if_icmp .ne 222, 3) := by decide +kernel
theorem dL_refuses_82 : decode cL_refuses 82 = .ok (.aload_n 0, 1) := by decide +kernel
theorem dL_refuses_83 : decode cL_refuses 83 = .ok (.iconst 0, 1) := by decide +kernel
theorem dL_refuses_84 : decode cL_refuses 84 = .ok (.iconst 3, 1) := by decide +kernel
theorem dL_refuses_85 : decode cL_refuses 85 = .ok (.invokestatic 143, 3) := by decide +kernel
theorem dL_refuses_88 : decode cL_refuses 88 = .ok (.sipush (-1002), 3) := by decide +kernel
theorem dL_refuses_91 : decode cL_refuses 91 = .ok (.if_icmp .ne 210, 3) := by decide +kernel
theorem dL_refuses_94 : decode cL_refuses 94 = .ok (.aload_n 0, 1) := by decide +kernel
theorem dL_refuses_95 : decode cL_refuses 95 = .ok (.iload_n 2, 1) := by decide +kernel
theorem dL_refuses_96 : decode cL_refuses 96 = .ok (.iconst 3, 1) := by decide +kernel
theorem dL_refuses_97 : decode cL_refuses 97 = .ok (.invokestatic 146, 3) := by decide +kernel
theorem dL_refuses_100 : decode cL_refuses 100 = .ok (.sipush (-1001), 3) := by decide +kernel
theorem dL_refuses_103 : decode cL_refuses 103 = .ok (.if_icmp .ne 198, 3) := by decide +kernel
theorem dL_refuses_106 : decode cL_refuses 106 = .ok (.iload_n 2, 1) := by decide +kernel
theorem dL_refuses_107 : decode cL_refuses 107 = .ok (.ifCond .eq 15, 3) := by decide +kernel
theorem dL_refuses_110 : decode cL_refuses 110 = .ok (.aload_n 0, 1) := by decide +kernel
theorem dL_refuses_111 : decode cL_refuses 111 = .ok (.iconst 0, 1) := by decide +kernel
theorem dL_refuses_112 : decode cL_refuses 112 = .ok (.iconst 3, 1) := by decide +kernel
theorem dL_refuses_113 : decode cL_refuses 113 = .ok (.invokestatic 146, 3) := by decide +kernel
theorem dL_refuses_116 : decode cL_refuses 116 = .ok (.sipush (-1002), 3) := by decide +kernel
theorem dL_refuses_119 : decode cL_refuses 119 = .ok (.if_icmp .ne 182, 3) := by decide +kernel
theorem dL_refuses_122 : decode cL_refuses 122 = .ok (.aload_n 0, 1) := by decide +kernel
theorem dL_refuses_123 : decode cL_refuses 123 = .ok (.bipush 91, 2) := by decide +kernel
theorem dL_refuses_125 : decode cL_refuses 125 = .ok (.invokestatic 152, 3) := by decide +kernel
theorem dL_refuses_128 : decode cL_refuses 128 = .ok (.sipush (-1002), 3) := by decide +kernel
theorem dL_refuses_131 : decode cL_refuses 131 = .ok (.if_icmp .ne 170, 3) := by decide +kernel
theorem dL_refuses_134 : decode cL_refuses 134 = .ok (.aload_n 0, 1) := by decide +kernel
theorem dL_refuses_135 : decode cL_refuses 135 = .ok (.iconst 0, 1) := by decide +kernel
theorem dL_refuses_136 : decode cL_refuses 136 = .ok (.invokestatic 155, 3) := by decide +kernel
theorem dL_refuses_139 : decode cL_refuses 139 = .ok (.sipush (-1002), 3) := by decide +kernel
theorem dL_refuses_142 : decode cL_refuses 142 = .ok (.if_icmp .ne 159, 3) := by decide +kernel
theorem dL_refuses_145 : decode cL_refuses 145 = .ok (.aload_n 0, 1) := by decide +kernel
theorem dL_refuses_146 : decode cL_refuses 146 = .ok (.sipush 501, 3) := by decide +kernel
theorem dL_refuses_149 : decode cL_refuses 149 = .ok (.invokestatic 155, 3) := by decide +kernel
theorem dL_refuses_152 : decode cL_refuses 152 = .ok (.sipush (-1002), 3) := by decide +kernel
theorem dL_refuses_155 : decode cL_refuses 155 = .ok (.if_icmp .ne 146, 3) := by decide +kernel
theorem dL_refuses_158 : decode cL_refuses 158 = .ok (.aload_n 0, 1) := by decide +kernel
theorem dL_refuses_159 : decode cL_refuses 159 = .ok (.iconst 0, 1) := by decide +kernel
theorem dL_refuses_160 : decode cL_refuses 160 = .ok (.bipush 91, 2) := by decide +kernel
theorem dL_refuses_162 : decode cL_refuses 162 = .ok (.invokestatic 158, 3) := by decide +kernel
theorem dL_refuses_165 : decode cL_refuses 165 = .ok (.sipush (-1002), 3) := by decide +kernel
theorem dL_refuses_168 : decode cL_refuses 168 = .ok (.if_icmp .ne 133, 3) := by decide +kernel
theorem dL_refuses_171 : decode cL_refuses 171 = .ok (.aload_n 0, 1) := by decide +kernel
theorem dL_refuses_172 : decode cL_refuses 172 = .ok (.iconst 1, 1) := by decide +kernel
theorem dL_refuses_173 : decode cL_refuses 173 = .ok (.bipush 59, 2) := by decide +kernel
theorem dL_refuses_175 : decode cL_refuses 175 = .ok (.invokestatic 158, 3) := by decide +kernel
theorem dL_refuses_178 : decode cL_refuses 178 = .ok (.sipush (-1002), 3) := by decide +kernel
theorem dL_refuses_181 : decode cL_refuses 181 = .ok (.if_icmp .ne 120, 3) := by decide +kernel
theorem dL_refuses_184 : decode cL_refuses 184 = .ok (.aload_n 0, 1) := by decide +kernel
theorem dL_refuses_185 : decode cL_refuses 185 = .ok (.iconst 2, 1) := by decide +kernel
theorem dL_refuses_186 : decode cL_refuses 186 = .ok (.bipush 100, 2) := by decide +kernel
theorem dL_refuses_188 : decode cL_refuses 188 = .ok (.invokestatic 158, 3) := by decide +kernel
theorem dL_refuses_191 : decode cL_refuses 191 = .ok (.sipush (-1002), 3) := by decide +kernel
theorem dL_refuses_194 : decode cL_refuses 194 = .ok (.if_icmp .ne 107, 3) := by decide +kernel
theorem dL_refuses_197 : decode cL_refuses 197 = .ok (.aload_n 0, 1) := by decide +kernel
theorem dL_refuses_198 : decode cL_refuses 198 = .ok (.iconst 3, 1) := by decide +kernel
theorem dL_refuses_199 : decode cL_refuses 199 = .ok (.iconst 0, 1) := by decide +kernel
theorem dL_refuses_200 : decode cL_refuses 200 = .ok (.invokestatic 158, 3) := by decide +kernel
theorem dL_refuses_203 : decode cL_refuses 203 = .ok (.sipush (-1002), 3) := by decide +kernel
theorem dL_refuses_206 : decode cL_refuses 206 = .ok (.if_icmp .ne 95, 3) := by decide +kernel
theorem dL_refuses_209 : decode cL_refuses 209 = .ok (.aload_n 0, 1) := by decide +kernel
theorem dL_refuses_210 : decode cL_refuses 210 = .ok (.iconst 4, 1) := by decide +kernel
theorem dL_refuses_211 : decode cL_refuses 211 = .ok (.iconst (-1), 1) := by decide +kernel
theorem dL_refuses_212 : decode cL_refuses 212 = .ok (.invokestatic 158, 3) := by decide +kernel
theorem dL_refuses_215 : decode cL_refuses 215 = .ok (.sipush (-1002), 3) := by decide +kernel
theorem dL_refuses_218 : decode cL_refuses 218 = .ok (.if_icmp .ne 83, 3) := by decide +kernel
theorem dL_refuses_221 : decode cL_refuses 221 = .ok (.aload_n 0, 1) := by decide +kernel
theorem dL_refuses_222 : decode cL_refuses 222 = .ok (.iconst 5, 1) := by decide +kernel
theorem dL_refuses_223 : decode cL_refuses 223 = .ok (.iconst 1, 1) := by decide +kernel
theorem dL_refuses_224 : decode cL_refuses 224 = .ok (.invokestatic 158, 3) := by decide +kernel
theorem dL_refuses_227 : decode cL_refuses 227 = .ok (.sipush (-1002), 3) := by decide +kernel
theorem dL_refuses_230 : decode cL_refuses 230 = .ok (.if_icmp .ne 71, 3) := by decide +kernel
theorem dL_refuses_233 : decode cL_refuses 233 = .ok (.aload_n 0, 1) := by decide +kernel
theorem dL_refuses_234 : decode cL_refuses 234 = .ok (.iconst 0, 1) := by decide +kernel
theorem dL_refuses_235 : decode cL_refuses 235 = .ok (.invokestatic 161, 3) := by decide +kernel
theorem dL_refuses_238 : decode cL_refuses 238 = .ok (.sipush (-1002), 3) := by decide +kernel
theorem dL_refuses_241 : decode cL_refuses 241 = .ok (.if_icmp .ne 60, 3) := by decide +kernel
theorem dL_refuses_244 : decode cL_refuses 244 = .ok (.aload_n 0, 1) := by decide +kernel
theorem dL_refuses_245 : decode cL_refuses 245 = .ok (.sipush 601, 3) := by decide +kernel
theorem dL_refuses_248 : decode cL_refuses 248 = .ok (.invokestatic 164, 3) := by decide +kernel
theorem dL_refuses_251 : decode cL_refuses 251 = .ok (.sipush (-1002), 3) := by decide +kernel
theorem dL_refuses_254 : decode cL_refuses 254 = .ok (.if_icmp .ne 47, 3) := by decide +kernel
theorem dL_refuses_257 : decode cL_refuses 257 = .ok (.aload_n 0, 1) := by decide +kernel
theorem dL_refuses_258 : decode cL_refuses 258 = .ok (.sipush 10800, 3) := by decide +kernel
theorem dL_refuses_261 : decode cL_refuses 261 = .ok (.invokestatic 149, 3) := by decide +kernel
theorem dL_refuses_264 : decode cL_refuses 264 = .ok (.sipush (-1002), 3) := by decide +kernel
theorem dL_refuses_267 : decode cL_refuses 267 = .ok (.if_icmp .ne 34, 3) := by decide +kernel
theorem dL_refuses_270 : decode cL_refuses 270 = .ok (.aload_n 0, 1) := by decide +kernel
theorem dL_refuses_271 : decode cL_refuses 271 = .ok (.iload_n 1, 1) := by decide +kernel
theorem dL_refuses_272 : decode cL_refuses 272 = .ok (.invokestatic 167, 3) := by decide +kernel
theorem dL_refuses_275 : decode cL_refuses 275 = .ok (.sipush (-1001), 3) := by decide +kernel
theorem dL_refuses_278 : decode cL_refuses 278 = .ok (.if_icmp .ne 23, 3) := by decide +kernel
theorem dL_refuses_281 : decode cL_refuses 281 = .ok (.iload_n 2, 1) := by decide +kernel
theorem dL_refuses_282 : decode cL_refuses 282 = .ok (.bipush 20, 2) := by decide +kernel
theorem dL_refuses_284 : decode cL_refuses 284 = .ok (.if_icmp .lt 13, 3) := by decide +kernel
theorem dL_refuses_287 : decode cL_refuses 287 = .ok (.aload_n 0, 1) := by decide +kernel
theorem dL_refuses_288 : decode cL_refuses 288 = .ok (.invokestatic 170, 3) := by decide +kernel
theorem dL_refuses_291 : decode cL_refuses 291 = .ok (.sipush (-1003), 3) := by decide +kernel
theorem dL_refuses_294 : decode cL_refuses 294 = .ok (.if_icmp .ne 7, 3) := by decide +kernel
theorem dL_refuses_297 : decode cL_refuses 297 = .ok (.iconst 1, 1) := by decide +kernel
theorem dL_refuses_298 : decode cL_refuses 298 = .ok (.goto 4, 3) := by decide +kernel
theorem dL_refuses_301 : decode cL_refuses 301 = .ok (.iconst 0, 1) := by decide +kernel
theorem dL_refuses_302 : decode cL_refuses 302 = .ok (.istore_n 3, 1) := by decide +kernel
theorem dL_refuses_303 : decode cL_refuses 303 = .ok (.iload_n 3, 1) := by decide +kernel
theorem dL_refuses_304 : decode cL_refuses 304 = .ok (.ifCond .eq 219, 3) := by decide +kernel
theorem dL_refuses_307 : decode cL_refuses 307 = .ok (.aload_n 0, 1) := by decide +kernel
theorem dL_refuses_308 : decode cL_refuses 308 = .ok (.iload_n 2, 1) := by decide +kernel
theorem dL_refuses_309 : decode cL_refuses 309 = .ok (.iload_n 2, 1) := by decide +kernel
theorem dL_refuses_310 : decode cL_refuses 310 = .ok (.invokestatic 173, 3) := by decide +kernel
theorem dL_refuses_313 : decode cL_refuses 313 = .ok (.sipush (-1001), 3) := by decide +kernel
theorem dL_refuses_316 : decode cL_refuses 316 = .ok (.if_icmp .ne 207, 3) := by decide +kernel
theorem dL_refuses_319 : decode cL_refuses 319 = .ok (.iload_n 2, 1) := by decide +kernel
theorem dL_refuses_320 : decode cL_refuses 320 = .ok (.ifCond .eq 39, 3) := by decide +kernel
theorem dL_refuses_323 : decode cL_refuses 323 = .ok (.aload_n 0, 1) := by decide +kernel
theorem dL_refuses_324 : decode cL_refuses 324 = .ok (.iconst 0, 1) := by decide +kernel
theorem dL_refuses_325 : decode cL_refuses 325 = .ok (.iconst 0, 1) := by decide +kernel
theorem dL_refuses_326 : decode cL_refuses 326 = .ok (.invokestatic 173, 3) := by decide +kernel
theorem dL_refuses_329 : decode cL_refuses 329 = .ok (.sipush (-1002), 3) := by decide +kernel
theorem dL_refuses_332 : decode cL_refuses 332 = .ok (.if_icmp .ne 191, 3) := by decide +kernel
theorem dL_refuses_335 : decode cL_refuses 335 = .ok (.aload_n 0, 1) := by decide +kernel
theorem dL_refuses_336 : decode cL_refuses 336 = .ok (.iconst 0, 1) := by decide +kernel
theorem dL_refuses_337 : decode cL_refuses 337 = .ok (.iconst 0, 1) := by decide +kernel
theorem dL_refuses_338 : decode cL_refuses 338 = .ok (.invokestatic 176, 3) := by decide +kernel
theorem dL_refuses_341 : decode cL_refuses 341 = .ok (.sipush (-1002), 3) := by decide +kernel
theorem dL_refuses_344 : decode cL_refuses 344 = .ok (.if_icmp .ne 179, 3) := by decide +kernel
theorem dL_refuses_347 : decode cL_refuses 347 = .ok (.aload_n 0, 1) := by decide +kernel
theorem dL_refuses_348 : decode cL_refuses 348 = .ok (.iconst 0, 1) := by decide +kernel
theorem dL_refuses_349 : decode cL_refuses 349 = .ok (.iconst 0, 1) := by decide +kernel
theorem dL_refuses_350 : decode cL_refuses 350 = .ok (.invokestatic 179, 3) := by decide +kernel
theorem dL_refuses_353 : decode cL_refuses 353 = .ok (.sipush (-1002), 3) := by decide +kernel
theorem dL_refuses_356 : decode cL_refuses 356 = .ok (.if_icmp .ne 167, 3) := by decide +kernel
theorem dL_refuses_359 : decode cL_refuses 359 = .ok (.aload_n 0, 1) := by decide +kernel
theorem dL_refuses_360 : decode cL_refuses 360 = .ok (.iconst 0, 1) := by decide +kernel
theorem dL_refuses_361 : decode cL_refuses 361 = .ok (.iload_n 2, 1) := by decide +kernel
theorem dL_refuses_362 : decode cL_refuses 362 = .ok (.invokestatic 176, 3) := by decide +kernel
theorem dL_refuses_365 : decode cL_refuses 365 = .ok (.sipush (-1001), 3) := by decide +kernel
theorem dL_refuses_368 : decode cL_refuses 368 = .ok (.if_icmp .ne 155, 3) := by decide +kernel
theorem dL_refuses_371 : decode cL_refuses 371 = .ok (.aload_n 0, 1) := by decide +kernel
theorem dL_refuses_372 : decode cL_refuses 372 = .ok (.sipush 501, 3) := by decide +kernel
theorem dL_refuses_375 : decode cL_refuses 375 = .ok (.iconst 0, 1) := by decide +kernel
theorem dL_refuses_376 : decode cL_refuses 376 = .ok (.invokestatic 182, 3) := by decide +kernel
theorem dL_refuses_379 : decode cL_refuses 379 = .ok (.sipush (-1002), 3) := by decide +kernel
theorem dL_refuses_382 : decode cL_refuses 382 = .ok (.if_icmp .ne 141, 3) := by decide +kernel
theorem dL_refuses_385 : decode cL_refuses 385 = .ok (.aload_n 0, 1) := by decide +kernel
theorem dL_refuses_386 : decode cL_refuses 386 = .ok (.iconst 0, 1) := by decide +kernel
theorem dL_refuses_387 : decode cL_refuses 387 = .ok (.iconst 4, 1) := by decide +kernel
theorem dL_refuses_388 : decode cL_refuses 388 = .ok (.invokestatic 182, 3) := by decide +kernel
theorem dL_refuses_391 : decode cL_refuses 391 = .ok (.sipush (-1002), 3) := by decide +kernel
theorem dL_refuses_394 : decode cL_refuses 394 = .ok (.if_icmp .ne 129, 3) := by decide +kernel
theorem dL_refuses_397 : decode cL_refuses 397 = .ok (.aload_n 0, 1) := by decide +kernel
theorem dL_refuses_398 : decode cL_refuses 398 = .ok (.iload_n 1, 1) := by decide +kernel
theorem dL_refuses_399 : decode cL_refuses 399 = .ok (.invokestatic 185, 3) := by decide +kernel
theorem dL_refuses_402 : decode cL_refuses 402 = .ok (.sipush (-1001), 3) := by decide +kernel
theorem dL_refuses_405 : decode cL_refuses 405 = .ok (.if_icmp .ne 118, 3) := by decide +kernel
theorem dL_refuses_408 : decode cL_refuses 408 = .ok (.aload_n 0, 1) := by decide +kernel
theorem dL_refuses_409 : decode cL_refuses 409 = .ok (.sipush 10000, 3) := by decide +kernel
theorem dL_refuses_412 : decode cL_refuses 412 = .ok (.invokestatic 188, 3) := by decide +kernel
theorem dL_refuses_415 : decode cL_refuses 415 = .ok (.sipush (-1002), 3) := by decide +kernel
theorem dL_refuses_418 : decode cL_refuses 418 = .ok (.if_icmp .ne 105, 3) := by decide +kernel
theorem dL_refuses_421 : decode cL_refuses 421 = .ok (.aload_n 0, 1) := by decide +kernel
theorem dL_refuses_422 : decode cL_refuses 422 = .ok (.sipush 201, 3) := by decide +kernel
theorem dL_refuses_425 : decode cL_refuses 425 = .ok (.invokestatic 191, 3) := by decide +kernel
theorem dL_refuses_428 : decode cL_refuses 428 = .ok (.sipush (-1002), 3) := by decide +kernel
theorem dL_refuses_431 : decode cL_refuses 431 = .ok (.if_icmp .ne 92, 3) := by decide +kernel
theorem dL_refuses_434 : decode cL_refuses 434 = .ok (.aload_n 0, 1) := by decide +kernel
theorem dL_refuses_435 : decode cL_refuses 435 = .ok (.iconst 0, 1) := by decide +kernel
theorem dL_refuses_436 : decode cL_refuses 436 = .ok (.invokestatic 194, 3) := by decide +kernel
theorem dL_refuses_439 : decode cL_refuses 439 = .ok (.sipush (-1002), 3) := by decide +kernel
theorem dL_refuses_442 : decode cL_refuses 442 = .ok (.if_icmp .ne 81, 3) := by decide +kernel
theorem dL_refuses_445 : decode cL_refuses 445 = .ok (.aload_n 0, 1) := by decide +kernel
theorem dL_refuses_446 : decode cL_refuses 446 = .ok (.iconst 4, 1) := by decide +kernel
theorem dL_refuses_447 : decode cL_refuses 447 = .ok (.lconst 0, 1) := by decide +kernel
theorem dL_refuses_448 : decode cL_refuses 448 = .ok (.invokestatic 197, 3) := by decide +kernel
theorem dL_refuses_451 : decode cL_refuses 451 = .ok (.sipush (-1002), 3) := by decide +kernel
theorem dL_refuses_454 : decode cL_refuses 454 = .ok (.if_icmp .ne 69, 3) := by decide +kernel
theorem dL_refuses_457 : decode cL_refuses 457 = .ok (.aload_n 0, 1) := by decide +kernel
theorem dL_refuses_458 : decode cL_refuses 458 = .ok (.iconst 1, 1) := by decide +kernel
theorem dL_refuses_459 : decode cL_refuses 459 = .ok (.ldc2_w 201, 3) := by decide +kernel
theorem dL_refuses_462 : decode cL_refuses 462 = .ok (.invokestatic 197, 3) := by decide +kernel
theorem dL_refuses_465 : decode cL_refuses 465 = .ok (.sipush (-1002), 3) := by decide +kernel
theorem dL_refuses_468 : decode cL_refuses 468 = .ok (.if_icmp .ne 55, 3) := by decide +kernel
theorem dL_refuses_471 : decode cL_refuses 471 = .ok (.aload_n 0, 1) := by decide +kernel
theorem dL_refuses_472 : decode cL_refuses 472 = .ok (.lconst 1, 1) := by decide +kernel
theorem dL_refuses_473 : decode cL_refuses 473 = .ok (.bipush 61, 2) := by decide +kernel
theorem dL_refuses_475 : decode cL_refuses 475 = .ok (.invokestatic 203, 3) := by decide +kernel
theorem dL_refuses_478 : decode cL_refuses 478 = .ok (.sipush (-1002), 3) := by decide +kernel
theorem dL_refuses_481 : decode cL_refuses 481 = .ok (.if_icmp .ne 42, 3) := by decide +kernel
theorem dL_refuses_484 : decode cL_refuses 484 = .ok (.aload_n 0, 1) := by decide +kernel
theorem dL_refuses_485 : decode cL_refuses 485 = .ok (.iconst 2, 1) := by decide +kernel
theorem dL_refuses_486 : decode cL_refuses 486 = .ok (.invokestatic 207, 3) := by decide +kernel
theorem dL_refuses_489 : decode cL_refuses 489 = .ok (.sipush (-1001), 3) := by decide +kernel
theorem dL_refuses_492 : decode cL_refuses 492 = .ok (.if_icmp .ne 31, 3) := by decide +kernel
theorem dL_refuses_495 : decode cL_refuses 495 = .ok (.aload_n 0, 1) := by decide +kernel
theorem dL_refuses_496 : decode cL_refuses 496 = .ok (.iconst (-1), 1) := by decide +kernel
theorem dL_refuses_497 : decode cL_refuses 497 = .ok (.invokestatic 136, 3) := by decide +kernel
theorem dL_refuses_500 : decode cL_refuses 500 = .ok (.sipush (-1001), 3) := by decide +kernel
theorem dL_refuses_503 : decode cL_refuses 503 = .ok (.if_icmp .ne 20, 3) := by decide +kernel
theorem dL_refuses_506 : decode cL_refuses 506 = .ok (.aload_n 0, 1) := by decide +kernel
theorem dL_refuses_507 : decode cL_refuses 507 = .ok (.sipush 256, 3) := by decide +kernel
theorem dL_refuses_510 : decode cL_refuses 510 = .ok (.invokestatic 103, 3) := by decide +kernel
theorem dL_refuses_513 : decode cL_refuses 513 = .ok (.sipush (-1002), 3) := by decide +kernel
theorem dL_refuses_516 : decode cL_refuses 516 = .ok (.if_icmp .ne 7, 3) := by decide +kernel
theorem dL_refuses_519 : decode cL_refuses 519 = .ok (.iconst 1, 1) := by decide +kernel
theorem dL_refuses_520 : decode cL_refuses 520 = .ok (.goto 4, 3) := by decide +kernel
theorem dL_refuses_523 : decode cL_refuses 523 = .ok (.iconst 0, 1) := by decide +kernel
theorem dL_refuses_524 : decode cL_refuses 524 = .ok (.ireturn, 1) := by decide +kernel
theorem dL_turns_0 : decode cL_turns 0 = .ok (.iconst 1, 1) := by decide +kernel
theorem dL_turns_1 : decode cL_turns 1 = .ok (.iload_n 1, 1) := by decide +kernel
theorem dL_turns_2 : decode cL_turns 2 = .ok (.bipush 25, 2) := by decide +kernel
theorem dL_turns_4 : decode cL_turns 4 = .ok (.irem, 1) := by decide +kernel
theorem dL_turns_5 : decode cL_turns 5 = .ok (.iadd, 1) := by decide +kernel
theorem dL_turns_6 : decode cL_turns 6 = .ok (.istore_n 2, 1) := by decide +kernel
theorem dL_turns_7 : decode cL_turns 7 = .ok (.aload_n 0, 1) := by decide +kernel
theorem dL_turns_8 : decode cL_turns 8 = .ok (.iload_n 2, 1) := by decide +kernel
theorem dL_turns_9 : decode cL_turns 9 = .ok (.iconst 0, 1) := by decide +kernel
theorem dL_turns_10 : decode cL_turns 10 = .ok (.invokestatic 182, 3) := by decide +kernel
theorem dL_turns_13 : decode cL_turns 13 = .ok (.istore_n 3, 1) := by decide +kernel
theorem dL_turns_14 : decode cL_turns 14 = .ok (.aload_n 0, 1) := by decide +kernel
theorem dL_turns_15 : decode cL_turns 15 = .ok (.iload_n 2, 1) := by decide +kernel
theorem dL_turns_16 : decode cL_turns 16 = .ok (.iconst 1, 1) := by decide +kernel
theorem dL_turns_17 : decode cL_turns 17 = .ok (.invokestatic 182, 3) := by decide +kernel
theorem dL_turns_20 : decode cL_turns 20 = .ok (.istore 4, 2) := by decide +kernel
theorem dL_turns_22 : decode cL_turns 22 = .ok (.aload_n 0, 1) := by decide +kernel
theorem dL_turns_23 : decode cL_turns 23 = .ok (.iload_n 2, 1) := by decide +kernel
theorem dL_turns_24 : decode cL_turns 24 = .ok (.iconst 2, 1) := by decide +kernel
theorem dL_turns_25 : decode cL_turns 25 = .ok (.invokestatic 182, 3) := by decide +kernel
theorem dL_turns_28 : decode cL_turns 28 = .ok (.istore 5, 2) := by decide +kernel
theorem dL_turns_30 : decode cL_turns 30 = .ok (.aload_n 0, 1) := by decide +kernel
theorem dL_turns_31 : decode cL_turns 31 = .ok (.iconst 0, 1) := by decide +kernel
theorem dL_turns_32 : decode cL_turns 32 = .ok (.iconst 0, 1) := by decide +kernel
theorem dL_turns_33 : decode cL_turns 33 = .ok (.invokestatic 182, 3) := by decide +kernel
theorem dL_turns_36 : decode cL_turns 36 = .ok (.aload_n 0, 1) := by decide +kernel
theorem dL_turns_37 : decode cL_turns 37 = .ok (.iconst 5, 1) := by decide +kernel
theorem dL_turns_38 : decode cL_turns 38 = .ok (.invokestatic 130, 3) := by decide +kernel
theorem dL_turns_41 : decode cL_turns 41 = .ok (.if_icmp .ne 16, 3) := by decide +kernel
theorem dL_turns_44 : decode cL_turns 44 = .ok (.aload_n 0, 1) := by decide +kernel
theorem dL_turns_45 : decode cL_turns 45 = .ok (.iconst 0, 1) := by decide +kernel
theorem dL_turns_46 : decode cL_turns 46 = .ok (.iconst 2, 1) := by decide +kernel
theorem dL_turns_47 : decode cL_turns 47 = .ok (.invokestatic 182, 3) := by decide +kernel
theorem dL_turns_50 : decode cL_turns 50 = .ok (.ifCond .ne 7, 3) := by decide +kernel
theorem dL_turns_53 : decode cL_turns 53 = .ok (.iconst 1, 1) := by decide +kernel
theorem dL_turns_54 : decode cL_turns 54 = .ok (.goto 4, 3) := by decide +kernel
theorem dL_turns_57 : decode cL_turns 57 = .ok (.iconst 0, 1) := by decide +kernel
theorem dL_turns_58 : decode cL_turns 58 = .ok (.istore 6, 2) := by decide +kernel
theorem dL_turns_60 : decode cL_turns 60 = .ok (.iconst 0, 1) := by decide +kernel
theorem dL_turns_61 : decode cL_turns 61 = .ok (.istore 7, 2) := by decide +kernel
theorem dL_turns_63 : decode cL_turns 63 = .ok (.iload 7, 2) := by decide +kernel
theorem dL_turns_65 : decode cL_turns 65 = .ok (.iload_n 2, 1) := by decide +kernel
theorem dL_turns_66 : decode cL_turns 66 = .ok (.if_icmp .ge 459, 3) := by decide +kernel
theorem dL_turns_69 : decode cL_turns 69 = .ok (.iload 6, 2) := by decide +kernel
theorem dL_turns_71 : decode cL_turns 71 = .ok (.ifCond .eq 454, 3) := by decide +kernel
theorem dL_turns_74 : decode cL_turns 74 = .ok (.aload_n 0, 1) := by decide +kernel
theorem dL_turns_75 : decode cL_turns 75 = .ok (.bipush 8, 2) := by decide +kernel
theorem dL_turns_77 : decode cL_turns 77 = .ok (.invokestatic 130, 3) := by decide +kernel
theorem dL_turns_80 : decode cL_turns 80 = .ok (.istore 8, 2) := by decide +kernel
theorem dL_turns_82 : decode cL_turns 82 = .ok (.aload_n 0, 1) := by decide +kernel
theorem dL_turns_83 : decode cL_turns 83 = .ok (.iconst 5, 1) := by decide +kernel
theorem dL_turns_84 : decode cL_turns 84 = .ok (.invokestatic 130, 3) := by decide +kernel
theorem dL_turns_87 : decode cL_turns 87 = .ok (.istore 9, 2) := by decide +kernel
theorem dL_turns_89 : decode cL_turns 89 = .ok (.aload_n 0, 1) := by decide +kernel
theorem dL_turns_90 : decode cL_turns 90 = .ok (.bipush 6, 2) := by decide +kernel
theorem dL_turns_92 : decode cL_turns 92 = .ok (.invokestatic 130, 3) := by decide +kernel
theorem dL_turns_95 : decode cL_turns 95 = .ok (.istore 10, 2) := by decide +kernel
theorem dL_turns_97 : decode cL_turns 97 = .ok (.aload_n 0, 1) := by decide +kernel
theorem dL_turns_98 : decode cL_turns 98 = .ok (.bipush 7, 2) := by decide +kernel
theorem dL_turns_100 : decode cL_turns 100 = .ok (.invokestatic 130, 3) := by decide +kernel
theorem dL_turns_103 : decode cL_turns 103 = .ok (.istore 11, 2) := by decide +kernel
theorem dL_turns_105 : decode cL_turns 105 = .ok (.aload_n 0, 1) := by decide +kernel
theorem dL_turns_106 : decode cL_turns 106 = .ok (.bipush 10, 2) := by decide +kernel
theorem dL_turns_108 : decode cL_turns 108 = .ok (.invokestatic 130, 3) := by decide +kernel
theorem dL_turns_111 : decode cL_turns 111 = .ok (.istore 12, 2) := by decide +kernel
theorem dL_turns_113 : decode cL_turns 113 = .ok (.sipush 1000, 3) := by decide +kernel
theorem dL_turns_116 : decode cL_turns 116 = .ok (.aload_n 0, 1) := by decide +kernel
theorem dL_turns_117 : decode cL_turns 117 = .ok (.iconst 1, 1) := by decide +kernel
theorem dL_turns_118 : decode cL_turns 118 = .ok (.invokestatic 130, 3) := by decide +kernel
theorem dL_turns_121 : decode cL_turns 121 = .ok (.imul, 1) := by decide +kernel
theorem dL_turns_122 : decode cL_turns 122 = .ok (.istore 13, 2) := by decide +kernel
theorem dL_turns_124 : decode cL_turns 124 = .ok (.iload 10, 2) := by decide +kernel
theorem dL_turns_126 : decode cL_turns 126 = .ok (.iload 11, 2) := by decide +kernel
theorem dL_turns_128 : decode cL_turns 128 = .ok (.ifCond .ne 7, 3) := by decide +kernel
theorem dL_turns_131 : decode cL_turns 131 = .ok (.iconst 0, 1) := by decide +kernel
theorem dL_turns_132 : decode cL_turns 132 = .ok (.goto 16, 3) := by decide +kernel
theorem dL_turns_135 : decode cL_turns 135 = .ok (.sipush 900, 3) := by decide +kernel
theorem dL_turns_138 : decode cL_turns 138 = .ok (.aload_n 0, 1) := by decide +kernel
theorem dL_turns_139 : decode cL_turns 139 = .ok (.aload_n 0, 1) := by decide +kernel
theorem dL_turns_140 : decode cL_turns 140 = .ok (.iconst 0, 1) := by decide +kernel
theorem dL_turns_141 : decode cL_turns 141 = .ok (.invokestatic 130, 3) := by decide +kernel
theorem dL_turns_144 : decode cL_turns 144 = .ok (.invokestatic 152, 3) := by decide +kernel
theorem dL_turns_147 : decode cL_turns 147 = .ok (.imul, 1) := by decide +kernel
theorem dL_turns_148 : decode cL_turns 148 = .ok (.iadd, 1) := by decide +kernel
theorem dL_turns_149 : decode cL_turns 149 = .ok (.istore 14, 2) := by decide +kernel
theorem dL_turns_151 : decode cL_turns 151 = .ok (.iload 14, 2) := by decide +kernel
theorem dL_turns_153 : decode cL_turns 153 = .ok (.ifCond .lt 11, 3) := by decide +kernel
theorem dL_turns_156 : decode cL_turns 156 = .ok (.iload 14, 2) := by decide +kernel
theorem dL_turns_158 : decode cL_turns 158 = .ok (.iload 13, 2) := by decide +kernel
theorem dL_turns_160 : decode cL_turns 160 = .ok (.idiv, 1) := by decide +kernel
theorem dL_turns_161 : decode cL_turns 161 = .ok (.goto 14, 3) := by decide +kernel
theorem dL_turns_164 : decode cL_turns 164 = .ok (.iload 13, 2) := by decide +kernel
theorem dL_turns_166 : decode cL_turns 166 = .ok (.iconst 1, 1) := by decide +kernel
theorem dL_turns_167 : decode cL_turns 167 = .ok (.isub, 1) := by decide +kernel
theorem dL_turns_168 : decode cL_turns 168 = .ok (.iload 14, 2) := by decide +kernel
theorem dL_turns_170 : decode cL_turns 170 = .ok (.isub, 1) := by decide +kernel
theorem dL_turns_171 : decode cL_turns 171 = .ok (.iload 13, 2) := by decide +kernel
theorem dL_turns_173 : decode cL_turns 173 = .ok (.idiv, 1) := by decide +kernel
theorem dL_turns_174 : decode cL_turns 174 = .ok (.ineg, 1) := by decide +kernel
theorem dL_turns_175 : decode cL_turns 175 = .ok (.istore 15, 2) := by decide +kernel
theorem dL_turns_177 : decode cL_turns 177 = .ok (.aload_n 0, 1) := by decide +kernel
theorem dL_turns_178 : decode cL_turns 178 = .ok (.iconst 1, 1) := by decide +kernel
theorem dL_turns_179 : decode cL_turns 179 = .ok (.invokestatic 155, 3) := by decide +kernel
theorem dL_turns_182 : decode cL_turns 182 = .ok (.istore 16, 2) := by decide +kernel
theorem dL_turns_184 : decode cL_turns 184 = .ok (.iconst 0, 1) := by decide +kernel
theorem dL_turns_185 : decode cL_turns 185 = .ok (.istore 17, 2) := by decide +kernel
theorem dL_turns_187 : decode cL_turns 187 = .ok (.iconst 0, 1) := by decide +kernel
theorem dL_turns_188 : decode cL_turns 188 = .ok (.istore 18, 2) := by decide +kernel
theorem dL_turns_190 : decode cL_turns 190 = .ok (.iload 18, 2) := by decide +kernel
theorem dL_turns_192 : decode cL_turns 192 = .ok (.aload_n 0, 1) := by decide +kernel
theorem dL_turns_193 : decode cL_turns 193 = .ok (.bipush 9, 2) := by decide +kernel
theorem dL_turns_195 : decode cL_turns 195 = .ok (.invokestatic 130, 3) := by decide +kernel
theorem dL_turns_198 : decode cL_turns 198 = .ok (.if_icmp .ge 88, 3) := by decide +kernel
theorem dL_turns_201 : decode cL_turns 201 = .ok (.aload_n 0, 1) := by decide +kernel
theorem dL_turns_202 : decode cL_turns 202 = .ok (.iload 18, 2) := by decide +kernel
theorem dL_turns_204 : decode cL_turns 204 = .ok (.iconst 0, 1) := by decide +kernel
theorem dL_turns_205 : decode cL_turns 205 = .ok (.invokestatic 139, 3) := by decide +kernel
theorem dL_turns_208 : decode cL_turns 208 = .ok (.iload 9, 2) := by decide +kernel
theorem dL_turns_210 : decode cL_turns 210 = .ok (.isub, 1) := by decide +kernel
theorem dL_turns_211 : decode cL_turns 211 = .ok (.sipush 10800, 3) := by decide +kernel
theorem dL_turns_214 : decode cL_turns 214 = .ok (.iadd, 1) := by decide +kernel
theorem dL_turns_215 : decode cL_turns 215 = .ok (.sipush 10800, 3) := by decide +kernel
theorem dL_turns_218 : decode cL_turns 218 = .ok (.irem, 1) := by decide +kernel
theorem dL_turns_219 : decode cL_turns 219 = .ok (.istore 19, 2) := by decide +kernel
theorem dL_turns_221 : decode cL_turns 221 = .ok (.iload 17, 2) := by decide +kernel
theorem dL_turns_223 : decode cL_turns 223 = .ok (.aload_n 0, 1) := by decide +kernel
theorem dL_turns_224 : decode cL_turns 224 = .ok (.iload 18, 2) := by decide +kernel
theorem dL_turns_226 : decode cL_turns 226 = .ok (.iconst 1, 1) := by decide +kernel
theorem dL_turns_227 : decode cL_turns 227 = .ok (.invokestatic 139, 3) := by decide +kernel
theorem dL_turns_230 : decode cL_turns 230 = .ok (.ifCond .ne 46, 3) := by decide +kernel
theorem dL_turns_233 : decode cL_turns 233 = .ok (.iload 15, 2) := by decide +kernel
theorem dL_turns_235 : decode cL_turns 235 = .ok (.ifCond .le 15, 3) := by decide +kernel
theorem dL_turns_238 : decode cL_turns 238 = .ok (.iload 19, 2) := by decide +kernel
theorem dL_turns_240 : decode cL_turns 240 = .ok (.ifCond .le 10, 3) := by decide +kernel
theorem dL_turns_243 : decode cL_turns 243 = .ok (.iload 19, 2) := by decide +kernel
theorem dL_turns_245 : decode cL_turns 245 = .ok (.iload 15, 2) := by decide +kernel
theorem dL_turns_247 : decode cL_turns 247 = .ok (.if_icmp .le 25, 3) := by decide +kernel
theorem dL_turns_250 : decode cL_turns 250 = .ok (.iload 15, 2) := by decide +kernel
theorem dL_turns_252 : decode cL_turns 252 = .ok (.ifCond .ge 24, 3) := by decide +kernel
theorem dL_turns_255 : decode cL_turns 255 = .ok (.iload 19, 2) := by decide +kernel
theorem dL_turns_257 : decode cL_turns 257 = .ok (.ifCond .le 19, 3) := by decide +kernel
theorem dL_turns_260 : decode cL_turns 260 = .ok (.sipush 10800, 3) := by decide +kernel
theorem dL_turns_263 : decode cL_turns 263 = .ok (.iload 19, 2) := by decide +kernel
theorem dL_turns_265 : decode cL_turns 265 = .ok (.isub, 1) := by decide +kernel
theorem dL_turns_266 : decode cL_turns 266 = .ok (.iload 15, 2) := by decide +kernel
theorem dL_turns_268 : decode cL_turns 268 = .ok (.ineg, 1) := by decide +kernel
theorem dL_turns_269 : decode cL_turns 269 = .ok (.if_icmp .gt 7, 3) := by decide +kernel
theorem dL_turns_272 : decode cL_turns 272 = .ok (.iconst 1, 1) := by decide +kernel
theorem dL_turns_273 : decode cL_turns 273 = .ok (.goto 4, 3) := by decide +kernel
theorem dL_turns_276 : decode cL_turns 276 = .ok (.iconst 0, 1) := by decide +kernel
theorem dL_turns_277 : decode cL_turns 277 = .ok (.iadd, 1) := by decide +kernel
theorem dL_turns_278 : decode cL_turns 278 = .ok (.istore 17, 2) := by decide +kernel
theorem dL_turns_280 : decode cL_turns 280 = .ok (.iinc 18 1, 3) := by decide +kernel
theorem dL_turns_283 : decode cL_turns 283 = .ok (.goto (-93), 3) := by decide +kernel
theorem dL_turns_286 : decode cL_turns 286 = .ok (.iload 11, 2) := by decide +kernel
theorem dL_turns_288 : decode cL_turns 288 = .ok (.bipush 50, 2) := by decide +kernel
theorem dL_turns_290 : decode cL_turns 290 = .ok (.iload 16, 2) := by decide +kernel
theorem dL_turns_292 : decode cL_turns 292 = .ok (.imul, 1) := by decide +kernel
theorem dL_turns_293 : decode cL_turns 293 = .ok (.isub, 1) := by decide +kernel
theorem dL_turns_294 : decode cL_turns 294 = .ok (.ifCond .ge 7, 3) := by decide +kernel
theorem dL_turns_297 : decode cL_turns 297 = .ok (.iconst 0, 1) := by decide +kernel
theorem dL_turns_298 : decode cL_turns 298 = .ok (.goto 11, 3) := by decide +kernel
theorem dL_turns_301 : decode cL_turns 301 = .ok (.iload 11, 2) := by decide +kernel
theorem dL_turns_303 : decode cL_turns 303 = .ok (.bipush 50, 2) := by decide +kernel
theorem dL_turns_305 : decode cL_turns 305 = .ok (.iload 16, 2) := by decide +kernel
theorem dL_turns_307 : decode cL_turns 307 = .ok (.imul, 1) := by decide +kernel
theorem dL_turns_308 : decode cL_turns 308 = .ok (.isub, 1) := by decide +kernel
theorem dL_turns_309 : decode cL_turns 309 = .ok (.istore 18, 2) := by decide +kernel
theorem dL_turns_311 : decode cL_turns 311 = .ok (.iload 18, 2) := by decide +kernel
theorem dL_turns_313 : decode cL_turns 313 = .ok (.iload 18, 2) := by decide +kernel
theorem dL_turns_315 : decode cL_turns 315 = .ok (.aload_n 0, 1) := by decide +kernel
theorem dL_turns_316 : decode cL_turns 316 = .ok (.iconst 2, 1) := by decide +kernel
theorem dL_turns_317 : decode cL_turns 317 = .ok (.invokestatic 130, 3) := by decide +kernel
theorem dL_turns_320 : decode cL_turns 320 = .ok (.imul, 1) := by decide +kernel
theorem dL_turns_321 : decode cL_turns 321 = .ok (.sipush 10000, 3) := by decide +kernel
theorem dL_turns_324 : decode cL_turns 324 = .ok (.idiv, 1) := by decide +kernel
theorem dL_turns_325 : decode cL_turns 325 = .ok (.iconst 1, 1) := by decide +kernel
theorem dL_turns_326 : decode cL_turns 326 = .ok (.iadd, 1) := by decide +kernel
theorem dL_turns_327 : decode cL_turns 327 = .ok (.isub, 1) := by decide +kernel
theorem dL_turns_328 : decode cL_turns 328 = .ok (.istore 19, 2) := by decide +kernel
theorem dL_turns_330 : decode cL_turns 330 = .ok (.iload 19, 2) := by decide +kernel
theorem dL_turns_332 : decode cL_turns 332 = .ok (.ifCond .ge 7, 3) := by decide +kernel
theorem dL_turns_335 : decode cL_turns 335 = .ok (.iconst 0, 1) := by decide +kernel
theorem dL_turns_336 : decode cL_turns 336 = .ok (.goto 5, 3) := by decide +kernel
theorem dL_turns_339 : decode cL_turns 339 = .ok (.iload 19, 2) := by decide +kernel
theorem dL_turns_341 : decode cL_turns 341 = .ok (.aload_n 0, 1) := by decide +kernel
theorem dL_turns_342 : decode cL_turns 342 = .ok (.iconst 4, 1) := by decide +kernel
theorem dL_turns_343 : decode cL_turns 343 = .ok (.invokestatic 130, 3) := by decide +kernel
theorem dL_turns_346 : decode cL_turns 346 = .ok (.iadd, 1) := by decide +kernel
theorem dL_turns_347 : decode cL_turns 347 = .ok (.istore 19, 2) := by decide +kernel
theorem dL_turns_349 : decode cL_turns 349 = .ok (.iload 11, 2) := by decide +kernel
theorem dL_turns_351 : decode cL_turns 351 = .ok (.ifCond .ne 7, 3) := by decide +kernel
theorem dL_turns_354 : decode cL_turns 354 = .ok (.iconst 0, 1) := by decide +kernel
theorem dL_turns_355 : decode cL_turns 355 = .ok (.goto 19, 3) := by decide +kernel
theorem dL_turns_358 : decode cL_turns 358 = .ok (.iload 19, 2) := by decide +kernel
theorem dL_turns_360 : decode cL_turns 360 = .ok (.sipush 9999, 3) := by decide +kernel
theorem dL_turns_363 : decode cL_turns 363 = .ok (.if_icmp .le 9, 3) := by decide +kernel
theorem dL_turns_366 : decode cL_turns 366 = .ok (.sipush 9999, 3) := by decide +kernel
theorem dL_turns_369 : decode cL_turns 369 = .ok (.goto 5, 3) := by decide +kernel
theorem dL_turns_372 : decode cL_turns 372 = .ok (.iload 19, 2) := by decide +kernel
theorem dL_turns_374 : decode cL_turns 374 = .ok (.istore 19, 2) := by decide +kernel
theorem dL_turns_376 : decode cL_turns 376 = .ok (.aload_n 0, 1) := by decide +kernel
theorem dL_turns_377 : decode cL_turns 377 = .ok (.bipush 8, 2) := by decide +kernel
theorem dL_turns_379 : decode cL_turns 379 = .ok (.invokestatic 130, 3) := by decide +kernel
theorem dL_turns_382 : decode cL_turns 382 = .ok (.iload 8, 2) := by decide +kernel
theorem dL_turns_384 : decode cL_turns 384 = .ok (.iconst 1, 1) := by decide +kernel
theorem dL_turns_385 : decode cL_turns 385 = .ok (.iadd, 1) := by decide +kernel
theorem dL_turns_386 : decode cL_turns 386 = .ok (.if_icmp .ne 123, 3) := by decide +kernel
theorem dL_turns_389 : decode cL_turns 389 = .ok (.aload_n 0, 1) := by decide +kernel
theorem dL_turns_390 : decode cL_turns 390 = .ok (.iconst 5, 1) := by decide +kernel
theorem dL_turns_391 : decode cL_turns 391 = .ok (.invokestatic 130, 3) := by decide +kernel
theorem dL_turns_394 : decode cL_turns 394 = .ok (.iload 9, 2) := by decide +kernel
theorem dL_turns_396 : decode cL_turns 396 = .ok (.iload 15, 2) := by decide +kernel
theorem dL_turns_398 : decode cL_turns 398 = .ok (.iadd, 1) := by decide +kernel
theorem dL_turns_399 : decode cL_turns 399 = .ok (.sipush 10800, 3) := by decide +kernel
theorem dL_turns_402 : decode cL_turns 402 = .ok (.irem, 1) := by decide +kernel
theorem dL_turns_403 : decode cL_turns 403 = .ok (.sipush 10800, 3) := by decide +kernel
theorem dL_turns_406 : decode cL_turns 406 = .ok (.iadd, 1) := by decide +kernel
theorem dL_turns_407 : decode cL_turns 407 = .ok (.sipush 10800, 3) := by decide +kernel
theorem dL_turns_410 : decode cL_turns 410 = .ok (.irem, 1) := by decide +kernel
theorem dL_turns_411 : decode cL_turns 411 = .ok (.if_icmp .ne 98, 3) := by decide +kernel
theorem dL_turns_414 : decode cL_turns 414 = .ok (.aload_n 0, 1) := by decide +kernel
theorem dL_turns_415 : decode cL_turns 415 = .ok (.bipush 6, 2) := by decide +kernel
theorem dL_turns_417 : decode cL_turns 417 = .ok (.invokestatic 130, 3) := by decide +kernel
theorem dL_turns_420 : decode cL_turns 420 = .ok (.iload 14, 2) := by decide +kernel
theorem dL_turns_422 : decode cL_turns 422 = .ok (.iload 15, 2) := by decide +kernel
theorem dL_turns_424 : decode cL_turns 424 = .ok (.iload 13, 2) := by decide +kernel
theorem dL_turns_426 : decode cL_turns 426 = .ok (.imul, 1) := by decide +kernel
theorem dL_turns_427 : decode cL_turns 427 = .ok (.isub, 1) := by decide +kernel
theorem dL_turns_428 : decode cL_turns 428 = .ok (.if_icmp .ne 81, 3) := by decide +kernel
theorem dL_turns_431 : decode cL_turns 431 = .ok (.aload_n 0, 1) := by decide +kernel
theorem dL_turns_432 : decode cL_turns 432 = .ok (.bipush 7, 2) := by decide +kernel
theorem dL_turns_434 : decode cL_turns 434 = .ok (.invokestatic 130, 3) := by decide +kernel
theorem dL_turns_437 : decode cL_turns 437 = .ok (.iload 19, 2) := by decide +kernel
theorem dL_turns_439 : decode cL_turns 439 = .ok (.if_icmp .ne 70, 3) := by decide +kernel
theorem dL_turns_442 : decode cL_turns 442 = .ok (.aload_n 0, 1) := by decide +kernel
theorem dL_turns_443 : decode cL_turns 443 = .ok (.bipush 10, 2) := by decide +kernel
theorem dL_turns_445 : decode cL_turns 445 = .ok (.invokestatic 130, 3) := by decide +kernel
theorem dL_turns_448 : decode cL_turns 448 = .ok (.iload 12, 2) := by decide +kernel
theorem dL_turns_450 : decode cL_turns 450 = .ok (.iload 16, 2) := by decide +kernel
theorem dL_turns_452 : decode cL_turns 452 = .ok (.isub, 1) := by decide +kernel
theorem dL_turns_453 : decode cL_turns 453 = .ok (.if_icmp .ne 56, 3) := by decide +kernel
theorem dL_turns_456 : decode cL_turns 456 = .ok (.iload 16, 2) := by decide +kernel
theorem dL_turns_458 : decode cL_turns 458 = .ok (.ifCond .lt 51, 3) := by decide +kernel
theorem dL_turns_461 : decode cL_turns 461 = .ok (.iload 16, 2) := by decide +kernel
theorem dL_turns_463 : decode cL_turns 463 = .ok (.iload 17, 2) := by decide +kernel
theorem dL_turns_465 : decode cL_turns 465 = .ok (.if_icmp .gt 44, 3) := by decide +kernel
theorem dL_turns_468 : decode cL_turns 468 = .ok (.iload 16, 2) := by decide +kernel
theorem dL_turns_470 : decode cL_turns 470 = .ok (.ifCond .eq 35, 3) := by decide +kernel
theorem dL_turns_473 : decode cL_turns 473 = .ok (.iload 11, 2) := by decide +kernel
theorem dL_turns_475 : decode cL_turns 475 = .ok (.aload_n 0, 1) := by decide +kernel
theorem dL_turns_476 : decode cL_turns 476 = .ok (.iconst 3, 1) := by decide +kernel
theorem dL_turns_477 : decode cL_turns 477 = .ok (.invokestatic 130, 3) := by decide +kernel
theorem dL_turns_480 : decode cL_turns 480 = .ok (.if_icmp .lt 29, 3) := by decide +kernel
theorem dL_turns_483 : decode cL_turns 483 = .ok (.aload_n 0, 1) := by decide +kernel
theorem dL_turns_484 : decode cL_turns 484 = .ok (.iconst 0, 1) := by decide +kernel
theorem dL_turns_485 : decode cL_turns 485 = .ok (.iconst 1, 1) := by decide +kernel
theorem dL_turns_486 : decode cL_turns 486 = .ok (.invokestatic 143, 3) := by decide +kernel
theorem dL_turns_489 : decode cL_turns 489 = .ok (.iload 8, 2) := by decide +kernel
theorem dL_turns_491 : decode cL_turns 491 = .ok (.if_icmp .ne 18, 3) := by decide +kernel
theorem dL_turns_494 : decode cL_turns 494 = .ok (.aload_n 0, 1) := by decide +kernel
theorem dL_turns_495 : decode cL_turns 495 = .ok (.iconst 0, 1) := by decide +kernel
theorem dL_turns_496 : decode cL_turns 496 = .ok (.iconst 2, 1) := by decide +kernel
theorem dL_turns_497 : decode cL_turns 497 = .ok (.invokestatic 143, 3) := by decide +kernel
theorem dL_turns_500 : decode cL_turns 500 = .ok (.iload 18, 2) := by decide +kernel
theorem dL_turns_502 : decode cL_turns 502 = .ok (.if_icmp .ne 7, 3) := by decide +kernel
theorem dL_turns_505 : decode cL_turns 505 = .ok (.iconst 1, 1) := by decide +kernel
theorem dL_turns_506 : decode cL_turns 506 = .ok (.goto 4, 3) := by decide +kernel
theorem dL_turns_509 : decode cL_turns 509 = .ok (.iconst 0, 1) := by decide +kernel
theorem dL_turns_510 : decode cL_turns 510 = .ok (.istore 6, 2) := by decide +kernel
theorem dL_turns_512 : decode cL_turns 512 = .ok (.iload 5, 2) := by decide +kernel
theorem dL_turns_514 : decode cL_turns 514 = .ok (.iload 16, 2) := by decide +kernel
theorem dL_turns_516 : decode cL_turns 516 = .ok (.isub, 1) := by decide +kernel
theorem dL_turns_517 : decode cL_turns 517 = .ok (.istore 5, 2) := by decide +kernel
theorem dL_turns_519 : decode cL_turns 519 = .ok (.iinc 7 1, 3) := by decide +kernel
theorem dL_turns_522 : decode cL_turns 522 = .ok (.goto (-459), 3) := by decide +kernel
theorem dL_turns_525 : decode cL_turns 525 = .ok (.iload 6, 2) := by decide +kernel
theorem dL_turns_527 : decode cL_turns 527 = .ok (.ifCond .eq 32, 3) := by decide +kernel
theorem dL_turns_530 : decode cL_turns 530 = .ok (.aload_n 0, 1) := by decide +kernel
theorem dL_turns_531 : decode cL_turns 531 = .ok (.iconst 5, 1) := by decide +kernel
theorem dL_turns_532 : decode cL_turns 532 = .ok (.invokestatic 130, 3) := by decide +kernel
theorem dL_turns_535 : decode cL_turns 535 = .ok (.iload_n 3, 1) := by decide +kernel
theorem dL_turns_536 : decode cL_turns 536 = .ok (.if_icmp .ne 23, 3) := by decide +kernel
theorem dL_turns_539 : decode cL_turns 539 = .ok (.aload_n 0, 1) := by decide +kernel
theorem dL_turns_540 : decode cL_turns 540 = .ok (.bipush 7, 2) := by decide +kernel
theorem dL_turns_542 : decode cL_turns 542 = .ok (.invokestatic 130, 3) := by decide +kernel
theorem dL_turns_545 : decode cL_turns 545 = .ok (.iload 4, 2) := by decide +kernel
theorem dL_turns_547 : decode cL_turns 547 = .ok (.if_icmp .ne 12, 3) := by decide +kernel
theorem dL_turns_550 : decode cL_turns 550 = .ok (.iload 5, 2) := by decide +kernel
theorem dL_turns_552 : decode cL_turns 552 = .ok (.ifCond .ne 7, 3) := by decide +kernel
theorem dL_turns_555 : decode cL_turns 555 = .ok (.iconst 1, 1) := by decide +kernel
theorem dL_turns_556 : decode cL_turns 556 = .ok (.goto 4, 3) := by decide +kernel
theorem dL_turns_559 : decode cL_turns 559 = .ok (.iconst 0, 1) := by decide +kernel
theorem dL_turns_560 : decode cL_turns 560 = .ok (.ireturn, 1) := by decide +kernel
theorem dL_hands_0 : decode cL_hands 0 = .ok (.aload_n 0, 1) := by decide +kernel
theorem dL_hands_1 : decode cL_hands 1 = .ok (.bipush 8, 2) := by decide +kernel
theorem dL_hands_3 : decode cL_hands 3 = .ok (.invokestatic 130, 3) := by decide +kernel
theorem dL_hands_6 : decode cL_hands 6 = .ok (.istore_n 2, 1) := by decide +kernel
theorem dL_hands_7 : decode cL_hands 7 = .ok (.aload_n 0, 1) := by decide +kernel
theorem dL_hands_8 : decode cL_hands 8 = .ok (.iconst 5, 1) := by decide +kernel
theorem dL_hands_9 : decode cL_hands 9 = .ok (.invokestatic 130, 3) := by decide +kernel
theorem dL_hands_12 : decode cL_hands 12 = .ok (.istore_n 3, 1) := by decide +kernel
theorem dL_hands_13 : decode cL_hands 13 = .ok (.aload_n 0, 1) := by decide +kernel
theorem dL_hands_14 : decode cL_hands 14 = .ok (.bipush 7, 2) := by decide +kernel
theorem dL_hands_16 : decode cL_hands 16 = .ok (.invokestatic 130, 3) := by decide +kernel
theorem dL_hands_19 : decode cL_hands 19 = .ok (.istore 4, 2) := by decide +kernel
theorem dL_hands_21 : decode cL_hands 21 = .ok (.aload_n 0, 1) := by decide +kernel
theorem dL_hands_22 : decode cL_hands 22 = .ok (.bipush 9, 2) := by decide +kernel
theorem dL_hands_24 : decode cL_hands 24 = .ok (.invokestatic 130, 3) := by decide +kernel
theorem dL_hands_27 : decode cL_hands 27 = .ok (.istore 5, 2) := by decide +kernel
theorem dL_hands_29 : decode cL_hands 29 = .ok (.aload_n 0, 1) := by decide +kernel
theorem dL_hands_30 : decode cL_hands 30 = .ok (.bipush 10, 2) := by decide +kernel
theorem dL_hands_32 : decode cL_hands 32 = .ok (.invokestatic 130, 3) := by decide +kernel
theorem dL_hands_35 : decode cL_hands 35 = .ok (.istore 6, 2) := by decide +kernel
theorem dL_hands_37 : decode cL_hands 37 = .ok (.aload_n 0, 1) := by decide +kernel
theorem dL_hands_38 : decode cL_hands 38 = .ok (.bipush 12, 2) := by decide +kernel
theorem dL_hands_40 : decode cL_hands 40 = .ok (.invokestatic 130, 3) := by decide +kernel
theorem dL_hands_43 : decode cL_hands 43 = .ok (.istore 7, 2) := by decide +kernel
theorem dL_hands_45 : decode cL_hands 45 = .ok (.aload_n 0, 1) := by decide +kernel
theorem dL_hands_46 : decode cL_hands 46 = .ok (.iconst 0, 1) := by decide +kernel
theorem dL_hands_47 : decode cL_hands 47 = .ok (.invokestatic 207, 3) := by decide +kernel
theorem dL_hands_50 : decode cL_hands 50 = .ok (.iload_n 2, 1) := by decide +kernel
theorem dL_hands_51 : decode cL_hands 51 = .ok (.if_icmp .ne 7, 3) := by decide +kernel
theorem dL_hands_54 : decode cL_hands 54 = .ok (.iconst 1, 1) := by decide +kernel
theorem dL_hands_55 : decode cL_hands 55 = .ok (.goto 4, 3) := by decide +kernel
theorem dL_hands_58 : decode cL_hands 58 = .ok (.iconst 0, 1) := by decide +kernel
theorem dL_hands_59 : decode cL_hands 59 = .ok (.istore 8, 2) := by decide +kernel
theorem dL_hands_61 : decode cL_hands 61 = .ok (.iload_n 1, 1) := by decide +kernel
theorem dL_hands_62 : decode cL_hands 62 = .ok (.sipush 1201, 3) := by decide +kernel
theorem dL_hands_65 : decode cL_hands 65 = .ok (.irem, 1) := by decide +kernel
theorem dL_hands_66 : decode cL_hands 66 = .ok (.sipush 600, 3) := by decide +kernel
theorem dL_hands_69 : decode cL_hands 69 = .ok (.isub, 1) := by decide +kernel
theorem dL_hands_70 : decode cL_hands 70 = .ok (.istore 9, 2) := by decide +kernel
theorem dL_hands_72 : decode cL_hands 72 = .ok (.iload 9, 2) := by decide +kernel
theorem dL_hands_74 : decode cL_hands 74 = .ok (.ifCond .ge 11, 3) := by decide +kernel
theorem dL_hands_77 : decode cL_hands 77 = .ok (.bipush (-2), 2) := by decide +kernel
theorem dL_hands_79 : decode cL_hands 79 = .ok (.iload 9, 2) := by decide +kernel
theorem dL_hands_81 : decode cL_hands 81 = .ok (.imul, 1) := by decide +kernel
theorem dL_hands_82 : decode cL_hands 82 = .ok (.goto 7, 3) := by decide +kernel
theorem dL_hands_85 : decode cL_hands 85 = .ok (.iconst 2, 1) := by decide +kernel
theorem dL_hands_86 : decode cL_hands 86 = .ok (.iload 9, 2) := by decide +kernel
theorem dL_hands_88 : decode cL_hands 88 = .ok (.imul, 1) := by decide +kernel
theorem dL_hands_89 : decode cL_hands 89 = .ok (.istore 10, 2) := by decide +kernel
theorem dL_hands_91 : decode cL_hands 91 = .ok (.iload 8, 2) := by decide +kernel
theorem dL_hands_93 : decode cL_hands 93 = .ok (.ifCond .eq 97, 3) := by decide +kernel
theorem dL_hands_96 : decode cL_hands 96 = .ok (.aload_n 0, 1) := by decide +kernel
theorem dL_hands_97 : decode cL_hands 97 = .ok (.iload 9, 2) := by decide +kernel
theorem dL_hands_99 : decode cL_hands 99 = .ok (.invokestatic 164, 3) := by decide +kernel
theorem dL_hands_102 : decode cL_hands 102 = .ok (.iload_n 3, 1) := by decide +kernel
theorem dL_hands_103 : decode cL_hands 103 = .ok (.iload 9, 2) := by decide +kernel
theorem dL_hands_105 : decode cL_hands 105 = .ok (.iadd, 1) := by decide +kernel
theorem dL_hands_106 : decode cL_hands 106 = .ok (.sipush 10800, 3) := by decide +kernel
theorem dL_hands_109 : decode cL_hands 109 = .ok (.irem, 1) := by decide +kernel
theorem dL_hands_110 : decode cL_hands 110 = .ok (.sipush 10800, 3) := by decide +kernel
theorem dL_hands_113 : decode cL_hands 113 = .ok (.iadd, 1) := by decide +kernel
theorem dL_hands_114 : decode cL_hands 114 = .ok (.sipush 10800, 3) := by decide +kernel
theorem dL_hands_117 : decode cL_hands 117 = .ok (.irem, 1) := by decide +kernel
theorem dL_hands_118 : decode cL_hands 118 = .ok (.if_icmp .ne 72, 3) := by decide +kernel
theorem dL_hands_121 : decode cL_hands 121 = .ok (.aload_n 0, 1) := by decide +kernel
theorem dL_hands_122 : decode cL_hands 122 = .ok (.bipush 7, 2) := by decide +kernel
theorem dL_hands_124 : decode cL_hands 124 = .ok (.invokestatic 130, 3) := by decide +kernel
theorem dL_hands_127 : decode cL_hands 127 = .ok (.iload 4, 2) := by decide +kernel
theorem dL_hands_129 : decode cL_hands 129 = .ok (.iload 10, 2) := by decide +kernel
theorem dL_hands_131 : decode cL_hands 131 = .ok (.if_icmp .le 11, 3) := by decide +kernel
theorem dL_hands_134 : decode cL_hands 134 = .ok (.iload 4, 2) := by decide +kernel
theorem dL_hands_136 : decode cL_hands 136 = .ok (.iload 10, 2) := by decide +kernel
theorem dL_hands_138 : decode cL_hands 138 = .ok (.isub, 1) := by decide +kernel
theorem dL_hands_139 : decode cL_hands 139 = .ok (.goto 4, 3) := by decide +kernel
theorem dL_hands_142 : decode cL_hands 142 = .ok (.iconst 0, 1) := by decide +kernel
theorem dL_hands_143 : decode cL_hands 143 = .ok (.if_icmp .ne 47, 3) := by decide +kernel
theorem dL_hands_146 : decode cL_hands 146 = .ok (.aload_n 0, 1) := by decide +kernel
theorem dL_hands_147 : decode cL_hands 147 = .ok (.bipush 6, 2) := by decide +kernel
theorem dL_hands_149 : decode cL_hands 149 = .ok (.invokestatic 130, 3) := by decide +kernel
theorem dL_hands_152 : decode cL_hands 152 = .ok (.ifCond .ne 38, 3) := by decide +kernel
theorem dL_hands_155 : decode cL_hands 155 = .ok (.aload_n 0, 1) := by decide +kernel
theorem dL_hands_156 : decode cL_hands 156 = .ok (.bipush 10, 2) := by decide +kernel
theorem dL_hands_158 : decode cL_hands 158 = .ok (.invokestatic 130, 3) := by decide +kernel
theorem dL_hands_161 : decode cL_hands 161 = .ok (.iload 6, 2) := by decide +kernel
theorem dL_hands_163 : decode cL_hands 163 = .ok (.if_icmp .ne 27, 3) := by decide +kernel
theorem dL_hands_166 : decode cL_hands 166 = .ok (.aload_n 0, 1) := by decide +kernel
theorem dL_hands_167 : decode cL_hands 167 = .ok (.iload 9, 2) := by decide +kernel
theorem dL_hands_169 : decode cL_hands 169 = .ok (.ineg, 1) := by decide +kernel
theorem dL_hands_170 : decode cL_hands 170 = .ok (.invokestatic 164, 3) := by decide +kernel
theorem dL_hands_173 : decode cL_hands 173 = .ok (.iload_n 3, 1) := by decide +kernel
theorem dL_hands_174 : decode cL_hands 174 = .ok (.if_icmp .ne 16, 3) := by decide +kernel
theorem dL_hands_177 : decode cL_hands 177 = .ok (.aload_n 0, 1) := by decide +kernel
theorem dL_hands_178 : decode cL_hands 178 = .ok (.iconst 0, 1) := by decide +kernel
theorem dL_hands_179 : decode cL_hands 179 = .ok (.invokestatic 136, 3) := by decide +kernel
theorem dL_hands_182 : decode cL_hands 182 = .ok (.iload_n 2, 1) := by decide +kernel
theorem dL_hands_183 : decode cL_hands 183 = .ok (.if_icmp .ne 7, 3) := by decide +kernel
theorem dL_hands_186 : decode cL_hands 186 = .ok (.iconst 1, 1) := by decide +kernel
theorem dL_hands_187 : decode cL_hands 187 = .ok (.goto 4, 3) := by decide +kernel
theorem dL_hands_190 : decode cL_hands 190 = .ok (.iconst 0, 1) := by decide +kernel
theorem dL_hands_191 : decode cL_hands 191 = .ok (.istore 8, 2) := by decide +kernel
theorem dL_hands_193 : decode cL_hands 193 = .ok (.iconst 1, 1) := by decide +kernel
theorem dL_hands_194 : decode cL_hands 194 = .ok (.iload_n 1, 1) := by decide +kernel
theorem dL_hands_195 : decode cL_hands 195 = .ok (.sipush 2048, 3) := by decide +kernel
theorem dL_hands_198 : decode cL_hands 198 = .ok (.idiv, 1) := by decide +kernel
theorem dL_hands_199 : decode cL_hands 199 = .ok (.sipush 9999, 3) := by decide +kernel
theorem dL_hands_202 : decode cL_hands 202 = .ok (.irem, 1) := by decide +kernel
theorem dL_hands_203 : decode cL_hands 203 = .ok (.iadd, 1) := by decide +kernel
theorem dL_hands_204 : decode cL_hands 204 = .ok (.istore 11, 2) := by decide +kernel
theorem dL_hands_206 : decode cL_hands 206 = .ok (.iload 4, 2) := by decide +kernel
theorem dL_hands_208 : decode cL_hands 208 = .ok (.iload 11, 2) := by decide +kernel
theorem dL_hands_210 : decode cL_hands 210 = .ok (.iadd, 1) := by decide +kernel
theorem dL_hands_211 : decode cL_hands 211 = .ok (.sipush 9999, 3) := by decide +kernel
theorem dL_hands_214 : decode cL_hands 214 = .ok (.if_icmp .le 9, 3) := by decide +kernel
theorem dL_hands_217 : decode cL_hands 217 = .ok (.sipush 9999, 3) := by decide +kernel
theorem dL_hands_220 : decode cL_hands 220 = .ok (.goto 8, 3) := by decide +kernel
theorem dL_hands_223 : decode cL_hands 223 = .ok (.iload 4, 2) := by decide +kernel
theorem dL_hands_225 : decode cL_hands 225 = .ok (.iload 11, 2) := by decide +kernel
theorem dL_hands_227 : decode cL_hands 227 = .ok (.iadd, 1) := by decide +kernel
theorem dL_hands_228 : decode cL_hands 228 = .ok (.istore 12, 2) := by decide +kernel
theorem dL_hands_230 : decode cL_hands 230 = .ok (.iload 8, 2) := by decide +kernel
theorem dL_hands_232 : decode cL_hands 232 = .ok (.ifCond .eq 77, 3) := by decide +kernel
theorem dL_hands_235 : decode cL_hands 235 = .ok (.aload_n 0, 1) := by decide +kernel
theorem dL_hands_236 : decode cL_hands 236 = .ok (.iload 11, 2) := by decide +kernel
theorem dL_hands_238 : decode cL_hands 238 = .ok (.invokestatic 161, 3) := by decide +kernel
theorem dL_hands_241 : decode cL_hands 241 = .ok (.iload 12, 2) := by decide +kernel
theorem dL_hands_243 : decode cL_hands 243 = .ok (.if_icmp .ne 66, 3) := by decide +kernel
theorem dL_hands_246 : decode cL_hands 246 = .ok (.aload_n 0, 1) := by decide +kernel
theorem dL_hands_247 : decode cL_hands 247 = .ok (.invokestatic 133, 3) := by decide +kernel
theorem dL_hands_250 : decode cL_hands 250 = .ok (.ifCond .ne 59, 3) := by decide +kernel
theorem dL_hands_253 : decode cL_hands 253 = .ok (.aload_n 0, 1) := by decide +kernel
theorem dL_hands_254 : decode cL_hands 254 = .ok (.bipush 7, 2) := by decide +kernel
theorem dL_hands_256 : decode cL_hands 256 = .ok (.invokestatic 130, 3) := by decide +kernel
theorem dL_hands_259 : decode cL_hands 259 = .ok (.iload 4, 2) := by decide +kernel
theorem dL_hands_261 : decode cL_hands 261 = .ok (.if_icmp .ne 48, 3) := by decide +kernel
theorem dL_hands_264 : decode cL_hands 264 = .ok (.aload_n 0, 1) := by decide +kernel
theorem dL_hands_265 : decode cL_hands 265 = .ok (.invokevirtual 210, 3) := by decide +kernel
theorem dL_hands_268 : decode cL_hands 268 = .ok (.iload 5, 2) := by decide +kernel
theorem dL_hands_270 : decode cL_hands 270 = .ok (.iload 6, 2) := by decide +kernel
theorem dL_hands_272 : decode cL_hands 272 = .ok (.isub, 1) := by decide +kernel
theorem dL_hands_273 : decode cL_hands 273 = .ok (.if_icmp .ne 36, 3) := by decide +kernel
theorem dL_hands_276 : decode cL_hands 276 = .ok (.aload_n 0, 1) := by decide +kernel
theorem dL_hands_277 : decode cL_hands 277 = .ok (.bipush 10, 2) := by decide +kernel
theorem dL_hands_279 : decode cL_hands 279 = .ok (.invokestatic 130, 3) := by decide +kernel
theorem dL_hands_282 : decode cL_hands 282 = .ok (.iload 5, 2) := by decide +kernel
theorem dL_hands_284 : decode cL_hands 284 = .ok (.if_icmp .ne 25, 3) := by decide +kernel
theorem dL_hands_287 : decode cL_hands 287 = .ok (.aload_n 0, 1) := by decide +kernel
theorem dL_hands_288 : decode cL_hands 288 = .ok (.invokestatic 133, 3) := by decide +kernel
theorem dL_hands_291 : decode cL_hands 291 = .ok (.ifCond .ne 18, 3) := by decide +kernel
theorem dL_hands_294 : decode cL_hands 294 = .ok (.aload_n 0, 1) := by decide +kernel
theorem dL_hands_295 : decode cL_hands 295 = .ok (.bipush 10, 2) := by decide +kernel
theorem dL_hands_297 : decode cL_hands 297 = .ok (.invokestatic 130, 3) := by decide +kernel
theorem dL_hands_300 : decode cL_hands 300 = .ok (.iload 6, 2) := by decide +kernel
theorem dL_hands_302 : decode cL_hands 302 = .ok (.if_icmp .ne 7, 3) := by decide +kernel
theorem dL_hands_305 : decode cL_hands 305 = .ok (.iconst 1, 1) := by decide +kernel
theorem dL_hands_306 : decode cL_hands 306 = .ok (.goto 4, 3) := by decide +kernel
theorem dL_hands_309 : decode cL_hands 309 = .ok (.iconst 0, 1) := by decide +kernel
theorem dL_hands_310 : decode cL_hands 310 = .ok (.istore 8, 2) := by decide +kernel
theorem dL_hands_312 : decode cL_hands 312 = .ok (.iload 5, 2) := by decide +kernel
theorem dL_hands_314 : decode cL_hands 314 = .ok (.ifCond .le 217, 3) := by decide +kernel
theorem dL_hands_317 : decode cL_hands 317 = .ok (.iload 8, 2) := by decide +kernel
theorem dL_hands_319 : decode cL_hands 319 = .ok (.ifCond .eq 212, 3) := by decide +kernel
theorem dL_hands_322 : decode cL_hands 322 = .ok (.iload_n 1, 1) := by decide +kernel
theorem dL_hands_323 : decode cL_hands 323 = .ok (.iconst 4, 1) := by decide +kernel
theorem dL_hands_324 : decode cL_hands 324 = .ok (.idiv, 1) := by decide +kernel
theorem dL_hands_325 : decode cL_hands 325 = .ok (.iload 5, 2) := by decide +kernel
theorem dL_hands_327 : decode cL_hands 327 = .ok (.irem, 1) := by decide +kernel
theorem dL_hands_328 : decode cL_hands 328 = .ok (.istore 13, 2) := by decide +kernel
theorem dL_hands_330 : decode cL_hands 330 = .ok (.aload_n 0, 1) := by decide +kernel
theorem dL_hands_331 : decode cL_hands 331 = .ok (.iload 13, 2) := by decide +kernel
theorem dL_hands_333 : decode cL_hands 333 = .ok (.iconst 0, 1) := by decide +kernel
theorem dL_hands_334 : decode cL_hands 334 = .ok (.invokestatic 139, 3) := by decide +kernel
theorem dL_hands_337 : decode cL_hands 337 = .ok (.istore 14, 2) := by decide +kernel
theorem dL_hands_339 : decode cL_hands 339 = .ok (.aload_n 0, 1) := by decide +kernel
theorem dL_hands_340 : decode cL_hands 340 = .ok (.iload 13, 2) := by decide +kernel
theorem dL_hands_342 : decode cL_hands 342 = .ok (.invokestatic 185, 3) := by decide +kernel
theorem dL_hands_345 : decode cL_hands 345 = .ok (.istore 15, 2) := by decide +kernel
theorem dL_hands_347 : decode cL_hands 347 = .ok (.iload 15, 2) := by decide +kernel
theorem dL_hands_349 : decode cL_hands 349 = .ok (.ifCond .ne 7, 3) := by decide +kernel
theorem dL_hands_352 : decode cL_hands 352 = .ok (.iconst 1, 1) := by decide +kernel
theorem dL_hands_353 : decode cL_hands 353 = .ok (.goto 4, 3) := by decide +kernel
theorem dL_hands_356 : decode cL_hands 356 = .ok (.iconst 0, 1) := by decide +kernel
theorem dL_hands_357 : decode cL_hands 357 = .ok (.aload_n 0, 1) := by decide +kernel
theorem dL_hands_358 : decode cL_hands 358 = .ok (.iload 13, 2) := by decide +kernel
theorem dL_hands_360 : decode cL_hands 360 = .ok (.iconst 1, 1) := by decide +kernel
theorem dL_hands_361 : decode cL_hands 361 = .ok (.invokestatic 139, 3) := by decide +kernel
theorem dL_hands_364 : decode cL_hands 364 = .ok (.ifCond .ne 7, 3) := by decide +kernel
theorem dL_hands_367 : decode cL_hands 367 = .ok (.iconst 1, 1) := by decide +kernel
theorem dL_hands_368 : decode cL_hands 368 = .ok (.goto 4, 3) := by decide +kernel
theorem dL_hands_371 : decode cL_hands 371 = .ok (.iconst 0, 1) := by decide +kernel
theorem dL_hands_372 : decode cL_hands 372 = .ok (.if_icmp .ne 66, 3) := by decide +kernel
theorem dL_hands_375 : decode cL_hands 375 = .ok (.aload_n 0, 1) := by decide +kernel
theorem dL_hands_376 : decode cL_hands 376 = .ok (.iload 13, 2) := by decide +kernel
theorem dL_hands_378 : decode cL_hands 378 = .ok (.invokestatic 167, 3) := by decide +kernel
theorem dL_hands_381 : decode cL_hands 381 = .ok (.iload 14, 2) := by decide +kernel
theorem dL_hands_383 : decode cL_hands 383 = .ok (.if_icmp .ne 55, 3) := by decide +kernel
theorem dL_hands_386 : decode cL_hands 386 = .ok (.aload_n 0, 1) := by decide +kernel
theorem dL_hands_387 : decode cL_hands 387 = .ok (.bipush 9, 2) := by decide +kernel
theorem dL_hands_389 : decode cL_hands 389 = .ok (.invokestatic 130, 3) := by decide +kernel
theorem dL_hands_392 : decode cL_hands 392 = .ok (.iload 5, 2) := by decide +kernel
theorem dL_hands_394 : decode cL_hands 394 = .ok (.iconst 1, 1) := by decide +kernel
theorem dL_hands_395 : decode cL_hands 395 = .ok (.isub, 1) := by decide +kernel
theorem dL_hands_396 : decode cL_hands 396 = .ok (.if_icmp .ne 42, 3) := by decide +kernel
theorem dL_hands_399 : decode cL_hands 399 = .ok (.aload_n 0, 1) := by decide +kernel
theorem dL_hands_400 : decode cL_hands 400 = .ok (.iload 14, 2) := by decide +kernel
theorem dL_hands_402 : decode cL_hands 402 = .ok (.invokestatic 149, 3) := by decide +kernel
theorem dL_hands_405 : decode cL_hands 405 = .ok (.iload 5, 2) := by decide +kernel
theorem dL_hands_407 : decode cL_hands 407 = .ok (.iconst 1, 1) := by decide +kernel
theorem dL_hands_408 : decode cL_hands 408 = .ok (.isub, 1) := by decide +kernel
theorem dL_hands_409 : decode cL_hands 409 = .ok (.if_icmp .ne 29, 3) := by decide +kernel
theorem dL_hands_412 : decode cL_hands 412 = .ok (.aload_n 0, 1) := by decide +kernel
theorem dL_hands_413 : decode cL_hands 413 = .ok (.iload 5, 2) := by decide +kernel
theorem dL_hands_415 : decode cL_hands 415 = .ok (.iconst 1, 1) := by decide +kernel
theorem dL_hands_416 : decode cL_hands 416 = .ok (.isub, 1) := by decide +kernel
theorem dL_hands_417 : decode cL_hands 417 = .ok (.iconst 1, 1) := by decide +kernel
theorem dL_hands_418 : decode cL_hands 418 = .ok (.invokestatic 139, 3) := by decide +kernel
theorem dL_hands_421 : decode cL_hands 421 = .ok (.iconst 1, 1) := by decide +kernel
theorem dL_hands_422 : decode cL_hands 422 = .ok (.if_icmp .ne 16, 3) := by decide +kernel
theorem dL_hands_425 : decode cL_hands 425 = .ok (.aload_n 0, 1) := by decide +kernel
theorem dL_hands_426 : decode cL_hands 426 = .ok (.iconst 0, 1) := by decide +kernel
theorem dL_hands_427 : decode cL_hands 427 = .ok (.invokestatic 136, 3) := by decide +kernel
theorem dL_hands_430 : decode cL_hands 430 = .ok (.iload_n 2, 1) := by decide +kernel
theorem dL_hands_431 : decode cL_hands 431 = .ok (.if_icmp .ne 7, 3) := by decide +kernel
theorem dL_hands_434 : decode cL_hands 434 = .ok (.iconst 1, 1) := by decide +kernel
theorem dL_hands_435 : decode cL_hands 435 = .ok (.goto 4, 3) := by decide +kernel
theorem dL_hands_438 : decode cL_hands 438 = .ok (.iconst 0, 1) := by decide +kernel
theorem dL_hands_439 : decode cL_hands 439 = .ok (.istore 8, 2) := by decide +kernel
theorem dL_hands_441 : decode cL_hands 441 = .ok (.iload 15, 2) := by decide +kernel
theorem dL_hands_443 : decode cL_hands 443 = .ok (.ifCond .le 88, 3) := by decide +kernel
theorem dL_hands_446 : decode cL_hands 446 = .ok (.iload 15, 2) := by decide +kernel
theorem dL_hands_448 : decode cL_hands 448 = .ok (.sipush 500, 3) := by decide +kernel
theorem dL_hands_451 : decode cL_hands 451 = .ok (.if_icmp .gt 80, 3) := by decide +kernel
theorem dL_hands_454 : decode cL_hands 454 = .ok (.iload 8, 2) := by decide +kernel
theorem dL_hands_456 : decode cL_hands 456 = .ok (.ifCond .eq 75, 3) := by decide +kernel
theorem dL_hands_459 : decode cL_hands 459 = .ok (.aload_n 0, 1) := by decide +kernel
theorem dL_hands_460 : decode cL_hands 460 = .ok (.iload 15, 2) := by decide +kernel
theorem dL_hands_462 : decode cL_hands 462 = .ok (.invokestatic 155, 3) := by decide +kernel
theorem dL_hands_465 : decode cL_hands 465 = .ok (.ifCond .le 63, 3) := by decide +kernel
theorem dL_hands_468 : decode cL_hands 468 = .ok (.aload_n 0, 1) := by decide +kernel
theorem dL_hands_469 : decode cL_hands 469 = .ok (.iload 13, 2) := by decide +kernel
theorem dL_hands_471 : decode cL_hands 471 = .ok (.iconst 1, 1) := by decide +kernel
theorem dL_hands_472 : decode cL_hands 472 = .ok (.invokestatic 139, 3) := by decide +kernel
theorem dL_hands_475 : decode cL_hands 475 = .ok (.ifCond .ne 53, 3) := by decide +kernel
theorem dL_hands_478 : decode cL_hands 478 = .ok (.aload_n 0, 1) := by decide +kernel
theorem dL_hands_479 : decode cL_hands 479 = .ok (.iconst 0, 1) := by decide +kernel
theorem dL_hands_480 : decode cL_hands 480 = .ok (.invokestatic 136, 3) := by decide +kernel
theorem dL_hands_483 : decode cL_hands 483 = .ok (.iload_n 2, 1) := by decide +kernel
theorem dL_hands_484 : decode cL_hands 484 = .ok (.if_icmp .ne 44, 3) := by decide +kernel
theorem dL_hands_487 : decode cL_hands 487 = .ok (.iload 15, 2) := by decide +kernel
theorem dL_hands_489 : decode cL_hands 489 = .ok (.iconst 1, 1) := by decide +kernel
theorem dL_hands_490 : decode cL_hands 490 = .ok (.if_icmp .eq 25, 3) := by decide +kernel
theorem dL_hands_493 : decode cL_hands 493 = .ok (.aload_n 0, 1) := by decide +kernel
theorem dL_hands_494 : decode cL_hands 494 = .ok (.iload 15, 2) := by decide +kernel
theorem dL_hands_496 : decode cL_hands 496 = .ok (.iconst 1, 1) := by decide +kernel
theorem dL_hands_497 : decode cL_hands 497 = .ok (.isub, 1) := by decide +kernel
theorem dL_hands_498 : decode cL_hands 498 = .ok (.invokestatic 155, 3) := by decide +kernel
theorem dL_hands_501 : decode cL_hands 501 = .ok (.ifCond .lt 27, 3) := by decide +kernel
theorem dL_hands_504 : decode cL_hands 504 = .ok (.aload_n 0, 1) := by decide +kernel
theorem dL_hands_505 : decode cL_hands 505 = .ok (.iload 13, 2) := by decide +kernel
theorem dL_hands_507 : decode cL_hands 507 = .ok (.iconst 1, 1) := by decide +kernel
theorem dL_hands_508 : decode cL_hands 508 = .ok (.invokestatic 139, 3) := by decide +kernel
theorem dL_hands_511 : decode cL_hands 511 = .ok (.iconst 1, 1) := by decide +kernel
theorem dL_hands_512 : decode cL_hands 512 = .ok (.if_icmp .ne 16, 3) := by decide +kernel
theorem dL_hands_515 : decode cL_hands 515 = .ok (.aload_n 0, 1) := by decide +kernel
theorem dL_hands_516 : decode cL_hands 516 = .ok (.iconst 0, 1) := by decide +kernel
theorem dL_hands_517 : decode cL_hands 517 = .ok (.invokestatic 136, 3) := by decide +kernel
theorem dL_hands_520 : decode cL_hands 520 = .ok (.iload_n 2, 1) := by decide +kernel
theorem dL_hands_521 : decode cL_hands 521 = .ok (.if_icmp .ne 7, 3) := by decide +kernel
theorem dL_hands_524 : decode cL_hands 524 = .ok (.iconst 1, 1) := by decide +kernel
theorem dL_hands_525 : decode cL_hands 525 = .ok (.goto 4, 3) := by decide +kernel
theorem dL_hands_528 : decode cL_hands 528 = .ok (.iconst 0, 1) := by decide +kernel
theorem dL_hands_529 : decode cL_hands 529 = .ok (.istore 8, 2) := by decide +kernel
theorem dL_hands_531 : decode cL_hands 531 = .ok (.aload_n 0, 1) := by decide +kernel
theorem dL_hands_532 : decode cL_hands 532 = .ok (.invokevirtual 213, 3) := by decide +kernel
theorem dL_hands_535 : decode cL_hands 535 = .ok (.istore 13, 2) := by decide +kernel
theorem dL_hands_537 : decode cL_hands 537 = .ok (.iload 13, 2) := by decide +kernel
theorem dL_hands_539 : decode cL_hands 539 = .ok (.bipush (-9), 2) := by decide +kernel
theorem dL_hands_541 : decode cL_hands 541 = .ok (.if_icmp .eq 99, 3) := by decide +kernel
theorem dL_hands_544 : decode cL_hands 544 = .ok (.iload 8, 2) := by decide +kernel
theorem dL_hands_546 : decode cL_hands 546 = .ok (.ifCond .eq 94, 3) := by decide +kernel
theorem dL_hands_549 : decode cL_hands 549 = .ok (.aload_n 0, 1) := by decide +kernel
theorem dL_hands_550 : decode cL_hands 550 = .ok (.iload 13, 2) := by decide +kernel
theorem dL_hands_552 : decode cL_hands 552 = .ok (.invokestatic 185, 3) := by decide +kernel
theorem dL_hands_555 : decode cL_hands 555 = .ok (.istore 14, 2) := by decide +kernel
theorem dL_hands_557 : decode cL_hands 557 = .ok (.iload 14, 2) := by decide +kernel
theorem dL_hands_559 : decode cL_hands 559 = .ok (.ifCond .le 18, 3) := by decide +kernel
theorem dL_hands_562 : decode cL_hands 562 = .ok (.aload_n 0, 1) := by decide +kernel
theorem dL_hands_563 : decode cL_hands 563 = .ok (.iload 13, 2) := by decide +kernel
theorem dL_hands_565 : decode cL_hands 565 = .ok (.iconst 1, 1) := by decide +kernel
theorem dL_hands_566 : decode cL_hands 566 = .ok (.invokestatic 139, 3) := by decide +kernel
theorem dL_hands_569 : decode cL_hands 569 = .ok (.iconst 1, 1) := by decide +kernel
theorem dL_hands_570 : decode cL_hands 570 = .ok (.if_icmp .ne 7, 3) := by decide +kernel
theorem dL_hands_573 : decode cL_hands 573 = .ok (.iconst 1, 1) := by decide +kernel
theorem dL_hands_574 : decode cL_hands 574 = .ok (.goto 4, 3) := by decide +kernel
theorem dL_hands_577 : decode cL_hands 577 = .ok (.iconst 0, 1) := by decide +kernel
theorem dL_hands_578 : decode cL_hands 578 = .ok (.istore 8, 2) := by decide +kernel
theorem dL_hands_580 : decode cL_hands 580 = .ok (.iconst 0, 1) := by decide +kernel
theorem dL_hands_581 : decode cL_hands 581 = .ok (.istore 15, 2) := by decide +kernel
theorem dL_hands_583 : decode cL_hands 583 = .ok (.iload 15, 2) := by decide +kernel
theorem dL_hands_585 : decode cL_hands 585 = .ok (.iload 5, 2) := by decide +kernel
theorem dL_hands_587 : decode cL_hands 587 = .ok (.if_icmp .ge 53, 3) := by decide +kernel
theorem dL_hands_590 : decode cL_hands 590 = .ok (.iload 8, 2) := by decide +kernel
theorem dL_hands_592 : decode cL_hands 592 = .ok (.ifCond .eq 48, 3) := by decide +kernel
theorem dL_hands_595 : decode cL_hands 595 = .ok (.aload_n 0, 1) := by decide +kernel
theorem dL_hands_596 : decode cL_hands 596 = .ok (.iload 15, 2) := by decide +kernel
theorem dL_hands_598 : decode cL_hands 598 = .ok (.invokestatic 185, 3) := by decide +kernel
theorem dL_hands_601 : decode cL_hands 601 = .ok (.istore 16, 2) := by decide +kernel
theorem dL_hands_603 : decode cL_hands 603 = .ok (.aload_n 0, 1) := by decide +kernel
theorem dL_hands_604 : decode cL_hands 604 = .ok (.iload 15, 2) := by decide +kernel
theorem dL_hands_606 : decode cL_hands 606 = .ok (.iconst 1, 1) := by decide +kernel
theorem dL_hands_607 : decode cL_hands 607 = .ok (.invokestatic 139, 3) := by decide +kernel
theorem dL_hands_610 : decode cL_hands 610 = .ok (.ifCond .eq 17, 3) := by decide +kernel
theorem dL_hands_613 : decode cL_hands 613 = .ok (.iload 16, 2) := by decide +kernel
theorem dL_hands_615 : decode cL_hands 615 = .ok (.bipush (-9), 2) := by decide +kernel
theorem dL_hands_617 : decode cL_hands 617 = .ok (.if_icmp .eq 10, 3) := by decide +kernel
theorem dL_hands_620 : decode cL_hands 620 = .ok (.iload 16, 2) := by decide +kernel
theorem dL_hands_622 : decode cL_hands 622 = .ok (.iload 14, 2) := by decide +kernel
theorem dL_hands_624 : decode cL_hands 624 = .ok (.if_icmp .lt 7, 3) := by decide +kernel
theorem dL_hands_627 : decode cL_hands 627 = .ok (.iconst 1, 1) := by decide +kernel
theorem dL_hands_628 : decode cL_hands 628 = .ok (.goto 4, 3) := by decide +kernel
theorem dL_hands_631 : decode cL_hands 631 = .ok (.iconst 0, 1) := by decide +kernel
theorem dL_hands_632 : decode cL_hands 632 = .ok (.istore 8, 2) := by decide +kernel
theorem dL_hands_634 : decode cL_hands 634 = .ok (.iinc 15 1, 3) := by decide +kernel
theorem dL_hands_637 : decode cL_hands 637 = .ok (.goto (-54), 3) := by decide +kernel
theorem dL_hands_640 : decode cL_hands 640 = .ok (.iload_n 1, 1) := by decide +kernel
theorem dL_hands_641 : decode cL_hands 641 = .ok (.bipush 64, 2) := by decide +kernel
theorem dL_hands_643 : decode cL_hands 643 = .ok (.idiv, 1) := by decide +kernel
theorem dL_hands_644 : decode cL_hands 644 = .ok (.sipush 10000, 3) := by decide +kernel
theorem dL_hands_647 : decode cL_hands 647 = .ok (.irem, 1) := by decide +kernel
theorem dL_hands_648 : decode cL_hands 648 = .ok (.istore 14, 2) := by decide +kernel
theorem dL_hands_650 : decode cL_hands 650 = .ok (.aload_n 0, 1) := by decide +kernel
theorem dL_hands_651 : decode cL_hands 651 = .ok (.iload 14, 2) := by decide +kernel
theorem dL_hands_653 : decode cL_hands 653 = .ok (.invokestatic 188, 3) := by decide +kernel
theorem dL_hands_656 : decode cL_hands 656 = .ok (.istore 15, 2) := by decide +kernel
theorem dL_hands_658 : decode cL_hands 658 = .ok (.iload 8, 2) := by decide +kernel
theorem dL_hands_660 : decode cL_hands 660 = .ok (.ifCond .eq 32, 3) := by decide +kernel
theorem dL_hands_663 : decode cL_hands 663 = .ok (.iload 15, 2) := by decide +kernel
theorem dL_hands_665 : decode cL_hands 665 = .ok (.ifCond .ne 7, 3) := by decide +kernel
theorem dL_hands_668 : decode cL_hands 668 = .ok (.iconst 1, 1) := by decide +kernel
theorem dL_hands_669 : decode cL_hands 669 = .ok (.goto 4, 3) := by decide +kernel
theorem dL_hands_672 : decode cL_hands 672 = .ok (.iconst 0, 1) := by decide +kernel
theorem dL_hands_673 : decode cL_hands 673 = .ok (.iload 4, 2) := by decide +kernel
theorem dL_hands_675 : decode cL_hands 675 = .ok (.iload 14, 2) := by decide +kernel
theorem dL_hands_677 : decode cL_hands 677 = .ok (.if_icmp .gt 7, 3) := by decide +kernel
theorem dL_hands_680 : decode cL_hands 680 = .ok (.iconst 1, 1) := by decide +kernel
theorem dL_hands_681 : decode cL_hands 681 = .ok (.goto 4, 3) := by decide +kernel
theorem dL_hands_684 : decode cL_hands 684 = .ok (.iconst 0, 1) := by decide +kernel
theorem dL_hands_685 : decode cL_hands 685 = .ok (.if_icmp .ne 7, 3) := by decide +kernel
theorem dL_hands_688 : decode cL_hands 688 = .ok (.iconst 1, 1) := by decide +kernel
theorem dL_hands_689 : decode cL_hands 689 = .ok (.goto 4, 3) := by decide +kernel
theorem dL_hands_692 : decode cL_hands 692 = .ok (.iconst 0, 1) := by decide +kernel
theorem dL_hands_693 : decode cL_hands 693 = .ok (.istore 8, 2) := by decide +kernel
theorem dL_hands_695 : decode cL_hands 695 = .ok (.iload 15, 2) := by decide +kernel
theorem dL_hands_697 : decode cL_hands 697 = .ok (.ifCond .le 49, 3) := by decide +kernel
theorem dL_hands_700 : decode cL_hands 700 = .ok (.iload 15, 2) := by decide +kernel
theorem dL_hands_702 : decode cL_hands 702 = .ok (.sipush 500, 3) := by decide +kernel
theorem dL_hands_705 : decode cL_hands 705 = .ok (.if_icmp .gt 41, 3) := by decide +kernel
theorem dL_hands_708 : decode cL_hands 708 = .ok (.iload 8, 2) := by decide +kernel
theorem dL_hands_710 : decode cL_hands 710 = .ok (.ifCond .eq 36, 3) := by decide +kernel
theorem dL_hands_713 : decode cL_hands 713 = .ok (.aload_n 0, 1) := by decide +kernel
theorem dL_hands_714 : decode cL_hands 714 = .ok (.iload 15, 2) := by decide +kernel
theorem dL_hands_716 : decode cL_hands 716 = .ok (.iconst 1, 1) := by decide +kernel
theorem dL_hands_717 : decode cL_hands 717 = .ok (.invokestatic 182, 3) := by decide +kernel
theorem dL_hands_720 : decode cL_hands 720 = .ok (.iload 14, 2) := by decide +kernel
theorem dL_hands_722 : decode cL_hands 722 = .ok (.if_icmp .gt 21, 3) := by decide +kernel
theorem dL_hands_725 : decode cL_hands 725 = .ok (.aload_n 0, 1) := by decide +kernel
theorem dL_hands_726 : decode cL_hands 726 = .ok (.iload 15, 2) := by decide +kernel
theorem dL_hands_728 : decode cL_hands 728 = .ok (.iconst 1, 1) := by decide +kernel
theorem dL_hands_729 : decode cL_hands 729 = .ok (.isub, 1) := by decide +kernel
theorem dL_hands_730 : decode cL_hands 730 = .ok (.iconst 1, 1) := by decide +kernel
theorem dL_hands_731 : decode cL_hands 731 = .ok (.invokestatic 182, 3) := by decide +kernel
theorem dL_hands_734 : decode cL_hands 734 = .ok (.iload 14, 2) := by decide +kernel
theorem dL_hands_736 : decode cL_hands 736 = .ok (.if_icmp .le 7, 3) := by decide +kernel
theorem dL_hands_739 : decode cL_hands 739 = .ok (.iconst 1, 1) := by decide +kernel
theorem dL_hands_740 : decode cL_hands 740 = .ok (.goto 4, 3) := by decide +kernel
theorem dL_hands_743 : decode cL_hands 743 = .ok (.iconst 0, 1) := by decide +kernel
theorem dL_hands_744 : decode cL_hands 744 = .ok (.istore 8, 2) := by decide +kernel
theorem dL_hands_746 : decode cL_hands 746 = .ok (.iconst 1, 1) := by decide +kernel
theorem dL_hands_747 : decode cL_hands 747 = .ok (.iload_n 1, 1) := by decide +kernel
theorem dL_hands_748 : decode cL_hands 748 = .ok (.bipush 40, 2) := by decide +kernel
theorem dL_hands_750 : decode cL_hands 750 = .ok (.irem, 1) := by decide +kernel
theorem dL_hands_751 : decode cL_hands 751 = .ok (.iadd, 1) := by decide +kernel
theorem dL_hands_752 : decode cL_hands 752 = .ok (.istore 16, 2) := by decide +kernel
theorem dL_hands_754 : decode cL_hands 754 = .ok (.aload_n 0, 1) := by decide +kernel
theorem dL_hands_755 : decode cL_hands 755 = .ok (.iload 16, 2) := by decide +kernel
theorem dL_hands_757 : decode cL_hands 757 = .ok (.invokestatic 191, 3) := by decide +kernel
theorem dL_hands_760 : decode cL_hands 760 = .ok (.istore 17, 2) := by decide +kernel
theorem dL_hands_762 : decode cL_hands 762 = .ok (.iload 17, 2) := by decide +kernel
theorem dL_hands_764 : decode cL_hands 764 = .ok (.bipush (-9), 2) := by decide +kernel
theorem dL_hands_766 : decode cL_hands 766 = .ok (.if_icmp .eq 61, 3) := by decide +kernel
theorem dL_hands_769 : decode cL_hands 769 = .ok (.iload 8, 2) := by decide +kernel
theorem dL_hands_771 : decode cL_hands 771 = .ok (.ifCond .eq 56, 3) := by decide +kernel
theorem dL_hands_774 : decode cL_hands 774 = .ok (.iload 17, 2) := by decide +kernel
theorem dL_hands_776 : decode cL_hands 776 = .ok (.bipush 100, 2) := by decide +kernel
theorem dL_hands_778 : decode cL_hands 778 = .ok (.irem, 1) := by decide +kernel
theorem dL_hands_779 : decode cL_hands 779 = .ok (.ifCond .ne 45, 3) := by decide +kernel
theorem dL_hands_782 : decode cL_hands 782 = .ok (.iload 17, 2) := by decide +kernel
theorem dL_hands_784 : decode cL_hands 784 = .ok (.ifCond .eq 12, 3) := by decide +kernel
theorem dL_hands_787 : decode cL_hands 787 = .ok (.aload_n 0, 1) := by decide +kernel
theorem dL_hands_788 : decode cL_hands 788 = .ok (.iload 17, 2) := by decide +kernel
theorem dL_hands_790 : decode cL_hands 790 = .ok (.invokestatic 161, 3) := by decide +kernel
theorem dL_hands_793 : decode cL_hands 793 = .ok (.ifCond .le 31, 3) := by decide +kernel
theorem dL_hands_796 : decode cL_hands 796 = .ok (.aload_n 0, 1) := by decide +kernel
theorem dL_hands_797 : decode cL_hands 797 = .ok (.iload 16, 2) := by decide +kernel
theorem dL_hands_799 : decode cL_hands 799 = .ok (.iconst 1, 1) := by decide +kernel
theorem dL_hands_800 : decode cL_hands 800 = .ok (.invokestatic 182, 3) := by decide +kernel
theorem dL_hands_803 : decode cL_hands 803 = .ok (.aload_n 0, 1) := by decide +kernel
theorem dL_hands_804 : decode cL_hands 804 = .ok (.iconst 3, 1) := by decide +kernel
theorem dL_hands_805 : decode cL_hands 805 = .ok (.invokestatic 130, 3) := by decide +kernel
theorem dL_hands_808 : decode cL_hands 808 = .ok (.if_icmp .lt 16, 3) := by decide +kernel
theorem dL_hands_811 : decode cL_hands 811 = .ok (.aload_n 0, 1) := by decide +kernel
theorem dL_hands_812 : decode cL_hands 812 = .ok (.iconst 0, 1) := by decide +kernel
theorem dL_hands_813 : decode cL_hands 813 = .ok (.invokestatic 136, 3) := by decide +kernel
theorem dL_hands_816 : decode cL_hands 816 = .ok (.iload_n 2, 1) := by decide +kernel
theorem dL_hands_817 : decode cL_hands 817 = .ok (.if_icmp .ne 7, 3) := by decide +kernel
theorem dL_hands_820 : decode cL_hands 820 = .ok (.iconst 1, 1) := by decide +kernel
theorem dL_hands_821 : decode cL_hands 821 = .ok (.goto 4, 3) := by decide +kernel
theorem dL_hands_824 : decode cL_hands 824 = .ok (.iconst 0, 1) := by decide +kernel
theorem dL_hands_825 : decode cL_hands 825 = .ok (.istore 8, 2) := by decide +kernel
theorem dL_hands_827 : decode cL_hands 827 = .ok (.aload_n 0, 1) := by decide +kernel
theorem dL_hands_828 : decode cL_hands 828 = .ok (.iload 16, 2) := by decide +kernel
theorem dL_hands_830 : decode cL_hands 830 = .ok (.invokestatic 194, 3) := by decide +kernel
theorem dL_hands_833 : decode cL_hands 833 = .ok (.istore 18, 2) := by decide +kernel
theorem dL_hands_835 : decode cL_hands 835 = .ok (.iload 8, 2) := by decide +kernel
theorem dL_hands_837 : decode cL_hands 837 = .ok (.ifCond .eq 32, 3) := by decide +kernel
theorem dL_hands_840 : decode cL_hands 840 = .ok (.iload 18, 2) := by decide +kernel
theorem dL_hands_842 : decode cL_hands 842 = .ok (.bipush (-9), 2) := by decide +kernel
theorem dL_hands_844 : decode cL_hands 844 = .ok (.if_icmp .eq 11, 3) := by decide +kernel
theorem dL_hands_847 : decode cL_hands 847 = .ok (.iload 18, 2) := by decide +kernel
theorem dL_hands_849 : decode cL_hands 849 = .ok (.bipush 60, 2) := by decide +kernel
theorem dL_hands_851 : decode cL_hands 851 = .ok (.irem, 1) := by decide +kernel
theorem dL_hands_852 : decode cL_hands 852 = .ok (.ifCond .ne 17, 3) := by decide +kernel
theorem dL_hands_855 : decode cL_hands 855 = .ok (.iload 5, 2) := by decide +kernel
theorem dL_hands_857 : decode cL_hands 857 = .ok (.ifCond .gt 8, 3) := by decide +kernel
theorem dL_hands_860 : decode cL_hands 860 = .ok (.iload 18, 2) := by decide +kernel
theorem dL_hands_862 : decode cL_hands 862 = .ok (.ifCond .ne 7, 3) := by decide +kernel
theorem dL_hands_865 : decode cL_hands 865 = .ok (.iconst 1, 1) := by decide +kernel
theorem dL_hands_866 : decode cL_hands 866 = .ok (.goto 4, 3) := by decide +kernel
theorem dL_hands_869 : decode cL_hands 869 = .ok (.iconst 0, 1) := by decide +kernel
theorem dL_hands_870 : decode cL_hands 870 = .ok (.istore 8, 2) := by decide +kernel
theorem dL_hands_872 : decode cL_hands 872 = .ok (.iload 7, 2) := by decide +kernel
theorem dL_hands_874 : decode cL_hands 874 = .ok (.bipush 19, 2) := by decide +kernel
theorem dL_hands_876 : decode cL_hands 876 = .ok (.if_icmp .ge 178, 3) := by decide +kernel
theorem dL_hands_879 : decode cL_hands 879 = .ok (.iload 8, 2) := by decide +kernel
theorem dL_hands_881 : decode cL_hands 881 = .ok (.ifCond .eq 173, 3) := by decide +kernel
theorem dL_hands_884 : decode cL_hands 884 = .ok (.aload_n 0, 1) := by decide +kernel
theorem dL_hands_885 : decode cL_hands 885 = .ok (.invokestatic 170, 3) := by decide +kernel
theorem dL_hands_888 : decode cL_hands 888 = .ok (.iload 7, 2) := by decide +kernel
theorem dL_hands_890 : decode cL_hands 890 = .ok (.if_icmp .ne 161, 3) := by decide +kernel
theorem dL_hands_893 : decode cL_hands 893 = .ok (.aload_n 0, 1) := by decide +kernel
theorem dL_hands_894 : decode cL_hands 894 = .ok (.iload 7, 2) := by decide +kernel
theorem dL_hands_896 : decode cL_hands 896 = .ok (.iconst 1, 1) := by decide +kernel
theorem dL_hands_897 : decode cL_hands 897 = .ok (.invokestatic 146, 3) := by decide +kernel
theorem dL_hands_900 : decode cL_hands 900 = .ok (.iload_n 3, 1) := by decide +kernel
theorem dL_hands_901 : decode cL_hands 901 = .ok (.if_icmp .ne 150, 3) := by decide +kernel
theorem dL_hands_904 : decode cL_hands 904 = .ok (.aload_n 0, 1) := by decide +kernel
theorem dL_hands_905 : decode cL_hands 905 = .ok (.iload 16, 2) := by decide +kernel
theorem dL_hands_907 : decode cL_hands 907 = .ok (.invokestatic 155, 3) := by decide +kernel
theorem dL_hands_910 : decode cL_hands 910 = .ok (.ifCond .lt 141, 3) := by decide +kernel
theorem dL_hands_913 : decode cL_hands 913 = .ok (.aload_n 0, 1) := by decide +kernel
theorem dL_hands_914 : decode cL_hands 914 = .ok (.invokestatic 170, 3) := by decide +kernel
theorem dL_hands_917 : decode cL_hands 917 = .ok (.iload 7, 2) := by decide +kernel
theorem dL_hands_919 : decode cL_hands 919 = .ok (.iconst 1, 1) := by decide +kernel
theorem dL_hands_920 : decode cL_hands 920 = .ok (.iadd, 1) := by decide +kernel
theorem dL_hands_921 : decode cL_hands 921 = .ok (.if_icmp .ne 130, 3) := by decide +kernel
theorem dL_hands_924 : decode cL_hands 924 = .ok (.aload_n 0, 1) := by decide +kernel
theorem dL_hands_925 : decode cL_hands 925 = .ok (.iload 7, 2) := by decide +kernel
theorem dL_hands_927 : decode cL_hands 927 = .ok (.iconst 1, 1) := by decide +kernel
theorem dL_hands_928 : decode cL_hands 928 = .ok (.iadd, 1) := by decide +kernel
theorem dL_hands_929 : decode cL_hands 929 = .ok (.iconst 0, 1) := by decide +kernel
theorem dL_hands_930 : decode cL_hands 930 = .ok (.invokestatic 146, 3) := by decide +kernel
theorem dL_hands_933 : decode cL_hands 933 = .ok (.iload_n 2, 1) := by decide +kernel
theorem dL_hands_934 : decode cL_hands 934 = .ok (.iload 16, 2) := by decide +kernel
theorem dL_hands_936 : decode cL_hands 936 = .ok (.iadd, 1) := by decide +kernel
theorem dL_hands_937 : decode cL_hands 937 = .ok (.if_icmp .ne 114, 3) := by decide +kernel
theorem dL_hands_940 : decode cL_hands 940 = .ok (.aload_n 0, 1) := by decide +kernel
theorem dL_hands_941 : decode cL_hands 941 = .ok (.iload 7, 2) := by decide +kernel
theorem dL_hands_943 : decode cL_hands 943 = .ok (.iload 7, 2) := by decide +kernel
theorem dL_hands_945 : decode cL_hands 945 = .ok (.iconst 1, 1) := by decide +kernel
theorem dL_hands_946 : decode cL_hands 946 = .ok (.iadd, 1) := by decide +kernel
theorem dL_hands_947 : decode cL_hands 947 = .ok (.invokestatic 173, 3) := by decide +kernel
theorem dL_hands_950 : decode cL_hands 950 = .ok (.aload_n 0, 1) := by decide +kernel
theorem dL_hands_951 : decode cL_hands 951 = .ok (.iconst 5, 1) := by decide +kernel
theorem dL_hands_952 : decode cL_hands 952 = .ok (.invokestatic 130, 3) := by decide +kernel
theorem dL_hands_955 : decode cL_hands 955 = .ok (.iload_n 3, 1) := by decide +kernel
theorem dL_hands_956 : decode cL_hands 956 = .ok (.isub, 1) := by decide +kernel
theorem dL_hands_957 : decode cL_hands 957 = .ok (.sipush 10800, 3) := by decide +kernel
theorem dL_hands_960 : decode cL_hands 960 = .ok (.irem, 1) := by decide +kernel
theorem dL_hands_961 : decode cL_hands 961 = .ok (.sipush 10800, 3) := by decide +kernel
theorem dL_hands_964 : decode cL_hands 964 = .ok (.iadd, 1) := by decide +kernel
theorem dL_hands_965 : decode cL_hands 965 = .ok (.sipush 10800, 3) := by decide +kernel
theorem dL_hands_968 : decode cL_hands 968 = .ok (.irem, 1) := by decide +kernel
theorem dL_hands_969 : decode cL_hands 969 = .ok (.if_icmp .ne 82, 3) := by decide +kernel
theorem dL_hands_972 : decode cL_hands 972 = .ok (.aload_n 0, 1) := by decide +kernel
theorem dL_hands_973 : decode cL_hands 973 = .ok (.iconst 0, 1) := by decide +kernel
theorem dL_hands_974 : decode cL_hands 974 = .ok (.invokestatic 130, 3) := by decide +kernel
theorem dL_hands_977 : decode cL_hands 977 = .ok (.ifCond .ne 7, 3) := by decide +kernel
theorem dL_hands_980 : decode cL_hands 980 = .ok (.iconst 1, 1) := by decide +kernel
theorem dL_hands_981 : decode cL_hands 981 = .ok (.goto 4, 3) := by decide +kernel
theorem dL_hands_984 : decode cL_hands 984 = .ok (.iconst 0, 1) := by decide +kernel
theorem dL_hands_985 : decode cL_hands 985 = .ok (.aload_n 0, 1) := by decide +kernel
theorem dL_hands_986 : decode cL_hands 986 = .ok (.iload 7, 2) := by decide +kernel
theorem dL_hands_988 : decode cL_hands 988 = .ok (.iload 7, 2) := by decide +kernel
theorem dL_hands_990 : decode cL_hands 990 = .ok (.iconst 1, 1) := by decide +kernel
theorem dL_hands_991 : decode cL_hands 991 = .ok (.iadd, 1) := by decide +kernel
theorem dL_hands_992 : decode cL_hands 992 = .ok (.invokestatic 176, 3) := by decide +kernel
theorem dL_hands_995 : decode cL_hands 995 = .ok (.bipush (-9), 2) := by decide +kernel
theorem dL_hands_997 : decode cL_hands 997 = .ok (.if_icmp .ne 7, 3) := by decide +kernel
theorem dL_hands_1000 : decode cL_hands 1000 = .ok (.iconst 1, 1) := by decide +kernel
theorem dL_hands_1001 : decode cL_hands 1001 = .ok (.goto 4, 3) := by decide +kernel
theorem dL_hands_1004 : decode cL_hands 1004 = .ok (.iconst 0, 1) := by decide +kernel
theorem dL_hands_1005 : decode cL_hands 1005 = .ok (.if_icmp .ne 46, 3) := by decide +kernel
theorem dL_hands_1008 : decode cL_hands 1008 = .ok (.aload_n 0, 1) := by decide +kernel
theorem dL_hands_1009 : decode cL_hands 1009 = .ok (.iload 7, 2) := by decide +kernel
theorem dL_hands_1011 : decode cL_hands 1011 = .ok (.iload 7, 2) := by decide +kernel
theorem dL_hands_1013 : decode cL_hands 1013 = .ok (.iconst 1, 1) := by decide +kernel
theorem dL_hands_1014 : decode cL_hands 1014 = .ok (.iadd, 1) := by decide +kernel
theorem dL_hands_1015 : decode cL_hands 1015 = .ok (.invokestatic 179, 3) := by decide +kernel
theorem dL_hands_1018 : decode cL_hands 1018 = .ok (.bipush (-90), 2) := by decide +kernel
theorem dL_hands_1020 : decode cL_hands 1020 = .ok (.if_icmp .lt 31, 3) := by decide +kernel
theorem dL_hands_1023 : decode cL_hands 1023 = .ok (.aload_n 0, 1) := by decide +kernel
theorem dL_hands_1024 : decode cL_hands 1024 = .ok (.iload 7, 2) := by decide +kernel
theorem dL_hands_1026 : decode cL_hands 1026 = .ok (.iload 7, 2) := by decide +kernel
theorem dL_hands_1028 : decode cL_hands 1028 = .ok (.iconst 1, 1) := by decide +kernel
theorem dL_hands_1029 : decode cL_hands 1029 = .ok (.iadd, 1) := by decide +kernel
theorem dL_hands_1030 : decode cL_hands 1030 = .ok (.invokestatic 179, 3) := by decide +kernel
theorem dL_hands_1033 : decode cL_hands 1033 = .ok (.bipush 90, 2) := by decide +kernel
theorem dL_hands_1035 : decode cL_hands 1035 = .ok (.if_icmp .gt 16, 3) := by decide +kernel
theorem dL_hands_1038 : decode cL_hands 1038 = .ok (.aload_n 0, 1) := by decide +kernel
theorem dL_hands_1039 : decode cL_hands 1039 = .ok (.iconst 0, 1) := by decide +kernel
theorem dL_hands_1040 : decode cL_hands 1040 = .ok (.invokestatic 136, 3) := by decide +kernel
theorem dL_hands_1043 : decode cL_hands 1043 = .ok (.iload_n 2, 1) := by decide +kernel
theorem dL_hands_1044 : decode cL_hands 1044 = .ok (.if_icmp .ne 7, 3) := by decide +kernel
theorem dL_hands_1047 : decode cL_hands 1047 = .ok (.iconst 1, 1) := by decide +kernel
theorem dL_hands_1048 : decode cL_hands 1048 = .ok (.goto 4, 3) := by decide +kernel
theorem dL_hands_1051 : decode cL_hands 1051 = .ok (.iconst 0, 1) := by decide +kernel
theorem dL_hands_1052 : decode cL_hands 1052 = .ok (.istore 8, 2) := by decide +kernel
theorem dL_hands_1054 : decode cL_hands 1054 = .ok (.iload_n 1, 1) := by decide +kernel
theorem dL_hands_1055 : decode cL_hands 1055 = .ok (.bipush 90, 2) := by decide +kernel
theorem dL_hands_1057 : decode cL_hands 1057 = .ok (.irem, 1) := by decide +kernel
theorem dL_hands_1058 : decode cL_hands 1058 = .ok (.istore 19, 2) := by decide +kernel
theorem dL_hands_1060 : decode cL_hands 1060 = .ok (.iload 8, 2) := by decide +kernel
theorem dL_hands_1062 : decode cL_hands 1062 = .ok (.ifCond .eq 72, 3) := by decide +kernel
theorem dL_hands_1065 : decode cL_hands 1065 = .ok (.aload_n 0, 1) := by decide +kernel
theorem dL_hands_1066 : decode cL_hands 1066 = .ok (.iload 19, 2) := by decide +kernel
theorem dL_hands_1068 : decode cL_hands 1068 = .ok (.ineg, 1) := by decide +kernel
theorem dL_hands_1069 : decode cL_hands 1069 = .ok (.invokestatic 152, 3) := by decide +kernel
theorem dL_hands_1072 : decode cL_hands 1072 = .ok (.aload_n 0, 1) := by decide +kernel
theorem dL_hands_1073 : decode cL_hands 1073 = .ok (.iload 19, 2) := by decide +kernel
theorem dL_hands_1075 : decode cL_hands 1075 = .ok (.invokestatic 152, 3) := by decide +kernel
theorem dL_hands_1078 : decode cL_hands 1078 = .ok (.ineg, 1) := by decide +kernel
theorem dL_hands_1079 : decode cL_hands 1079 = .ok (.if_icmp .ne 55, 3) := by decide +kernel
theorem dL_hands_1082 : decode cL_hands 1082 = .ok (.aload_n 0, 1) := by decide +kernel
theorem dL_hands_1083 : decode cL_hands 1083 = .ok (.iload 19, 2) := by decide +kernel
theorem dL_hands_1085 : decode cL_hands 1085 = .ok (.invokestatic 152, 3) := by decide +kernel
theorem dL_hands_1088 : decode cL_hands 1088 = .ok (.aload_n 0, 1) := by decide +kernel
theorem dL_hands_1089 : decode cL_hands 1089 = .ok (.iload 19, 2) := by decide +kernel
theorem dL_hands_1091 : decode cL_hands 1091 = .ok (.iconst 1, 1) := by decide +kernel
theorem dL_hands_1092 : decode cL_hands 1092 = .ok (.iadd, 1) := by decide +kernel
theorem dL_hands_1093 : decode cL_hands 1093 = .ok (.invokestatic 152, 3) := by decide +kernel
theorem dL_hands_1096 : decode cL_hands 1096 = .ok (.if_icmp .gt 38, 3) := by decide +kernel
theorem dL_hands_1099 : decode cL_hands 1099 = .ok (.aload_n 0, 1) := by decide +kernel
theorem dL_hands_1100 : decode cL_hands 1100 = .ok (.bipush 30, 2) := by decide +kernel
theorem dL_hands_1102 : decode cL_hands 1102 = .ok (.invokestatic 152, 3) := by decide +kernel
theorem dL_hands_1105 : decode cL_hands 1105 = .ok (.sipush 500, 3) := by decide +kernel
theorem dL_hands_1108 : decode cL_hands 1108 = .ok (.if_icmp .ne 26, 3) := by decide +kernel
theorem dL_hands_1111 : decode cL_hands 1111 = .ok (.aload_n 0, 1) := by decide +kernel
theorem dL_hands_1112 : decode cL_hands 1112 = .ok (.iconst 0, 1) := by decide +kernel
theorem dL_hands_1113 : decode cL_hands 1113 = .ok (.invokestatic 136, 3) := by decide +kernel
theorem dL_hands_1116 : decode cL_hands 1116 = .ok (.iload_n 2, 1) := by decide +kernel
theorem dL_hands_1117 : decode cL_hands 1117 = .ok (.if_icmp .ne 17, 3) := by decide +kernel
theorem dL_hands_1120 : decode cL_hands 1120 = .ok (.aload_n 0, 1) := by decide +kernel
theorem dL_hands_1121 : decode cL_hands 1121 = .ok (.invokestatic 133, 3) := by decide +kernel
theorem dL_hands_1124 : decode cL_hands 1124 = .ok (.sipush (-1003), 3) := by decide +kernel
theorem dL_hands_1127 : decode cL_hands 1127 = .ok (.if_icmp .ne 7, 3) := by decide +kernel
theorem dL_hands_1130 : decode cL_hands 1130 = .ok (.iconst 1, 1) := by decide +kernel
theorem dL_hands_1131 : decode cL_hands 1131 = .ok (.goto 4, 3) := by decide +kernel
theorem dL_hands_1134 : decode cL_hands 1134 = .ok (.iconst 0, 1) := by decide +kernel
theorem dL_hands_1135 : decode cL_hands 1135 = .ok (.ireturn, 1) := by decide +kernel
theorem dL_scripts_0 : decode cL_scripts 0 = .ok (.aload_n 0, 1) := by decide +kernel
theorem dL_scripts_1 : decode cL_scripts 1 = .ok (.bipush 10, 2) := by decide +kernel
theorem dL_scripts_3 : decode cL_scripts 3 = .ok (.invokestatic 130, 3) := by decide +kernel
theorem dL_scripts_6 : decode cL_scripts 6 = .ok (.istore_n 2, 1) := by decide +kernel
theorem dL_scripts_7 : decode cL_scripts 7 = .ok (.aload_n 0, 1) := by decide +kernel
theorem dL_scripts_8 : decode cL_scripts 8 = .ok (.bipush 7, 2) := by decide +kernel
theorem dL_scripts_10 : decode cL_scripts 10 = .ok (.invokestatic 130, 3) := by decide +kernel
theorem dL_scripts_13 : decode cL_scripts 13 = .ok (.istore_n 3, 1) := by decide +kernel
theorem dL_scripts_14 : decode cL_scripts 14 = .ok (.aload_n 0, 1) := by decide +kernel
theorem dL_scripts_15 : decode cL_scripts 15 = .ok (.iconst 5, 1) := by decide +kernel
theorem dL_scripts_16 : decode cL_scripts 16 = .ok (.invokestatic 130, 3) := by decide +kernel
theorem dL_scripts_19 : decode cL_scripts 19 = .ok (.bipush 60, 2) := by decide +kernel
theorem dL_scripts_21 : decode cL_scripts 21 = .ok (.idiv, 1) := by decide +kernel
theorem dL_scripts_22 : decode cL_scripts 22 = .ok (.istore 4, 2) := by decide +kernel
theorem dL_scripts_24 : decode cL_scripts 24 = .ok (.aload_n 0, 1) := by decide +kernel
theorem dL_scripts_25 : decode cL_scripts 25 = .ok (.bipush 11, 2) := by decide +kernel
theorem dL_scripts_27 : decode cL_scripts 27 = .ok (.invokestatic 130, 3) := by decide +kernel
theorem dL_scripts_30 : decode cL_scripts 30 = .ok (.istore 5, 2) := by decide +kernel
theorem dL_scripts_32 : decode cL_scripts 32 = .ok (.aload_n 0, 1) := by decide +kernel
theorem dL_scripts_33 : decode cL_scripts 33 = .ok (.iload_n 1, 1) := by decide +kernel
theorem dL_scripts_34 : decode cL_scripts 34 = .ok (.i2l, 1) := by decide +kernel
theorem dL_scripts_35 : decode cL_scripts 35 = .ok (.ldc2_w 216, 3) := by decide +kernel
theorem dL_scripts_38 : decode cL_scripts 38 = .ok (.lmul, 1) := by decide +kernel
theorem dL_scripts_39 : decode cL_scripts 39 = .ok (.bipush 9, 2) := by decide +kernel
theorem dL_scripts_41 : decode cL_scripts 41 = .ok (.invokestatic 203, 3) := by decide +kernel
theorem dL_scripts_44 : decode cL_scripts 44 = .ok (.istore 6, 2) := by decide +kernel
theorem dL_scripts_46 : decode cL_scripts 46 = .ok (.aload_n 0, 1) := by decide +kernel
theorem dL_scripts_47 : decode cL_scripts 47 = .ok (.iconst 1, 1) := by decide +kernel
theorem dL_scripts_48 : decode cL_scripts 48 = .ok (.ldc2_w 218, 3) := by decide +kernel
theorem dL_scripts_51 : decode cL_scripts 51 = .ok (.iload_n 2, 1) := by decide +kernel
theorem dL_scripts_52 : decode cL_scripts 52 = .ok (.i2l, 1) := by decide +kernel
theorem dL_scripts_53 : decode cL_scripts 53 = .ok (.ladd, 1) := by decide +kernel
theorem dL_scripts_54 : decode cL_scripts 54 = .ok (.invokestatic 197, 3) := by decide +kernel
theorem dL_scripts_57 : decode cL_scripts 57 = .ok (.bipush (-9), 2) := by decide +kernel
theorem dL_scripts_59 : decode cL_scripts 59 = .ok (.if_icmp .ne 149, 3) := by decide +kernel
theorem dL_scripts_62 : decode cL_scripts 62 = .ok (.aload_n 0, 1) := by decide +kernel
theorem dL_scripts_63 : decode cL_scripts 63 = .ok (.iconst 1, 1) := by decide +kernel
theorem dL_scripts_64 : decode cL_scripts 64 = .ok (.ldc2_w 220, 3) := by decide +kernel
theorem dL_scripts_67 : decode cL_scripts 67 = .ok (.iload_n 2, 1) := by decide +kernel
theorem dL_scripts_68 : decode cL_scripts 68 = .ok (.i2l, 1) := by decide +kernel
theorem dL_scripts_69 : decode cL_scripts 69 = .ok (.ladd, 1) := by decide +kernel
theorem dL_scripts_70 : decode cL_scripts 70 = .ok (.invokestatic 197, 3) := by decide +kernel
theorem dL_scripts_73 : decode cL_scripts 73 = .ok (.ifCond .ne 135, 3) := by decide +kernel
theorem dL_scripts_76 : decode cL_scripts 76 = .ok (.aload_n 0, 1) := by decide +kernel
theorem dL_scripts_77 : decode cL_scripts 77 = .ok (.iconst 1, 1) := by decide +kernel
theorem dL_scripts_78 : decode cL_scripts 78 = .ok (.ldc2_w 222, 3) := by decide +kernel
theorem dL_scripts_81 : decode cL_scripts 81 = .ok (.iload_n 3, 1) := by decide +kernel
theorem dL_scripts_82 : decode cL_scripts 82 = .ok (.i2l, 1) := by decide +kernel
theorem dL_scripts_83 : decode cL_scripts 83 = .ok (.ladd, 1) := by decide +kernel
theorem dL_scripts_84 : decode cL_scripts 84 = .ok (.invokestatic 197, 3) := by decide +kernel
theorem dL_scripts_87 : decode cL_scripts 87 = .ok (.bipush (-9), 2) := by decide +kernel
theorem dL_scripts_89 : decode cL_scripts 89 = .ok (.if_icmp .ne 119, 3) := by decide +kernel
theorem dL_scripts_92 : decode cL_scripts 92 = .ok (.iload_n 3, 1) := by decide +kernel
theorem dL_scripts_93 : decode cL_scripts 93 = .ok (.sipush 9999, 3) := by decide +kernel
theorem dL_scripts_96 : decode cL_scripts 96 = .ok (.if_icmp .eq 17, 3) := by decide +kernel
theorem dL_scripts_99 : decode cL_scripts 99 = .ok (.aload_n 0, 1) := by decide +kernel
theorem dL_scripts_100 : decode cL_scripts 100 = .ok (.iconst 1, 1) := by decide +kernel
theorem dL_scripts_101 : decode cL_scripts 101 = .ok (.ldc2_w 224, 3) := by decide +kernel
theorem dL_scripts_104 : decode cL_scripts 104 = .ok (.iload_n 3, 1) := by decide +kernel
theorem dL_scripts_105 : decode cL_scripts 105 = .ok (.i2l, 1) := by decide +kernel
theorem dL_scripts_106 : decode cL_scripts 106 = .ok (.ladd, 1) := by decide +kernel
theorem dL_scripts_107 : decode cL_scripts 107 = .ok (.invokestatic 197, 3) := by decide +kernel
theorem dL_scripts_110 : decode cL_scripts 110 = .ok (.ifCond .ne 98, 3) := by decide +kernel
theorem dL_scripts_113 : decode cL_scripts 113 = .ok (.aload_n 0, 1) := by decide +kernel
theorem dL_scripts_114 : decode cL_scripts 114 = .ok (.iconst 1, 1) := by decide +kernel
theorem dL_scripts_115 : decode cL_scripts 115 = .ok (.ldc2_w 226, 3) := by decide +kernel
theorem dL_scripts_118 : decode cL_scripts 118 = .ok (.iload 4, 2) := by decide +kernel
theorem dL_scripts_120 : decode cL_scripts 120 = .ok (.i2l, 1) := by decide +kernel
theorem dL_scripts_121 : decode cL_scripts 121 = .ok (.ladd, 1) := by decide +kernel
theorem dL_scripts_122 : decode cL_scripts 122 = .ok (.invokestatic 197, 3) := by decide +kernel
theorem dL_scripts_125 : decode cL_scripts 125 = .ok (.bipush (-9), 2) := by decide +kernel
theorem dL_scripts_127 : decode cL_scripts 127 = .ok (.if_icmp .ne 81, 3) := by decide +kernel
theorem dL_scripts_130 : decode cL_scripts 130 = .ok (.aload_n 0, 1) := by decide +kernel
theorem dL_scripts_131 : decode cL_scripts 131 = .ok (.iconst 1, 1) := by decide +kernel
theorem dL_scripts_132 : decode cL_scripts 132 = .ok (.ldc2_w 226, 3) := by decide +kernel
theorem dL_scripts_135 : decode cL_scripts 135 = .ok (.iload 4, 2) := by decide +kernel
theorem dL_scripts_137 : decode cL_scripts 137 = .ok (.iconst 1, 1) := by decide +kernel
theorem dL_scripts_138 : decode cL_scripts 138 = .ok (.iadd, 1) := by decide +kernel
theorem dL_scripts_139 : decode cL_scripts 139 = .ok (.sipush 180, 3) := by decide +kernel
theorem dL_scripts_142 : decode cL_scripts 142 = .ok (.irem, 1) := by decide +kernel
theorem dL_scripts_143 : decode cL_scripts 143 = .ok (.i2l, 1) := by decide +kernel
theorem dL_scripts_144 : decode cL_scripts 144 = .ok (.ladd, 1) := by decide +kernel
theorem dL_scripts_145 : decode cL_scripts 145 = .ok (.invokestatic 197, 3) := by decide +kernel
theorem dL_scripts_148 : decode cL_scripts 148 = .ok (.ifCond .ne 60, 3) := by decide +kernel
theorem dL_scripts_151 : decode cL_scripts 151 = .ok (.aload_n 0, 1) := by decide +kernel
theorem dL_scripts_152 : decode cL_scripts 152 = .ok (.iconst 1, 1) := by decide +kernel
theorem dL_scripts_153 : decode cL_scripts 153 = .ok (.ldc2_w 228, 3) := by decide +kernel
theorem dL_scripts_156 : decode cL_scripts 156 = .ok (.iload 5, 2) := by decide +kernel
theorem dL_scripts_158 : decode cL_scripts 158 = .ok (.i2l, 1) := by decide +kernel
theorem dL_scripts_159 : decode cL_scripts 159 = .ok (.ladd, 1) := by decide +kernel
theorem dL_scripts_160 : decode cL_scripts 160 = .ok (.invokestatic 197, 3) := by decide +kernel
theorem dL_scripts_163 : decode cL_scripts 163 = .ok (.bipush (-9), 2) := by decide +kernel
theorem dL_scripts_165 : decode cL_scripts 165 = .ok (.if_icmp .ne 43, 3) := by decide +kernel
theorem dL_scripts_168 : decode cL_scripts 168 = .ok (.aload_n 0, 1) := by decide +kernel
theorem dL_scripts_169 : decode cL_scripts 169 = .ok (.iconst 1, 1) := by decide +kernel
theorem dL_scripts_170 : decode cL_scripts 170 = .ok (.ldc2_w 230, 3) := by decide +kernel
theorem dL_scripts_173 : decode cL_scripts 173 = .ok (.iload 5, 2) := by decide +kernel
theorem dL_scripts_175 : decode cL_scripts 175 = .ok (.i2l, 1) := by decide +kernel
theorem dL_scripts_176 : decode cL_scripts 176 = .ok (.ladd, 1) := by decide +kernel
theorem dL_scripts_177 : decode cL_scripts 177 = .ok (.invokestatic 197, 3) := by decide +kernel
theorem dL_scripts_180 : decode cL_scripts 180 = .ok (.ifCond .ne 28, 3) := by decide +kernel
theorem dL_scripts_183 : decode cL_scripts 183 = .ok (.aload_n 0, 1) := by decide +kernel
theorem dL_scripts_184 : decode cL_scripts 184 = .ok (.iconst 2, 1) := by decide +kernel
theorem dL_scripts_185 : decode cL_scripts 185 = .ok (.ldc2_w 232, 3) := by decide +kernel
theorem dL_scripts_188 : decode cL_scripts 188 = .ok (.aload_n 0, 1) := by decide +kernel
theorem dL_scripts_189 : decode cL_scripts 189 = .ok (.bipush 9, 2) := by decide +kernel
theorem dL_scripts_191 : decode cL_scripts 191 = .ok (.invokestatic 130, 3) := by decide +kernel
theorem dL_scripts_194 : decode cL_scripts 194 = .ok (.i2l, 1) := by decide +kernel
theorem dL_scripts_195 : decode cL_scripts 195 = .ok (.ladd, 1) := by decide +kernel
theorem dL_scripts_196 : decode cL_scripts 196 = .ok (.invokestatic 197, 3) := by decide +kernel
theorem dL_scripts_199 : decode cL_scripts 199 = .ok (.bipush (-9), 2) := by decide +kernel
theorem dL_scripts_201 : decode cL_scripts 201 = .ok (.if_icmp .ne 7, 3) := by decide +kernel
theorem dL_scripts_204 : decode cL_scripts 204 = .ok (.iconst 1, 1) := by decide +kernel
theorem dL_scripts_205 : decode cL_scripts 205 = .ok (.goto 4, 3) := by decide +kernel
theorem dL_scripts_208 : decode cL_scripts 208 = .ok (.iconst 0, 1) := by decide +kernel
theorem dL_scripts_209 : decode cL_scripts 209 = .ok (.istore 7, 2) := by decide +kernel
theorem dL_scripts_211 : decode cL_scripts 211 = .ok (.iload 7, 2) := by decide +kernel
theorem dL_scripts_213 : decode cL_scripts 213 = .ok (.ifCond .eq 173, 3) := by decide +kernel
theorem dL_scripts_216 : decode cL_scripts 216 = .ok (.aload_n 0, 1) := by decide +kernel
theorem dL_scripts_217 : decode cL_scripts 217 = .ok (.iconst 1, 1) := by decide +kernel
theorem dL_scripts_218 : decode cL_scripts 218 = .ok (.ldc2_w 234, 3) := by decide +kernel
theorem dL_scripts_221 : decode cL_scripts 221 = .ok (.invokestatic 197, 3) := by decide +kernel
theorem dL_scripts_224 : decode cL_scripts 224 = .ok (.ifCond .ne 162, 3) := by decide +kernel
theorem dL_scripts_227 : decode cL_scripts 227 = .ok (.aload_n 0, 1) := by decide +kernel
theorem dL_scripts_228 : decode cL_scripts 228 = .ok (.iconst 1, 1) := by decide +kernel
theorem dL_scripts_229 : decode cL_scripts 229 = .ok (.ldc2_w 236, 3) := by decide +kernel
theorem dL_scripts_232 : decode cL_scripts 232 = .ok (.invokestatic 197, 3) := by decide +kernel
theorem dL_scripts_235 : decode cL_scripts 235 = .ok (.ifCond .ne 151, 3) := by decide +kernel
theorem dL_scripts_238 : decode cL_scripts 238 = .ok (.aload_n 0, 1) := by decide +kernel
theorem dL_scripts_239 : decode cL_scripts 239 = .ok (.iconst 1, 1) := by decide +kernel
theorem dL_scripts_240 : decode cL_scripts 240 = .ok (.ldc2_w 238, 3) := by decide +kernel
theorem dL_scripts_243 : decode cL_scripts 243 = .ok (.invokestatic 197, 3) := by decide +kernel
theorem dL_scripts_246 : decode cL_scripts 246 = .ok (.ifCond .ne 140, 3) := by decide +kernel
theorem dL_scripts_249 : decode cL_scripts 249 = .ok (.aload_n 0, 1) := by decide +kernel
theorem dL_scripts_250 : decode cL_scripts 250 = .ok (.iconst 1, 1) := by decide +kernel
theorem dL_scripts_251 : decode cL_scripts 251 = .ok (.ldc2_w 240, 3) := by decide +kernel
theorem dL_scripts_254 : decode cL_scripts 254 = .ok (.invokestatic 197, 3) := by decide +kernel
theorem dL_scripts_257 : decode cL_scripts 257 = .ok (.ifCond .ne 129, 3) := by decide +kernel
theorem dL_scripts_260 : decode cL_scripts 260 = .ok (.aload_n 0, 1) := by decide +kernel
theorem dL_scripts_261 : decode cL_scripts 261 = .ok (.iconst 1, 1) := by decide +kernel
theorem dL_scripts_262 : decode cL_scripts 262 = .ok (.ldc2_w 242, 3) := by decide +kernel
theorem dL_scripts_265 : decode cL_scripts 265 = .ok (.invokestatic 197, 3) := by decide +kernel
theorem dL_scripts_268 : decode cL_scripts 268 = .ok (.ifCond .ne 118, 3) := by decide +kernel
theorem dL_scripts_271 : decode cL_scripts 271 = .ok (.aload_n 0, 1) := by decide +kernel
theorem dL_scripts_272 : decode cL_scripts 272 = .ok (.iconst 1, 1) := by decide +kernel
theorem dL_scripts_273 : decode cL_scripts 273 = .ok (.ldc2_w 244, 3) := by decide +kernel
theorem dL_scripts_276 : decode cL_scripts 276 = .ok (.invokestatic 197, 3) := by decide +kernel
theorem dL_scripts_279 : decode cL_scripts 279 = .ok (.bipush (-9), 2) := by decide +kernel
theorem dL_scripts_281 : decode cL_scripts 281 = .ok (.if_icmp .ne 105, 3) := by decide +kernel
theorem dL_scripts_284 : decode cL_scripts 284 = .ok (.aload_n 0, 1) := by decide +kernel
theorem dL_scripts_285 : decode cL_scripts 285 = .ok (.iconst 1, 1) := by decide +kernel
theorem dL_scripts_286 : decode cL_scripts 286 = .ok (.ldc2_w 246, 3) := by decide +kernel
theorem dL_scripts_289 : decode cL_scripts 289 = .ok (.invokestatic 197, 3) := by decide +kernel
theorem dL_scripts_292 : decode cL_scripts 292 = .ok (.ifCond .ne 94, 3) := by decide +kernel
theorem dL_scripts_295 : decode cL_scripts 295 = .ok (.aload_n 0, 1) := by decide +kernel
theorem dL_scripts_296 : decode cL_scripts 296 = .ok (.iconst 1, 1) := by decide +kernel
theorem dL_scripts_297 : decode cL_scripts 297 = .ok (.ldc2_w 248, 3) := by decide +kernel
theorem dL_scripts_300 : decode cL_scripts 300 = .ok (.invokestatic 197, 3) := by decide +kernel
theorem dL_scripts_303 : decode cL_scripts 303 = .ok (.ifCond .ne 83, 3) := by decide +kernel
theorem dL_scripts_306 : decode cL_scripts 306 = .ok (.aload_n 0, 1) := by decide +kernel
theorem dL_scripts_307 : decode cL_scripts 307 = .ok (.iconst 1, 1) := by decide +kernel
theorem dL_scripts_308 : decode cL_scripts 308 = .ok (.ldc2_w 250, 3) := by decide +kernel
theorem dL_scripts_311 : decode cL_scripts 311 = .ok (.invokestatic 197, 3) := by decide +kernel
theorem dL_scripts_314 : decode cL_scripts 314 = .ok (.ifCond .ne 72, 3) := by decide +kernel
theorem dL_scripts_317 : decode cL_scripts 317 = .ok (.aload_n 0, 1) := by decide +kernel
theorem dL_scripts_318 : decode cL_scripts 318 = .ok (.iconst 2, 1) := by decide +kernel
theorem dL_scripts_319 : decode cL_scripts 319 = .ok (.ldc2_w 252, 3) := by decide +kernel
theorem dL_scripts_322 : decode cL_scripts 322 = .ok (.iload 4, 2) := by decide +kernel
theorem dL_scripts_324 : decode cL_scripts 324 = .ok (.iconst 1, 1) := by decide +kernel
theorem dL_scripts_325 : decode cL_scripts 325 = .ok (.iadd, 1) := by decide +kernel
theorem dL_scripts_326 : decode cL_scripts 326 = .ok (.sipush 180, 3) := by decide +kernel
theorem dL_scripts_329 : decode cL_scripts 329 = .ok (.irem, 1) := by decide +kernel
theorem dL_scripts_330 : decode cL_scripts 330 = .ok (.i2l, 1) := by decide +kernel
theorem dL_scripts_331 : decode cL_scripts 331 = .ok (.ladd, 1) := by decide +kernel
theorem dL_scripts_332 : decode cL_scripts 332 = .ok (.invokestatic 197, 3) := by decide +kernel
theorem dL_scripts_335 : decode cL_scripts 335 = .ok (.bipush (-9), 2) := by decide +kernel
theorem dL_scripts_337 : decode cL_scripts 337 = .ok (.if_icmp .ne 49, 3) := by decide +kernel
theorem dL_scripts_340 : decode cL_scripts 340 = .ok (.aload_n 0, 1) := by decide +kernel
theorem dL_scripts_341 : decode cL_scripts 341 = .ok (.iconst 1, 1) := by decide +kernel
theorem dL_scripts_342 : decode cL_scripts 342 = .ok (.ldc2_w 254, 3) := by decide +kernel
theorem dL_scripts_345 : decode cL_scripts 345 = .ok (.invokestatic 197, 3) := by decide +kernel
theorem dL_scripts_348 : decode cL_scripts 348 = .ok (.ifCond .ne 38, 3) := by decide +kernel
theorem dL_scripts_351 : decode cL_scripts 351 = .ok (.aload_n 0, 1) := by decide +kernel
theorem dL_scripts_352 : decode cL_scripts 352 = .ok (.iconst 1, 1) := by decide +kernel
theorem dL_scripts_353 : decode cL_scripts 353 = .ok (.lconst 0, 1) := by decide +kernel
theorem dL_scripts_354 : decode cL_scripts 354 = .ok (.invokestatic 197, 3) := by decide +kernel
theorem dL_scripts_357 : decode cL_scripts 357 = .ok (.ifCond .ne 29, 3) := by decide +kernel
theorem dL_scripts_360 : decode cL_scripts 360 = .ok (.iload 6, 2) := by decide +kernel
theorem dL_scripts_362 : decode cL_scripts 362 = .ok (.ifCond .lt 24, 3) := by decide +kernel
theorem dL_scripts_365 : decode cL_scripts 365 = .ok (.iload 6, 2) := by decide +kernel
theorem dL_scripts_367 : decode cL_scripts 367 = .ok (.aload_n 0, 1) := by decide +kernel
theorem dL_scripts_368 : decode cL_scripts 368 = .ok (.iload_n 1, 1) := by decide +kernel
theorem dL_scripts_369 : decode cL_scripts 369 = .ok (.i2l, 1) := by decide +kernel
theorem dL_scripts_370 : decode cL_scripts 370 = .ok (.ldc2_w 216, 3) := by decide +kernel
theorem dL_scripts_373 : decode cL_scripts 373 = .ok (.lmul, 1) := by decide +kernel
theorem dL_scripts_374 : decode cL_scripts 374 = .ok (.bipush 9, 2) := by decide +kernel
theorem dL_scripts_376 : decode cL_scripts 376 = .ok (.invokestatic 203, 3) := by decide +kernel
theorem dL_scripts_379 : decode cL_scripts 379 = .ok (.if_icmp .ne 7, 3) := by decide +kernel
theorem dL_scripts_382 : decode cL_scripts 382 = .ok (.iconst 1, 1) := by decide +kernel
theorem dL_scripts_383 : decode cL_scripts 383 = .ok (.goto 4, 3) := by decide +kernel
theorem dL_scripts_386 : decode cL_scripts 386 = .ok (.iconst 0, 1) := by decide +kernel
theorem dL_scripts_387 : decode cL_scripts 387 = .ok (.ireturn, 1) := by decide +kernel
theorem dL_act_0 : decode cL_act 0 = .ok (.aload_n 0, 1) := by decide +kernel
theorem dL_act_1 : decode cL_act 1 = .ok (.bipush 9, 2) := by decide +kernel
theorem dL_act_3 : decode cL_act 3 = .ok (.invokestatic 130, 3) := by decide +kernel
theorem dL_act_6 : decode cL_act 6 = .ok (.istore_n 3, 1) := by decide +kernel
theorem dL_act_7 : decode cL_act 7 = .ok (.iload_n 1, 1) := by decide +kernel
theorem dL_act_8 : decode cL_act 8 = .ok (.bipush 16, 2) := by decide +kernel
theorem dL_act_10 : decode cL_act 10 = .ok (.irem, 1) := by decide +kernel
theorem dL_act_11 : decode cL_act 11 = .ok (.tableswitch 244 0 14 #[73, 73, 73, 73, 84, 84, 96, 110, 149, 167, 181, 181, 205, 221, 239], 73) := by decide +kernel
theorem dL_act_84 : decode cL_act 84 = .ok (.aload_n 0, 1) := by decide +kernel
theorem dL_act_85 : decode cL_act 85 = .ok (.iconst 1, 1) := by decide +kernel
theorem dL_act_86 : decode cL_act 86 = .ok (.iload_n 2, 1) := by decide +kernel
theorem dL_act_87 : decode cL_act 87 = .ok (.bipush 60, 2) := by decide +kernel
theorem dL_act_89 : decode cL_act 89 = .ok (.irem, 1) := by decide +kernel
theorem dL_act_90 : decode cL_act 90 = .ok (.iadd, 1) := by decide +kernel
theorem dL_act_91 : decode cL_act 91 = .ok (.invokestatic 155, 3) := by decide +kernel
theorem dL_act_94 : decode cL_act 94 = .ok (.ireturn, 1) := by decide +kernel
theorem dL_act_95 : decode cL_act 95 = .ok (.aload_n 0, 1) := by decide +kernel
theorem dL_act_96 : decode cL_act 96 = .ok (.iconst 1, 1) := by decide +kernel
theorem dL_act_97 : decode cL_act 97 = .ok (.iload_n 2, 1) := by decide +kernel
theorem dL_act_98 : decode cL_act 98 = .ok (.sipush 5000, 3) := by decide +kernel
theorem dL_act_101 : decode cL_act 101 = .ok (.irem, 1) := by decide +kernel
theorem dL_act_102 : decode cL_act 102 = .ok (.iadd, 1) := by decide +kernel
theorem dL_act_103 : decode cL_act 103 = .ok (.invokestatic 161, 3) := by decide +kernel
theorem dL_act_106 : decode cL_act 106 = .ok (.ireturn, 1) := by decide +kernel
theorem dL_act_107 : decode cL_act 107 = .ok (.aload_n 0, 1) := by decide +kernel
theorem dL_act_108 : decode cL_act 108 = .ok (.iconst 0, 1) := by decide +kernel
theorem dL_act_109 : decode cL_act 109 = .ok (.iload_n 2, 1) := by decide +kernel
theorem dL_act_110 : decode cL_act 110 = .ok (.sipush 181, 3) := by decide +kernel
theorem dL_act_113 : decode cL_act 113 = .ok (.irem, 1) := by decide +kernel
theorem dL_act_114 : decode cL_act 114 = .ok (.bipush 90, 2) := by decide +kernel
theorem dL_act_116 : decode cL_act 116 = .ok (.isub, 1) := by decide +kernel
theorem dL_act_117 : decode cL_act 117 = .ok (.invokestatic 158, 3) := by decide +kernel
theorem dL_act_120 : decode cL_act 120 = .ok (.ireturn, 1) := by decide +kernel
theorem dL_act_121 : decode cL_act 121 = .ok (.iload_n 2, 1) := by decide +kernel
theorem dL_act_122 : decode cL_act 122 = .ok (.iconst 2, 1) := by decide +kernel
theorem dL_act_123 : decode cL_act 123 = .ok (.irem, 1) := by decide +kernel
theorem dL_act_124 : decode cL_act 124 = .ok (.ifCond .ne 21, 3) := by decide +kernel
theorem dL_act_127 : decode cL_act 127 = .ok (.aload_n 0, 1) := by decide +kernel
theorem dL_act_128 : decode cL_act 128 = .ok (.iconst 1, 1) := by decide +kernel
theorem dL_act_129 : decode cL_act 129 = .ok (.bipush 60, 2) := by decide +kernel
theorem dL_act_131 : decode cL_act 131 = .ok (.iload_n 2, 1) := by decide +kernel
theorem dL_act_132 : decode cL_act 132 = .ok (.iconst 2, 1) := by decide +kernel
theorem dL_act_133 : decode cL_act 133 = .ok (.idiv, 1) := by decide +kernel
theorem dL_act_134 : decode cL_act 134 = .ok (.sipush 200, 3) := by decide +kernel
theorem dL_act_137 : decode cL_act 137 = .ok (.irem, 1) := by decide +kernel
theorem dL_act_138 : decode cL_act 138 = .ok (.iadd, 1) := by decide +kernel
theorem dL_act_139 : decode cL_act 139 = .ok (.invokestatic 158, 3) := by decide +kernel
theorem dL_act_142 : decode cL_act 142 = .ok (.goto 17, 3) := by decide +kernel
theorem dL_act_145 : decode cL_act 145 = .ok (.aload_n 0, 1) := by decide +kernel
theorem dL_act_146 : decode cL_act 146 = .ok (.iconst 3, 1) := by decide +kernel
theorem dL_act_147 : decode cL_act 147 = .ok (.iconst 1, 1) := by decide +kernel
theorem dL_act_148 : decode cL_act 148 = .ok (.iload_n 2, 1) := by decide +kernel
theorem dL_act_149 : decode cL_act 149 = .ok (.iconst 2, 1) := by decide +kernel
theorem dL_act_150 : decode cL_act 150 = .ok (.idiv, 1) := by decide +kernel
theorem dL_act_151 : decode cL_act 151 = .ok (.sipush 6000, 3) := by decide +kernel
theorem dL_act_154 : decode cL_act 154 = .ok (.irem, 1) := by decide +kernel
theorem dL_act_155 : decode cL_act 155 = .ok (.iadd, 1) := by decide +kernel
theorem dL_act_156 : decode cL_act 156 = .ok (.invokestatic 158, 3) := by decide +kernel
theorem dL_act_159 : decode cL_act 159 = .ok (.ireturn, 1) := by decide +kernel
theorem dL_act_160 : decode cL_act 160 = .ok (.aload_n 0, 1) := by decide +kernel
theorem dL_act_161 : decode cL_act 161 = .ok (.iconst 2, 1) := by decide +kernel
theorem dL_act_162 : decode cL_act 162 = .ok (.iload_n 2, 1) := by decide +kernel
theorem dL_act_163 : decode cL_act 163 = .ok (.iconst 2, 1) := by decide +kernel
theorem dL_act_164 : decode cL_act 164 = .ok (.irem, 1) := by decide +kernel
theorem dL_act_165 : decode cL_act 165 = .ok (.iconst 2, 1) := by decide +kernel
theorem dL_act_166 : decode cL_act 166 = .ok (.imul, 1) := by decide +kernel
theorem dL_act_167 : decode cL_act 167 = .ok (.iadd, 1) := by decide +kernel
theorem dL_act_168 : decode cL_act 168 = .ok (.iload_n 2, 1) := by decide +kernel
theorem dL_act_169 : decode cL_act 169 = .ok (.iconst 2, 1) := by decide +kernel
theorem dL_act_170 : decode cL_act 170 = .ok (.idiv, 1) := by decide +kernel
theorem dL_act_171 : decode cL_act 171 = .ok (.bipush 100, 2) := by decide +kernel
theorem dL_act_173 : decode cL_act 173 = .ok (.irem, 1) := by decide +kernel
theorem dL_act_174 : decode cL_act 174 = .ok (.invokestatic 158, 3) := by decide +kernel
theorem dL_act_177 : decode cL_act 177 = .ok (.ireturn, 1) := by decide +kernel
theorem dL_act_178 : decode cL_act 178 = .ok (.aload_n 0, 1) := by decide +kernel
theorem dL_act_179 : decode cL_act 179 = .ok (.iload_n 2, 1) := by decide +kernel
theorem dL_act_180 : decode cL_act 180 = .ok (.sipush 1201, 3) := by decide +kernel
theorem dL_act_183 : decode cL_act 183 = .ok (.irem, 1) := by decide +kernel
theorem dL_act_184 : decode cL_act 184 = .ok (.sipush 600, 3) := by decide +kernel
theorem dL_act_187 : decode cL_act 187 = .ok (.isub, 1) := by decide +kernel
theorem dL_act_188 : decode cL_act 188 = .ok (.invokestatic 164, 3) := by decide +kernel
theorem dL_act_191 : decode cL_act 191 = .ok (.ireturn, 1) := by decide +kernel
theorem dL_act_192 : decode cL_act 192 = .ok (.aload_n 0, 1) := by decide +kernel
theorem dL_act_193 : decode cL_act 193 = .ok (.aload_n 0, 1) := by decide +kernel
theorem dL_act_194 : decode cL_act 194 = .ok (.iconst 5, 1) := by decide +kernel
theorem dL_act_195 : decode cL_act 195 = .ok (.invokestatic 130, 3) := by decide +kernel
theorem dL_act_198 : decode cL_act 198 = .ok (.iload_n 2, 1) := by decide +kernel
theorem dL_act_199 : decode cL_act 199 = .ok (.sipush 240, 3) := by decide +kernel
theorem dL_act_202 : decode cL_act 202 = .ok (.irem, 1) := by decide +kernel
theorem dL_act_203 : decode cL_act 203 = .ok (.iadd, 1) := by decide +kernel
theorem dL_act_204 : decode cL_act 204 = .ok (.sipush 10680, 3) := by decide +kernel
theorem dL_act_207 : decode cL_act 207 = .ok (.iadd, 1) := by decide +kernel
theorem dL_act_208 : decode cL_act 208 = .ok (.sipush 10800, 3) := by decide +kernel
theorem dL_act_211 : decode cL_act 211 = .ok (.irem, 1) := by decide +kernel
theorem dL_act_212 : decode cL_act 212 = .ok (.invokestatic 149, 3) := by decide +kernel
theorem dL_act_215 : decode cL_act 215 = .ok (.ireturn, 1) := by decide +kernel
theorem dL_act_216 : decode cL_act 216 = .ok (.aload_n 0, 1) := by decide +kernel
theorem dL_act_217 : decode cL_act 217 = .ok (.iload_n 3, 1) := by decide +kernel
theorem dL_act_218 : decode cL_act 218 = .ok (.ifCond .ne 7, 3) := by decide +kernel
theorem dL_act_221 : decode cL_act 221 = .ok (.iconst 0, 1) := by decide +kernel
theorem dL_act_222 : decode cL_act 222 = .ok (.goto 6, 3) := by decide +kernel
theorem dL_act_225 : decode cL_act 225 = .ok (.iload_n 2, 1) := by decide +kernel
theorem dL_act_226 : decode cL_act 226 = .ok (.iload_n 3, 1) := by decide +kernel
theorem dL_act_227 : decode cL_act 227 = .ok (.irem, 1) := by decide +kernel
theorem dL_act_228 : decode cL_act 228 = .ok (.invokestatic 167, 3) := by decide +kernel
theorem dL_act_231 : decode cL_act 231 = .ok (.ireturn, 1) := by decide +kernel
theorem dL_act_232 : decode cL_act 232 = .ok (.iload_n 2, 1) := by decide +kernel
theorem dL_act_233 : decode cL_act 233 = .ok (.iconst 3, 1) := by decide +kernel
theorem dL_act_234 : decode cL_act 234 = .ok (.irem, 1) := by decide +kernel
theorem dL_act_235 : decode cL_act 235 = .ok (.ifCond .ne 10, 3) := by decide +kernel
theorem dL_act_238 : decode cL_act 238 = .ok (.aload_n 0, 1) := by decide +kernel
theorem dL_act_239 : decode cL_act 239 = .ok (.invokevirtual 210, 3) := by decide +kernel
theorem dL_act_242 : decode cL_act 242 = .ok (.goto 7, 3) := by decide +kernel
theorem dL_act_245 : decode cL_act 245 = .ok (.aload_n 0, 1) := by decide +kernel
theorem dL_act_246 : decode cL_act 246 = .ok (.invokestatic 170, 3) := by decide +kernel
theorem dL_act_249 : decode cL_act 249 = .ok (.ireturn, 1) := by decide +kernel
theorem dL_act_250 : decode cL_act 250 = .ok (.aload_n 0, 1) := by decide +kernel
theorem dL_act_251 : decode cL_act 251 = .ok (.invokestatic 133, 3) := by decide +kernel
theorem dL_act_254 : decode cL_act 254 = .ok (.ireturn, 1) := by decide +kernel
theorem dL_act_255 : decode cL_act 255 = .ok (.iload_n 2, 1) := by decide +kernel
theorem dL_act_256 : decode cL_act 256 = .ok (.iconst 2, 1) := by decide +kernel
theorem dL_act_257 : decode cL_act 257 = .ok (.irem, 1) := by decide +kernel
theorem dL_act_258 : decode cL_act 258 = .ok (.ifCond .ne 11, 3) := by decide +kernel
theorem dL_act_261 : decode cL_act 261 = .ok (.aload_n 0, 1) := by decide +kernel
theorem dL_act_262 : decode cL_act 262 = .ok (.iconst 1, 1) := by decide +kernel
theorem dL_act_263 : decode cL_act 263 = .ok (.invokestatic 207, 3) := by decide +kernel
theorem dL_act_266 : decode cL_act 266 = .ok (.goto 8, 3) := by decide +kernel
