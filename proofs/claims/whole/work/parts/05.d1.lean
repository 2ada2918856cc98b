theorem dX4_divideDown_14 : decode cX4_divideDown 14 = .ok (.lconst 0, 1) := by decide +kernel
theorem dX4_divideDown_15 : decode cX4_divideDown 15 = .ok (.lreturn, 1) := by decide +kernel
theorem dX4_startTrial_0 : decode cX4_startTrial 0 = .ok (.aload_n 0, 1) := by decide +kernel
theorem dX4_startTrial_1 : decode cX4_startTrial 1 = .ok (.getfield 47, 3) := by decide +kernel
theorem dX4_startTrial_4 : decode cX4_startTrial 4 = .ok (.aload_n 0, 1) := by decide +kernel
theorem dX4_startTrial_5 : decode cX4_startTrial 5 = .ok (.getfield 19, 3) := by decide +kernel
theorem dX4_startTrial_8 : decode cX4_startTrial 8 = .ok (.invokevirtual 273, 3) := by decide +kernel
theorem dX4_startTrial_11 : decode cX4_startTrial 11 = .ok (.aload_n 0, 1) := by decide +kernel
theorem dX4_startTrial_12 : decode cX4_startTrial 12 = .ok (.getfield 50, 3) := by decide +kernel
theorem dX4_startTrial_15 : decode cX4_startTrial 15 = .ok (.invokevirtual 185, 3) := by decide +kernel
theorem dX4_startTrial_18 : decode cX4_startTrial 18 = .ok (.return_, 1) := by decide +kernel
theorem dX4_staysInReach_0 : decode cX4_staysInReach 0 = .ok (.iconst 0, 1) := by decide +kernel
theorem dX4_staysInReach_1 : decode cX4_staysInReach 1 = .ok (.istore_n 2, 1) := by decide +kernel
theorem dX4_staysInReach_2 : decode cX4_staysInReach 2 = .ok (.iload_n 2, 1) := by decide +kernel
theorem dX4_staysInReach_3 : decode cX4_staysInReach 3 = .ok (.iload_n 1, 1) := by decide +kernel
theorem dX4_staysInReach_4 : decode cX4_staysInReach 4 = .ok (.if_icmp .ge 38, 3) := by decide +kernel
theorem dX4_staysInReach_7 : decode cX4_staysInReach 7 = .ok (.aload_n 0, 1) := by decide +kernel
theorem dX4_staysInReach_8 : decode cX4_staysInReach 8 = .ok (.getfield 50, 3) := by decide +kernel
theorem dX4_staysInReach_11 : decode cX4_staysInReach 11 = .ok (.invokevirtual 262, 3) := by decide +kernel
theorem dX4_staysInReach_14 : decode cX4_staysInReach 14 = .ok (.pop, 1) := by decide +kernel
theorem dX4_staysInReach_15 : decode cX4_staysInReach 15 = .ok (.aload_n 0, 1) := by decide +kernel
theorem dX4_staysInReach_16 : decode cX4_staysInReach 16 = .ok (.getfield 47, 3) := by decide +kernel
theorem dX4_staysInReach_19 : decode cX4_staysInReach 19 = .ok (.getfield 98, 3) := by decide +kernel
theorem dX4_staysInReach_22 : decode cX4_staysInReach 22 = .ok (.aload_n 0, 1) := by decide +kernel
theorem dX4_staysInReach_23 : decode cX4_staysInReach 23 = .ok (.getfield 47, 3) := by decide +kernel
theorem dX4_staysInReach_26 : decode cX4_staysInReach 26 = .ok (.getfield 82, 3) := by decide +kernel
theorem dX4_staysInReach_29 : decode cX4_staysInReach 29 = .ok (.iconst 3, 1) := by decide +kernel
theorem dX4_staysInReach_30 : decode cX4_staysInReach 30 = .ok (.iaload, 1) := by decide +kernel
theorem dX4_staysInReach_31 : decode cX4_staysInReach 31 = .ok (.if_icmp .ge 5, 3) := by decide +kernel
theorem dX4_staysInReach_34 : decode cX4_staysInReach 34 = .ok (.iconst 0, 1) := by decide +kernel
theorem dX4_staysInReach_35 : decode cX4_staysInReach 35 = .ok (.ireturn, 1) := by decide +kernel
theorem dX4_staysInReach_36 : decode cX4_staysInReach 36 = .ok (.iinc 2 1, 3) := by decide +kernel
theorem dX4_staysInReach_39 : decode cX4_staysInReach 39 = .ok (.goto (-37), 3) := by decide +kernel
theorem dX4_staysInReach_42 : decode cX4_staysInReach 42 = .ok (.iconst 1, 1) := by decide +kernel
theorem dX4_staysInReach_43 : decode cX4_staysInReach 43 = .ok (.ireturn, 1) := by decide +kernel
theorem dX4_firstFall_0 : decode cX4_firstFall 0 = .ok (.iconst 0, 1) := by decide +kernel
theorem dX4_firstFall_1 : decode cX4_firstFall 1 = .ok (.istore_n 2, 1) := by decide +kernel
theorem dX4_firstFall_2 : decode cX4_firstFall 2 = .ok (.iload_n 2, 1) := by decide +kernel
theorem dX4_firstFall_3 : decode cX4_firstFall 3 = .ok (.iload_n 1, 1) := by decide +kernel
theorem dX4_firstFall_4 : decode cX4_firstFall 4 = .ok (.if_icmp .ge 27, 3) := by decide +kernel
theorem dX4_firstFall_7 : decode cX4_firstFall 7 = .ok (.aload_n 0, 1) := by decide +kernel
theorem dX4_firstFall_8 : decode cX4_firstFall 8 = .ok (.getfield 50, 3) := by decide +kernel
theorem dX4_firstFall_11 : decode cX4_firstFall 11 = .ok (.invokevirtual 262, 3) := by decide +kernel
theorem dX4_firstFall_14 : decode cX4_firstFall 14 = .ok (.ifCond .le 11, 3) := by decide +kernel
theorem dX4_firstFall_17 : decode cX4_firstFall 17 = .ok (.aload_n 0, 1) := by decide +kernel
theorem dX4_firstFall_18 : decode cX4_firstFall 18 = .ok (.getfield 50, 3) := by decide +kernel
theorem dX4_firstFall_21 : decode cX4_firstFall 21 = .ok (.getfield 326, 3) := by decide +kernel
theorem dX4_firstFall_24 : decode cX4_firstFall 24 = .ok (.ireturn, 1) := by decide +kernel
theorem dX4_firstFall_25 : decode cX4_firstFall 25 = .ok (.iinc 2 1, 3) := by decide +kernel
theorem dX4_firstFall_28 : decode cX4_firstFall 28 = .ok (.goto (-26), 3) := by decide +kernel
theorem dX4_firstFall_31 : decode cX4_firstFall 31 = .ok (.bipush (-9), 2) := by decide +kernel
theorem dX4_firstFall_33 : decode cX4_firstFall 33 = .ok (.ireturn, 1) := by decide +kernel
theorem dX4_withoutGroups_0 : decode cX4_withoutGroups 0 = .ok (.lload_n 0, 1) := by decide +kernel
theorem dX4_withoutGroups_1 : decode cX4_withoutGroups 1 = .ok (.lstore_n 3, 1) := by decide +kernel
theorem dX4_withoutGroups_2 : decode cX4_withoutGroups 2 = .ok (.iconst 0, 1) := by decide +kernel
theorem dX4_withoutGroups_3 : decode cX4_withoutGroups 3 = .ok (.istore 5, 2) := by decide +kernel
theorem dX4_withoutGroups_5 : decode cX4_withoutGroups 5 = .ok (.iload 5, 2) := by decide +kernel
theorem dX4_withoutGroups_7 : decode cX4_withoutGroups 7 = .ok (.iload_n 2, 1) := by decide +kernel
theorem dX4_withoutGroups_8 : decode cX4_withoutGroups 8 = .ok (.if_icmp .ge 15, 3) := by decide +kernel
theorem dX4_withoutGroups_11 : decode cX4_withoutGroups 11 = .ok (.lload_n 3, 1) := by decide +kernel
theorem dX4_withoutGroups_12 : decode cX4_withoutGroups 12 = .ok (.ldc2_w 287, 3) := by decide +kernel
theorem dX4_withoutGroups_15 : decode cX4_withoutGroups 15 = .ok (.ldiv, 1) := by decide +kernel
theorem dX4_withoutGroups_16 : decode cX4_withoutGroups 16 = .ok (.lstore_n 3, 1) := by decide +kernel
theorem dX4_withoutGroups_17 : decode cX4_withoutGroups 17 = .ok (.iinc 5 1, 3) := by decide +kernel
theorem dX4_withoutGroups_20 : decode cX4_withoutGroups 20 = .ok (.goto (-15), 3) := by decide +kernel
theorem dX4_withoutGroups_23 : decode cX4_withoutGroups 23 = .ok (.lload_n 3, 1) := by decide +kernel
theorem dX4_withoutGroups_24 : decode cX4_withoutGroups 24 = .ok (.lreturn, 1) := by decide +kernel
theorem dX4_commandSucceeds_0 : decode cX4_commandSucceeds 0 = .ok (.iload_n 1, 1) := by decide +kernel
theorem dX4_commandSucceeds_1 : decode cX4_commandSucceeds 1 = .ok (.sipush 1000, 3) := by decide +kernel
theorem dX4_commandSucceeds_4 : decode cX4_commandSucceeds 4 = .ok (.idiv, 1) := by decide +kernel
theorem dX4_commandSucceeds_5 : decode cX4_commandSucceeds 5 = .ok (.bipush 10, 2) := by decide +kernel
theorem dX4_commandSucceeds_7 : decode cX4_commandSucceeds 7 = .ok (.irem, 1) := by decide +kernel
theorem dX4_commandSucceeds_8 : decode cX4_commandSucceeds 8 = .ok (.istore_n 2, 1) := by decide +kernel
theorem dX4_commandSucceeds_9 : decode cX4_commandSucceeds 9 = .ok (.iload_n 1, 1) := by decide +kernel
theorem dX4_commandSucceeds_10 : decode cX4_commandSucceeds 10 = .ok (.sipush 1000, 3) := by decide +kernel
theorem dX4_commandSucceeds_13 : decode cX4_commandSucceeds 13 = .ok (.irem, 1) := by decide +kernel
theorem dX4_commandSucceeds_14 : decode cX4_commandSucceeds 14 = .ok (.istore_n 3, 1) := by decide +kernel
theorem dX4_commandSucceeds_15 : decode cX4_commandSucceeds 15 = .ok (.iload_n 1, 1) := by decide +kernel
theorem dX4_commandSucceeds_16 : decode cX4_commandSucceeds 16 = .ok (.sipush 10000, 3) := by decide +kernel
theorem dX4_commandSucceeds_19 : decode cX4_commandSucceeds 19 = .ok (.idiv, 1) := by decide +kernel
theorem dX4_commandSucceeds_20 : decode cX4_commandSucceeds 20 = .ok (.tableswitch 233 1 9 #[52, 70, 77, 95, 123, 144, 165, 188, 212], 52) := by decide +kernel
theorem dX4_commandSucceeds_72 : decode cX4_commandSucceeds 72 = .ok (.iload_n 2, 1) := by decide +kernel
theorem dX4_commandSucceeds_73 : decode cX4_commandSucceeds 73 = .ok (.ifCond .ne 15, 3) := by decide +kernel
theorem dX4_commandSucceeds_76 : decode cX4_commandSucceeds 76 = .ok (.aload_n 0, 1) := by decide +kernel
theorem dX4_commandSucceeds_77 : decode cX4_commandSucceeds 77 = .ok (.iload_n 3, 1) := by decide +kernel
theorem dX4_commandSucceeds_78 : decode cX4_commandSucceeds 78 = .ok (.invokevirtual 329, 3) := by decide +kernel
theorem dX4_commandSucceeds_81 : decode cX4_commandSucceeds 81 = .ok (.ifCond .eq 7, 3) := by decide +kernel
theorem dX4_commandSucceeds_84 : decode cX4_commandSucceeds 84 = .ok (.iconst 1, 1) := by decide +kernel
theorem dX4_commandSucceeds_85 : decode cX4_commandSucceeds 85 = .ok (.goto 4, 3) := by decide +kernel
theorem dX4_commandSucceeds_88 : decode cX4_commandSucceeds 88 = .ok (.iconst 0, 1) := by decide +kernel
theorem dX4_commandSucceeds_89 : decode cX4_commandSucceeds 89 = .ok (.ireturn, 1) := by decide +kernel
theorem dX4_commandSucceeds_90 : decode cX4_commandSucceeds 90 = .ok (.aload_n 0, 1) := by decide +kernel
theorem dX4_commandSucceeds_91 : decode cX4_commandSucceeds 91 = .ok (.iload_n 2, 1) := by decide +kernel
theorem dX4_commandSucceeds_92 : decode cX4_commandSucceeds 92 = .ok (.iload_n 3, 1) := by decide +kernel
theorem dX4_commandSucceeds_93 : decode cX4_commandSucceeds 93 = .ok (.invokevirtual 332, 3) := by decide +kernel
theorem dX4_commandSucceeds_96 : decode cX4_commandSucceeds 96 = .ok (.ireturn, 1) := by decide +kernel
theorem dX4_commandSucceeds_97 : decode cX4_commandSucceeds 97 = .ok (.iload_n 2, 1) := by decide +kernel
theorem dX4_commandSucceeds_98 : decode cX4_commandSucceeds 98 = .ok (.ifCond .ne 15, 3) := by decide +kernel
theorem dX4_commandSucceeds_101 : decode cX4_commandSucceeds 101 = .ok (.aload_n 0, 1) := by decide +kernel
theorem dX4_commandSucceeds_102 : decode cX4_commandSucceeds 102 = .ok (.iload_n 3, 1) := by decide +kernel
theorem dX4_commandSucceeds_103 : decode cX4_commandSucceeds 103 = .ok (.invokevirtual 335, 3) := by decide +kernel
theorem dX4_commandSucceeds_106 : decode cX4_commandSucceeds 106 = .ok (.ifCond .eq 7, 3) := by decide +kernel
theorem dX4_commandSucceeds_109 : decode cX4_commandSucceeds 109 = .ok (.iconst 1, 1) := by decide +kernel
theorem dX4_commandSucceeds_110 : decode cX4_commandSucceeds 110 = .ok (.goto 4, 3) := by decide +kernel
theorem dX4_commandSucceeds_113 : decode cX4_commandSucceeds 113 = .ok (.iconst 0, 1) := by decide +kernel
theorem dX4_commandSucceeds_114 : decode cX4_commandSucceeds 114 = .ok (.ireturn, 1) := by decide +kernel
theorem dX4_commandSucceeds_115 : decode cX4_commandSucceeds 115 = .ok (.iload_n 2, 1) := by decide +kernel
theorem dX4_commandSucceeds_116 : decode cX4_commandSucceeds 116 = .ok (.iconst 1, 1) := by decide +kernel
theorem dX4_commandSucceeds_117 : decode cX4_commandSucceeds 117 = .ok (.if_icmp .gt 24, 3) := by decide +kernel
theorem dX4_commandSucceeds_120 : decode cX4_commandSucceeds 120 = .ok (.aload_n 0, 1) := by decide +kernel
theorem dX4_commandSucceeds_121 : decode cX4_commandSucceeds 121 = .ok (.iload_n 2, 1) := by decide +kernel
theorem dX4_commandSucceeds_122 : decode cX4_commandSucceeds 122 = .ok (.ifCond .ne 7, 3) := by decide +kernel
theorem dX4_commandSucceeds_125 : decode cX4_commandSucceeds 125 = .ok (.iload_n 3, 1) := by decide +kernel
theorem dX4_commandSucceeds_126 : decode cX4_commandSucceeds 126 = .ok (.goto 5, 3) := by decide +kernel
theorem dX4_commandSucceeds_129 : decode cX4_commandSucceeds 129 = .ok (.iload_n 3, 1) := by decide +kernel
theorem dX4_commandSucceeds_130 : decode cX4_commandSucceeds 130 = .ok (.ineg, 1) := by decide +kernel
theorem dX4_commandSucceeds_131 : decode cX4_commandSucceeds 131 = .ok (.invokevirtual 338, 3) := by decide +kernel
theorem dX4_commandSucceeds_134 : decode cX4_commandSucceeds 134 = .ok (.ifCond .eq 7, 3) := by decide +kernel
theorem dX4_commandSucceeds_137 : decode cX4_commandSucceeds 137 = .ok (.iconst 1, 1) := by decide +kernel
theorem dX4_commandSucceeds_138 : decode cX4_commandSucceeds 138 = .ok (.goto 4, 3) := by decide +kernel
theorem dX4_commandSucceeds_141 : decode cX4_commandSucceeds 141 = .ok (.iconst 0, 1) := by decide +kernel
theorem dX4_commandSucceeds_142 : decode cX4_commandSucceeds 142 = .ok (.ireturn, 1) := by decide +kernel
theorem dX4_commandSucceeds_143 : decode cX4_commandSucceeds 143 = .ok (.iload_n 2, 1) := by decide +kernel
theorem dX4_commandSucceeds_144 : decode cX4_commandSucceeds 144 = .ok (.ifCond .ne 18, 3) := by decide +kernel
theorem dX4_commandSucceeds_147 : decode cX4_commandSucceeds 147 = .ok (.iload_n 3, 1) := by decide +kernel
theorem dX4_commandSucceeds_148 : decode cX4_commandSucceeds 148 = .ok (.ifCond .ne 14, 3) := by decide +kernel
theorem dX4_commandSucceeds_151 : decode cX4_commandSucceeds 151 = .ok (.aload_n 0, 1) := by decide +kernel
theorem dX4_commandSucceeds_152 : decode cX4_commandSucceeds 152 = .ok (.invokevirtual 341, 3) := by decide +kernel
theorem dX4_commandSucceeds_155 : decode cX4_commandSucceeds 155 = .ok (.ifCond .eq 7, 3) := by decide +kernel
theorem dX4_commandSucceeds_158 : decode cX4_commandSucceeds 158 = .ok (.iconst 1, 1) := by decide +kernel
theorem dX4_commandSucceeds_159 : decode cX4_commandSucceeds 159 = .ok (.goto 4, 3) := by decide +kernel
theorem dX4_commandSucceeds_162 : decode cX4_commandSucceeds 162 = .ok (.iconst 0, 1) := by decide +kernel
theorem dX4_commandSucceeds_163 : decode cX4_commandSucceeds 163 = .ok (.ireturn, 1) := by decide +kernel
theorem dX4_commandSucceeds_164 : decode cX4_commandSucceeds 164 = .ok (.iload_n 2, 1) := by decide +kernel
theorem dX4_commandSucceeds_165 : decode cX4_commandSucceeds 165 = .ok (.ifCond .ne 18, 3) := by decide +kernel
theorem dX4_commandSucceeds_168 : decode cX4_commandSucceeds 168 = .ok (.iload_n 3, 1) := by decide +kernel
theorem dX4_commandSucceeds_169 : decode cX4_commandSucceeds 169 = .ok (.aload_n 0, 1) := by decide +kernel
theorem dX4_commandSucceeds_170 : decode cX4_commandSucceeds 170 = .ok (.getfield 47, 3) := by decide +kernel
theorem dX4_commandSucceeds_173 : decode cX4_commandSucceeds 173 = .ok (.invokevirtual 130, 3) := by decide +kernel
theorem dX4_commandSucceeds_176 : decode cX4_commandSucceeds 176 = .ok (.if_icmp .ne 7, 3) := by decide +kernel
theorem dX4_commandSucceeds_179 : decode cX4_commandSucceeds 179 = .ok (.iconst 1, 1) := by decide +kernel
theorem dX4_commandSucceeds_180 : decode cX4_commandSucceeds 180 = .ok (.goto 4, 3) := by decide +kernel
theorem dX4_commandSucceeds_183 : decode cX4_commandSucceeds 183 = .ok (.iconst 0, 1) := by decide +kernel
theorem dX4_commandSucceeds_184 : decode cX4_commandSucceeds 184 = .ok (.ireturn, 1) := by decide +kernel
theorem dX4_commandSucceeds_185 : decode cX4_commandSucceeds 185 = .ok (.aload_n 0, 1) := by decide +kernel
theorem dX4_commandSucceeds_186 : decode cX4_commandSucceeds 186 = .ok (.getfield 47, 3) := by decide +kernel
theorem dX4_commandSucceeds_189 : decode cX4_commandSucceeds 189 = .ok (.getfield 98, 3) := by decide +kernel
theorem dX4_commandSucceeds_192 : decode cX4_commandSucceeds 192 = .ok (.iload_n 2, 1) := by decide +kernel
theorem dX4_commandSucceeds_193 : decode cX4_commandSucceeds 193 = .ok (.sipush 1000, 3) := by decide +kernel
theorem dX4_commandSucceeds_196 : decode cX4_commandSucceeds 196 = .ok (.imul, 1) := by decide +kernel
theorem dX4_commandSucceeds_197 : decode cX4_commandSucceeds 197 = .ok (.iload_n 3, 1) := by decide +kernel
theorem dX4_commandSucceeds_198 : decode cX4_commandSucceeds 198 = .ok (.iadd, 1) := by decide +kernel
theorem dX4_commandSucceeds_199 : decode cX4_commandSucceeds 199 = .ok (.if_icmp .lt 7, 3) := by decide +kernel
theorem dX4_commandSucceeds_202 : decode cX4_commandSucceeds 202 = .ok (.iconst 1, 1) := by decide +kernel
theorem dX4_commandSucceeds_203 : decode cX4_commandSucceeds 203 = .ok (.goto 4, 3) := by decide +kernel
theorem dX4_commandSucceeds_206 : decode cX4_commandSucceeds 206 = .ok (.iconst 0, 1) := by decide +kernel
theorem dX4_commandSucceeds_207 : decode cX4_commandSucceeds 207 = .ok (.ireturn, 1) := by decide +kernel
theorem dX4_commandSucceeds_208 : decode cX4_commandSucceeds 208 = .ok (.iload_n 2, 1) := by decide +kernel
theorem dX4_commandSucceeds_209 : decode cX4_commandSucceeds 209 = .ok (.ifCond .ne 21, 3) := by decide +kernel
theorem dX4_commandSucceeds_212 : decode cX4_commandSucceeds 212 = .ok (.aload_n 0, 1) := by decide +kernel
theorem dX4_commandSucceeds_213 : decode cX4_commandSucceeds 213 = .ok (.getfield 47, 3) := by decide +kernel
theorem dX4_commandSucceeds_216 : decode cX4_commandSucceeds 216 = .ok (.getfield 121, 3) := by decide +kernel
theorem dX4_commandSucceeds_219 : decode cX4_commandSucceeds 219 = .ok (.bipush 60, 2) := by decide +kernel
theorem dX4_commandSucceeds_221 : decode cX4_commandSucceeds 221 = .ok (.idiv, 1) := by decide +kernel
theorem dX4_commandSucceeds_222 : decode cX4_commandSucceeds 222 = .ok (.iload_n 3, 1) := by decide +kernel
theorem dX4_commandSucceeds_223 : decode cX4_commandSucceeds 223 = .ok (.if_icmp .ne 7, 3) := by decide +kernel
theorem dX4_commandSucceeds_226 : decode cX4_commandSucceeds 226 = .ok (.iconst 1, 1) := by decide +kernel
theorem dX4_commandSucceeds_227 : decode cX4_commandSucceeds 227 = .ok (.goto 4, 3) := by decide +kernel
theorem dX4_commandSucceeds_230 : decode cX4_commandSucceeds 230 = .ok (.iconst 0, 1) := by decide +kernel
theorem dX4_commandSucceeds_231 : decode cX4_commandSucceeds 231 = .ok (.ireturn, 1) := by decide +kernel
theorem dX4_commandSucceeds_232 : decode cX4_commandSucceeds 232 = .ok (.iload_n 2, 1) := by decide +kernel
theorem dX4_commandSucceeds_233 : decode cX4_commandSucceeds 233 = .ok (.ifCond .ne 18, 3) := by decide +kernel
theorem dX4_commandSucceeds_236 : decode cX4_commandSucceeds 236 = .ok (.iload_n 3, 1) := by decide +kernel
theorem dX4_commandSucceeds_237 : decode cX4_commandSucceeds 237 = .ok (.aload_n 0, 1) := by decide +kernel
theorem dX4_commandSucceeds_238 : decode cX4_commandSucceeds 238 = .ok (.getfield 47, 3) := by decide +kernel
theorem dX4_commandSucceeds_241 : decode cX4_commandSucceeds 241 = .ok (.getfield 133, 3) := by decide +kernel
theorem dX4_commandSucceeds_244 : decode cX4_commandSucceeds 244 = .ok (.if_icmp .ne 7, 3) := by decide +kernel
theorem dX4_commandSucceeds_247 : decode cX4_commandSucceeds 247 = .ok (.iconst 1, 1) := by decide +kernel
theorem dX4_commandSucceeds_248 : decode cX4_commandSucceeds 248 = .ok (.goto 4, 3) := by decide +kernel
theorem dX4_commandSucceeds_251 : decode cX4_commandSucceeds 251 = .ok (.iconst 0, 1) := by decide +kernel
theorem dX4_commandSucceeds_252 : decode cX4_commandSucceeds 252 = .ok (.ireturn, 1) := by decide +kernel
theorem dX4_commandSucceeds_253 : decode cX4_commandSucceeds 253 = .ok (.iconst 0, 1) := by decide +kernel
theorem dX4_commandSucceeds_254 : decode cX4_commandSucceeds 254 = .ok (.ireturn, 1) := by decide +kernel
theorem dX4_trialSwings_0 : decode cX4_trialSwings 0 = .ok (.iload_n 1, 1) := by decide +kernel
theorem dX4_trialSwings_1 : decode cX4_trialSwings 1 = .ok (.invokestatic 176, 3) := by decide +kernel
theorem dX4_trialSwings_4 : decode cX4_trialSwings 4 = .ok (.ifCond .ne 5, 3) := by decide +kernel
theorem dX4_trialSwings_7 : decode cX4_trialSwings 7 = .ok (.iconst 0, 1) := by decide +kernel
theorem dX4_trialSwings_8 : decode cX4_trialSwings 8 = .ok (.ireturn, 1) := by decide +kernel
theorem dX4_trialSwings_9 : decode cX4_trialSwings 9 = .ok (.aload_n 0, 1) := by decide +kernel
theorem dX4_trialSwings_10 : decode cX4_trialSwings 10 = .ok (.getfield 50, 3) := by decide +kernel
theorem dX4_trialSwings_13 : decode cX4_trialSwings 13 = .ok (.invokevirtual 185, 3) := by decide +kernel
theorem dX4_trialSwings_16 : decode cX4_trialSwings 16 = .ok (.aload_n 0, 1) := by decide +kernel
theorem dX4_trialSwings_17 : decode cX4_trialSwings 17 = .ok (.getfield 50, 3) := by decide +kernel
theorem dX4_trialSwings_20 : decode cX4_trialSwings 20 = .ok (.iload_n 1, 1) := by decide +kernel
theorem dX4_trialSwings_21 : decode cX4_trialSwings 21 = .ok (.invokevirtual 186, 3) := by decide +kernel
theorem dX4_trialSwings_24 : decode cX4_trialSwings 24 = .ok (.pop, 1) := by decide +kernel
theorem dX4_trialSwings_25 : decode cX4_trialSwings 25 = .ok (.iconst 1, 1) := by decide +kernel
theorem dX4_trialSwings_26 : decode cX4_trialSwings 26 = .ok (.ireturn, 1) := by decide +kernel
theorem dX4_trialSets_0 : decode cX4_trialSets 0 = .ok (.iload_n 1, 1) := by decide +kernel
theorem dX4_trialSets_1 : decode cX4_trialSets 1 = .ok (.iload_n 2, 1) := by decide +kernel
theorem dX4_trialSets_2 : decode cX4_trialSets 2 = .ok (.invokestatic 167, 3) := by decide +kernel
theorem dX4_trialSets_5 : decode cX4_trialSets 5 = .ok (.ifCond .ne 5, 3) := by decide +kernel
theorem dX4_trialSets_8 : decode cX4_trialSets 8 = .ok (.iconst 0, 1) := by decide +kernel
theorem dX4_trialSets_9 : decode cX4_trialSets 9 = .ok (.ireturn, 1) := by decide +kernel
theorem dX4_trialSets_10 : decode cX4_trialSets 10 = .ok (.aload_n 0, 1) := by decide +kernel
theorem dX4_trialSets_11 : decode cX4_trialSets 11 = .ok (.getfield 47, 3) := by decide +kernel
theorem dX4_trialSets_14 : decode cX4_trialSets 14 = .ok (.iload_n 1, 1) := by decide +kernel
theorem dX4_trialSets_15 : decode cX4_trialSets 15 = .ok (.iload_n 2, 1) := by decide +kernel
theorem dX4_trialSets_16 : decode cX4_trialSets 16 = .ok (.invokevirtual 191, 3) := by decide +kernel
theorem dX4_trialSets_19 : decode cX4_trialSets 19 = .ok (.iconst 1, 1) := by decide +kernel
theorem dX4_trialSets_20 : decode cX4_trialSets 20 = .ok (.ireturn, 1) := by decide +kernel
theorem dX4_trialIsPushed_0 : decode cX4_trialIsPushed 0 = .ok (.iload_n 1, 1) := by decide +kernel
theorem dX4_trialIsPushed_1 : decode cX4_trialIsPushed 1 = .ok (.invokestatic 195, 3) := by decide +kernel
theorem dX4_trialIsPushed_4 : decode cX4_trialIsPushed 4 = .ok (.ifCond .ne 5, 3) := by decide +kernel
theorem dX4_trialIsPushed_7 : decode cX4_trialIsPushed 7 = .ok (.iconst 0, 1) := by decide +kernel
theorem dX4_trialIsPushed_8 : decode cX4_trialIsPushed 8 = .ok (.ireturn, 1) := by decide +kernel
theorem dX4_trialIsPushed_9 : decode cX4_trialIsPushed 9 = .ok (.aload_n 0, 1) := by decide +kernel
theorem dX4_trialIsPushed_10 : decode cX4_trialIsPushed 10 = .ok (.getfield 47, 3) := by decide +kernel
theorem dX4_trialIsPushed_13 : decode cX4_trialIsPushed 13 = .ok (.iload_n 1, 1) := by decide +kernel
theorem dX4_trialIsPushed_14 : decode cX4_trialIsPushed 14 = .ok (.invokevirtual 200, 3) := by decide +kernel
theorem dX4_trialIsPushed_17 : decode cX4_trialIsPushed 17 = .ok (.iconst 1, 1) := by decide +kernel
theorem dX4_trialIsPushed_18 : decode cX4_trialIsPushed 18 = .ok (.ireturn, 1) := by decide +kernel
theorem dX4_trialIsNudged_0 : decode cX4_trialIsNudged 0 = .ok (.iload_n 1, 1) := by decide +kernel
theorem dX4_trialIsNudged_1 : decode cX4_trialIsNudged 1 = .ok (.invokestatic 203, 3) := by decide +kernel
theorem dX4_trialIsNudged_4 : decode cX4_trialIsNudged 4 = .ok (.ifCond .ne 5, 3) := by decide +kernel
theorem dX4_trialIsNudged_7 : decode cX4_trialIsNudged 7 = .ok (.iconst 0, 1) := by decide +kernel
theorem dX4_trialIsNudged_8 : decode cX4_trialIsNudged 8 = .ok (.ireturn, 1) := by decide +kernel
theorem dX4_trialIsNudged_9 : decode cX4_trialIsNudged 9 = .ok (.aload_n 0, 1) := by decide +kernel
theorem dX4_trialIsNudged_10 : decode cX4_trialIsNudged 10 = .ok (.getfield 47, 3) := by decide +kernel
theorem dX4_trialIsNudged_13 : decode cX4_trialIsNudged 13 = .ok (.iload_n 1, 1) := by decide +kernel
theorem dX4_trialIsNudged_14 : decode cX4_trialIsNudged 14 = .ok (.invokevirtual 208, 3) := by decide +kernel
theorem dX4_trialIsNudged_17 : decode cX4_trialIsNudged 17 = .ok (.iconst 1, 1) := by decide +kernel
theorem dX4_trialIsNudged_18 : decode cX4_trialIsNudged 18 = .ok (.ireturn, 1) := by decide +kernel
theorem dX4_trialRaises_0 : decode cX4_trialRaises 0 = .ok (.aload_n 0, 1) := by decide +kernel
theorem dX4_trialRaises_1 : decode cX4_trialRaises 1 = .ok (.getfield 47, 3) := by decide +kernel
theorem dX4_trialRaises_4 : decode cX4_trialRaises 4 = .ok (.invokevirtual 221, 3) := by decide +kernel
theorem dX4_trialRaises_7 : decode cX4_trialRaises 7 = .ok (.iconst 1, 1) := by decide +kernel
theorem dX4_trialRaises_8 : decode cX4_trialRaises 8 = .ok (.ireturn, 1) := by decide +kernel
theorem dX5_init_0 : decode cX5_init 0 = .ok (.aload_n 0, 1) := by decide +kernel
theorem dX5_init_1 : decode cX5_init 1 = .ok (.invokespecial 1, 3) := by decide +kernel
theorem dX5_init_4 : decode cX5_init 4 = .ok (.aload_n 0, 1) := by decide +kernel
theorem dX5_init_5 : decode cX5_init 5 = .ok (.bipush 100, 2) := by decide +kernel
theorem dX5_init_7 : decode cX5_init 7 = .ok (.newarray .int, 2) := by decide +kernel
theorem dX5_init_9 : decode cX5_init 9 = .ok (.putfield 7, 3) := by decide +kernel
theorem dX5_init_12 : decode cX5_init 12 = .ok (.aload_n 0, 1) := by decide +kernel
theorem dX5_init_13 : decode cX5_init 13 = .ok (.sipush 212, 3) := by decide +kernel
theorem dX5_init_16 : decode cX5_init 16 = .ok (.newarray .int, 2) := by decide +kernel
theorem dX5_init_18 : decode cX5_init 18 = .ok (.putfield 13, 3) := by decide +kernel
theorem dX5_init_21 : decode cX5_init 21 = .ok (.aload_n 0, 1) := by decide +kernel
theorem dX5_init_22 : decode cX5_init 22 = .ok (.sipush 212, 3) := by decide +kernel
theorem dX5_init_25 : decode cX5_init 25 = .ok (.newarray .int, 2) := by decide +kernel
theorem dX5_init_27 : decode cX5_init 27 = .ok (.putfield 16, 3) := by decide +kernel
theorem dX5_init_30 : decode cX5_init 30 = .ok (.aload_n 0, 1) := by decide +kernel
theorem dX5_init_31 : decode cX5_init 31 = .ok (.sipush 212, 3) := by decide +kernel
theorem dX5_init_34 : decode cX5_init 34 = .ok (.newarray .int, 2) := by decide +kernel
theorem dX5_init_36 : decode cX5_init 36 = .ok (.putfield 19, 3) := by decide +kernel
theorem dX5_init_39 : decode cX5_init 39 = .ok (.aload_n 0, 1) := by decide +kernel
theorem dX5_init_40 : decode cX5_init 40 = .ok (.sipush 2968, 3) := by decide +kernel
theorem dX5_init_43 : decode cX5_init 43 = .ok (.newarray .int, 2) := by decide +kernel
theorem dX5_init_45 : decode cX5_init 45 = .ok (.putfield 22, 3) := by decide +kernel
theorem dX5_init_48 : decode cX5_init 48 = .ok (.aload_n 0, 1) := by decide +kernel
theorem dX5_init_49 : decode cX5_init 49 = .ok (.sipush 424, 3) := by decide +kernel
theorem dX5_init_52 : decode cX5_init 52 = .ok (.newarray .int, 2) := by decide +kernel
theorem dX5_init_54 : decode cX5_init 54 = .ok (.putfield 25, 3) := by decide +kernel
theorem dX5_init_57 : decode cX5_init 57 = .ok (.aload_n 0, 1) := by decide +kernel
theorem dX5_init_58 : decode cX5_init 58 = .ok (.iconst 2, 1) := by decide +kernel
theorem dX5_init_59 : decode cX5_init 59 = .ok (.newarray .boolean, 2) := by decide +kernel
theorem dX5_init_61 : decode cX5_init 61 = .ok (.putfield 28, 3) := by decide +kernel
theorem dX5_init_64 : decode cX5_init 64 = .ok (.aload_n 0, 1) := by decide +kernel
theorem dX5_init_65 : decode cX5_init 65 = .ok (.bipush 19, 2) := by decide +kernel
theorem dX5_init_67 : decode cX5_init 67 = .ok (.newarray .int, 2) := by decide +kernel
theorem dX5_init_69 : decode cX5_init 69 = .ok (.dup, 1) := by decide +kernel
theorem dX5_init_70 : decode cX5_init 70 = .ok (.iconst 0, 1) := by decide +kernel
theorem dX5_init_71 : decode cX5_init 71 = .ok (.iconst 0, 1) := by decide +kernel
theorem dX5_init_72 : decode cX5_init 72 = .ok (.iastore, 1) := by decide +kernel
theorem dX5_init_73 : decode cX5_init 73 = .ok (.dup, 1) := by decide +kernel
theorem dX5_init_74 : decode cX5_init 74 = .ok (.iconst 1, 1) := by decide +kernel
theorem dX5_init_75 : decode cX5_init 75 = .ok (.bipush 87, 2) := by decide +kernel
theorem dX5_init_77 : decode cX5_init 77 = .ok (.iastore, 1) := by decide +kernel
theorem dX5_init_78 : decode cX5_init 78 = .ok (.dup, 1) := by decide +kernel
theorem dX5_init_79 : decode cX5_init 79 = .ok (.iconst 2, 1) := by decide +kernel
theorem dX5_init_80 : decode cX5_init 80 = .ok (.sipush 174, 3) := by decide +kernel
theorem dX5_init_83 : decode cX5_init 83 = .ok (.iastore, 1) := by decide +kernel
theorem dX5_init_84 : decode cX5_init 84 = .ok (.dup, 1) := by decide +kernel
theorem dX5_init_85 : decode cX5_init 85 = .ok (.iconst 3, 1) := by decide +kernel
theorem dX5_init_86 : decode cX5_init 86 = .ok (.sipush 259, 3) := by decide +kernel
theorem dX5_init_89 : decode cX5_init 89 = .ok (.iastore, 1) := by decide +kernel
theorem dX5_init_90 : decode cX5_init 90 = .ok (.dup, 1) := by decide +kernel
theorem dX5_init_91 : decode cX5_init 91 = .ok (.iconst 4, 1) := by decide +kernel
theorem dX5_init_92 : decode cX5_init 92 = .ok (.sipush 342, 3) := by decide +kernel
theorem dX5_init_95 : decode cX5_init 95 = .ok (.iastore, 1) := by decide +kernel
theorem dX5_init_96 : decode cX5_init 96 = .ok (.dup, 1) := by decide +kernel
theorem dX5_init_97 : decode cX5_init 97 = .ok (.iconst 5, 1) := by decide +kernel
theorem dX5_init_98 : decode cX5_init 98 = .ok (.sipush 423, 3) := by decide +kernel
theorem dX5_init_101 : decode cX5_init 101 = .ok (.iastore, 1) := by decide +kernel
theorem dX5_init_102 : decode cX5_init 102 = .ok (.dup, 1) := by decide +kernel
theorem dX5_init_103 : decode cX5_init 103 = .ok (.bipush 6, 2) := by decide +kernel
theorem dX5_init_105 : decode cX5_init 105 = .ok (.sipush 500, 3) := by decide +kernel
theorem dX5_init_108 : decode cX5_init 108 = .ok (.iastore, 1) := by decide +kernel
theorem dX5_init_109 : decode cX5_init 109 = .ok (.dup, 1) := by decide +kernel
theorem dX5_init_110 : decode cX5_init 110 = .ok (.bipush 7, 2) := by decide +kernel
theorem dX5_init_112 : decode cX5_init 112 = .ok (.sipush 574, 3) := by decide +kernel
theorem dX5_init_115 : decode cX5_init 115 = .ok (.iastore, 1) := by decide +kernel
theorem dX5_init_116 : decode cX5_init 116 = .ok (.dup, 1) := by decide +kernel
theorem dX5_init_117 : decode cX5_init 117 = .ok (.bipush 8, 2) := by decide +kernel
theorem dX5_init_119 : decode cX5_init 119 = .ok (.sipush 643, 3) := by decide +kernel
theorem dX5_init_122 : decode cX5_init 122 = .ok (.iastore, 1) := by decide +kernel
theorem dX5_init_123 : decode cX5_init 123 = .ok (.dup, 1) := by decide +kernel
theorem dX5_init_124 : decode cX5_init 124 = .ok (.bipush 9, 2) := by decide +kernel
theorem dX5_init_126 : decode cX5_init 126 = .ok (.sipush 707, 3) := by decide +kernel
theorem dX5_init_129 : decode cX5_init 129 = .ok (.iastore, 1) := by decide +kernel
theorem dX5_init_130 : decode cX5_init 130 = .ok (.dup, 1) := by decide +kernel
theorem dX5_init_131 : decode cX5_init 131 = .ok (.bipush 10, 2) := by decide +kernel
theorem dX5_init_133 : decode cX5_init 133 = .ok (.sipush 766, 3) := by decide +kernel
theorem dX5_init_136 : decode cX5_init 136 = .ok (.iastore, 1) := by decide +kernel
theorem dX5_init_137 : decode cX5_init 137 = .ok (.dup, 1) := by decide +kernel
theorem dX5_init_138 : decode cX5_init 138 = .ok (.bipush 11, 2) := by decide +kernel
theorem dX5_init_140 : decode cX5_init 140 = .ok (.sipush 819, 3) := by decide +kernel
theorem dX5_init_143 : decode cX5_init 143 = .ok (.iastore, 1) := by decide +kernel
theorem dX5_init_144 : decode cX5_init 144 = .ok (.dup, 1) := by decide +kernel
theorem dX5_init_145 : decode cX5_init 145 = .ok (.bipush 12, 2) := by decide +kernel
theorem dX5_init_147 : decode cX5_init 147 = .ok (.sipush 866, 3) := by decide +kernel
theorem dX5_init_150 : decode cX5_init 150 = .ok (.iastore, 1) := by decide +kernel
theorem dX5_init_151 : decode cX5_init 151 = .ok (.dup, 1) := by decide +kernel
theorem dX5_init_152 : decode cX5_init 152 = .ok (.bipush 13, 2) := by decide +kernel
theorem dX5_init_154 : decode cX5_init 154 = .ok (.sipush 906, 3) := by decide +kernel
theorem dX5_init_157 : decode cX5_init 157 = .ok (.iastore, 1) := by decide +kernel
theorem dX5_init_158 : decode cX5_init 158 = .ok (.dup, 1) := by decide +kernel
theorem dX5_init_159 : decode cX5_init 159 = .ok (.bipush 14, 2) := by decide +kernel
theorem dX5_init_161 : decode cX5_init 161 = .ok (.sipush 940, 3) := by decide +kernel
theorem dX5_init_164 : decode cX5_init 164 = .ok (.iastore, 1) := by decide +kernel
theorem dX5_init_165 : decode cX5_init 165 = .ok (.dup, 1) := by decide +kernel
theorem dX5_init_166 : decode cX5_init 166 = .ok (.bipush 15, 2) := by decide +kernel
theorem dX5_init_168 : decode cX5_init 168 = .ok (.sipush 966, 3) := by decide +kernel
theorem dX5_init_171 : decode cX5_init 171 = .ok (.iastore, 1) := by decide +kernel
theorem dX5_init_172 : decode cX5_init 172 = .ok (.dup, 1) := by decide +kernel
theorem dX5_init_173 : decode cX5_init 173 = .ok (.bipush 16, 2) := by decide +kernel
theorem dX5_init_175 : decode cX5_init 175 = .ok (.sipush 985, 3) := by decide +kernel
theorem dX5_init_178 : decode cX5_init 178 = .ok (.iastore, 1) := by decide +kernel
theorem dX5_init_179 : decode cX5_init 179 = .ok (.dup, 1) := by decide +kernel
theorem dX5_init_180 : decode cX5_init 180 = .ok (.bipush 17, 2) := by decide +kernel
theorem dX5_init_182 : decode cX5_init 182 = .ok (.sipush 996, 3) := by decide +kernel
theorem dX5_init_185 : decode cX5_init 185 = .ok (.iastore, 1) := by decide +kernel
theorem dX5_init_186 : decode cX5_init 186 = .ok (.dup, 1) := by decide +kernel
theorem dX5_init_187 : decode cX5_init 187 = .ok (.bipush 18, 2) := by decide +kernel
theorem dX5_init_189 : decode cX5_init 189 = .ok (.sipush 1000, 3) := by decide +kernel
theorem dX5_init_192 : decode cX5_init 192 = .ok (.iastore, 1) := by decide +kernel
theorem dX5_init_193 : decode cX5_init 193 = .ok (.putfield 32, 3) := by decide +kernel
theorem dX5_init_196 : decode cX5_init 196 = .ok (.aload_n 0, 1) := by decide +kernel
theorem dX5_init_197 : decode cX5_init 197 = .ok (.getfield 16, 3) := by decide +kernel
theorem dX5_init_200 : decode cX5_init 200 = .ok (.invokestatic 35, 3) := by decide +kernel
theorem dX5_init_203 : decode cX5_init 203 = .ok (.return_, 1) := by decide +kernel
theorem dX5_thrown_0 : decode cX5_thrown 0 = .ok (.aload_n 0, 1) := by decide +kernel
theorem dX5_thrown_1 : decode cX5_thrown 1 = .ok (.getfield 39, 3) := by decide +kernel
theorem dX5_thrown_4 : decode cX5_thrown 4 = .ok (.ireturn, 1) := by decide +kernel
theorem dX5_refused_0 : decode cX5_refused 0 = .ok (.aload_n 0, 1) := by decide +kernel
theorem dX5_refused_1 : decode cX5_refused 1 = .ok (.iload_n 1, 1) := by decide +kernel
theorem dX5_refused_2 : decode cX5_refused 2 = .ok (.putfield 39, 3) := by decide +kernel
theorem dX5_refused_5 : decode cX5_refused 5 = .ok (.iload_n 1, 1) := by decide +kernel
theorem dX5_refused_6 : decode cX5_refused 6 = .ok (.ifCond .le 7, 3) := by decide +kernel
theorem dX5_refused_9 : decode cX5_refused 9 = .ok (.iconst 1, 1) := by decide +kernel
theorem dX5_refused_10 : decode cX5_refused 10 = .ok (.goto 4, 3) := by decide +kernel
theorem dX5_refused_13 : decode cX5_refused 13 = .ok (.iconst 0, 1) := by decide +kernel
theorem dX5_refused_14 : decode cX5_refused 14 = .ok (.ireturn, 1) := by decide +kernel
theorem dX5_in_0 : decode cX5_in 0 = .ok (.lload_n 0, 1) := by decide +kernel
theorem dX5_in_1 : decode cX5_in 1 = .ok (.lload_n 2, 1) := by decide +kernel
theorem dX5_in_2 : decode cX5_in 2 = .ok (.lcmp, 1) := by decide +kernel
theorem dX5_in_3 : decode cX5_in 3 = .ok (.ifCond .lt 14, 3) := by decide +kernel
theorem dX5_in_6 : decode cX5_in 6 = .ok (.lload_n 0, 1) := by decide +kernel
theorem dX5_in_7 : decode cX5_in 7 = .ok (.lload 4, 2) := by decide +kernel
theorem dX5_in_9 : decode cX5_in 9 = .ok (.lcmp, 1) := by decide +kernel
theorem dX5_in_10 : decode cX5_in 10 = .ok (.ifCond .gt 7, 3) := by decide +kernel
theorem dX5_in_13 : decode cX5_in 13 = .ok (.iconst 1, 1) := by decide +kernel
theorem dX5_in_14 : decode cX5_in 14 = .ok (.goto 4, 3) := by decide +kernel
theorem dX5_in_17 : decode cX5_in 17 = .ok (.iconst 0, 1) := by decide +kernel
theorem dX5_in_18 : decode cX5_in 18 = .ok (.ireturn, 1) := by decide +kernel
theorem dX5_copyPage_0 : decode cX5_copyPage 0 = .ok (.iconst 0, 1) := by decide +kernel
theorem dX5_copyPage_1 : decode cX5_copyPage 1 = .ok (.istore 4, 2) := by decide +kernel
theorem dX5_copyPage_3 : decode cX5_copyPage 3 = .ok (.iload 4, 2) := by decide +kernel
theorem dX5_copyPage_5 : decode cX5_copyPage 5 = .ok (.sipush 212, 3) := by decide +kernel
theorem dX5_copyPage_8 : decode cX5_copyPage 8 = .ok (.if_icmp .ge 21, 3) := by decide +kernel
theorem dX5_copyPage_11 : decode cX5_copyPage 11 = .ok (.aload_n 2, 1) := by decide +kernel
theorem dX5_copyPage_12 : decode cX5_copyPage 12 = .ok (.iload_n 3, 1) := by decide +kernel
theorem dX5_copyPage_13 : decode cX5_copyPage 13 = .ok (.iload 4, 2) := by decide +kernel
theorem dX5_copyPage_15 : decode cX5_copyPage 15 = .ok (.iadd, 1) := by decide +kernel
theorem dX5_copyPage_16 : decode cX5_copyPage 16 = .ok (.aload_n 0, 1) := by decide +kernel
theorem dX5_copyPage_17 : decode cX5_copyPage 17 = .ok (.iload_n 1, 1) := by decide +kernel
theorem dX5_copyPage_18 : decode cX5_copyPage 18 = .ok (.iload 4, 2) := by decide +kernel
theorem dX5_copyPage_20 : decode cX5_copyPage 20 = .ok (.iadd, 1) := by decide +kernel
theorem dX5_copyPage_21 : decode cX5_copyPage 21 = .ok (.iaload, 1) := by decide +kernel
theorem dX5_copyPage_22 : decode cX5_copyPage 22 = .ok (.iastore, 1) := by decide +kernel
theorem dX5_copyPage_23 : decode cX5_copyPage 23 = .ok (.iinc 4 1, 3) := by decide +kernel
theorem dX5_copyPage_26 : decode cX5_copyPage 26 = .ok (.goto (-23), 3) := by decide +kernel
theorem dX5_copyPage_29 : decode cX5_copyPage 29 = .ok (.return_, 1) := by decide +kernel
theorem dX5_begin_0 : decode cX5_begin 0 = .ok (.iconst 0, 1) := by decide +kernel
theorem dX5_begin_1 : decode cX5_begin 1 = .ok (.istore_n 1, 1) := by decide +kernel
theorem dX5_begin_2 : decode cX5_begin 2 = .ok (.iload_n 1, 1) := by decide +kernel
theorem dX5_begin_3 : decode cX5_begin 3 = .ok (.sipush 212, 3) := by decide +kernel
theorem dX5_begin_6 : decode cX5_begin 6 = .ok (.if_icmp .ge 13, 3) := by decide +kernel
theorem dX5_begin_9 : decode cX5_begin 9 = .ok (.aload_n 0, 1) := by decide +kernel
theorem dX5_begin_10 : decode cX5_begin 10 = .ok (.iload_n 1, 1) := by decide +kernel
theorem dX5_begin_11 : decode cX5_begin 11 = .ok (.iconst 0, 1) := by decide +kernel
theorem dX5_begin_12 : decode cX5_begin 12 = .ok (.iastore, 1) := by decide +kernel
theorem dX5_begin_13 : decode cX5_begin 13 = .ok (.iinc 1 1, 3) := by decide +kernel
theorem dX5_begin_16 : decode cX5_begin 16 = .ok (.goto (-14), 3) := by decide +kernel
theorem dX5_begin_19 : decode cX5_begin 19 = .ok (.aload_n 0, 1) := by decide +kernel
theorem dX5_begin_20 : decode cX5_begin 20 = .ok (.iconst 0, 1) := by decide +kernel
theorem dX5_begin_21 : decode cX5_begin 21 = .ok (.bipush 50, 2) := by decide +kernel
theorem dX5_begin_23 : decode cX5_begin 23 = .ok (.iastore, 1) := by decide +kernel
theorem dX5_begin_24 : decode cX5_begin 24 = .ok (.aload_n 0, 1) := by decide +kernel
theorem dX5_begin_25 : decode cX5_begin 25 = .ok (.iconst 1, 1) := by decide +kernel
theorem dX5_begin_26 : decode cX5_begin 26 = .ok (.sipush 240, 3) := by decide +kernel
theorem dX5_begin_29 : decode cX5_begin 29 = .ok (.iastore, 1) := by decide +kernel
theorem dX5_begin_30 : decode cX5_begin 30 = .ok (.aload_n 0, 1) := by decide +kernel
theorem dX5_begin_31 : decode cX5_begin 31 = .ok (.iconst 2, 1) := by decide +kernel
theorem dX5_begin_32 : decode cX5_begin 32 = .ok (.iconst 5, 1) := by decide +kernel
theorem dX5_begin_33 : decode cX5_begin 33 = .ok (.iastore, 1) := by decide +kernel
theorem dX5_begin_34 : decode cX5_begin 34 = .ok (.aload_n 0, 1) := by decide +kernel
theorem dX5_begin_35 : decode cX5_begin 35 = .ok (.iconst 3, 1) := by decide +kernel
theorem dX5_begin_36 : decode cX5_begin 36 = .ok (.sipush 4000, 3) := by decide +kernel
theorem dX5_begin_39 : decode cX5_begin 39 = .ok (.iastore, 1) := by decide +kernel
theorem dX5_begin_40 : decode cX5_begin 40 = .ok (.aload_n 0, 1) := by decide +kernel
theorem dX5_begin_41 : decode cX5_begin 41 = .ok (.bipush 7, 2) := by decide +kernel
theorem dX5_begin_43 : decode cX5_begin 43 = .ok (.sipush 5000, 3) := by decide +kernel
theorem dX5_begin_46 : decode cX5_begin 46 = .ok (.iastore, 1) := by decide +kernel
theorem dX5_begin_47 : decode cX5_begin 47 = .ok (.return_, 1) := by decide +kernel
theorem dX5_isSetting_0 : decode cX5_isSetting 0 = .ok (.iload_n 0, 1) := by decide +kernel
theorem dX5_isSetting_1 : decode cX5_isSetting 1 = .ok (.tableswitch 69 0 4 #[35, 47, 59, 69, 59], 35) := by decide +kernel
theorem dX5_isSetting_36 : decode cX5_isSetting 36 = .ok (.iload_n 1, 1) := by decide +kernel
theorem dX5_isSetting_37 : decode cX5_isSetting 37 = .ok (.i2l, 1) := by decide +kernel
theorem dX5_isSetting_38 : decode cX5_isSetting 38 = .ok (.ldc2_w 43, 3) := by decide +kernel
theorem dX5_isSetting_41 : decode cX5_isSetting 41 = .ok (.ldc2_w 45, 3) := by decide +kernel
theorem dX5_isSetting_44 : decode cX5_isSetting 44 = .ok (.invokestatic 47, 3) := by decide +kernel
theorem dX5_isSetting_47 : decode cX5_isSetting 47 = .ok (.ireturn, 1) := by decide +kernel
theorem dX5_isSetting_48 : decode cX5_isSetting 48 = .ok (.iload_n 1, 1) := by decide +kernel
theorem dX5_isSetting_49 : decode cX5_isSetting 49 = .ok (.i2l, 1) := by decide +kernel
theorem dX5_isSetting_50 : decode cX5_isSetting 50 = .ok (.ldc2_w 51, 3) := by decide +kernel
theorem dX5_isSetting_53 : decode cX5_isSetting 53 = .ok (.ldc2_w 53, 3) := by decide +kernel
theorem dX5_isSetting_56 : decode cX5_isSetting 56 = .ok (.invokestatic 47, 3) := by decide +kernel
theorem dX5_isSetting_59 : decode cX5_isSetting 59 = .ok (.ireturn, 1) := by decide +kernel
theorem dX5_isSetting_60 : decode cX5_isSetting 60 = .ok (.iload_n 1, 1) := by decide +kernel
theorem dX5_isSetting_61 : decode cX5_isSetting 61 = .ok (.i2l, 1) := by decide +kernel
theorem dX5_isSetting_62 : decode cX5_isSetting 62 = .ok (.lconst 0, 1) := by decide +kernel
theorem dX5_isSetting_63 : decode cX5_isSetting 63 = .ok (.ldc2_w 55, 3) := by decide +kernel
theorem dX5_isSetting_66 : decode cX5_isSetting 66 = .ok (.invokestatic 47, 3) := by decide +kernel
theorem dX5_isSetting_69 : decode cX5_isSetting 69 = .ok (.ireturn, 1) := by decide +kernel
theorem dX5_isSetting_70 : decode cX5_isSetting 70 = .ok (.iload_n 0, 1) := by decide +kernel
theorem dX5_isSetting_71 : decode cX5_isSetting 71 = .ok (.iconst 3, 1) := by decide +kernel
theorem dX5_isSetting_72 : decode cX5_isSetting 72 = .ok (.if_icmp .ne 19, 3) := by decide +kernel
theorem dX5_isSetting_75 : decode cX5_isSetting 75 = .ok (.iload_n 1, 1) := by decide +kernel
theorem dX5_isSetting_76 : decode cX5_isSetting 76 = .ok (.i2l, 1) := by decide +kernel
theorem dX5_isSetting_77 : decode cX5_isSetting 77 = .ok (.lconst 1, 1) := by decide +kernel
theorem dX5_isSetting_78 : decode cX5_isSetting 78 = .ok (.ldc2_w 57, 3) := by decide +kernel
theorem dX5_isSetting_81 : decode cX5_isSetting 81 = .ok (.invokestatic 47, 3) := by decide +kernel
theorem dX5_isSetting_84 : decode cX5_isSetting 84 = .ok (.ifCond .eq 7, 3) := by decide +kernel
theorem dX5_isSetting_87 : decode cX5_isSetting 87 = .ok (.iconst 1, 1) := by decide +kernel
theorem dX5_isSetting_88 : decode cX5_isSetting 88 = .ok (.goto 4, 3) := by decide +kernel
theorem dX5_isSetting_91 : decode cX5_isSetting 91 = .ok (.iconst 0, 1) := by decide +kernel
theorem dX5_isSetting_92 : decode cX5_isSetting 92 = .ok (.ireturn, 1) := by decide +kernel
theorem dX5_sineOf_0 : decode cX5_sineOf 0 = .ok (.iload_n 1, 1) := by decide +kernel
theorem dX5_sineOf_1 : decode cX5_sineOf 1 = .ok (.ifCond .ge 8, 3) := by decide +kernel
theorem dX5_sineOf_4 : decode cX5_sineOf 4 = .ok (.iload_n 1, 1) := by decide +kernel
theorem dX5_sineOf_5 : decode cX5_sineOf 5 = .ok (.ineg, 1) := by decide +kernel
theorem dX5_sineOf_6 : decode cX5_sineOf 6 = .ok (.goto 4, 3) := by decide +kernel
theorem dX5_sineOf_9 : decode cX5_sineOf 9 = .ok (.iload_n 1, 1) := by decide +kernel
theorem dX5_sineOf_10 : decode cX5_sineOf 10 = .ok (.istore_n 2, 1) := by decide +kernel
theorem dX5_sineOf_11 : decode cX5_sineOf 11 = .ok (.aload_n 0, 1) := by decide +kernel
theorem dX5_sineOf_12 : decode cX5_sineOf 12 = .ok (.getfield 32, 3) := by decide +kernel
theorem dX5_sineOf_15 : decode cX5_sineOf 15 = .ok (.iload_n 2, 1) := by decide +kernel
theorem dX5_sineOf_16 : decode cX5_sineOf 16 = .ok (.iconst 5, 1) := by decide +kernel
theorem dX5_sineOf_17 : decode cX5_sineOf 17 = .ok (.idiv, 1) := by decide +kernel
theorem dX5_sineOf_18 : decode cX5_sineOf 18 = .ok (.iaload, 1) := by decide +kernel
theorem dX5_sineOf_19 : decode cX5_sineOf 19 = .ok (.istore_n 3, 1) := by decide +kernel
theorem dX5_sineOf_20 : decode cX5_sineOf 20 = .ok (.iload_n 2, 1) := by decide +kernel
theorem dX5_sineOf_21 : decode cX5_sineOf 21 = .ok (.iconst 5, 1) := by decide +kernel
theorem dX5_sineOf_22 : decode cX5_sineOf 22 = .ok (.irem, 1) := by decide +kernel
theorem dX5_sineOf_23 : decode cX5_sineOf 23 = .ok (.ifCond .ne 7, 3) := by decide +kernel
theorem dX5_sineOf_26 : decode cX5_sineOf 26 = .ok (.iload_n 3, 1) := by decide +kernel
theorem dX5_sineOf_27 : decode cX5_sineOf 27 = .ok (.goto 23, 3) := by decide +kernel
theorem dX5_sineOf_30 : decode cX5_sineOf 30 = .ok (.iload_n 3, 1) := by decide +kernel
theorem dX5_sineOf_31 : decode cX5_sineOf 31 = .ok (.aload_n 0, 1) := by decide +kernel
theorem dX5_sineOf_32 : decode cX5_sineOf 32 = .ok (.getfield 32, 3) := by decide +kernel
theorem dX5_sineOf_35 : decode cX5_sineOf 35 = .ok (.iload_n 2, 1) := by decide +kernel
theorem dX5_sineOf_36 : decode cX5_sineOf 36 = .ok (.iconst 5, 1) := by decide +kernel
theorem dX5_sineOf_37 : decode cX5_sineOf 37 = .ok (.idiv, 1) := by decide +kernel
theorem dX5_sineOf_38 : decode cX5_sineOf 38 = .ok (.iconst 1, 1) := by decide +kernel
theorem dX5_sineOf_39 : decode cX5_sineOf 39 = .ok (.iadd, 1) := by decide +kernel
theorem dX5_sineOf_40 : decode cX5_sineOf 40 = .ok (.iaload, 1) := by decide +kernel
theorem dX5_sineOf_41 : decode cX5_sineOf 41 = .ok (.iload_n 3, 1) := by decide +kernel
theorem dX5_sineOf_42 : decode cX5_sineOf 42 = .ok (.isub, 1) := by decide +kernel
theorem dX5_sineOf_43 : decode cX5_sineOf 43 = .ok (.iload_n 2, 1) := by decide +kernel
theorem dX5_sineOf_44 : decode cX5_sineOf 44 = .ok (.iconst 5, 1) := by decide +kernel
theorem dX5_sineOf_45 : decode cX5_sineOf 45 = .ok (.irem, 1) := by decide +kernel
theorem dX5_sineOf_46 : decode cX5_sineOf 46 = .ok (.imul, 1) := by decide +kernel
theorem dX5_sineOf_47 : decode cX5_sineOf 47 = .ok (.iconst 5, 1) := by decide +kernel
theorem dX5_sineOf_48 : decode cX5_sineOf 48 = .ok (.idiv, 1) := by decide +kernel
theorem dX5_sineOf_49 : decode cX5_sineOf 49 = .ok (.iadd, 1) := by decide +kernel
theorem dX5_sineOf_50 : decode cX5_sineOf 50 = .ok (.istore 4, 2) := by decide +kernel
theorem dX5_sineOf_52 : decode cX5_sineOf 52 = .ok (.iload_n 1, 1) := by decide +kernel
theorem dX5_sineOf_53 : decode cX5_sineOf 53 = .ok (.ifCond .ge 9, 3) := by decide +kernel
theorem dX5_sineOf_56 : decode cX5_sineOf 56 = .ok (.iload 4, 2) := by decide +kernel
theorem dX5_sineOf_58 : decode cX5_sineOf 58 = .ok (.ineg, 1) := by decide +kernel
theorem dX5_sineOf_59 : decode cX5_sineOf 59 = .ok (.goto 5, 3) := by decide +kernel
theorem dX5_sineOf_62 : decode cX5_sineOf 62 = .ok (.iload 4, 2) := by decide +kernel
theorem dX5_sineOf_64 : decode cX5_sineOf 64 = .ok (.ireturn, 1) := by decide +kernel
theorem dX5_around_0 : decode cX5_around 0 = .ok (.iload_n 0, 1) := by decide +kernel
theorem dX5_around_1 : decode cX5_around 1 = .ok (.sipush 10800, 3) := by decide +kernel
theorem dX5_around_4 : decode cX5_around 4 = .ok (.irem, 1) := by decide +kernel
theorem dX5_around_5 : decode cX5_around 5 = .ok (.istore_n 1, 1) := by decide +kernel
theorem dX5_around_6 : decode cX5_around 6 = .ok (.iload_n 1, 1) := by decide +kernel
theorem dX5_around_7 : decode cX5_around 7 = .ok (.ifCond .ge 11, 3) := by decide +kernel
theorem dX5_around_10 : decode cX5_around 10 = .ok (.iload_n 1, 1) := by decide +kernel
theorem dX5_around_11 : decode cX5_around 11 = .ok (.sipush 10800, 3) := by decide +kernel
theorem dX5_around_14 : decode cX5_around 14 = .ok (.iadd, 1) := by decide +kernel
theorem dX5_around_15 : decode cX5_around 15 = .ok (.goto 4, 3) := by decide +kernel
theorem dX5_around_18 : decode cX5_around 18 = .ok (.iload_n 1, 1) := by decide +kernel
theorem dX5_around_19 : decode cX5_around 19 = .ok (.ireturn, 1) := by decide +kernel
theorem dX5_pinAt_0 : decode cX5_pinAt 0 = .ok (.iconst 0, 1) := by decide +kernel
theorem dX5_pinAt_1 : decode cX5_pinAt 1 = .ok (.istore_n 2, 1) := by decide +kernel
theorem dX5_pinAt_2 : decode cX5_pinAt 2 = .ok (.iload_n 2, 1) := by decide +kernel
theorem dX5_pinAt_3 : decode cX5_pinAt 3 = .ok (.aload_n 0, 1) := by decide +kernel
theorem dX5_pinAt_4 : decode cX5_pinAt 4 = .ok (.bipush 9, 2) := by decide +kernel
theorem dX5_pinAt_6 : decode cX5_pinAt 6 = .ok (.iaload, 1) := by decide +kernel
theorem dX5_pinAt_7 : decode cX5_pinAt 7 = .ok (.if_icmp .ge 23, 3) := by decide +kernel
theorem dX5_pinAt_10 : decode cX5_pinAt 10 = .ok (.aload_n 0, 1) := by decide +kernel
theorem dX5_pinAt_11 : decode cX5_pinAt 11 = .ok (.bipush 12, 2) := by decide +kernel
theorem dX5_pinAt_13 : decode cX5_pinAt 13 = .ok (.iconst 2, 1) := by decide +kernel
theorem dX5_pinAt_14 : decode cX5_pinAt 14 = .ok (.iload_n 2, 1) := by decide +kernel
theorem dX5_pinAt_15 : decode cX5_pinAt 15 = .ok (.imul, 1) := by decide +kernel
theorem dX5_pinAt_16 : decode cX5_pinAt 16 = .ok (.iadd, 1) := by decide +kernel
theorem dX5_pinAt_17 : decode cX5_pinAt 17 = .ok (.iaload, 1) := by decide +kernel
theorem dX5_pinAt_18 : decode cX5_pinAt 18 = .ok (.iload_n 1, 1) := by decide +kernel
theorem dX5_pinAt_19 : decode cX5_pinAt 19 = .ok (.if_icmp .ne 5, 3) := by decide +kernel
theorem dX5_pinAt_22 : decode cX5_pinAt 22 = .ok (.iload_n 2, 1) := by decide +kernel
theorem dX5_pinAt_23 : decode cX5_pinAt 23 = .ok (.ireturn, 1) := by decide +kernel
theorem dX5_pinAt_24 : decode cX5_pinAt 24 = .ok (.iinc 2 1, 3) := by decide +kernel
theorem dX5_pinAt_27 : decode cX5_pinAt 27 = .ok (.goto (-25), 3) := by decide +kernel
theorem dX5_pinAt_30 : decode cX5_pinAt 30 = .ok (.bipush (-9), 2) := by decide +kernel
theorem dX5_pinAt_32 : decode cX5_pinAt 32 = .ok (.ireturn, 1) := by decide +kernel
theorem dX5_step_0 : decode cX5_step 0 = .ok (.aload_n 1, 1) := by decide +kernel
theorem dX5_step_1 : decode cX5_step 1 = .ok (.iconst 5, 1) := by decide +kernel
theorem dX5_step_2 : decode cX5_step 2 = .ok (.aload_n 1, 1) := by decide +kernel
theorem dX5_step_3 : decode cX5_step 3 = .ok (.iconst 5, 1) := by decide +kernel
theorem dX5_step_4 : decode cX5_step 4 = .ok (.iaload, 1) := by decide +kernel
theorem dX5_step_5 : decode cX5_step 5 = .ok (.iload_n 2, 1) := by decide +kernel
theorem dX5_step_6 : decode cX5_step 6 = .ok (.iadd, 1) := by decide +kernel
theorem dX5_step_7 : decode cX5_step 7 = .ok (.invokestatic 59, 3) := by decide +kernel
theorem dX5_step_10 : decode cX5_step 10 = .ok (.iastore, 1) := by decide +kernel
theorem dX5_step_11 : decode cX5_step 11 = .ok (.aload_n 1, 1) := by decide +kernel
theorem dX5_step_12 : decode cX5_step 12 = .ok (.aload_n 1, 1) := by decide +kernel
theorem dX5_step_13 : decode cX5_step 13 = .ok (.iconst 5, 1) := by decide +kernel
theorem dX5_step_14 : decode cX5_step 14 = .ok (.iaload, 1) := by decide +kernel
theorem dX5_step_15 : decode cX5_step 15 = .ok (.invokestatic 63, 3) := by decide +kernel
theorem dX5_step_18 : decode cX5_step 18 = .ok (.istore_n 3, 1) := by decide +kernel
theorem dX5_step_19 : decode cX5_step 19 = .ok (.iload_n 3, 1) := by decide +kernel
theorem dX5_step_20 : decode cX5_step 20 = .ok (.bipush (-9), 2) := by decide +kernel
theorem dX5_step_22 : decode cX5_step 22 = .ok (.if_icmp .eq 26, 3) := by decide +kernel
theorem dX5_step_25 : decode cX5_step 25 = .ok (.aload_n 1, 1) := by decide +kernel
theorem dX5_step_26 : decode cX5_step 26 = .ok (.bipush 12, 2) := by decide +kernel
theorem dX5_step_28 : decode cX5_step 28 = .ok (.iconst 2, 1) := by decide +kernel
theorem dX5_step_29 : decode cX5_step 29 = .ok (.iload_n 3, 1) := by decide +kernel
theorem dX5_step_30 : decode cX5_step 30 = .ok (.imul, 1) := by decide +kernel
theorem dX5_step_31 : decode cX5_step 31 = .ok (.iadd, 1) := by decide +kernel
theorem dX5_step_32 : decode cX5_step 32 = .ok (.iconst 1, 1) := by decide +kernel
theorem dX5_step_33 : decode cX5_step 33 = .ok (.iadd, 1) := by decide +kernel
theorem dX5_step_34 : decode cX5_step 34 = .ok (.iaload, 1) := by decide +kernel
theorem dX5_step_35 : decode cX5_step 35 = .ok (.ifCond .eq 13, 3) := by decide +kernel
theorem dX5_step_38 : decode cX5_step 38 = .ok (.aload_n 1, 1) := by decide +kernel
theorem dX5_step_39 : decode cX5_step 39 = .ok (.bipush 7, 2) := by decide +kernel
theorem dX5_step_41 : decode cX5_step 41 = .ok (.iaload, 1) := by decide +kernel
theorem dX5_step_42 : decode cX5_step 42 = .ok (.aload_n 1, 1) := by decide +kernel
theorem dX5_step_43 : decode cX5_step 43 = .ok (.iconst 3, 1) := by decide +kernel
theorem dX5_step_44 : decode cX5_step 44 = .ok (.iaload, 1) := by decide +kernel
theorem dX5_step_45 : decode cX5_step 45 = .ok (.if_icmp .ge 5, 3) := by decide +kernel
theorem dX5_step_48 : decode cX5_step 48 = .ok (.iconst 0, 1) := by decide +kernel
theorem dX5_step_49 : decode cX5_step 49 = .ok (.ireturn, 1) := by decide +kernel
theorem dX5_step_50 : decode cX5_step 50 = .ok (.aload_n 1, 1) := by decide +kernel
theorem dX5_step_51 : decode cX5_step 51 = .ok (.bipush 12, 2) := by decide +kernel
theorem dX5_step_53 : decode cX5_step 53 = .ok (.iconst 2, 1) := by decide +kernel
theorem dX5_step_54 : decode cX5_step 54 = .ok (.iload_n 3, 1) := by decide +kernel
theorem dX5_step_55 : decode cX5_step 55 = .ok (.imul, 1) := by decide +kernel
theorem dX5_step_56 : decode cX5_step 56 = .ok (.iadd, 1) := by decide +kernel
theorem dX5_step_57 : decode cX5_step 57 = .ok (.iconst 1, 1) := by decide +kernel
theorem dX5_step_58 : decode cX5_step 58 = .ok (.iadd, 1) := by decide +kernel
theorem dX5_step_59 : decode cX5_step 59 = .ok (.iconst 0, 1) := by decide +kernel
theorem dX5_step_60 : decode cX5_step 60 = .ok (.iastore, 1) := by decide +kernel
theorem dX5_step_61 : decode cX5_step 61 = .ok (.aload_n 1, 1) := by decide +kernel
theorem dX5_step_62 : decode cX5_step 62 = .ok (.bipush 7, 2) := by decide +kernel
theorem dX5_step_64 : decode cX5_step 64 = .ok (.aload_n 1, 1) := by decide +kernel
theorem dX5_step_65 : decode cX5_step 65 = .ok (.bipush 7, 2) := by decide +kernel
theorem dX5_step_67 : decode cX5_step 67 = .ok (.iaload, 1) := by decide +kernel
theorem dX5_step_68 : decode cX5_step 68 = .ok (.bipush 50, 2) := by decide +kernel
theorem dX5_step_70 : decode cX5_step 70 = .ok (.if_icmp .ge 7, 3) := by decide +kernel
theorem dX5_step_73 : decode cX5_step 73 = .ok (.iconst 0, 1) := by decide +kernel
theorem dX5_step_74 : decode cX5_step 74 = .ok (.goto 10, 3) := by decide +kernel
theorem dX5_step_77 : decode cX5_step 77 = .ok (.aload_n 1, 1) := by decide +kernel
theorem dX5_step_78 : decode cX5_step 78 = .ok (.bipush 7, 2) := by decide +kernel
theorem dX5_step_80 : decode cX5_step 80 = .ok (.iaload, 1) := by decide +kernel
theorem dX5_step_81 : decode cX5_step 81 = .ok (.bipush 50, 2) := by decide +kernel
theorem dX5_step_83 : decode cX5_step 83 = .ok (.isub, 1) := by decide +kernel
theorem dX5_step_84 : decode cX5_step 84 = .ok (.iastore, 1) := by decide +kernel
theorem dX5_step_85 : decode cX5_step 85 = .ok (.sipush 151, 3) := by decide +kernel
theorem dX5_step_88 : decode cX5_step 88 = .ok (.istore 4, 2) := by decide +kernel
theorem dX5_step_90 : decode cX5_step 90 = .ok (.iload 4, 2) := by decide +kernel
theorem dX5_step_92 : decode cX5_step 92 = .ok (.bipush 95, 2) := by decide +kernel
theorem dX5_step_94 : decode cX5_step 94 = .ok (.if_icmp .lt 19, 3) := by decide +kernel
theorem dX5_step_97 : decode cX5_step 97 = .ok (.aload_n 1, 1) := by decide +kernel
theorem dX5_step_98 : decode cX5_step 98 = .ok (.iload 4, 2) := by decide +kernel
theorem dX5_step_100 : decode cX5_step 100 = .ok (.aload_n 1, 1) := by decide +kernel
theorem dX5_step_101 : decode cX5_step 101 = .ok (.iload 4, 2) := by decide +kernel
theorem dX5_step_103 : decode cX5_step 103 = .ok (.iconst 3, 1) := by decide +kernel
theorem dX5_step_104 : decode cX5_step 104 = .ok (.isub, 1) := by decide +kernel
theorem dX5_step_105 : decode cX5_step 105 = .ok (.iaload, 1) := by decide +kernel
theorem dX5_step_106 : decode cX5_step 106 = .ok (.iastore, 1) := by decide +kernel
theorem dX5_step_107 : decode cX5_step 107 = .ok (.iinc 4 (-1), 3) := by decide +kernel
theorem dX5_step_110 : decode cX5_step 110 = .ok (.goto (-20), 3) := by decide +kernel
theorem dX5_step_113 : decode cX5_step 113 = .ok (.aload_n 1, 1) := by decide +kernel
theorem dX5_step_114 : decode cX5_step 114 = .ok (.bipush 92, 2) := by decide +kernel
theorem dX5_step_116 : decode cX5_step 116 = .ok (.aload_n 1, 1) := by decide +kernel
theorem dX5_step_117 : decode cX5_step 117 = .ok (.iconst 5, 1) := by decide +kernel
theorem dX5_step_118 : decode cX5_step 118 = .ok (.iaload, 1) := by decide +kernel
theorem dX5_step_119 : decode cX5_step 119 = .ok (.iastore, 1) := by decide +kernel
theorem dX5_step_120 : decode cX5_step 120 = .ok (.aload_n 1, 1) := by decide +kernel
theorem dX5_step_121 : decode cX5_step 121 = .ok (.bipush 93, 2) := by decide +kernel
theorem dX5_step_123 : decode cX5_step 123 = .ok (.aload_n 1, 1) := by decide +kernel
theorem dX5_step_124 : decode cX5_step 124 = .ok (.bipush 8, 2) := by decide +kernel
theorem dX5_step_126 : decode cX5_step 126 = .ok (.iaload, 1) := by decide +kernel
theorem dX5_step_127 : decode cX5_step 127 = .ok (.iastore, 1) := by decide +kernel
theorem dX5_step_128 : decode cX5_step 128 = .ok (.aload_n 1, 1) := by decide +kernel
theorem dX5_step_129 : decode cX5_step 129 = .ok (.bipush 94, 2) := by decide +kernel
theorem dX5_step_131 : decode cX5_step 131 = .ok (.aload_n 1, 1) := by decide +kernel
theorem dX5_step_132 : decode cX5_step 132 = .ok (.bipush 7, 2) := by decide +kernel
theorem dX5_step_134 : decode cX5_step 134 = .ok (.iaload, 1) := by decide +kernel
theorem dX5_step_135 : decode cX5_step 135 = .ok (.iastore, 1) := by decide +kernel
theorem dX5_step_136 : decode cX5_step 136 = .ok (.aload_n 1, 1) := by decide +kernel
theorem dX5_step_137 : decode cX5_step 137 = .ok (.bipush 10, 2) := by decide +kernel
theorem dX5_step_139 : decode cX5_step 139 = .ok (.aload_n 1, 1) := by decide +kernel
theorem dX5_step_140 : decode cX5_step 140 = .ok (.bipush 10, 2) := by decide +kernel
theorem dX5_step_142 : decode cX5_step 142 = .ok (.iaload, 1) := by decide +kernel
theorem dX5_step_143 : decode cX5_step 143 = .ok (.bipush 20, 2) := by decide +kernel
theorem dX5_step_145 : decode cX5_step 145 = .ok (.if_icmp .ge 12, 3) := by decide +kernel
theorem dX5_step_148 : decode cX5_step 148 = .ok (.aload_n 1, 1) := by decide +kernel
theorem dX5_step_149 : decode cX5_step 149 = .ok (.bipush 10, 2) := by decide +kernel
theorem dX5_step_151 : decode cX5_step 151 = .ok (.iaload, 1) := by decide +kernel
theorem dX5_step_152 : decode cX5_step 152 = .ok (.iconst 1, 1) := by decide +kernel
theorem dX5_step_153 : decode cX5_step 153 = .ok (.iadd, 1) := by decide +kernel
theorem dX5_step_154 : decode cX5_step 154 = .ok (.goto 5, 3) := by decide +kernel
theorem dX5_step_157 : decode cX5_step 157 = .ok (.bipush 20, 2) := by decide +kernel
theorem dX5_step_159 : decode cX5_step 159 = .ok (.iastore, 1) := by decide +kernel
theorem dX5_step_160 : decode cX5_step 160 = .ok (.iconst 1, 1) := by decide +kernel
theorem dX5_step_161 : decode cX5_step 161 = .ok (.ireturn, 1) := by decide +kernel
theorem dX5_turnOn_0 : decode cX5_turnOn 0 = .ok (.iconst 0, 1) := by decide +kernel
theorem dX5_turnOn_1 : decode cX5_turnOn 1 = .ok (.istore_n 2, 1) := by decide +kernel
theorem dX5_turnOn_2 : decode cX5_turnOn 2 = .ok (.aload_n 1, 1) := by decide +kernel
theorem dX5_turnOn_3 : decode cX5_turnOn 3 = .ok (.bipush 7, 2) := by decide +kernel
theorem dX5_turnOn_5 : decode cX5_turnOn 5 = .ok (.iaload, 1) := by decide +kernel
theorem dX5_turnOn_6 : decode cX5_turnOn 6 = .ok (.ifCond .le 142, 3) := by decide +kernel
theorem dX5_turnOn_9 : decode cX5_turnOn 9 = .ok (.sipush 1000, 3) := by decide +kernel
theorem dX5_turnOn_12 : decode cX5_turnOn 12 = .ok (.aload_n 1, 1) := by decide +kernel
theorem dX5_turnOn_13 : decode cX5_turnOn 13 = .ok (.iconst 1, 1) := by decide +kernel
theorem dX5_turnOn_14 : decode cX5_turnOn 14 = .ok (.iaload, 1) := by decide +kernel
theorem dX5_turnOn_15 : decode cX5_turnOn 15 = .ok (.imul, 1) := by decide +kernel
theorem dX5_turnOn_16 : decode cX5_turnOn 16 = .ok (.istore_n 3, 1) := by decide +kernel
theorem dX5_turnOn_17 : decode cX5_turnOn 17 = .ok (.aload_n 1, 1) := by decide +kernel
theorem dX5_turnOn_18 : decode cX5_turnOn 18 = .ok (.bipush 6, 2) := by decide +kernel
theorem dX5_turnOn_20 : decode cX5_turnOn 20 = .ok (.dup2, 1) := by decide +kernel
theorem dX5_turnOn_21 : decode cX5_turnOn 21 = .ok (.iaload, 1) := by decide +kernel
theorem dX5_turnOn_22 : decode cX5_turnOn 22 = .ok (.sipush 900, 3) := by decide +kernel
theorem dX5_turnOn_25 : decode cX5_turnOn 25 = .ok (.aload_n 0, 1) := by decide +kernel
theorem dX5_turnOn_26 : decode cX5_turnOn 26 = .ok (.aload_n 1, 1) := by decide +kernel
theorem dX5_turnOn_27 : decode cX5_turnOn 27 = .ok (.iconst 0, 1) := by decide +kernel
theorem dX5_turnOn_28 : decode cX5_turnOn 28 = .ok (.iaload, 1) := by decide +kernel
theorem dX5_turnOn_29 : decode cX5_turnOn 29 = .ok (.invokevirtual 67, 3) := by decide +kernel
theorem dX5_turnOn_32 : decode cX5_turnOn 32 = .ok (.imul, 1) := by decide +kernel
theorem dX5_turnOn_33 : decode cX5_turnOn 33 = .ok (.iadd, 1) := by decide +kernel
theorem dX5_turnOn_34 : decode cX5_turnOn 34 = .ok (.iastore, 1) := by decide +kernel
theorem dX5_turnOn_35 : decode cX5_turnOn 35 = .ok (.aload_n 1, 1) := by decide +kernel
theorem dX5_turnOn_36 : decode cX5_turnOn 36 = .ok (.bipush 6, 2) := by decide +kernel
theorem dX5_turnOn_38 : decode cX5_turnOn 38 = .ok (.iaload, 1) := by decide +kernel
theorem dX5_turnOn_39 : decode cX5_turnOn 39 = .ok (.iload_n 3, 1) := by decide +kernel
theorem dX5_turnOn_40 : decode cX5_turnOn 40 = .ok (.if_icmp .lt 23, 3) := by decide +kernel
theorem dX5_turnOn_43 : decode cX5_turnOn 43 = .ok (.aload_n 1, 1) := by decide +kernel
theorem dX5_turnOn_44 : decode cX5_turnOn 44 = .ok (.bipush 6, 2) := by decide +kernel
theorem dX5_turnOn_46 : decode cX5_turnOn 46 = .ok (.dup2, 1) := by decide +kernel
theorem dX5_turnOn_47 : decode cX5_turnOn 47 = .ok (.iaload, 1) := by decide +kernel
theorem dX5_turnOn_48 : decode cX5_turnOn 48 = .ok (.iload_n 3, 1) := by decide +kernel
theorem dX5_turnOn_49 : decode cX5_turnOn 49 = .ok (.isub, 1) := by decide +kernel
theorem dX5_turnOn_50 : decode cX5_turnOn 50 = .ok (.iastore, 1) := by decide +kernel
theorem dX5_turnOn_51 : decode cX5_turnOn 51 = .ok (.iload_n 2, 1) := by decide +kernel
theorem dX5_turnOn_52 : decode cX5_turnOn 52 = .ok (.aload_n 0, 1) := by decide +kernel
theorem dX5_turnOn_53 : decode cX5_turnOn 53 = .ok (.aload_n 1, 1) := by decide +kernel
theorem dX5_turnOn_54 : decode cX5_turnOn 54 = .ok (.iconst 1, 1) := by decide +kernel
theorem dX5_turnOn_55 : decode cX5_turnOn 55 = .ok (.invokevirtual 70, 3) := by decide +kernel
theorem dX5_turnOn_58 : decode cX5_turnOn 58 = .ok (.iadd, 1) := by decide +kernel
theorem dX5_turnOn_59 : decode cX5_turnOn 59 = .ok (.istore_n 2, 1) := by decide +kernel
theorem dX5_turnOn_60 : decode cX5_turnOn 60 = .ok (.goto (-25), 3) := by decide +kernel
theorem dX5_turnOn_63 : decode cX5_turnOn 63 = .ok (.aload_n 1, 1) := by decide +kernel
theorem dX5_turnOn_64 : decode cX5_turnOn 64 = .ok (.bipush 6, 2) := by decide +kernel
theorem dX5_turnOn_66 : decode cX5_turnOn 66 = .ok (.iaload, 1) := by decide +kernel
theorem dX5_turnOn_67 : decode cX5_turnOn 67 = .ok (.ifCond .ge 23, 3) := by decide +kernel
theorem dX5_turnOn_70 : decode cX5_turnOn 70 = .ok (.aload_n 1, 1) := by decide +kernel
theorem dX5_turnOn_71 : decode cX5_turnOn 71 = .ok (.bipush 6, 2) := by decide +kernel
theorem dX5_turnOn_73 : decode cX5_turnOn 73 = .ok (.dup2, 1) := by decide +kernel
theorem dX5_turnOn_74 : decode cX5_turnOn 74 = .ok (.iaload, 1) := by decide +kernel
theorem dX5_turnOn_75 : decode cX5_turnOn 75 = .ok (.iload_n 3, 1) := by decide +kernel
theorem dX5_turnOn_76 : decode cX5_turnOn 76 = .ok (.iadd, 1) := by decide +kernel
theorem dX5_turnOn_77 : decode cX5_turnOn 77 = .ok (.iastore, 1) := by decide +kernel
theorem dX5_turnOn_78 : decode cX5_turnOn 78 = .ok (.iload_n 2, 1) := by decide +kernel
theorem dX5_turnOn_79 : decode cX5_turnOn 79 = .ok (.aload_n 0, 1) := by decide +kernel
theorem dX5_turnOn_80 : decode cX5_turnOn 80 = .ok (.aload_n 1, 1) := by decide +kernel
theorem dX5_turnOn_81 : decode cX5_turnOn 81 = .ok (.iconst (-1), 1) := by decide +kernel
theorem dX5_turnOn_82 : decode cX5_turnOn 82 = .ok (.invokevirtual 70, 3) := by decide +kernel
theorem dX5_turnOn_85 : decode cX5_turnOn 85 = .ok (.iadd, 1) := by decide +kernel
theorem dX5_turnOn_86 : decode cX5_turnOn 86 = .ok (.istore_n 2, 1) := by decide +kernel
theorem dX5_turnOn_87 : decode cX5_turnOn 87 = .ok (.goto (-24), 3) := by decide +kernel
theorem dX5_turnOn_90 : decode cX5_turnOn 90 = .ok (.aload_n 1, 1) := by decide +kernel
theorem dX5_turnOn_91 : decode cX5_turnOn 91 = .ok (.bipush 7, 2) := by decide +kernel
theorem dX5_turnOn_93 : decode cX5_turnOn 93 = .ok (.iaload, 1) := by decide +kernel
theorem dX5_turnOn_94 : decode cX5_turnOn 94 = .ok (.aload_n 1, 1) := by decide +kernel
theorem dX5_turnOn_95 : decode cX5_turnOn 95 = .ok (.bipush 7, 2) := by decide +kernel
theorem dX5_turnOn_97 : decode cX5_turnOn 97 = .ok (.iaload, 1) := by decide +kernel
theorem dX5_turnOn_98 : decode cX5_turnOn 98 = .ok (.aload_n 1, 1) := by decide +kernel
theorem dX5_turnOn_99 : decode cX5_turnOn 99 = .ok (.iconst 2, 1) := by decide +kernel
theorem dX5_turnOn_100 : decode cX5_turnOn 100 = .ok (.iaload, 1) := by decide +kernel
theorem dX5_turnOn_101 : decode cX5_turnOn 101 = .ok (.imul, 1) := by decide +kernel
theorem dX5_turnOn_102 : decode cX5_turnOn 102 = .ok (.sipush 10000, 3) := by decide +kernel
theorem dX5_turnOn_105 : decode cX5_turnOn 105 = .ok (.idiv, 1) := by decide +kernel
theorem dX5_turnOn_106 : decode cX5_turnOn 106 = .ok (.iconst 1, 1) := by decide +kernel
theorem dX5_turnOn_107 : decode cX5_turnOn 107 = .ok (.iadd, 1) := by decide +kernel
theorem dX5_turnOn_108 : decode cX5_turnOn 108 = .ok (.isub, 1) := by decide +kernel
theorem dX5_turnOn_109 : decode cX5_turnOn 109 = .ok (.istore 4, 2) := by decide +kernel
theorem dX5_turnOn_111 : decode cX5_turnOn 111 = .ok (.iload 4, 2) := by decide +kernel
theorem dX5_turnOn_113 : decode cX5_turnOn 113 = .ok (.ifCond .ge 7, 3) := by decide +kernel
theorem dX5_turnOn_116 : decode cX5_turnOn 116 = .ok (.iconst 0, 1) := by decide +kernel
theorem dX5_turnOn_117 : decode cX5_turnOn 117 = .ok (.goto 5, 3) := by decide +kernel
theorem dX5_turnOn_120 : decode cX5_turnOn 120 = .ok (.iload 4, 2) := by decide +kernel
theorem dX5_turnOn_122 : decode cX5_turnOn 122 = .ok (.aload_n 1, 1) := by decide +kernel
theorem dX5_turnOn_123 : decode cX5_turnOn 123 = .ok (.iconst 4, 1) := by decide +kernel
theorem dX5_turnOn_124 : decode cX5_turnOn 124 = .ok (.iaload, 1) := by decide +kernel
theorem dX5_turnOn_125 : decode cX5_turnOn 125 = .ok (.iadd, 1) := by decide +kernel
theorem dX5_turnOn_126 : decode cX5_turnOn 126 = .ok (.istore 4, 2) := by decide +kernel
theorem dX5_turnOn_128 : decode cX5_turnOn 128 = .ok (.aload_n 1, 1) := by decide +kernel
theorem dX5_turnOn_129 : decode cX5_turnOn 129 = .ok (.bipush 7, 2) := by decide +kernel
theorem dX5_turnOn_131 : decode cX5_turnOn 131 = .ok (.iload 4, 2) := by decide +kernel
theorem dX5_turnOn_133 : decode cX5_turnOn 133 = .ok (.sipush 9999, 3) := by decide +kernel
theorem dX5_turnOn_136 : decode cX5_turnOn 136 = .ok (.if_icmp .le 9, 3) := by decide +kernel
theorem dX5_turnOn_139 : decode cX5_turnOn 139 = .ok (.sipush 9999, 3) := by decide +kernel
theorem dX5_turnOn_142 : decode cX5_turnOn 142 = .ok (.goto 5, 3) := by decide +kernel
theorem dX5_turnOn_145 : decode cX5_turnOn 145 = .ok (.iload 4, 2) := by decide +kernel
theorem dX5_turnOn_147 : decode cX5_turnOn 147 = .ok (.iastore, 1) := by decide +kernel
theorem dX5_turnOn_148 : decode cX5_turnOn 148 = .ok (.aload_n 1, 1) := by decide +kernel
theorem dX5_turnOn_149 : decode cX5_turnOn 149 = .ok (.bipush 8, 2) := by decide +kernel
theorem dX5_turnOn_151 : decode cX5_turnOn 151 = .ok (.dup2, 1) := by decide +kernel
theorem dX5_turnOn_152 : decode cX5_turnOn 152 = .ok (.iaload, 1) := by decide +kernel
theorem dX5_turnOn_153 : decode cX5_turnOn 153 = .ok (.iconst 1, 1) := by decide +kernel
theorem dX5_turnOn_154 : decode cX5_turnOn 154 = .ok (.iadd, 1) := by decide +kernel
theorem dX5_turnOn_155 : decode cX5_turnOn 155 = .ok (.iastore, 1) := by decide +kernel
theorem dX5_turnOn_156 : decode cX5_turnOn 156 = .ok (.iload_n 2, 1) := by decide +kernel
theorem dX5_turnOn_157 : decode cX5_turnOn 157 = .ok (.ireturn, 1) := by decide +kernel
theorem dX5_turnsOn_0 : decode cX5_turnsOn 0 = .ok (.iconst 0, 1) := by decide +kernel
theorem dX5_turnsOn_1 : decode cX5_turnsOn 1 = .ok (.istore_n 3, 1) := by decide +kernel
theorem dX5_turnsOn_2 : decode cX5_turnsOn 2 = .ok (.iconst 0, 1) := by decide +kernel
theorem dX5_turnsOn_3 : decode cX5_turnsOn 3 = .ok (.istore 4, 2) := by decide +kernel
theorem dX5_turnsOn_5 : decode cX5_turnsOn 5 = .ok (.iload 4, 2) := by decide +kernel
theorem dX5_turnsOn_7 : decode cX5_turnsOn 7 = .ok (.iload_n 2, 1) := by decide +kernel
theorem dX5_turnsOn_8 : decode cX5_turnsOn 8 = .ok (.if_icmp .ge 17, 3) := by decide +kernel
theorem dX5_turnsOn_11 : decode cX5_turnsOn 11 = .ok (.iload_n 3, 1) := by decide +kernel
theorem dX5_turnsOn_12 : decode cX5_turnsOn 12 = .ok (.aload_n 0, 1) := by decide +kernel
theorem dX5_turnsOn_13 : decode cX5_turnsOn 13 = .ok (.aload_n 1, 1) := by decide +kernel
theorem dX5_turnsOn_14 : decode cX5_turnsOn 14 = .ok (.invokevirtual 73, 3) := by decide +kernel
theorem dX5_turnsOn_17 : decode cX5_turnsOn 17 = .ok (.iadd, 1) := by decide +kernel
theorem dX5_turnsOn_18 : decode cX5_turnsOn 18 = .ok (.istore_n 3, 1) := by decide +kernel
theorem dX5_turnsOn_19 : decode cX5_turnsOn 19 = .ok (.iinc 4 1, 3) := by decide +kernel
theorem dX5_turnsOn_22 : decode cX5_turnsOn 22 = .ok (.goto (-17), 3) := by decide +kernel
theorem dX5_turnsOn_25 : decode cX5_turnsOn 25 = .ok (.iload_n 3, 1) := by decide +kernel
theorem dX5_turnsOn_26 : decode cX5_turnsOn 26 = .ok (.ireturn, 1) := by decide +kernel
theorem dX5_pushOn_0 : decode cX5_pushOn 0 = .ok (.aload_n 0, 1) := by decide +kernel
theorem dX5_pushOn_1 : decode cX5_pushOn 1 = .ok (.bipush 7, 2) := by decide +kernel
theorem dX5_pushOn_3 : decode cX5_pushOn 3 = .ok (.aload_n 0, 1) := by decide +kernel
theorem dX5_pushOn_4 : decode cX5_pushOn 4 = .ok (.bipush 7, 2) := by decide +kernel
theorem dX5_pushOn_6 : decode cX5_pushOn 6 = .ok (.iaload, 1) := by decide +kernel
theorem dX5_pushOn_7 : decode cX5_pushOn 7 = .ok (.iload_n 1, 1) := by decide +kernel
theorem dX5_pushOn_8 : decode cX5_pushOn 8 = .ok (.iadd, 1) := by decide +kernel
theorem dX5_pushOn_9 : decode cX5_pushOn 9 = .ok (.sipush 9999, 3) := by decide +kernel
theorem dX5_pushOn_12 : decode cX5_pushOn 12 = .ok (.if_icmp .le 9, 3) := by decide +kernel
theorem dX5_pushOn_15 : decode cX5_pushOn 15 = .ok (.sipush 9999, 3) := by decide +kernel
theorem dX5_pushOn_18 : decode cX5_pushOn 18 = .ok (.goto 9, 3) := by decide +kernel
theorem dX5_pushOn_21 : decode cX5_pushOn 21 = .ok (.aload_n 0, 1) := by decide +kernel
theorem dX5_pushOn_22 : decode cX5_pushOn 22 = .ok (.bipush 7, 2) := by decide +kernel
theorem dX5_pushOn_24 : decode cX5_pushOn 24 = .ok (.iaload, 1) := by decide +kernel
theorem dX5_pushOn_25 : decode cX5_pushOn 25 = .ok (.iload_n 1, 1) := by decide +kernel
theorem dX5_pushOn_26 : decode cX5_pushOn 26 = .ok (.iadd, 1) := by decide +kernel
theorem dX5_pushOn_27 : decode cX5_pushOn 27 = .ok (.iastore, 1) := by decide +kernel
theorem dX5_pushOn_28 : decode cX5_pushOn 28 = .ok (.return_, 1) := by decide +kernel
theorem dX5_nudgeOn_0 : decode cX5_nudgeOn 0 = .ok (.aload_n 0, 1) := by decide +kernel
theorem dX5_nudgeOn_1 : decode cX5_nudgeOn 1 = .ok (.bipush 7, 2) := by decide +kernel
theorem dX5_nudgeOn_3 : decode cX5_nudgeOn 3 = .ok (.iaload, 1) := by decide +kernel
theorem dX5_nudgeOn_4 : decode cX5_nudgeOn 4 = .ok (.iconst 2, 1) := by decide +kernel
theorem dX5_nudgeOn_5 : decode cX5_nudgeOn 5 = .ok (.iload_n 1, 1) := by decide +kernel
theorem dX5_nudgeOn_6 : decode cX5_nudgeOn 6 = .ok (.ifCond .ge 8, 3) := by decide +kernel
theorem dX5_nudgeOn_9 : decode cX5_nudgeOn 9 = .ok (.iload_n 1, 1) := by decide +kernel
theorem dX5_nudgeOn_10 : decode cX5_nudgeOn 10 = .ok (.ineg, 1) := by decide +kernel
theorem dX5_nudgeOn_11 : decode cX5_nudgeOn 11 = .ok (.goto 4, 3) := by decide +kernel
theorem dX5_nudgeOn_14 : decode cX5_nudgeOn 14 = .ok (.iload_n 1, 1) := by decide +kernel
theorem dX5_nudgeOn_15 : decode cX5_nudgeOn 15 = .ok (.imul, 1) := by decide +kernel
theorem dX5_nudgeOn_16 : decode cX5_nudgeOn 16 = .ok (.isub, 1) := by decide +kernel
theorem dX5_nudgeOn_17 : decode cX5_nudgeOn 17 = .ok (.istore_n 2, 1) := by decide +kernel
theorem dX5_nudgeOn_18 : decode cX5_nudgeOn 18 = .ok (.aload_n 0, 1) := by decide +kernel
theorem dX5_nudgeOn_19 : decode cX5_nudgeOn 19 = .ok (.iconst 5, 1) := by decide +kernel
theorem dX5_nudgeOn_20 : decode cX5_nudgeOn 20 = .ok (.aload_n 0, 1) := by decide +kernel
theorem dX5_nudgeOn_21 : decode cX5_nudgeOn 21 = .ok (.iconst 5, 1) := by decide +kernel
theorem dX5_nudgeOn_22 : decode cX5_nudgeOn 22 = .ok (.iaload, 1) := by decide +kernel
theorem dX5_nudgeOn_23 : decode cX5_nudgeOn 23 = .ok (.iload_n 1, 1) := by decide +kernel
theorem dX5_nudgeOn_24 : decode cX5_nudgeOn 24 = .ok (.iadd, 1) := by decide +kernel
theorem dX5_nudgeOn_25 : decode cX5_nudgeOn 25 = .ok (.invokestatic 59, 3) := by decide +kernel
theorem dX5_nudgeOn_28 : decode cX5_nudgeOn 28 = .ok (.iastore, 1) := by decide +kernel
theorem dX5_nudgeOn_29 : decode cX5_nudgeOn 29 = .ok (.aload_n 0, 1) := by decide +kernel
theorem dX5_nudgeOn_30 : decode cX5_nudgeOn 30 = .ok (.bipush 7, 2) := by decide +kernel
theorem dX5_nudgeOn_32 : decode cX5_nudgeOn 32 = .ok (.iload_n 2, 1) := by decide +kernel
theorem dX5_nudgeOn_33 : decode cX5_nudgeOn 33 = .ok (.ifCond .ge 7, 3) := by decide +kernel
theorem dX5_nudgeOn_36 : decode cX5_nudgeOn 36 = .ok (.iconst 0, 1) := by decide +kernel
theorem dX5_nudgeOn_37 : decode cX5_nudgeOn 37 = .ok (.goto 4, 3) := by decide +kernel
theorem dX5_nudgeOn_40 : decode cX5_nudgeOn 40 = .ok (.iload_n 2, 1) := by decide +kernel
theorem dX5_nudgeOn_41 : decode cX5_nudgeOn 41 = .ok (.iastore, 1) := by decide +kernel
theorem dX5_nudgeOn_42 : decode cX5_nudgeOn 42 = .ok (.aload_n 0, 1) := by decide +kernel
theorem dX5_nudgeOn_43 : decode cX5_nudgeOn 43 = .ok (.bipush 6, 2) := by decide +kernel
theorem dX5_nudgeOn_45 : decode cX5_nudgeOn 45 = .ok (.iconst 0, 1) := by decide +kernel
theorem dX5_nudgeOn_46 : decode cX5_nudgeOn 46 = .ok (.iastore, 1) := by decide +kernel
theorem dX5_nudgeOn_47 : decode cX5_nudgeOn 47 = .ok (.return_, 1) := by decide +kernel
theorem dX5_setOn_0 : decode cX5_setOn 0 = .ok (.aload_n 0, 1) := by decide +kernel
theorem dX5_setOn_1 : decode cX5_setOn 1 = .ok (.iload_n 1, 1) := by decide +kernel
theorem dX5_setOn_2 : decode cX5_setOn 2 = .ok (.iload_n 2, 1) := by decide +kernel
theorem dX5_setOn_3 : decode cX5_setOn 3 = .ok (.iastore, 1) := by decide +kernel
theorem dX5_setOn_4 : decode cX5_setOn 4 = .ok (.aload_n 0, 1) := by decide +kernel
theorem dX5_setOn_5 : decode cX5_setOn 5 = .ok (.bipush 6, 2) := by decide +kernel
theorem dX5_setOn_7 : decode cX5_setOn 7 = .ok (.iload_n 1, 1) := by decide +kernel
theorem dX5_setOn_8 : decode cX5_setOn 8 = .ok (.iconst 1, 1) := by decide +kernel
theorem dX5_setOn_9 : decode cX5_setOn 9 = .ok (.if_icmp .ne 7, 3) := by decide +kernel
theorem dX5_setOn_12 : decode cX5_setOn 12 = .ok (.iconst 0, 1) := by decide +kernel
theorem dX5_setOn_13 : decode cX5_setOn 13 = .ok (.goto 7, 3) := by decide +kernel
theorem dX5_setOn_16 : decode cX5_setOn 16 = .ok (.aload_n 0, 1) := by decide +kernel
theorem dX5_setOn_17 : decode cX5_setOn 17 = .ok (.bipush 6, 2) := by decide +kernel
theorem dX5_setOn_19 : decode cX5_setOn 19 = .ok (.iaload, 1) := by decide +kernel
theorem dX5_setOn_20 : decode cX5_setOn 20 = .ok (.iastore, 1) := by decide +kernel
theorem dX5_setOn_21 : decode cX5_setOn 21 = .ok (.return_, 1) := by decide +kernel
theorem dX5_standing_0 : decode cX5_standing 0 = .ok (.iconst 0, 1) := by decide +kernel
theorem dX5_standing_1 : decode cX5_standing 1 = .ok (.istore_n 1, 1) := by decide +kernel
theorem dX5_standing_2 : decode cX5_standing 2 = .ok (.iconst 0, 1) := by decide +kernel
theorem dX5_standing_3 : decode cX5_standing 3 = .ok (.istore_n 2, 1) := by decide +kernel
theorem dX5_standing_4 : decode cX5_standing 4 = .ok (.iload_n 2, 1) := by decide +kernel
theorem dX5_standing_5 : decode cX5_standing 5 = .ok (.aload_n 0, 1) := by decide +kernel
theorem dX5_standing_6 : decode cX5_standing 6 = .ok (.bipush 9, 2) := by decide +kernel
theorem dX5_standing_8 : decode cX5_standing 8 = .ok (.iaload, 1) := by decide +kernel
theorem dX5_standing_9 : decode cX5_standing 9 = .ok (.if_icmp .ge 22, 3) := by decide +kernel
theorem dX5_standing_12 : decode cX5_standing 12 = .ok (.iload_n 1, 1) := by decide +kernel
theorem dX5_standing_13 : decode cX5_standing 13 = .ok (.aload_n 0, 1) := by decide +kernel
theorem dX5_standing_14 : decode cX5_standing 14 = .ok (.bipush 12, 2) := by decide +kernel
theorem dX5_standing_16 : decode cX5_standing 16 = .ok (.iconst 2, 1) := by decide +kernel
theorem dX5_standing_17 : decode cX5_standing 17 = .ok (.iload_n 2, 1) := by decide +kernel
theorem dX5_standing_18 : decode cX5_standing 18 = .ok (.imul, 1) := by decide +kernel
theorem dX5_standing_19 : decode cX5_standing 19 = .ok (.iadd, 1) := by decide +kernel
theorem dX5_standing_20 : decode cX5_standing 20 = .ok (.iconst 1, 1) := by decide +kernel
theorem dX5_standing_21 : decode cX5_standing 21 = .ok (.iadd, 1) := by decide +kernel
theorem dX5_standing_22 : decode cX5_standing 22 = .ok (.iaload, 1) := by decide +kernel
theorem dX5_standing_23 : decode cX5_standing 23 = .ok (.iadd, 1) := by decide +kernel
theorem dX5_standing_24 : decode cX5_standing 24 = .ok (.istore_n 1, 1) := by decide +kernel
theorem dX5_standing_25 : decode cX5_standing 25 = .ok (.iinc 2 1, 3) := by decide +kernel
theorem dX5_standing_28 : decode cX5_standing 28 = .ok (.goto (-24), 3) := by decide +kernel
theorem dX5_standing_31 : decode cX5_standing 31 = .ok (.iload_n 1, 1) := by decide +kernel
theorem dX5_standing_32 : decode cX5_standing 32 = .ok (.ireturn, 1) := by decide +kernel
theorem dX5_raiseOn_0 : decode cX5_raiseOn 0 = .ok (.iconst 0, 1) := by decide +kernel
theorem dX5_raiseOn_1 : decode cX5_raiseOn 1 = .ok (.istore_n 1, 1) := by decide +kernel
theorem dX5_raiseOn_2 : decode cX5_raiseOn 2 = .ok (.iload_n 1, 1) := by decide +kernel
theorem dX5_raiseOn_3 : decode cX5_raiseOn 3 = .ok (.aload_n 0, 1) := by decide +kernel
theorem dX5_raiseOn_4 : decode cX5_raiseOn 4 = .ok (.bipush 9, 2) := by decide +kernel
theorem dX5_raiseOn_6 : decode cX5_raiseOn 6 = .ok (.iaload, 1) := by decide +kernel
theorem dX5_raiseOn_7 : decode cX5_raiseOn 7 = .ok (.if_icmp .ge 20, 3) := by decide +kernel
theorem dX5_raiseOn_10 : decode cX5_raiseOn 10 = .ok (.aload_n 0, 1) := by decide +kernel
theorem dX5_raiseOn_11 : decode cX5_raiseOn 11 = .ok (.bipush 12, 2) := by decide +kernel
theorem dX5_raiseOn_13 : decode cX5_raiseOn 13 = .ok (.iconst 2, 1) := by decide +kernel
theorem dX5_raiseOn_14 : decode cX5_raiseOn 14 = .ok (.iload_n 1, 1) := by decide +kernel
theorem dX5_raiseOn_15 : decode cX5_raiseOn 15 = .ok (.imul, 1) := by decide +kernel
theorem dX5_raiseOn_16 : decode cX5_raiseOn 16 = .ok (.iadd, 1) := by decide +kernel
theorem dX5_raiseOn_17 : decode cX5_raiseOn 17 = .ok (.iconst 1, 1) := by decide +kernel
theorem dX5_raiseOn_18 : decode cX5_raiseOn 18 = .ok (.iadd, 1) := by decide +kernel
theorem dX5_raiseOn_19 : decode cX5_raiseOn 19 = .ok (.iconst 1, 1) := by decide +kernel
theorem dX5_raiseOn_20 : decode cX5_raiseOn 20 = .ok (.iastore, 1) := by decide +kernel
theorem dX5_raiseOn_21 : decode cX5_raiseOn 21 = .ok (.iinc 1 1, 3) := by decide +kernel
theorem dX5_raiseOn_24 : decode cX5_raiseOn 24 = .ok (.goto (-22), 3) := by decide +kernel
theorem dX5_raiseOn_27 : decode cX5_raiseOn 27 = .ok (.return_, 1) := by decide +kernel
theorem dX5_putPin_0 : decode cX5_putPin 0 = .ok (.aload_n 0, 1) := by decide +kernel
theorem dX5_putPin_1 : decode cX5_putPin 1 = .ok (.bipush 12, 2) := by decide +kernel
theorem dX5_putPin_3 : decode cX5_putPin 3 = .ok (.iconst 2, 1) := by decide +kernel
theorem dX5_putPin_4 : decode cX5_putPin 4 = .ok (.aload_n 0, 1) := by decide +kernel
theorem dX5_putPin_5 : decode cX5_putPin 5 = .ok (.bipush 9, 2) := by decide +kernel
theorem dX5_putPin_7 : decode cX5_putPin 7 = .ok (.iaload, 1) := by decide +kernel
theorem dX5_putPin_8 : decode cX5_putPin 8 = .ok (.imul, 1) := by decide +kernel
theorem dX5_putPin_9 : decode cX5_putPin 9 = .ok (.iadd, 1) := by decide +kernel
theorem dX5_putPin_10 : decode cX5_putPin 10 = .ok (.iload_n 1, 1) := by decide +kernel
theorem dX5_putPin_11 : decode cX5_putPin 11 = .ok (.iastore, 1) := by decide +kernel
theorem dX5_putPin_12 : decode cX5_putPin 12 = .ok (.aload_n 0, 1) := by decide +kernel
theorem dX5_putPin_13 : decode cX5_putPin 13 = .ok (.bipush 12, 2) := by decide +kernel
theorem dX5_putPin_15 : decode cX5_putPin 15 = .ok (.iconst 2, 1) := by decide +kernel
theorem dX5_putPin_16 : decode cX5_putPin 16 = .ok (.aload_n 0, 1) := by decide +kernel
theorem dX5_putPin_17 : decode cX5_putPin 17 = .ok (.bipush 9, 2) := by decide +kernel
theorem dX5_putPin_19 : decode cX5_putPin 19 = .ok (.iaload, 1) := by decide +kernel
theorem dX5_putPin_20 : decode cX5_putPin 20 = .ok (.imul, 1) := by decide +kernel
theorem dX5_putPin_21 : decode cX5_putPin 21 = .ok (.iadd, 1) := by decide +kernel
theorem dX5_putPin_22 : decode cX5_putPin 22 = .ok (.iconst 1, 1) := by decide +kernel
theorem dX5_putPin_23 : decode cX5_putPin 23 = .ok (.iadd, 1) := by decide +kernel
theorem dX5_putPin_24 : decode cX5_putPin 24 = .ok (.iconst 1, 1) := by decide +kernel
theorem dX5_putPin_25 : decode cX5_putPin 25 = .ok (.iastore, 1) := by decide +kernel
theorem dX5_putPin_26 : decode cX5_putPin 26 = .ok (.aload_n 0, 1) := by decide +kernel
theorem dX5_putPin_27 : decode cX5_putPin 27 = .ok (.bipush 9, 2) := by decide +kernel
theorem dX5_putPin_29 : decode cX5_putPin 29 = .ok (.dup2, 1) := by decide +kernel
theorem dX5_putPin_30 : decode cX5_putPin 30 = .ok (.iaload, 1) := by decide +kernel
theorem dX5_putPin_31 : decode cX5_putPin 31 = .ok (.iconst 1, 1) := by decide +kernel
theorem dX5_putPin_32 : decode cX5_putPin 32 = .ok (.iadd, 1) := by decide +kernel
theorem dX5_putPin_33 : decode cX5_putPin 33 = .ok (.iastore, 1) := by decide +kernel
theorem dX5_putPin_34 : decode cX5_putPin 34 = .ok (.return_, 1) := by decide +kernel
theorem dX5_append_0 : decode cX5_append 0 = .ok (.aload_n 0, 1) := by decide +kernel
theorem dX5_append_1 : decode cX5_append 1 = .ok (.iload_n 1, 1) := by decide +kernel
theorem dX5_append_2 : decode cX5_append 2 = .ok (.i2l, 1) := by decide +kernel
theorem dX5_append_3 : decode cX5_append 3 = .ok (.lconst 0, 1) := by decide +kernel
theorem dX5_append_4 : decode cX5_append 4 = .ok (.ldc2_w 77, 3) := by decide +kernel
theorem dX5_append_7 : decode cX5_append 7 = .ok (.invokestatic 47, 3) := by decide +kernel
theorem dX5_append_10 : decode cX5_append 10 = .ok (.ifCond .ne 7, 3) := by decide +kernel
theorem dX5_append_13 : decode cX5_append 13 = .ok (.iconst 1, 1) := by decide +kernel
theorem dX5_append_14 : decode cX5_append 14 = .ok (.goto 17, 3) := by decide +kernel
theorem dX5_append_17 : decode cX5_append 17 = .ok (.aload_n 0, 1) := by decide +kernel
theorem dX5_append_18 : decode cX5_append 18 = .ok (.getfield 79, 3) := by decide +kernel
theorem dX5_append_21 : decode cX5_append 21 = .ok (.bipush 100, 2) := by decide +kernel
theorem dX5_append_23 : decode cX5_append 23 = .ok (.if_icmp .ne 7, 3) := by decide +kernel
theorem dX5_append_26 : decode cX5_append 26 = .ok (.iconst 2, 1) := by decide +kernel
theorem dX5_append_27 : decode cX5_append 27 = .ok (.goto 4, 3) := by decide +kernel
theorem dX5_append_30 : decode cX5_append 30 = .ok (.iconst 0, 1) := by decide +kernel
theorem dX5_append_31 : decode cX5_append 31 = .ok (.invokevirtual 82, 3) := by decide +kernel
theorem dX5_append_34 : decode cX5_append 34 = .ok (.ifCond .eq 5, 3) := by decide +kernel
theorem dX5_append_37 : decode cX5_append 37 = .ok (.iconst 0, 1) := by decide +kernel
theorem dX5_append_38 : decode cX5_append 38 = .ok (.ireturn, 1) := by decide +kernel
theorem dX5_append_39 : decode cX5_append 39 = .ok (.aload_n 0, 1) := by decide +kernel
theorem dX5_append_40 : decode cX5_append 40 = .ok (.getfield 7, 3) := by decide +kernel
theorem dX5_append_43 : decode cX5_append 43 = .ok (.aload_n 0, 1) := by decide +kernel
theorem dX5_append_44 : decode cX5_append 44 = .ok (.getfield 79, 3) := by decide +kernel
theorem dX5_append_47 : decode cX5_append 47 = .ok (.iload_n 1, 1) := by decide +kernel
theorem dX5_append_48 : decode cX5_append 48 = .ok (.iastore, 1) := by decide +kernel
theorem dX5_append_49 : decode cX5_append 49 = .ok (.aload_n 0, 1) := by decide +kernel
theorem dX5_append_50 : decode cX5_append 50 = .ok (.dup, 1) := by decide +kernel
theorem dX5_append_51 : decode cX5_append 51 = .ok (.getfield 79, 3) := by decide +kernel
theorem dX5_append_54 : decode cX5_append 54 = .ok (.iconst 1, 1) := by decide +kernel
theorem dX5_append_55 : decode cX5_append 55 = .ok (.iadd, 1) := by decide +kernel
theorem dX5_append_56 : decode cX5_append 56 = .ok (.putfield 79, 3) := by decide +kernel
theorem dX5_append_59 : decode cX5_append 59 = .ok (.aload_n 0, 1) := by decide +kernel
theorem dX5_append_60 : decode cX5_append 60 = .ok (.getfield 79, 3) := by decide +kernel
theorem dX5_append_63 : decode cX5_append 63 = .ok (.ireturn, 1) := by decide +kernel
theorem dX5_clearText_0 : decode cX5_clearText 0 = .ok (.aload_n 0, 1) := by decide +kernel
theorem dX5_clearText_1 : decode cX5_clearText 1 = .ok (.iconst 0, 1) := by decide +kernel
theorem dX5_clearText_2 : decode cX5_clearText 2 = .ok (.putfield 39, 3) := by decide +kernel
theorem dX5_clearText_5 : decode cX5_clearText 5 = .ok (.aload_n 0, 1) := by decide +kernel
theorem dX5_clearText_6 : decode cX5_clearText 6 = .ok (.getfield 79, 3) := by decide +kernel
theorem dX5_clearText_9 : decode cX5_clearText 9 = .ok (.istore_n 1, 1) := by decide +kernel
theorem dX5_clearText_10 : decode cX5_clearText 10 = .ok (.aload_n 0, 1) := by decide +kernel
theorem dX5_clearText_11 : decode cX5_clearText 11 = .ok (.iconst 0, 1) := by decide +kernel
theorem dX5_clearText_12 : decode cX5_clearText 12 = .ok (.putfield 79, 3) := by decide +kernel
theorem dX5_clearText_15 : decode cX5_clearText 15 = .ok (.iload_n 1, 1) := by decide +kernel
theorem dX5_clearText_16 : decode cX5_clearText 16 = .ok (.ireturn, 1) := by decide +kernel
theorem dX5_eat_0 : decode cX5_eat 0 = .ok (.aload_n 0, 1) := by decide +kernel
theorem dX5_eat_1 : decode cX5_eat 1 = .ok (.getfield 86, 3) := by decide +kernel
theorem dX5_eat_4 : decode cX5_eat 4 = .ok (.aload_n 0, 1) := by decide +kernel
theorem dX5_eat_5 : decode cX5_eat 5 = .ok (.getfield 79, 3) := by decide +kernel
theorem dX5_eat_8 : decode cX5_eat 8 = .ok (.if_icmp .ge 20, 3) := by decide +kernel
theorem dX5_eat_11 : decode cX5_eat 11 = .ok (.aload_n 0, 1) := by decide +kernel
theorem dX5_eat_12 : decode cX5_eat 12 = .ok (.getfield 7, 3) := by decide +kernel
theorem dX5_eat_15 : decode cX5_eat 15 = .ok (.aload_n 0, 1) := by decide +kernel
theorem dX5_eat_16 : decode cX5_eat 16 = .ok (.getfield 86, 3) := by decide +kernel
theorem dX5_eat_19 : decode cX5_eat 19 = .ok (.iaload, 1) := by decide +kernel
theorem dX5_eat_20 : decode cX5_eat 20 = .ok (.iload_n 1, 1) := by decide +kernel
theorem dX5_eat_21 : decode cX5_eat 21 = .ok (.if_icmp .ne 7, 3) := by decide +kernel
theorem dX5_eat_24 : decode cX5_eat 24 = .ok (.iconst 1, 1) := by decide +kernel
theorem dX5_eat_25 : decode cX5_eat 25 = .ok (.goto 4, 3) := by decide +kernel
theorem dX5_eat_28 : decode cX5_eat 28 = .ok (.iconst 0, 1) := by decide +kernel
theorem dX5_eat_29 : decode cX5_eat 29 = .ok (.istore_n 2, 1) := by decide +kernel
theorem dX5_eat_30 : decode cX5_eat 30 = .ok (.aload_n 0, 1) := by decide +kernel
theorem dX5_eat_31 : decode cX5_eat 31 = .ok (.dup, 1) := by decide +kernel
theorem dX5_eat_32 : decode cX5_eat 32 = .ok (.getfield 86, 3) := by decide +kernel
theorem dX5_eat_35 : decode cX5_eat 35 = .ok (.iload_n 2, 1) := by decide +kernel
theorem dX5_eat_36 : decode cX5_eat 36 = .ok (.ifCond .eq 7, 3) := by decide +kernel
theorem dX5_eat_39 : decode cX5_eat 39 = .ok (.iconst 1, 1) := by decide +kernel
theorem dX5_eat_40 : decode cX5_eat 40 = .ok (.goto 4, 3) := by decide +kernel
theorem dX5_eat_43 : decode cX5_eat 43 = .ok (.iconst 0, 1) := by decide +kernel
theorem dX5_eat_44 : decode cX5_eat 44 = .ok (.iadd, 1) := by decide +kernel
theorem dX5_eat_45 : decode cX5_eat 45 = .ok (.putfield 86, 3) := by decide +kernel
theorem dX5_eat_48 : decode cX5_eat 48 = .ok (.iload_n 2, 1) := by decide +kernel
theorem dX5_eat_49 : decode cX5_eat 49 = .ok (.ireturn, 1) := by decide +kernel
theorem dX5_isFree_0 : decode cX5_isFree 0 = .ok (.iload_n 1, 1) := by decide +kernel
theorem dX5_isFree_1 : decode cX5_isFree 1 = .ok (.istore 4, 2) := by decide +kernel
theorem dX5_isFree_3 : decode cX5_isFree 3 = .ok (.iload 4, 2) := by decide +kernel
theorem dX5_isFree_5 : decode cX5_isFree 5 = .ok (.iload_n 2, 1) := by decide +kernel
theorem dX5_isFree_6 : decode cX5_isFree 6 = .ok (.if_icmp .gt 32, 3) := by decide +kernel
theorem dX5_isFree_9 : decode cX5_isFree 9 = .ok (.iload_n 3, 1) := by decide +kernel
theorem dX5_isFree_10 : decode cX5_isFree 10 = .ok (.ifCond .eq 20, 3) := by decide +kernel
theorem dX5_isFree_13 : decode cX5_isFree 13 = .ok (.aload_n 0, 1) := by decide +kernel
theorem dX5_isFree_14 : decode cX5_isFree 14 = .ok (.getfield 13, 3) := by decide +kernel
theorem dX5_isFree_17 : decode cX5_isFree 17 = .ok (.bipush 60, 2) := by decide +kernel
theorem dX5_isFree_19 : decode cX5_isFree 19 = .ok (.iload 4, 2) := by decide +kernel
theorem dX5_isFree_21 : decode cX5_isFree 21 = .ok (.imul, 1) := by decide +kernel
theorem dX5_isFree_22 : decode cX5_isFree 22 = .ok (.invokestatic 63, 3) := by decide +kernel
theorem dX5_isFree_25 : decode cX5_isFree 25 = .ok (.bipush (-9), 2) := by decide +kernel
theorem dX5_isFree_27 : decode cX5_isFree 27 = .ok (.if_icmp .ne 5, 3) := by decide +kernel
theorem dX5_isFree_30 : decode cX5_isFree 30 = .ok (.iconst 1, 1) := by decide +kernel
theorem dX5_isFree_31 : decode cX5_isFree 31 = .ok (.ireturn, 1) := by decide +kernel
theorem dX5_isFree_32 : decode cX5_isFree 32 = .ok (.iinc 4 1, 3) := by decide +kernel
theorem dX5_isFree_35 : decode cX5_isFree 35 = .ok (.goto (-32), 3) := by decide +kernel
theorem dX5_isFree_38 : decode cX5_isFree 38 = .ok (.iconst 0, 1) := by decide +kernel
theorem dX5_isFree_39 : decode cX5_isFree 39 = .ok (.ireturn, 1) := by decide +kernel
theorem dX5_number_0 : decode cX5_number 0 = .ok (.iconst 1, 1) := by decide +kernel
theorem dX5_number_1 : decode cX5_number 1 = .ok (.istore 5, 2) := by decide +kernel
theorem dX5_number_3 : decode cX5_number 3 = .ok (.iconst 1, 1) := by decide +kernel
theorem dX5_number_4 : decode cX5_number 4 = .ok (.istore 6, 2) := by decide +kernel
theorem dX5_number_6 : decode cX5_number 6 = .ok (.iload 6, 2) := by decide +kernel
theorem dX5_number_8 : decode cX5_number 8 = .ok (.iload_n 1, 1) := by decide +kernel
theorem dX5_number_9 : decode cX5_number 9 = .ok (.if_icmp .ge 16, 3) := by decide +kernel
theorem dX5_number_12 : decode cX5_number 12 = .ok (.iload 5, 2) := by decide +kernel
theorem dX5_number_14 : decode cX5_number 14 = .ok (.bipush 10, 2) := by decide +kernel
theorem dX5_number_16 : decode cX5_number 16 = .ok (.imul, 1) := by decide +kernel
theorem dX5_number_17 : decode cX5_number 17 = .ok (.istore 5, 2) := by decide +kernel
theorem dX5_number_19 : decode cX5_number 19 = .ok (.iinc 6 1, 3) := by decide +kernel
theorem dX5_number_22 : decode cX5_number 22 = .ok (.goto (-16), 3) := by decide +kernel
theorem dX5_number_25 : decode cX5_number 25 = .ok (.iconst 0, 1) := by decide +kernel
theorem dX5_number_26 : decode cX5_number 26 = .ok (.istore 6, 2) := by decide +kernel
theorem dX5_number_28 : decode cX5_number 28 = .ok (.iload 5, 2) := by decide +kernel
theorem dX5_number_30 : decode cX5_number 30 = .ok (.ifCond .le 125, 3) := by decide +kernel
theorem dX5_number_33 : decode cX5_number 33 = .ok (.aload_n 0, 1) := by decide +kernel
theorem dX5_number_34 : decode cX5_number 34 = .ok (.getfield 86, 3) := by decide +kernel
theorem dX5_number_37 : decode cX5_number 37 = .ok (.aload_n 0, 1) := by decide +kernel
theorem dX5_number_38 : decode cX5_number 38 = .ok (.getfield 79, 3) := by decide +kernel
theorem dX5_number_41 : decode cX5_number 41 = .ok (.if_icmp .ge 18, 3) := by decide +kernel
theorem dX5_number_44 : decode cX5_number 44 = .ok (.aload_n 0, 1) := by decide +kernel
theorem dX5_number_45 : decode cX5_number 45 = .ok (.getfield 7, 3) := by decide +kernel
theorem dX5_number_48 : decode cX5_number 48 = .ok (.aload_n 0, 1) := by decide +kernel
theorem dX5_number_49 : decode cX5_number 49 = .ok (.getfield 86, 3) := by decide +kernel
theorem dX5_number_52 : decode cX5_number 52 = .ok (.iaload, 1) := by decide +kernel
theorem dX5_number_53 : decode cX5_number 53 = .ok (.bipush 48, 2) := by decide +kernel
theorem dX5_number_55 : decode cX5_number 55 = .ok (.isub, 1) := by decide +kernel
theorem dX5_number_56 : decode cX5_number 56 = .ok (.goto 5, 3) := by decide +kernel
theorem dX5_number_59 : decode cX5_number 59 = .ok (.bipush (-9), 2) := by decide +kernel
theorem dX5_number_61 : decode cX5_number 61 = .ok (.istore 7, 2) := by decide +kernel
theorem dX5_number_63 : decode cX5_number 63 = .ok (.iload 6, 2) := by decide +kernel
theorem dX5_number_65 : decode cX5_number 65 = .ok (.iload 7, 2) := by decide +kernel
theorem dX5_number_67 : decode cX5_number 67 = .ok (.iload 5, 2) := by decide +kernel
theorem dX5_number_69 : decode cX5_number 69 = .ok (.imul, 1) := by decide +kernel
theorem dX5_number_70 : decode cX5_number 70 = .ok (.iadd, 1) := by decide +kernel
theorem dX5_number_71 : decode cX5_number 71 = .ok (.istore 8, 2) := by decide +kernel
theorem dX5_number_73 : decode cX5_number 73 = .ok (.iload 8, 2) := by decide +kernel
theorem dX5_number_75 : decode cX5_number 75 = .ok (.iload 5, 2) := by decide +kernel
theorem dX5_number_77 : decode cX5_number 77 = .ok (.iadd, 1) := by decide +kernel
theorem dX5_number_78 : decode cX5_number 78 = .ok (.iconst 1, 1) := by decide +kernel
theorem dX5_number_79 : decode cX5_number 79 = .ok (.isub, 1) := by decide +kernel
theorem dX5_number_80 : decode cX5_number 80 = .ok (.istore 9, 2) := by decide +kernel
theorem dX5_number_82 : decode cX5_number 82 = .ok (.iload 7, 2) := by decide +kernel
theorem dX5_number_84 : decode cX5_number 84 = .ok (.i2l, 1) := by decide +kernel
theorem dX5_number_85 : decode cX5_number 85 = .ok (.lconst 0, 1) := by decide +kernel
theorem dX5_number_86 : decode cX5_number 86 = .ok (.ldc2_w 89, 3) := by decide +kernel
theorem dX5_number_89 : decode cX5_number 89 = .ok (.invokestatic 47, 3) := by decide +kernel
theorem dX5_number_92 : decode cX5_number 92 = .ok (.ifCond .eq 36, 3) := by decide +kernel
theorem dX5_number_95 : decode cX5_number 95 = .ok (.aload_n 0, 1) := by decide +kernel
theorem dX5_number_96 : decode cX5_number 96 = .ok (.iload 8, 2) := by decide +kernel
theorem dX5_number_98 : decode cX5_number 98 = .ok (.iload_n 2, 1) := by decide +kernel
theorem dX5_number_99 : decode cX5_number 99 = .ok (.if_icmp .ge 7, 3) := by decide +kernel
theorem dX5_number_102 : decode cX5_number 102 = .ok (.iload_n 2, 1) := by decide +kernel
theorem dX5_number_103 : decode cX5_number 103 = .ok (.goto 5, 3) := by decide +kernel
theorem dX5_number_106 : decode cX5_number 106 = .ok (.iload 8, 2) := by decide +kernel
theorem dX5_number_108 : decode cX5_number 108 = .ok (.iload 9, 2) := by decide +kernel
theorem dX5_number_110 : decode cX5_number 110 = .ok (.iload_n 3, 1) := by decide +kernel
theorem dX5_number_111 : decode cX5_number 111 = .ok (.if_icmp .le 7, 3) := by decide +kernel
theorem dX5_number_114 : decode cX5_number 114 = .ok (.iload_n 3, 1) := by decide +kernel
theorem dX5_number_115 : decode cX5_number 115 = .ok (.goto 5, 3) := by decide +kernel
theorem dX5_number_118 : decode cX5_number 118 = .ok (.iload 9, 2) := by decide +kernel
theorem dX5_number_120 : decode cX5_number 120 = .ok (.iload 4, 2) := by decide +kernel
theorem dX5_number_122 : decode cX5_number 122 = .ok (.invokevirtual 91, 3) := by decide +kernel
theorem dX5_number_125 : decode cX5_number 125 = .ok (.ifCond .ne 6, 3) := by decide +kernel
theorem dX5_number_128 : decode cX5_number 128 = .ok (.bipush (-9), 2) := by decide +kernel
theorem dX5_number_130 : decode cX5_number 130 = .ok (.ireturn, 1) := by decide +kernel
theorem dX5_number_131 : decode cX5_number 131 = .ok (.iload 8, 2) := by decide +kernel
theorem dX5_number_133 : decode cX5_number 133 = .ok (.istore 6, 2) := by decide +kernel
theorem dX5_number_135 : decode cX5_number 135 = .ok (.iload 5, 2) := by decide +kernel
theorem dX5_number_137 : decode cX5_number 137 = .ok (.bipush 10, 2) := by decide +kernel
theorem dX5_number_139 : decode cX5_number 139 = .ok (.idiv, 1) := by decide +kernel
theorem dX5_number_140 : decode cX5_number 140 = .ok (.istore 5, 2) := by decide +kernel
theorem dX5_number_142 : decode cX5_number 142 = .ok (.aload_n 0, 1) := by decide +kernel
theorem dX5_number_143 : decode cX5_number 143 = .ok (.dup, 1) := by decide +kernel
theorem dX5_number_144 : decode cX5_number 144 = .ok (.getfield 86, 3) := by decide +kernel
theorem dX5_number_147 : decode cX5_number 147 = .ok (.iconst 1, 1) := by decide +kernel
theorem dX5_number_148 : decode cX5_number 148 = .ok (.iadd, 1) := by decide +kernel
theorem dX5_number_149 : decode cX5_number 149 = .ok (.putfield 86, 3) := by decide +kernel
theorem dX5_number_152 : decode cX5_number 152 = .ok (.goto (-124), 3) := by decide +kernel
theorem dX5_number_155 : decode cX5_number 155 = .ok (.iload 6, 2) := by decide +kernel
theorem dX5_number_157 : decode cX5_number 157 = .ok (.ireturn, 1) := by decide +kernel
theorem dX5_readAll_0 : decode cX5_readAll 0 = .ok (.aload_n 0, 1) := by decide +kernel
theorem dX5_readAll_1 : decode cX5_readAll 1 = .ok (.iconst 0, 1) := by decide +kernel
theorem dX5_readAll_2 : decode cX5_readAll 2 = .ok (.putfield 86, 3) := by decide +kernel
theorem dX5_readAll_5 : decode cX5_readAll 5 = .ok (.aload_n 0, 1) := by decide +kernel
theorem dX5_readAll_6 : decode cX5_readAll 6 = .ok (.getfield 13, 3) := by decide +kernel
theorem dX5_readAll_9 : decode cX5_readAll 9 = .ok (.invokestatic 35, 3) := by decide +kernel
theorem dX5_readAll_12 : decode cX5_readAll 12 = .ok (.aload_n 0, 1) := by decide +kernel
theorem dX5_readAll_13 : decode cX5_readAll 13 = .ok (.bipush 70, 2) := by decide +kernel
theorem dX5_readAll_15 : decode cX5_readAll 15 = .ok (.invokevirtual 95, 3) := by decide +kernel
theorem dX5_readAll_18 : decode cX5_readAll 18 = .ok (.ifCond .ne 5, 3) := by decide +kernel
theorem dX5_readAll_21 : decode cX5_readAll 21 = .ok (.iconst 0, 1) := by decide +kernel
theorem dX5_readAll_22 : decode cX5_readAll 22 = .ok (.ireturn, 1) := by decide +kernel
theorem dX5_readAll_23 : decode cX5_readAll 23 = .ok (.aload_n 0, 1) := by decide +kernel
theorem dX5_readAll_24 : decode cX5_readAll 24 = .ok (.bipush 45, 2) := by decide +kernel
theorem dX5_readAll_26 : decode cX5_readAll 26 = .ok (.invokevirtual 95, 3) := by decide +kernel
theorem dX5_readAll_29 : decode cX5_readAll 29 = .ok (.istore_n 1, 1) := by decide +kernel
theorem dX5_readAll_30 : decode cX5_readAll 30 = .ok (.iload_n 1, 1) := by decide +kernel
theorem dX5_readAll_31 : decode cX5_readAll 31 = .ok (.ifCond .ne 14, 3) := by decide +kernel
theorem dX5_readAll_34 : decode cX5_readAll 34 = .ok (.aload_n 0, 1) := by decide +kernel
theorem dX5_readAll_35 : decode cX5_readAll 35 = .ok (.bipush 43, 2) := by decide +kernel
theorem dX5_readAll_37 : decode cX5_readAll 37 = .ok (.invokevirtual 95, 3) := by decide +kernel
theorem dX5_readAll_40 : decode cX5_readAll 40 = .ok (.ifCond .ne 5, 3) := by decide +kernel
theorem dX5_readAll_43 : decode cX5_readAll 43 = .ok (.iconst 0, 1) := by decide +kernel
theorem dX5_readAll_44 : decode cX5_readAll 44 = .ok (.ireturn, 1) := by decide +kernel
theorem dX5_readAll_45 : decode cX5_readAll 45 = .ok (.aload_n 0, 1) := by decide +kernel
theorem dX5_readAll_46 : decode cX5_readAll 46 = .ok (.iconst 2, 1) := by decide +kernel
theorem dX5_readAll_47 : decode cX5_readAll 47 = .ok (.iconst 0, 1) := by decide +kernel
theorem dX5_readAll_48 : decode cX5_readAll 48 = .ok (.bipush 90, 2) := by decide +kernel
theorem dX5_readAll_50 : decode cX5_readAll 50 = .ok (.iconst 0, 1) := by decide +kernel
theorem dX5_readAll_51 : decode cX5_readAll 51 = .ok (.invokevirtual 98, 3) := by decide +kernel
theorem dX5_readAll_54 : decode cX5_readAll 54 = .ok (.istore_n 2, 1) := by decide +kernel
theorem dX5_readAll_55 : decode cX5_readAll 55 = .ok (.aload_n 0, 1) := by decide +kernel
theorem dX5_readAll_56 : decode cX5_readAll 56 = .ok (.getfield 13, 3) := by decide +kernel
theorem dX5_readAll_59 : decode cX5_readAll 59 = .ok (.iconst 0, 1) := by decide +kernel
theorem dX5_readAll_60 : decode cX5_readAll 60 = .ok (.iload_n 1, 1) := by decide +kernel
theorem dX5_readAll_61 : decode cX5_readAll 61 = .ok (.ifCond .eq 8, 3) := by decide +kernel
theorem dX5_readAll_64 : decode cX5_readAll 64 = .ok (.iload_n 2, 1) := by decide +kernel
theorem dX5_readAll_65 : decode cX5_readAll 65 = .ok (.ineg, 1) := by decide +kernel
theorem dX5_readAll_66 : decode cX5_readAll 66 = .ok (.goto 4, 3) := by decide +kernel
theorem dX5_readAll_69 : decode cX5_readAll 69 = .ok (.iload_n 2, 1) := by decide +kernel
theorem dX5_readAll_70 : decode cX5_readAll 70 = .ok (.iastore, 1) := by decide +kernel
theorem dX5_readAll_71 : decode cX5_readAll 71 = .ok (.aload_n 0, 1) := by decide +kernel
theorem dX5_readAll_72 : decode cX5_readAll 72 = .ok (.getfield 13, 3) := by decide +kernel
theorem dX5_readAll_75 : decode cX5_readAll 75 = .ok (.iconst 1, 1) := by decide +kernel
theorem dX5_readAll_76 : decode cX5_readAll 76 = .ok (.iload_n 2, 1) := by decide +kernel
theorem dX5_readAll_77 : decode cX5_readAll 77 = .ok (.bipush (-9), 2) := by decide +kernel
theorem dX5_readAll_79 : decode cX5_readAll 79 = .ok (.if_icmp .ne 8, 3) := by decide +kernel
theorem dX5_readAll_82 : decode cX5_readAll 82 = .ok (.bipush (-9), 2) := by decide +kernel
theorem dX5_readAll_84 : decode cX5_readAll 84 = .ok (.goto 14, 3) := by decide +kernel
theorem dX5_readAll_87 : decode cX5_readAll 87 = .ok (.aload_n 0, 1) := by decide +kernel
theorem dX5_readAll_88 : decode cX5_readAll 88 = .ok (.iconst 3, 1) := by decide +kernel
theorem dX5_readAll_89 : decode cX5_readAll 89 = .ok (.bipush 60, 2) := by decide +kernel
theorem dX5_readAll_91 : decode cX5_readAll 91 = .ok (.sipush 900, 3) := by decide +kernel
theorem dX5_readAll_94 : decode cX5_readAll 94 = .ok (.iconst 0, 1) := by decide +kernel
theorem dX5_readAll_95 : decode cX5_readAll 95 = .ok (.invokevirtual 98, 3) := by decide +kernel
theorem dX5_readAll_98 : decode cX5_readAll 98 = .ok (.iastore, 1) := by decide +kernel
theorem dX5_readAll_99 : decode cX5_readAll 99 = .ok (.aload_n 0, 1) := by decide +kernel
theorem dX5_readAll_100 : decode cX5_readAll 100 = .ok (.getfield 13, 3) := by decide +kernel
theorem dX5_readAll_103 : decode cX5_readAll 103 = .ok (.iconst 2, 1) := by decide +kernel
theorem dX5_readAll_104 : decode cX5_readAll 104 = .ok (.aload_n 0, 1) := by decide +kernel
theorem dX5_readAll_105 : decode cX5_readAll 105 = .ok (.getfield 13, 3) := by decide +kernel
theorem dX5_readAll_108 : decode cX5_readAll 108 = .ok (.iconst 1, 1) := by decide +kernel
theorem dX5_readAll_109 : decode cX5_readAll 109 = .ok (.iaload, 1) := by decide +kernel
theorem dX5_readAll_110 : decode cX5_readAll 110 = .ok (.bipush (-9), 2) := by decide +kernel
theorem dX5_readAll_112 : decode cX5_readAll 112 = .ok (.if_icmp .ne 8, 3) := by decide +kernel
theorem dX5_readAll_115 : decode cX5_readAll 115 = .ok (.bipush (-9), 2) := by decide +kernel
theorem dX5_readAll_117 : decode cX5_readAll 117 = .ok (.goto 12, 3) := by decide +kernel
theorem dX5_readAll_120 : decode cX5_readAll 120 = .ok (.aload_n 0, 1) := by decide +kernel
theorem dX5_readAll_121 : decode cX5_readAll 121 = .ok (.iconst 2, 1) := by decide +kernel
theorem dX5_readAll_122 : decode cX5_readAll 122 = .ok (.iconst 0, 1) := by decide +kernel
theorem dX5_readAll_123 : decode cX5_readAll 123 = .ok (.bipush 99, 2) := by decide +kernel
theorem dX5_readAll_125 : decode cX5_readAll 125 = .ok (.iconst 0, 1) := by decide +kernel
theorem dX5_readAll_126 : decode cX5_readAll 126 = .ok (.invokevirtual 98, 3) := by decide +kernel
theorem dX5_readAll_129 : decode cX5_readAll 129 = .ok (.iastore, 1) := by decide +kernel
theorem dX5_readAll_130 : decode cX5_readAll 130 = .ok (.aload_n 0, 1) := by decide +kernel
theorem dX5_readAll_131 : decode cX5_readAll 131 = .ok (.getfield 13, 3) := by decide +kernel
theorem dX5_readAll_134 : decode cX5_readAll 134 = .ok (.bipush 7, 2) := by decide +kernel
theorem dX5_readAll_136 : decode cX5_readAll 136 = .ok (.aload_n 0, 1) := by decide +kernel
theorem dX5_readAll_137 : decode cX5_readAll 137 = .ok (.getfield 13, 3) := by decide +kernel
theorem dX5_readAll_140 : decode cX5_readAll 140 = .ok (.iconst 2, 1) := by decide +kernel
theorem dX5_readAll_141 : decode cX5_readAll 141 = .ok (.iaload, 1) := by decide +kernel
theorem dX5_readAll_142 : decode cX5_readAll 142 = .ok (.bipush (-9), 2) := by decide +kernel
theorem dX5_readAll_144 : decode cX5_readAll 144 = .ok (.if_icmp .ne 8, 3) := by decide +kernel
theorem dX5_readAll_147 : decode cX5_readAll 147 = .ok (.bipush (-9), 2) := by decide +kernel
theorem dX5_readAll_149 : decode cX5_readAll 149 = .ok (.goto 13, 3) := by decide +kernel
theorem dX5_readAll_152 : decode cX5_readAll 152 = .ok (.aload_n 0, 1) := by decide +kernel
theorem dX5_readAll_153 : decode cX5_readAll 153 = .ok (.iconst 4, 1) := by decide +kernel
theorem dX5_readAll_154 : decode cX5_readAll 154 = .ok (.iconst 0, 1) := by decide +kernel
theorem dX5_readAll_155 : decode cX5_readAll 155 = .ok (.sipush 9999, 3) := by decide +kernel
theorem dX5_readAll_158 : decode cX5_readAll 158 = .ok (.iconst 0, 1) := by decide +kernel
theorem dX5_readAll_159 : decode cX5_readAll 159 = .ok (.invokevirtual 98, 3) := by decide +kernel
theorem dX5_readAll_162 : decode cX5_readAll 162 = .ok (.iastore, 1) := by decide +kernel
theorem dX5_readAll_163 : decode cX5_readAll 163 = .ok (.aload_n 0, 1) := by decide +kernel
theorem dX5_readAll_164 : decode cX5_readAll 164 = .ok (.getfield 13, 3) := by decide +kernel
theorem dX5_readAll_167 : decode cX5_readAll 167 = .ok (.bipush 7, 2) := by decide +kernel
theorem dX5_readAll_169 : decode cX5_readAll 169 = .ok (.iaload, 1) := by decide +kernel
theorem dX5_readAll_170 : decode cX5_readAll 170 = .ok (.bipush (-9), 2) := by decide +kernel
theorem dX5_readAll_172 : decode cX5_readAll 172 = .ok (.if_icmp .ne 5, 3) := by decide +kernel
theorem dX5_readAll_175 : decode cX5_readAll 175 = .ok (.iconst 0, 1) := by decide +kernel
theorem dX5_readAll_176 : decode cX5_readAll 176 = .ok (.ireturn, 1) := by decide +kernel
theorem dX5_readAll_177 : decode cX5_readAll 177 = .ok (.aload_n 0, 1) := by decide +kernel
theorem dX5_readAll_178 : decode cX5_readAll 178 = .ok (.getfield 13, 3) := by decide +kernel
theorem dX5_readAll_181 : decode cX5_readAll 181 = .ok (.bipush 9, 2) := by decide +kernel
theorem dX5_readAll_183 : decode cX5_readAll 183 = .ok (.iaload, 1) := by decide +kernel
theorem dX5_readAll_184 : decode cX5_readAll 184 = .ok (.bipush 20, 2) := by decide +kernel
theorem dX5_readAll_186 : decode cX5_readAll 186 = .ok (.if_icmp .ge 45, 3) := by decide +kernel
theorem dX5_readAll_189 : decode cX5_readAll 189 = .ok (.aload_n 0, 1) := by decide +kernel
theorem dX5_readAll_190 : decode cX5_readAll 190 = .ok (.bipush 112, 2) := by decide +kernel
theorem dX5_readAll_192 : decode cX5_readAll 192 = .ok (.invokevirtual 95, 3) := by decide +kernel
theorem dX5_readAll_195 : decode cX5_readAll 195 = .ok (.ifCond .eq 36, 3) := by decide +kernel
theorem dX5_readAll_198 : decode cX5_readAll 198 = .ok (.aload_n 0, 1) := by decide +kernel
theorem dX5_readAll_199 : decode cX5_readAll 199 = .ok (.iconst 3, 1) := by decide +kernel
theorem dX5_readAll_200 : decode cX5_readAll 200 = .ok (.iconst 0, 1) := by decide +kernel
theorem dX5_readAll_201 : decode cX5_readAll 201 = .ok (.sipush 179, 3) := by decide +kernel
theorem dX5_readAll_204 : decode cX5_readAll 204 = .ok (.iconst 1, 1) := by decide +kernel
theorem dX5_readAll_205 : decode cX5_readAll 205 = .ok (.invokevirtual 98, 3) := by decide +kernel
theorem dX5_readAll_208 : decode cX5_readAll 208 = .ok (.istore_n 3, 1) := by decide +kernel
theorem dX5_readAll_209 : decode cX5_readAll 209 = .ok (.iload_n 3, 1) := by decide +kernel
theorem dX5_readAll_210 : decode cX5_readAll 210 = .ok (.bipush (-9), 2) := by decide +kernel
theorem dX5_readAll_212 : decode cX5_readAll 212 = .ok (.if_icmp .ne 5, 3) := by decide +kernel
theorem dX5_readAll_215 : decode cX5_readAll 215 = .ok (.iconst 0, 1) := by decide +kernel
theorem dX5_readAll_216 : decode cX5_readAll 216 = .ok (.ireturn, 1) := by decide +kernel
theorem dX5_readAll_217 : decode cX5_readAll 217 = .ok (.aload_n 0, 1) := by decide +kernel
theorem dX5_readAll_218 : decode cX5_readAll 218 = .ok (.getfield 13, 3) := by decide +kernel
theorem dX5_readAll_221 : decode cX5_readAll 221 = .ok (.bipush 60, 2) := by decide +kernel
theorem dX5_readAll_223 : decode cX5_readAll 223 = .ok (.iload_n 3, 1) := by decide +kernel
theorem dX5_readAll_224 : decode cX5_readAll 224 = .ok (.imul, 1) := by decide +kernel
theorem dX5_readAll_225 : decode cX5_readAll 225 = .ok (.invokestatic 102, 3) := by decide +kernel
theorem dX5_readAll_228 : decode cX5_readAll 228 = .ok (.goto (-51), 3) := by decide +kernel
theorem dX5_readAll_231 : decode cX5_readAll 231 = .ok (.aload_n 0, 1) := by decide +kernel
theorem dX5_readAll_232 : decode cX5_readAll 232 = .ok (.getfield 86, 3) := by decide +kernel
theorem dX5_readAll_235 : decode cX5_readAll 235 = .ok (.aload_n 0, 1) := by decide +kernel
theorem dX5_readAll_236 : decode cX5_readAll 236 = .ok (.getfield 79, 3) := by decide +kernel
theorem dX5_readAll_239 : decode cX5_readAll 239 = .ok (.if_icmp .ne 7, 3) := by decide +kernel
theorem dX5_readAll_242 : decode cX5_readAll 242 = .ok (.iconst 1, 1) := by decide +kernel
theorem dX5_readAll_243 : decode cX5_readAll 243 = .ok (.goto 4, 3) := by decide +kernel
theorem dX5_readAll_246 : decode cX5_readAll 246 = .ok (.iconst 0, 1) := by decide +kernel
theorem dX5_readAll_247 : decode cX5_readAll 247 = .ok (.ireturn, 1) := by decide +kernel
theorem dX5_errorPosition_0 : decode cX5_errorPosition 0 = .ok (.aload_n 0, 1) := by decide +kernel
theorem dX5_errorPosition_1 : decode cX5_errorPosition 1 = .ok (.iconst 0, 1) := by decide +kernel
theorem dX5_errorPosition_2 : decode cX5_errorPosition 2 = .ok (.putfield 39, 3) := by decide +kernel
theorem dX5_errorPosition_5 : decode cX5_errorPosition 5 = .ok (.aload_n 0, 1) := by decide +kernel
theorem dX5_errorPosition_6 : decode cX5_errorPosition 6 = .ok (.invokevirtual 106, 3) := by decide +kernel
theorem dX5_errorPosition_9 : decode cX5_errorPosition 9 = .ok (.ifCond .eq 8, 3) := by decide +kernel
theorem dX5_errorPosition_12 : decode cX5_errorPosition 12 = .ok (.bipush (-9), 2) := by decide +kernel
theorem dX5_errorPosition_14 : decode cX5_errorPosition 14 = .ok (.goto 7, 3) := by decide +kernel
theorem dX5_errorPosition_17 : decode cX5_errorPosition 17 = .ok (.aload_n 0, 1) := by decide +kernel
theorem dX5_errorPosition_18 : decode cX5_errorPosition 18 = .ok (.getfield 86, 3) := by decide +kernel
theorem dX5_errorPosition_21 : decode cX5_errorPosition 21 = .ok (.ireturn, 1) := by decide +kernel
theorem dX5_load_0 : decode cX5_load 0 = .ok (.aload_n 0, 1) := by decide +kernel
theorem dX5_load_1 : decode cX5_load 1 = .ok (.aload_n 0, 1) := by decide +kernel
theorem dX5_load_2 : decode cX5_load 2 = .ok (.invokevirtual 106, 3) := by decide +kernel
theorem dX5_load_5 : decode cX5_load 5 = .ok (.ifCond .eq 7, 3) := by decide +kernel
theorem dX5_load_8 : decode cX5_load 8 = .ok (.iconst 0, 1) := by decide +kernel
theorem dX5_load_9 : decode cX5_load 9 = .ok (.goto 4, 3) := by decide +kernel
theorem dX5_load_12 : decode cX5_load 12 = .ok (.iconst 1, 1) := by decide +kernel
theorem dX5_load_13 : decode cX5_load 13 = .ok (.invokevirtual 82, 3) := by decide +kernel
theorem dX5_load_16 : decode cX5_load 16 = .ok (.ifCond .eq 5, 3) := by decide +kernel
theorem dX5_load_19 : decode cX5_load 19 = .ok (.iconst 0, 1) := by decide +kernel
theorem dX5_load_20 : decode cX5_load 20 = .ok (.ireturn, 1) := by decide +kernel
theorem dX5_load_21 : decode cX5_load 21 = .ok (.aload_n 0, 1) := by decide +kernel
theorem dX5_load_22 : decode cX5_load 22 = .ok (.getfield 13, 3) := by decide +kernel
theorem dX5_load_25 : decode cX5_load 25 = .ok (.iconst 0, 1) := by decide +kernel
theorem dX5_load_26 : decode cX5_load 26 = .ok (.aload_n 0, 1) := by decide +kernel
theorem dX5_load_27 : decode cX5_load 27 = .ok (.getfield 16, 3) := by decide +kernel
theorem dX5_load_30 : decode cX5_load 30 = .ok (.iconst 0, 1) := by decide +kernel
theorem dX5_load_31 : decode cX5_load 31 = .ok (.invokestatic 110, 3) := by decide +kernel
theorem dX5_load_34 : decode cX5_load 34 = .ok (.aload_n 0, 1) := by decide +kernel
theorem dX5_load_35 : decode cX5_load 35 = .ok (.iconst 0, 1) := by decide +kernel
theorem dX5_load_36 : decode cX5_load 36 = .ok (.putfield 114, 3) := by decide +kernel
theorem dX5_load_39 : decode cX5_load 39 = .ok (.aload_n 0, 1) := by decide +kernel
theorem dX5_load_40 : decode cX5_load 40 = .ok (.getfield 28, 3) := by decide +kernel
theorem dX5_load_43 : decode cX5_load 43 = .ok (.iconst 0, 1) := by decide +kernel
theorem dX5_load_44 : decode cX5_load 44 = .ok (.iconst 0, 1) := by decide +kernel
theorem dX5_load_45 : decode cX5_load 45 = .ok (.bastore, 1) := by decide +kernel
theorem dX5_load_46 : decode cX5_load 46 = .ok (.aload_n 0, 1) := by decide +kernel
theorem dX5_load_47 : decode cX5_load 47 = .ok (.getfield 28, 3) := by decide +kernel
theorem dX5_load_50 : decode cX5_load 50 = .ok (.iconst 1, 1) := by decide +kernel
theorem dX5_load_51 : decode cX5_load 51 = .ok (.iconst 0, 1) := by decide +kernel
theorem dX5_load_52 : decode cX5_load 52 = .ok (.bastore, 1) := by decide +kernel
theorem dX5_load_53 : decode cX5_load 53 = .ok (.aload_n 0, 1) := by decide +kernel
theorem dX5_load_54 : decode cX5_load 54 = .ok (.getfield 16, 3) := by decide +kernel
theorem dX5_load_57 : decode cX5_load 57 = .ok (.bipush 9, 2) := by decide +kernel
theorem dX5_load_59 : decode cX5_load 59 = .ok (.iaload, 1) := by decide +kernel
theorem dX5_load_60 : decode cX5_load 60 = .ok (.ireturn, 1) := by decide +kernel
theorem dX5_about_0 : decode cX5_about 0 = .ok (.aload_n 0, 1) := by decide +kernel
theorem dX5_about_1 : decode cX5_about 1 = .ok (.iload_n 1, 1) := by decide +kernel
theorem dX5_about_2 : decode cX5_about 2 = .ok (.i2l, 1) := by decide +kernel
theorem dX5_about_3 : decode cX5_about 3 = .ok (.lconst 0, 1) := by decide +kernel
theorem dX5_about_4 : decode cX5_about 4 = .ok (.ldc2_w 117, 3) := by decide +kernel
theorem dX5_about_7 : decode cX5_about 7 = .ok (.invokestatic 47, 3) := by decide +kernel
theorem dX5_about_10 : decode cX5_about 10 = .ok (.ifCond .eq 7, 3) := by decide +kernel
theorem dX5_about_13 : decode cX5_about 13 = .ok (.iconst 0, 1) := by decide +kernel
theorem dX5_about_14 : decode cX5_about 14 = .ok (.goto 4, 3) := by decide +kernel
theorem dX5_about_17 : decode cX5_about 17 = .ok (.iconst 1, 1) := by decide +kernel
theorem dX5_about_18 : decode cX5_about 18 = .ok (.invokevirtual 82, 3) := by decide +kernel
theorem dX5_about_21 : decode cX5_about 21 = .ok (.ifCond .eq 5, 3) := by decide +kernel
theorem dX5_about_24 : decode cX5_about 24 = .ok (.iconst 0, 1) := by decide +kernel
theorem dX5_about_25 : decode cX5_about 25 = .ok (.ireturn, 1) := by decide +kernel
theorem dX5_about_26 : decode cX5_about 26 = .ok (.iload_n 1, 1) := by decide +kernel
theorem dX5_about_27 : decode cX5_about 27 = .ok (.bipush 10, 2) := by decide +kernel
theorem dX5_about_29 : decode cX5_about 29 = .ok (.if_icmp .ge 12, 3) := by decide +kernel
theorem dX5_about_32 : decode cX5_about 32 = .ok (.aload_n 0, 1) := by decide +kernel
theorem dX5_about_33 : decode cX5_about 33 = .ok (.getfield 16, 3) := by decide +kernel
theorem dX5_about_36 : decode cX5_about 36 = .ok (.iload_n 1, 1) := by decide +kernel
theorem dX5_about_37 : decode cX5_about 37 = .ok (.iaload, 1) := by decide +kernel
theorem dX5_about_38 : decode cX5_about 38 = .ok (.goto 31, 3) := by decide +kernel
theorem dX5_about_41 : decode cX5_about 41 = .ok (.iload_n 1, 1) := by decide +kernel
theorem dX5_about_42 : decode cX5_about 42 = .ok (.bipush 10, 2) := by decide +kernel
theorem dX5_about_44 : decode cX5_about 44 = .ok (.if_icmp .ne 13, 3) := by decide +kernel
theorem dX5_about_47 : decode cX5_about 47 = .ok (.aload_n 0, 1) := by decide +kernel
theorem dX5_about_48 : decode cX5_about 48 = .ok (.getfield 16, 3) := by decide +kernel
theorem dX5_about_51 : decode cX5_about 51 = .ok (.invokestatic 119, 3) := by decide +kernel
theorem dX5_about_54 : decode cX5_about 54 = .ok (.goto 15, 3) := by decide +kernel
theorem dX5_about_57 : decode cX5_about 57 = .ok (.aload_n 0, 1) := by decide +kernel
theorem dX5_about_58 : decode cX5_about 58 = .ok (.getfield 16, 3) := by decide +kernel
theorem dX5_about_61 : decode cX5_about 61 = .ok (.bipush 10, 2) := by decide +kernel
theorem dX5_about_63 : decode cX5_about 63 = .ok (.iload_n 1, 1) := by decide +kernel
theorem dX5_about_64 : decode cX5_about 64 = .ok (.iadd, 1) := by decide +kernel
theorem dX5_about_65 : decode cX5_about 65 = .ok (.bipush 11, 2) := by decide +kernel
theorem dX5_about_67 : decode cX5_about 67 = .ok (.isub, 1) := by decide +kernel
theorem dX5_about_68 : decode cX5_about 68 = .ok (.iaload, 1) := by decide +kernel
theorem dX5_about_69 : decode cX5_about 69 = .ok (.ireturn, 1) := by decide +kernel
theorem dX5_isPin_0 : decode cX5_isPin 0 = .ok (.iload_n 1, 1) := by decide +kernel
theorem dX5_isPin_1 : decode cX5_isPin 1 = .ok (.i2l, 1) := by decide +kernel
theorem dX5_isPin_2 : decode cX5_isPin 2 = .ok (.lconst 0, 1) := by decide +kernel
theorem dX5_isPin_3 : decode cX5_isPin 3 = .ok (.aload_n 0, 1) := by decide +kernel
theorem dX5_isPin_4 : decode cX5_isPin 4 = .ok (.getfield 16, 3) := by decide +kernel
theorem dX5_isPin_7 : decode cX5_isPin 7 = .ok (.bipush 9, 2) := by decide +kernel
theorem dX5_isPin_9 : decode cX5_isPin 9 = .ok (.iaload, 1) := by decide +kernel
theorem dX5_isPin_10 : decode cX5_isPin 10 = .ok (.iconst 1, 1) := by decide +kernel
theorem dX5_isPin_11 : decode cX5_isPin 11 = .ok (.isub, 1) := by decide +kernel
theorem dX5_isPin_12 : decode cX5_isPin 12 = .ok (.i2l, 1) := by decide +kernel
theorem dX5_isPin_13 : decode cX5_isPin 13 = .ok (.invokestatic 47, 3) := by decide +kernel
theorem dX5_isPin_16 : decode cX5_isPin 16 = .ok (.ireturn, 1) := by decide +kernel
theorem dX5_pin_0 : decode cX5_pin 0 = .ok (.aload_n 0, 1) := by decide +kernel
theorem dX5_pin_1 : decode cX5_pin 1 = .ok (.aload_n 0, 1) := by decide +kernel
theorem dX5_pin_2 : decode cX5_pin 2 = .ok (.iload_n 1, 1) := by decide +kernel
theorem dX5_pin_3 : decode cX5_pin 3 = .ok (.invokevirtual 122, 3) := by decide +kernel
theorem dX5_pin_6 : decode cX5_pin 6 = .ok (.ifCond .ne 7, 3) := by decide +kernel
theorem dX5_pin_9 : decode cX5_pin 9 = .ok (.iconst 1, 1) := by decide +kernel
theorem dX5_pin_10 : decode cX5_pin 10 = .ok (.goto 20, 3) := by decide +kernel
theorem dX5_pin_13 : decode cX5_pin 13 = .ok (.iload_n 2, 1) := by decide +kernel
theorem dX5_pin_14 : decode cX5_pin 14 = .ok (.i2l, 1) := by decide +kernel
theorem dX5_pin_15 : decode cX5_pin 15 = .ok (.lconst 0, 1) := by decide +kernel
theorem dX5_pin_16 : decode cX5_pin 16 = .ok (.ldc2_w 125, 3) := by decide +kernel
theorem dX5_pin_19 : decode cX5_pin 19 = .ok (.invokestatic 47, 3) := by decide +kernel
theorem dX5_pin_22 : decode cX5_pin 22 = .ok (.ifCond .ne 7, 3) := by decide +kernel
theorem dX5_pin_25 : decode cX5_pin 25 = .ok (.iconst 2, 1) := by decide +kernel
theorem dX5_pin_26 : decode cX5_pin 26 = .ok (.goto 4, 3) := by decide +kernel
theorem dX5_pin_29 : decode cX5_pin 29 = .ok (.iconst 0, 1) := by decide +kernel
theorem dX5_pin_30 : decode cX5_pin 30 = .ok (.invokevirtual 82, 3) := by decide +kernel
theorem dX5_pin_33 : decode cX5_pin 33 = .ok (.ifCond .eq 5, 3) := by decide +kernel
theorem dX5_pin_36 : decode cX5_pin 36 = .ok (.iconst 0, 1) := by decide +kernel
theorem dX5_pin_37 : decode cX5_pin 37 = .ok (.ireturn, 1) := by decide +kernel
theorem dX5_pin_38 : decode cX5_pin 38 = .ok (.iload_n 2, 1) := by decide +kernel
theorem dX5_pin_39 : decode cX5_pin 39 = .ok (.iconst 2, 1) := by decide +kernel
theorem dX5_pin_40 : decode cX5_pin 40 = .ok (.if_icmp .ge 19, 3) := by decide +kernel
theorem dX5_pin_43 : decode cX5_pin 43 = .ok (.aload_n 0, 1) := by decide +kernel
theorem dX5_pin_44 : decode cX5_pin 44 = .ok (.getfield 16, 3) := by decide +kernel
theorem dX5_pin_47 : decode cX5_pin 47 = .ok (.bipush 12, 2) := by decide +kernel
theorem dX5_pin_49 : decode cX5_pin 49 = .ok (.iconst 2, 1) := by decide +kernel
theorem dX5_pin_50 : decode cX5_pin 50 = .ok (.iload_n 1, 1) := by decide +kernel
theorem dX5_pin_51 : decode cX5_pin 51 = .ok (.imul, 1) := by decide +kernel
theorem dX5_pin_52 : decode cX5_pin 52 = .ok (.iadd, 1) := by decide +kernel
theorem dX5_pin_53 : decode cX5_pin 53 = .ok (.iload_n 2, 1) := by decide +kernel
theorem dX5_pin_54 : decode cX5_pin 54 = .ok (.iadd, 1) := by decide +kernel
theorem dX5_pin_55 : decode cX5_pin 55 = .ok (.iaload, 1) := by decide +kernel
theorem dX5_pin_56 : decode cX5_pin 56 = .ok (.goto 24, 3) := by decide +kernel
theorem dX5_pin_59 : decode cX5_pin 59 = .ok (.aload_n 0, 1) := by decide +kernel
theorem dX5_pin_60 : decode cX5_pin 60 = .ok (.getfield 16, 3) := by decide +kernel
theorem dX5_pin_63 : decode cX5_pin 63 = .ok (.bipush 12, 2) := by decide +kernel
theorem dX5_pin_65 : decode cX5_pin 65 = .ok (.iconst 2, 1) := by decide +kernel
theorem dX5_pin_66 : decode cX5_pin 66 = .ok (.iload_n 1, 1) := by decide +kernel
theorem dX5_pin_67 : decode cX5_pin 67 = .ok (.imul, 1) := by decide +kernel
theorem dX5_pin_68 : decode cX5_pin 68 = .ok (.iadd, 1) := by decide +kernel
theorem dX5_pin_69 : decode cX5_pin 69 = .ok (.iaload, 1) := by decide +kernel
theorem dX5_pin_70 : decode cX5_pin 70 = .ok (.aload_n 0, 1) := by decide +kernel
theorem dX5_pin_71 : decode cX5_pin 71 = .ok (.getfield 16, 3) := by decide +kernel
theorem dX5_pin_74 : decode cX5_pin 74 = .ok (.iconst 5, 1) := by decide +kernel
theorem dX5_pin_75 : decode cX5_pin 75 = .ok (.iaload, 1) := by decide +kernel
theorem dX5_pin_76 : decode cX5_pin 76 = .ok (.isub, 1) := by decide +kernel
theorem dX5_pin_77 : decode cX5_pin 77 = .ok (.invokestatic 59, 3) := by decide +kernel
theorem dX5_pin_80 : decode cX5_pin 80 = .ok (.ireturn, 1) := by decide +kernel
theorem dX5_hit_0 : decode cX5_hit 0 = .ok (.aload_n 0, 1) := by decide +kernel
theorem dX5_hit_1 : decode cX5_hit 1 = .ok (.iload_n 1, 1) := by decide +kernel
theorem dX5_hit_2 : decode cX5_hit 2 = .ok (.ifCond .lt 19, 3) := by decide +kernel
theorem dX5_hit_5 : decode cX5_hit 5 = .ok (.iload_n 2, 1) := by decide +kernel
theorem dX5_hit_6 : decode cX5_hit 6 = .ok (.i2l, 1) := by decide +kernel
theorem dX5_hit_7 : decode cX5_hit 7 = .ok (.lconst 0, 1) := by decide +kernel
theorem dX5_hit_8 : decode cX5_hit 8 = .ok (.ldc2_w 125, 3) := by decide +kernel
theorem dX5_hit_11 : decode cX5_hit 11 = .ok (.invokestatic 47, 3) := by decide +kernel
theorem dX5_hit_14 : decode cX5_hit 14 = .ok (.ifCond .eq 7, 3) := by decide +kernel
theorem dX5_hit_17 : decode cX5_hit 17 = .ok (.iconst 0, 1) := by decide +kernel
theorem dX5_hit_18 : decode cX5_hit 18 = .ok (.goto 4, 3) := by decide +kernel
theorem dX5_hit_21 : decode cX5_hit 21 = .ok (.iconst 1, 1) := by decide +kernel
theorem dX5_hit_22 : decode cX5_hit 22 = .ok (.invokevirtual 82, 3) := by decide +kernel
theorem dX5_hit_25 : decode cX5_hit 25 = .ok (.ifCond .eq 5, 3) := by decide +kernel
theorem dX5_hit_28 : decode cX5_hit 28 = .ok (.iconst 0, 1) := by decide +kernel
theorem dX5_hit_29 : decode cX5_hit 29 = .ok (.ireturn, 1) := by decide +kernel
theorem dX5_hit_30 : decode cX5_hit 30 = .ok (.iload_n 1, 1) := by decide +kernel
theorem dX5_hit_31 : decode cX5_hit 31 = .ok (.aload_n 0, 1) := by decide +kernel
theorem dX5_hit_32 : decode cX5_hit 32 = .ok (.getfield 16, 3) := by decide +kernel
theorem dX5_hit_35 : decode cX5_hit 35 = .ok (.bipush 10, 2) := by decide +kernel
theorem dX5_hit_37 : decode cX5_hit 37 = .ok (.iaload, 1) := by decide +kernel
theorem dX5_hit_38 : decode cX5_hit 38 = .ok (.if_icmp .ge 19, 3) := by decide +kernel
theorem dX5_hit_41 : decode cX5_hit 41 = .ok (.aload_n 0, 1) := by decide +kernel
theorem dX5_hit_42 : decode cX5_hit 42 = .ok (.getfield 16, 3) := by decide +kernel
theorem dX5_hit_45 : decode cX5_hit 45 = .ok (.bipush 92, 2) := by decide +kernel
theorem dX5_hit_47 : decode cX5_hit 47 = .ok (.iconst 3, 1) := by decide +kernel
theorem dX5_hit_48 : decode cX5_hit 48 = .ok (.iload_n 1, 1) := by decide +kernel
theorem dX5_hit_49 : decode cX5_hit 49 = .ok (.imul, 1) := by decide +kernel
theorem dX5_hit_50 : decode cX5_hit 50 = .ok (.iadd, 1) := by decide +kernel
theorem dX5_hit_51 : decode cX5_hit 51 = .ok (.iload_n 2, 1) := by decide +kernel
theorem dX5_hit_52 : decode cX5_hit 52 = .ok (.iadd, 1) := by decide +kernel
theorem dX5_hit_53 : decode cX5_hit 53 = .ok (.iaload, 1) := by decide +kernel
theorem dX5_hit_54 : decode cX5_hit 54 = .ok (.goto 5, 3) := by decide +kernel
theorem dX5_hit_57 : decode cX5_hit 57 = .ok (.bipush (-9), 2) := by decide +kernel
theorem dX5_hit_59 : decode cX5_hit 59 = .ok (.ireturn, 1) := by decide +kernel
theorem dX5_isReading_0 : decode cX5_isReading 0 = .ok (.iload_n 1, 1) := by decide +kernel
theorem dX5_isReading_1 : decode cX5_isReading 1 = .ok (.i2l, 1) := by decide +kernel
theorem dX5_isReading_2 : decode cX5_isReading 2 = .ok (.lconst 0, 1) := by decide +kernel
theorem dX5_isReading_3 : decode cX5_isReading 3 = .ok (.aload_n 0, 1) := by decide +kernel
theorem dX5_isReading_4 : decode cX5_isReading 4 = .ok (.getfield 16, 3) := by decide +kernel
theorem dX5_isReading_7 : decode cX5_isReading 7 = .ok (.bipush 11, 2) := by decide +kernel
theorem dX5_isReading_9 : decode cX5_isReading 9 = .ok (.iaload, 1) := by decide +kernel
theorem dX5_isReading_10 : decode cX5_isReading 10 = .ok (.iconst 1, 1) := by decide +kernel
theorem dX5_isReading_11 : decode cX5_isReading 11 = .ok (.isub, 1) := by decide +kernel
theorem dX5_isReading_12 : decode cX5_isReading 12 = .ok (.i2l, 1) := by decide +kernel
theorem dX5_isReading_13 : decode cX5_isReading 13 = .ok (.invokestatic 47, 3) := by decide +kernel
theorem dX5_isReading_16 : decode cX5_isReading 16 = .ok (.ireturn, 1) := by decide +kernel
theorem dX5_reading_0 : decode cX5_reading 0 = .ok (.aload_n 0, 1) := by decide +kernel
theorem dX5_reading_1 : decode cX5_reading 1 = .ok (.aload_n 0, 1) := by decide +kernel
theorem dX5_reading_2 : decode cX5_reading 2 = .ok (.iload_n 1, 1) := by decide +kernel
theorem dX5_reading_3 : decode cX5_reading 3 = .ok (.invokevirtual 127, 3) := by decide +kernel
theorem dX5_reading_6 : decode cX5_reading 6 = .ok (.ifCond .ne 7, 3) := by decide +kernel
theorem dX5_reading_9 : decode cX5_reading 9 = .ok (.iconst 1, 1) := by decide +kernel
theorem dX5_reading_10 : decode cX5_reading 10 = .ok (.goto 20, 3) := by decide +kernel
theorem dX5_reading_13 : decode cX5_reading 13 = .ok (.iload_n 2, 1) := by decide +kernel
theorem dX5_reading_14 : decode cX5_reading 14 = .ok (.i2l, 1) := by decide +kernel
theorem dX5_reading_15 : decode cX5_reading 15 = .ok (.lconst 0, 1) := by decide +kernel
theorem dX5_reading_16 : decode cX5_reading 16 = .ok (.ldc2_w 125, 3) := by decide +kernel
theorem dX5_reading_19 : decode cX5_reading 19 = .ok (.invokestatic 47, 3) := by decide +kernel
theorem dX5_reading_22 : decode cX5_reading 22 = .ok (.ifCond .ne 7, 3) := by decide +kernel
theorem dX5_reading_25 : decode cX5_reading 25 = .ok (.iconst 2, 1) := by decide +kernel
theorem dX5_reading_26 : decode cX5_reading 26 = .ok (.goto 4, 3) := by decide +kernel
theorem dX5_reading_29 : decode cX5_reading 29 = .ok (.iconst 0, 1) := by decide +kernel
theorem dX5_reading_30 : decode cX5_reading 30 = .ok (.invokevirtual 82, 3) := by decide +kernel
theorem dX5_reading_33 : decode cX5_reading 33 = .ok (.ifCond .eq 5, 3) := by decide +kernel
theorem dX5_reading_36 : decode cX5_reading 36 = .ok (.iconst 0, 1) := by decide +kernel
theorem dX5_reading_37 : decode cX5_reading 37 = .ok (.ireturn, 1) := by decide +kernel
theorem dX5_reading_38 : decode cX5_reading 38 = .ok (.aload_n 0, 1) := by decide +kernel
theorem dX5_reading_39 : decode cX5_reading 39 = .ok (.getfield 16, 3) := by decide +kernel
theorem dX5_reading_42 : decode cX5_reading 42 = .ok (.sipush 152, 3) := by decide +kernel
theorem dX5_reading_45 : decode cX5_reading 45 = .ok (.iconst 3, 1) := by decide +kernel
theorem dX5_reading_46 : decode cX5_reading 46 = .ok (.iload_n 1, 1) := by decide +kernel
theorem dX5_reading_47 : decode cX5_reading 47 = .ok (.imul, 1) := by decide +kernel
theorem dX5_reading_48 : decode cX5_reading 48 = .ok (.iadd, 1) := by decide +kernel
theorem dX5_reading_49 : decode cX5_reading 49 = .ok (.iload_n 2, 1) := by decide +kernel
theorem dX5_reading_50 : decode cX5_reading 50 = .ok (.iadd, 1) := by decide +kernel
theorem dX5_reading_51 : decode cX5_reading 51 = .ok (.iaload, 1) := by decide +kernel
theorem dX5_reading_52 : decode cX5_reading 52 = .ok (.ireturn, 1) := by decide +kernel
theorem dX5_sine_0 : decode cX5_sine 0 = .ok (.aload_n 0, 1) := by decide +kernel
theorem dX5_sine_1 : decode cX5_sine 1 = .ok (.iload_n 1, 1) := by decide +kernel
theorem dX5_sine_2 : decode cX5_sine 2 = .ok (.i2l, 1) := by decide +kernel
theorem dX5_sine_3 : decode cX5_sine 3 = .ok (.ldc2_w 43, 3) := by decide +kernel
theorem dX5_sine_6 : decode cX5_sine 6 = .ok (.ldc2_w 45, 3) := by decide +kernel
theorem dX5_sine_9 : decode cX5_sine 9 = .ok (.invokestatic 47, 3) := by decide +kernel
theorem dX5_sine_12 : decode cX5_sine 12 = .ok (.ifCond .eq 7, 3) := by decide +kernel
theorem dX5_sine_15 : decode cX5_sine 15 = .ok (.iconst 0, 1) := by decide +kernel
theorem dX5_sine_16 : decode cX5_sine 16 = .ok (.goto 4, 3) := by decide +kernel
theorem dX5_sine_19 : decode cX5_sine 19 = .ok (.iconst 1, 1) := by decide +kernel
theorem dX5_sine_20 : decode cX5_sine 20 = .ok (.invokevirtual 82, 3) := by decide +kernel
theorem dX5_sine_23 : decode cX5_sine 23 = .ok (.ifCond .eq 7, 3) := by decide +kernel
theorem dX5_sine_26 : decode cX5_sine 26 = .ok (.iconst 0, 1) := by decide +kernel
theorem dX5_sine_27 : decode cX5_sine 27 = .ok (.goto 8, 3) := by decide +kernel
theorem dX5_sine_30 : decode cX5_sine 30 = .ok (.aload_n 0, 1) := by decide +kernel
theorem dX5_sine_31 : decode cX5_sine 31 = .ok (.iload_n 1, 1) := by decide +kernel
theorem dX5_sine_32 : decode cX5_sine 32 = .ok (.invokevirtual 67, 3) := by decide +kernel
theorem dX5_sine_35 : decode cX5_sine 35 = .ok (.ireturn, 1) := by decide +kernel
theorem dX5_note_0 : decode cX5_note 0 = .ok (.aload_n 0, 1) := by decide +kernel
theorem dX5_note_1 : decode cX5_note 1 = .ok (.getfield 114, 3) := by decide +kernel
theorem dX5_note_4 : decode cX5_note 4 = .ok (.bipush 14, 2) := by decide +kernel
theorem dX5_note_6 : decode cX5_note 6 = .ok (.if_icmp .ne 44, 3) := by decide +kernel
theorem dX5_note_9 : decode cX5_note 9 = .ok (.iconst 0, 1) := by decide +kernel
theorem dX5_note_10 : decode cX5_note 10 = .ok (.istore_n 1, 1) := by decide +kernel
theorem dX5_note_11 : decode cX5_note 11 = .ok (.iload_n 1, 1) := by decide +kernel
theorem dX5_note_12 : decode cX5_note 12 = .ok (.sipush 2756, 3) := by decide +kernel
theorem dX5_note_15 : decode cX5_note 15 = .ok (.if_icmp .ge 25, 3) := by decide +kernel
theorem dX5_note_18 : decode cX5_note 18 = .ok (.aload_n 0, 1) := by decide +kernel
theorem dX5_note_19 : decode cX5_note 19 = .ok (.getfield 22, 3) := by decide +kernel
theorem dX5_note_22 : decode cX5_note 22 = .ok (.iload_n 1, 1) := by decide +kernel
theorem dX5_note_23 : decode cX5_note 23 = .ok (.aload_n 0, 1) := by decide +kernel
theorem dX5_note_24 : decode cX5_note 24 = .ok (.getfield 22, 3) := by decide +kernel
theorem dX5_note_27 : decode cX5_note 27 = .ok (.iload_n 1, 1) := by decide +kernel
theorem dX5_note_28 : decode cX5_note 28 = .ok (.sipush 212, 3) := by decide +kernel
theorem dX5_note_31 : decode cX5_note 31 = .ok (.iadd, 1) := by decide +kernel
theorem dX5_note_32 : decode cX5_note 32 = .ok (.iaload, 1) := by decide +kernel
theorem dX5_note_33 : decode cX5_note 33 = .ok (.iastore, 1) := by decide +kernel
theorem dX5_note_34 : decode cX5_note 34 = .ok (.iinc 1 1, 3) := by decide +kernel
theorem dX5_note_37 : decode cX5_note 37 = .ok (.goto (-26), 3) := by decide +kernel
theorem dX5_note_40 : decode cX5_note 40 = .ok (.aload_n 0, 1) := by decide +kernel
theorem dX5_note_41 : decode cX5_note 41 = .ok (.dup, 1) := by decide +kernel
theorem dX5_note_42 : decode cX5_note 42 = .ok (.getfield 114, 3) := by decide +kernel
theorem dX5_note_45 : decode cX5_note 45 = .ok (.iconst 1, 1) := by decide +kernel
theorem dX5_note_46 : decode cX5_note 46 = .ok (.isub, 1) := by decide +kernel
theorem dX5_note_47 : decode cX5_note 47 = .ok (.putfield 114, 3) := by decide +kernel
theorem dX5_note_50 : decode cX5_note 50 = .ok (.aload_n 0, 1) := by decide +kernel
theorem dX5_note_51 : decode cX5_note 51 = .ok (.getfield 16, 3) := by decide +kernel
theorem dX5_note_54 : decode cX5_note 54 = .ok (.iconst 0, 1) := by decide +kernel
theorem dX5_note_55 : decode cX5_note 55 = .ok (.aload_n 0, 1) := by decide +kernel
theorem dX5_note_56 : decode cX5_note 56 = .ok (.getfield 22, 3) := by decide +kernel
theorem dX5_note_59 : decode cX5_note 59 = .ok (.sipush 212, 3) := by decide +kernel
theorem dX5_note_62 : decode cX5_note 62 = .ok (.aload_n 0, 1) := by decide +kernel
theorem dX5_note_63 : decode cX5_note 63 = .ok (.getfield 114, 3) := by decide +kernel
theorem dX5_note_66 : decode cX5_note 66 = .ok (.imul, 1) := by decide +kernel
theorem dX5_note_67 : decode cX5_note 67 = .ok (.invokestatic 110, 3) := by decide +kernel
theorem dX5_note_70 : decode cX5_note 70 = .ok (.aload_n 0, 1) := by decide +kernel
theorem dX5_note_71 : decode cX5_note 71 = .ok (.dup, 1) := by decide +kernel
theorem dX5_note_72 : decode cX5_note 72 = .ok (.getfield 114, 3) := by decide +kernel
theorem dX5_note_75 : decode cX5_note 75 = .ok (.iconst 1, 1) := by decide +kernel
theorem dX5_note_76 : decode cX5_note 76 = .ok (.iadd, 1) := by decide +kernel
theorem dX5_note_77 : decode cX5_note 77 = .ok (.putfield 114, 3) := by decide +kernel
theorem dX5_note_80 : decode cX5_note 80 = .ok (.return_, 1) := by decide +kernel
theorem dX5_swing_0 : decode cX5_swing 0 = .ok (.aload_n 0, 1) := by decide +kernel
theorem dX5_swing_1 : decode cX5_swing 1 = .ok (.iload_n 1, 1) := by decide +kernel
theorem dX5_swing_2 : decode cX5_swing 2 = .ok (.i2l, 1) := by decide +kernel
theorem dX5_swing_3 : decode cX5_swing 3 = .ok (.lconst 1, 1) := by decide +kernel
theorem dX5_swing_4 : decode cX5_swing 4 = .ok (.ldc2_w 130, 3) := by decide +kernel
theorem dX5_swing_7 : decode cX5_swing 7 = .ok (.invokestatic 47, 3) := by decide +kernel
theorem dX5_swing_10 : decode cX5_swing 10 = .ok (.ifCond .eq 7, 3) := by decide +kernel
theorem dX5_swing_13 : decode cX5_swing 13 = .ok (.iconst 0, 1) := by decide +kernel
theorem dX5_swing_14 : decode cX5_swing 14 = .ok (.goto 4, 3) := by decide +kernel
theorem dX5_swing_17 : decode cX5_swing 17 = .ok (.iconst 1, 1) := by decide +kernel
theorem dX5_swing_18 : decode cX5_swing 18 = .ok (.invokevirtual 82, 3) := by decide +kernel
theorem dX5_swing_21 : decode cX5_swing 21 = .ok (.ifCond .eq 5, 3) := by decide +kernel
theorem dX5_swing_24 : decode cX5_swing 24 = .ok (.iconst 0, 1) := by decide +kernel
theorem dX5_swing_25 : decode cX5_swing 25 = .ok (.ireturn, 1) := by decide +kernel
theorem dX5_swing_26 : decode cX5_swing 26 = .ok (.aload_n 0, 1) := by decide +kernel
theorem dX5_swing_27 : decode cX5_swing 27 = .ok (.invokevirtual 132, 3) := by decide +kernel
theorem dX5_swing_30 : decode cX5_swing 30 = .ok (.aload_n 0, 1) := by decide +kernel
theorem dX5_swing_31 : decode cX5_swing 31 = .ok (.aload_n 0, 1) := by decide +kernel
theorem dX5_swing_32 : decode cX5_swing 32 = .ok (.getfield 16, 3) := by decide +kernel
theorem dX5_swing_35 : decode cX5_swing 35 = .ok (.iload_n 1, 1) := by decide +kernel
theorem dX5_swing_36 : decode cX5_swing 36 = .ok (.invokevirtual 135, 3) := by decide +kernel
theorem dX5_swing_39 : decode cX5_swing 39 = .ok (.ireturn, 1) := by decide +kernel
theorem dX5_set_0 : decode cX5_set 0 = .ok (.aload_n 0, 1) := by decide +kernel
theorem dX5_set_1 : decode cX5_set 1 = .ok (.iload_n 1, 1) := by decide +kernel
theorem dX5_set_2 : decode cX5_set 2 = .ok (.iload_n 2, 1) := by decide +kernel
theorem dX5_set_3 : decode cX5_set 3 = .ok (.invokestatic 138, 3) := by decide +kernel
theorem dX5_set_6 : decode cX5_set 6 = .ok (.ifCond .eq 7, 3) := by decide +kernel
theorem dX5_set_9 : decode cX5_set 9 = .ok (.iconst 0, 1) := by decide +kernel
theorem dX5_set_10 : decode cX5_set 10 = .ok (.goto 4, 3) := by decide +kernel
theorem dX5_set_13 : decode cX5_set 13 = .ok (.iconst 1, 1) := by decide +kernel
theorem dX5_set_14 : decode cX5_set 14 = .ok (.invokevirtual 82, 3) := by decide +kernel
theorem dX5_set_17 : decode cX5_set 17 = .ok (.ifCond .eq 5, 3) := by decide +kernel
theorem dX5_set_20 : decode cX5_set 20 = .ok (.iconst 0, 1) := by decide +kernel
theorem dX5_set_21 : decode cX5_set 21 = .ok (.ireturn, 1) := by decide +kernel
theorem dX5_set_22 : decode cX5_set 22 = .ok (.aload_n 0, 1) := by decide +kernel
theorem dX5_set_23 : decode cX5_set 23 = .ok (.invokevirtual 132, 3) := by decide +kernel
theorem dX5_set_26 : decode cX5_set 26 = .ok (.aload_n 0, 1) := by decide +kernel
theorem dX5_set_27 : decode cX5_set 27 = .ok (.getfield 16, 3) := by decide +kernel
theorem dX5_set_30 : decode cX5_set 30 = .ok (.iload_n 1, 1) := by decide +kernel
theorem dX5_set_31 : decode cX5_set 31 = .ok (.iaload, 1) := by decide +kernel
theorem dX5_set_32 : decode cX5_set 32 = .ok (.istore_n 3, 1) := by decide +kernel
theorem dX5_set_33 : decode cX5_set 33 = .ok (.aload_n 0, 1) := by decide +kernel
theorem dX5_set_34 : decode cX5_set 34 = .ok (.getfield 16, 3) := by decide +kernel
theorem dX5_set_37 : decode cX5_set 37 = .ok (.iload_n 1, 1) := by decide +kernel
theorem dX5_set_38 : decode cX5_set 38 = .ok (.iload_n 2, 1) := by decide +kernel
theorem dX5_set_39 : decode cX5_set 39 = .ok (.invokestatic 142, 3) := by decide +kernel
theorem dX5_set_42 : decode cX5_set 42 = .ok (.iload_n 3, 1) := by decide +kernel
theorem dX5_set_43 : decode cX5_set 43 = .ok (.ireturn, 1) := by decide +kernel
theorem dX5_push_0 : decode cX5_push 0 = .ok (.aload_n 0, 1) := by decide +kernel
theorem dX5_push_1 : decode cX5_push 1 = .ok (.iload_n 1, 1) := by decide +kernel
theorem dX5_push_2 : decode cX5_push 2 = .ok (.i2l, 1) := by decide +kernel
theorem dX5_push_3 : decode cX5_push 3 = .ok (.lconst 1, 1) := by decide +kernel
theorem dX5_push_4 : decode cX5_push 4 = .ok (.ldc2_w 57, 3) := by decide +kernel
theorem dX5_push_7 : decode cX5_push 7 = .ok (.invokestatic 47, 3) := by decide +kernel
theorem dX5_push_10 : decode cX5_push 10 = .ok (.ifCond .eq 7, 3) := by decide +kernel
theorem dX5_push_13 : decode cX5_push 13 = .ok (.iconst 0, 1) := by decide +kernel
theorem dX5_push_14 : decode cX5_push 14 = .ok (.goto 4, 3) := by decide +kernel
theorem dX5_push_17 : decode cX5_push 17 = .ok (.iconst 1, 1) := by decide +kernel
theorem dX5_push_18 : decode cX5_push 18 = .ok (.invokevirtual 82, 3) := by decide +kernel
theorem dX5_push_21 : decode cX5_push 21 = .ok (.ifCond .eq 5, 3) := by decide +kernel
theorem dX5_push_24 : decode cX5_push 24 = .ok (.iconst 0, 1) := by decide +kernel
theorem dX5_push_25 : decode cX5_push 25 = .ok (.ireturn, 1) := by decide +kernel
theorem dX5_push_26 : decode cX5_push 26 = .ok (.aload_n 0, 1) := by decide +kernel
theorem dX5_push_27 : decode cX5_push 27 = .ok (.invokevirtual 132, 3) := by decide +kernel
theorem dX5_push_30 : decode cX5_push 30 = .ok (.aload_n 0, 1) := by decide +kernel
theorem dX5_push_31 : decode cX5_push 31 = .ok (.getfield 16, 3) := by decide +kernel
theorem dX5_push_34 : decode cX5_push 34 = .ok (.iload_n 1, 1) := by decide +kernel
theorem dX5_push_35 : decode cX5_push 35 = .ok (.invokestatic 146, 3) := by decide +kernel
theorem dX5_push_38 : decode cX5_push 38 = .ok (.aload_n 0, 1) := by decide +kernel
theorem dX5_push_39 : decode cX5_push 39 = .ok (.getfield 16, 3) := by decide +kernel
theorem dX5_push_42 : decode cX5_push 42 = .ok (.bipush 7, 2) := by decide +kernel
theorem dX5_push_44 : decode cX5_push 44 = .ok (.iaload, 1) := by decide +kernel
theorem dX5_push_45 : decode cX5_push 45 = .ok (.ireturn, 1) := by decide +kernel
theorem dX5_isNudge_0 : decode cX5_isNudge 0 = .ok (.iload_n 0, 1) := by decide +kernel
theorem dX5_isNudge_1 : decode cX5_isNudge 1 = .ok (.i2l, 1) := by decide +kernel
theorem dX5_isNudge_2 : decode cX5_isNudge 2 = .ok (.ldc2_w 149, 3) := by decide +kernel
theorem dX5_isNudge_5 : decode cX5_isNudge 5 = .ok (.ldc2_w 151, 3) := by decide +kernel
theorem dX5_isNudge_8 : decode cX5_isNudge 8 = .ok (.invokestatic 47, 3) := by decide +kernel
theorem dX5_isNudge_11 : decode cX5_isNudge 11 = .ok (.ireturn, 1) := by decide +kernel
theorem dX5_nudge_0 : decode cX5_nudge 0 = .ok (.aload_n 0, 1) := by decide +kernel
theorem dX5_nudge_1 : decode cX5_nudge 1 = .ok (.iload_n 1, 1) := by decide +kernel
theorem dX5_nudge_2 : decode cX5_nudge 2 = .ok (.invokestatic 153, 3) := by decide +kernel
theorem dX5_nudge_5 : decode cX5_nudge 5 = .ok (.ifCond .eq 7, 3) := by decide +kernel
theorem dX5_nudge_8 : decode cX5_nudge 8 = .ok (.iconst 0, 1) := by decide +kernel
theorem dX5_nudge_9 : decode cX5_nudge 9 = .ok (.goto 4, 3) := by decide +kernel
theorem dX5_nudge_12 : decode cX5_nudge 12 = .ok (.iconst 1, 1) := by decide +kernel
theorem dX5_nudge_13 : decode cX5_nudge 13 = .ok (.invokevirtual 82, 3) := by decide +kernel
theorem dX5_nudge_16 : decode cX5_nudge 16 = .ok (.ifCond .eq 5, 3) := by decide +kernel
theorem dX5_nudge_19 : decode cX5_nudge 19 = .ok (.iconst 0, 1) := by decide +kernel
theorem dX5_nudge_20 : decode cX5_nudge 20 = .ok (.ireturn, 1) := by decide +kernel
theorem dX5_nudge_21 : decode cX5_nudge 21 = .ok (.aload_n 0, 1) := by decide +kernel
theorem dX5_nudge_22 : decode cX5_nudge 22 = .ok (.invokevirtual 132, 3) := by decide +kernel
theorem dX5_nudge_25 : decode cX5_nudge 25 = .ok (.aload_n 0, 1) := by decide +kernel
theorem dX5_nudge_26 : decode cX5_nudge 26 = .ok (.getfield 16, 3) := by decide +kernel
theorem dX5_nudge_29 : decode cX5_nudge 29 = .ok (.iload_n 1, 1) := by decide +kernel
theorem dX5_nudge_30 : decode cX5_nudge 30 = .ok (.invokestatic 156, 3) := by decide +kernel
theorem dX5_nudge_33 : decode cX5_nudge 33 = .ok (.aload_n 0, 1) := by decide +kernel
theorem dX5_nudge_34 : decode cX5_nudge 34 = .ok (.getfield 16, 3) := by decide +kernel
theorem dX5_nudge_37 : decode cX5_nudge 37 = .ok (.iconst 5, 1) := by decide +kernel
theorem dX5_nudge_38 : decode cX5_nudge 38 = .ok (.iaload, 1) := by decide +kernel
theorem dX5_nudge_39 : decode cX5_nudge 39 = .ok (.ireturn, 1) := by decide +kernel
theorem dX5_addPin_0 : decode cX5_addPin 0 = .ok (.iload_n 1, 1) := by decide +kernel
theorem dX5_addPin_1 : decode cX5_addPin 1 = .ok (.i2l, 1) := by decide +kernel
theorem dX5_addPin_2 : decode cX5_addPin 2 = .ok (.lconst 0, 1) := by decide +kernel
theorem dX5_addPin_3 : decode cX5_addPin 3 = .ok (.ldc2_w 159, 3) := by decide +kernel
theorem dX5_addPin_6 : decode cX5_addPin 6 = .ok (.invokestatic 47, 3) := by decide +kernel
theorem dX5_addPin_9 : decode cX5_addPin 9 = .ok (.istore_n 2, 1) := by decide +kernel
theorem dX5_addPin_10 : decode cX5_addPin 10 = .ok (.aload_n 0, 1) := by decide +kernel
theorem dX5_addPin_11 : decode cX5_addPin 11 = .ok (.iload_n 2, 1) := by decide +kernel
theorem dX5_addPin_12 : decode cX5_addPin 12 = .ok (.ifCond .ne 7, 3) := by decide +kernel
theorem dX5_addPin_15 : decode cX5_addPin 15 = .ok (.iconst 1, 1) := by decide +kernel
theorem dX5_addPin_16 : decode cX5_addPin 16 = .ok (.goto 33, 3) := by decide +kernel
theorem dX5_addPin_19 : decode cX5_addPin 19 = .ok (.aload_n 0, 1) := by decide +kernel
theorem dX5_addPin_20 : decode cX5_addPin 20 = .ok (.getfield 16, 3) := by decide +kernel
theorem dX5_addPin_23 : decode cX5_addPin 23 = .ok (.bipush 9, 2) := by decide +kernel
theorem dX5_addPin_25 : decode cX5_addPin 25 = .ok (.iaload, 1) := by decide +kernel
theorem dX5_addPin_26 : decode cX5_addPin 26 = .ok (.bipush 40, 2) := by decide +kernel
theorem dX5_addPin_28 : decode cX5_addPin 28 = .ok (.if_icmp .eq 16, 3) := by decide +kernel
theorem dX5_addPin_31 : decode cX5_addPin 31 = .ok (.aload_n 0, 1) := by decide +kernel
theorem dX5_addPin_32 : decode cX5_addPin 32 = .ok (.getfield 16, 3) := by decide +kernel
theorem dX5_addPin_35 : decode cX5_addPin 35 = .ok (.iload_n 1, 1) := by decide +kernel
theorem dX5_addPin_36 : decode cX5_addPin 36 = .ok (.invokestatic 63, 3) := by decide +kernel
theorem dX5_addPin_39 : decode cX5_addPin 39 = .ok (.bipush (-9), 2) := by decide +kernel
theorem dX5_addPin_41 : decode cX5_addPin 41 = .ok (.if_icmp .eq 7, 3) := by decide +kernel
theorem dX5_addPin_44 : decode cX5_addPin 44 = .ok (.iconst 2, 1) := by decide +kernel
theorem dX5_addPin_45 : decode cX5_addPin 45 = .ok (.goto 4, 3) := by decide +kernel
theorem dX5_addPin_48 : decode cX5_addPin 48 = .ok (.iconst 0, 1) := by decide +kernel
theorem dX5_addPin_49 : decode cX5_addPin 49 = .ok (.invokevirtual 82, 3) := by decide +kernel
theorem dX5_addPin_52 : decode cX5_addPin 52 = .ok (.ifCond .eq 5, 3) := by decide +kernel
theorem dX5_addPin_55 : decode cX5_addPin 55 = .ok (.iconst 0, 1) := by decide +kernel
theorem dX5_addPin_56 : decode cX5_addPin 56 = .ok (.ireturn, 1) := by decide +kernel
theorem dX5_addPin_57 : decode cX5_addPin 57 = .ok (.aload_n 0, 1) := by decide +kernel
theorem dX5_addPin_58 : decode cX5_addPin 58 = .ok (.invokevirtual 132, 3) := by decide +kernel
theorem dX5_addPin_61 : decode cX5_addPin 61 = .ok (.aload_n 0, 1) := by decide +kernel
theorem dX5_addPin_62 : decode cX5_addPin 62 = .ok (.getfield 16, 3) := by decide +kernel
theorem dX5_addPin_65 : decode cX5_addPin 65 = .ok (.iload_n 1, 1) := by decide +kernel
theorem dX5_addPin_66 : decode cX5_addPin 66 = .ok (.invokestatic 102, 3) := by decide +kernel
theorem dX5_addPin_69 : decode cX5_addPin 69 = .ok (.aload_n 0, 1) := by decide +kernel
theorem dX5_addPin_70 : decode cX5_addPin 70 = .ok (.getfield 16, 3) := by decide +kernel
theorem dX5_addPin_73 : decode cX5_addPin 73 = .ok (.bipush 9, 2) := by decide +kernel
theorem dX5_addPin_75 : decode cX5_addPin 75 = .ok (.iaload, 1) := by decide +kernel
theorem dX5_addPin_76 : decode cX5_addPin 76 = .ok (.iconst 1, 1) := by decide +kernel
theorem dX5_addPin_77 : decode cX5_addPin 77 = .ok (.isub, 1) := by decide +kernel
theorem dX5_addPin_78 : decode cX5_addPin 78 = .ok (.ireturn, 1) := by decide +kernel
theorem dX5_removePin_0 : decode cX5_removePin 0 = .ok (.aload_n 0, 1) := by decide +kernel
theorem dX5_removePin_1 : decode cX5_removePin 1 = .ok (.aload_n 0, 1) := by decide +kernel
theorem dX5_removePin_2 : decode cX5_removePin 2 = .ok (.iload_n 1, 1) := by decide +kernel
theorem dX5_removePin_3 : decode cX5_removePin 3 = .ok (.invokevirtual 122, 3) := by decide +kernel
theorem dX5_removePin_6 : decode cX5_removePin 6 = .ok (.ifCond .eq 7, 3) := by decide +kernel
theorem dX5_removePin_9 : decode cX5_removePin 9 = .ok (.iconst 0, 1) := by decide +kernel
theorem dX5_removePin_10 : decode cX5_removePin 10 = .ok (.goto 4, 3) := by decide +kernel
theorem dX5_removePin_13 : decode cX5_removePin 13 = .ok (.iconst 1, 1) := by decide +kernel
theorem dX5_removePin_14 : decode cX5_removePin 14 = .ok (.invokevirtual 82, 3) := by decide +kernel
theorem dX5_removePin_17 : decode cX5_removePin 17 = .ok (.ifCond .eq 5, 3) := by decide +kernel
theorem dX5_removePin_20 : decode cX5_removePin 20 = .ok (.iconst 0, 1) := by decide +kernel
theorem dX5_removePin_21 : decode cX5_removePin 21 = .ok (.ireturn, 1) := by decide +kernel
theorem dX5_removePin_22 : decode cX5_removePin 22 = .ok (.aload_n 0, 1) := by decide +kernel
theorem dX5_removePin_23 : decode cX5_removePin 23 = .ok (.invokevirtual 132, 3) := by decide +kernel
theorem dX5_removePin_26 : decode cX5_removePin 26 = .ok (.aload_n 0, 1) := by decide +kernel
theorem dX5_removePin_27 : decode cX5_removePin 27 = .ok (.getfield 16, 3) := by decide +kernel
theorem dX5_removePin_30 : decode cX5_removePin 30 = .ok (.bipush 12, 2) := by decide +kernel
theorem dX5_removePin_32 : decode cX5_removePin 32 = .ok (.iconst 2, 1) := by decide +kernel
theorem dX5_removePin_33 : decode cX5_removePin 33 = .ok (.iload_n 1, 1) := by decide +kernel
theorem dX5_removePin_34 : decode cX5_removePin 34 = .ok (.imul, 1) := by decide +kernel
theorem dX5_removePin_35 : decode cX5_removePin 35 = .ok (.iadd, 1) := by decide +kernel
theorem dX5_removePin_36 : decode cX5_removePin 36 = .ok (.iaload, 1) := by decide +kernel
theorem dX5_removePin_37 : decode cX5_removePin 37 = .ok (.istore_n 2, 1) := by decide +kernel
theorem dX5_removePin_38 : decode cX5_removePin 38 = .ok (.bipush 12, 2) := by decide +kernel
theorem dX5_removePin_40 : decode cX5_removePin 40 = .ok (.iconst 2, 1) := by decide +kernel
theorem dX5_removePin_41 : decode cX5_removePin 41 = .ok (.iload_n 1, 1) := by decide +kernel
theorem dX5_removePin_42 : decode cX5_removePin 42 = .ok (.imul, 1) := by decide +kernel
theorem dX5_removePin_43 : decode cX5_removePin 43 = .ok (.iadd, 1) := by decide +kernel
theorem dX5_removePin_44 : decode cX5_removePin 44 = .ok (.istore_n 3, 1) := by decide +kernel
theorem dX5_removePin_45 : decode cX5_removePin 45 = .ok (.iload_n 3, 1) := by decide +kernel
theorem dX5_removePin_46 : decode cX5_removePin 46 = .ok (.iconst 2, 1) := by decide +kernel
theorem dX5_removePin_47 : decode cX5_removePin 47 = .ok (.iadd, 1) := by decide +kernel
theorem dX5_removePin_48 : decode cX5_removePin 48 = .ok (.bipush 92, 2) := by decide +kernel
theorem dX5_removePin_50 : decode cX5_removePin 50 = .ok (.if_icmp .ge 23, 3) := by decide +kernel
theorem dX5_removePin_53 : decode cX5_removePin 53 = .ok (.aload_n 0, 1) := by decide +kernel
theorem dX5_removePin_54 : decode cX5_removePin 54 = .ok (.getfield 16, 3) := by decide +kernel
theorem dX5_removePin_57 : decode cX5_removePin 57 = .ok (.iload_n 3, 1) := by decide +kernel
theorem dX5_removePin_58 : decode cX5_removePin 58 = .ok (.aload_n 0, 1) := by decide +kernel
theorem dX5_removePin_59 : decode cX5_removePin 59 = .ok (.getfield 16, 3) := by decide +kernel
theorem dX5_removePin_62 : decode cX5_removePin 62 = .ok (.iload_n 3, 1) := by decide +kernel
theorem dX5_removePin_63 : decode cX5_removePin 63 = .ok (.iconst 2, 1) := by decide +kernel
theorem dX5_removePin_64 : decode cX5_removePin 64 = .ok (.iadd, 1) := by decide +kernel
theorem dX5_removePin_65 : decode cX5_removePin 65 = .ok (.iaload, 1) := by decide +kernel
theorem dX5_removePin_66 : decode cX5_removePin 66 = .ok (.iastore, 1) := by decide +kernel
theorem dX5_removePin_67 : decode cX5_removePin 67 = .ok (.iinc 3 1, 3) := by decide +kernel
theorem dX5_removePin_70 : decode cX5_removePin 70 = .ok (.goto (-25), 3) := by decide +kernel
theorem dX5_removePin_73 : decode cX5_removePin 73 = .ok (.aload_n 0, 1) := by decide +kernel
theorem dX5_removePin_74 : decode cX5_removePin 74 = .ok (.getfield 16, 3) := by decide +kernel
theorem dX5_removePin_77 : decode cX5_removePin 77 = .ok (.bipush 9, 2) := by decide +kernel
theorem dX5_removePin_79 : decode cX5_removePin 79 = .ok (.dup2, 1) := by decide +kernel
theorem dX5_removePin_80 : decode cX5_removePin 80 = .ok (.iaload, 1) := by decide +kernel
theorem dX5_removePin_81 : decode cX5_removePin 81 = .ok (.iconst 1, 1) := by decide +kernel
theorem dX5_removePin_82 : decode cX5_removePin 82 = .ok (.isub, 1) := by decide +kernel
theorem dX5_removePin_83 : decode cX5_removePin 83 = .ok (.iastore, 1) := by decide +kernel
theorem dX5_removePin_84 : decode cX5_removePin 84 = .ok (.iload_n 2, 1) := by decide +kernel
theorem dX5_removePin_85 : decode cX5_removePin 85 = .ok (.ireturn, 1) := by decide +kernel
theorem dX5_raise_0 : decode cX5_raise 0 = .ok (.aload_n 0, 1) := by decide +kernel
theorem dX5_raise_1 : decode cX5_raise 1 = .ok (.iconst 0, 1) := by decide +kernel
theorem dX5_raise_2 : decode cX5_raise 2 = .ok (.putfield 39, 3) := by decide +kernel
theorem dX5_raise_5 : decode cX5_raise 5 = .ok (.aload_n 0, 1) := by decide +kernel
theorem dX5_raise_6 : decode cX5_raise 6 = .ok (.invokevirtual 132, 3) := by decide +kernel
theorem dX5_raise_9 : decode cX5_raise 9 = .ok (.aload_n 0, 1) := by decide +kernel
theorem dX5_raise_10 : decode cX5_raise 10 = .ok (.getfield 16, 3) := by decide +kernel
theorem dX5_raise_13 : decode cX5_raise 13 = .ok (.bipush 9, 2) := by decide +kernel
theorem dX5_raise_15 : decode cX5_raise 15 = .ok (.iaload, 1) := by decide +kernel
theorem dX5_raise_16 : decode cX5_raise 16 = .ok (.aload_n 0, 1) := by decide +kernel
theorem dX5_raise_17 : decode cX5_raise 17 = .ok (.getfield 16, 3) := by decide +kernel
theorem dX5_raise_20 : decode cX5_raise 20 = .ok (.invokestatic 119, 3) := by decide +kernel
theorem dX5_raise_23 : decode cX5_raise 23 = .ok (.isub, 1) := by decide +kernel
theorem dX5_raise_24 : decode cX5_raise 24 = .ok (.istore_n 1, 1) := by decide +kernel
theorem dX5_raise_25 : decode cX5_raise 25 = .ok (.aload_n 0, 1) := by decide +kernel
theorem dX5_raise_26 : decode cX5_raise 26 = .ok (.getfield 16, 3) := by decide +kernel
theorem dX5_raise_29 : decode cX5_raise 29 = .ok (.invokestatic 161, 3) := by decide +kernel
theorem dX5_raise_32 : decode cX5_raise 32 = .ok (.iload_n 1, 1) := by decide +kernel
theorem dX5_raise_33 : decode cX5_raise 33 = .ok (.ireturn, 1) := by decide +kernel
theorem dX5_read_0 : decode cX5_read 0 = .ok (.aload_n 0, 1) := by decide +kernel
theorem dX5_read_1 : decode cX5_read 1 = .ok (.aload_n 0, 1) := by decide +kernel
theorem dX5_read_2 : decode cX5_read 2 = .ok (.getfield 16, 3) := by decide +kernel
theorem dX5_read_5 : decode cX5_read 5 = .ok (.bipush 11, 2) := by decide +kernel
theorem dX5_read_7 : decode cX5_read 7 = .ok (.iaload, 1) := by decide +kernel
theorem dX5_read_8 : decode cX5_read 8 = .ok (.bipush 20, 2) := by decide +kernel
theorem dX5_read_10 : decode cX5_read 10 = .ok (.if_icmp .ne 7, 3) := by decide +kernel
theorem dX5_read_13 : decode cX5_read 13 = .ok (.iconst 1, 1) := by decide +kernel
theorem dX5_read_14 : decode cX5_read 14 = .ok (.goto 4, 3) := by decide +kernel
theorem dX5_read_17 : decode cX5_read 17 = .ok (.iconst 0, 1) := by decide +kernel
theorem dX5_read_18 : decode cX5_read 18 = .ok (.invokevirtual 82, 3) := by decide +kernel
theorem dX5_read_21 : decode cX5_read 21 = .ok (.ifCond .eq 5, 3) := by decide +kernel
theorem dX5_read_24 : decode cX5_read 24 = .ok (.iconst 0, 1) := by decide +kernel
theorem dX5_read_25 : decode cX5_read 25 = .ok (.ireturn, 1) := by decide +kernel
theorem dX5_read_26 : decode cX5_read 26 = .ok (.aload_n 0, 1) := by decide +kernel
theorem dX5_read_27 : decode cX5_read 27 = .ok (.invokevirtual 132, 3) := by decide +kernel
theorem dX5_read_30 : decode cX5_read 30 = .ok (.sipush 152, 3) := by decide +kernel
theorem dX5_read_33 : decode cX5_read 33 = .ok (.iconst 3, 1) := by decide +kernel
theorem dX5_read_34 : decode cX5_read 34 = .ok (.aload_n 0, 1) := by decide +kernel
theorem dX5_read_35 : decode cX5_read 35 = .ok (.getfield 16, 3) := by decide +kernel
theorem dX5_read_38 : decode cX5_read 38 = .ok (.bipush 11, 2) := by decide +kernel
theorem dX5_read_40 : decode cX5_read 40 = .ok (.iaload, 1) := by decide +kernel
theorem dX5_read_41 : decode cX5_read 41 = .ok (.imul, 1) := by decide +kernel
theorem dX5_read_42 : decode cX5_read 42 = .ok (.iadd, 1) := by decide +kernel
theorem dX5_read_43 : decode cX5_read 43 = .ok (.istore_n 1, 1) := by decide +kernel
theorem dX5_read_44 : decode cX5_read 44 = .ok (.aload_n 0, 1) := by decide +kernel
theorem dX5_read_45 : decode cX5_read 45 = .ok (.getfield 16, 3) := by decide +kernel
theorem dX5_read_48 : decode cX5_read 48 = .ok (.iload_n 1, 1) := by decide +kernel
theorem dX5_read_49 : decode cX5_read 49 = .ok (.aload_n 0, 1) := by decide +kernel
theorem dX5_read_50 : decode cX5_read 50 = .ok (.getfield 16, 3) := by decide +kernel
theorem dX5_read_53 : decode cX5_read 53 = .ok (.bipush 8, 2) := by decide +kernel
theorem dX5_read_55 : decode cX5_read 55 = .ok (.iaload, 1) := by decide +kernel
theorem dX5_read_56 : decode cX5_read 56 = .ok (.iastore, 1) := by decide +kernel
theorem dX5_read_57 : decode cX5_read 57 = .ok (.aload_n 0, 1) := by decide +kernel
theorem dX5_read_58 : decode cX5_read 58 = .ok (.getfield 16, 3) := by decide +kernel
theorem dX5_read_61 : decode cX5_read 61 = .ok (.iload_n 1, 1) := by decide +kernel
theorem dX5_read_62 : decode cX5_read 62 = .ok (.iconst 1, 1) := by decide +kernel
theorem dX5_read_63 : decode cX5_read 63 = .ok (.iadd, 1) := by decide +kernel
theorem dX5_read_64 : decode cX5_read 64 = .ok (.aload_n 0, 1) := by decide +kernel
theorem dX5_read_65 : decode cX5_read 65 = .ok (.getfield 16, 3) := by decide +kernel
theorem dX5_read_68 : decode cX5_read 68 = .ok (.iconst 5, 1) := by decide +kernel
theorem dX5_read_69 : decode cX5_read 69 = .ok (.iaload, 1) := by decide +kernel
theorem dX5_read_70 : decode cX5_read 70 = .ok (.iastore, 1) := by decide +kernel
theorem dX5_read_71 : decode cX5_read 71 = .ok (.aload_n 0, 1) := by decide +kernel
theorem dX5_read_72 : decode cX5_read 72 = .ok (.getfield 16, 3) := by decide +kernel
theorem dX5_read_75 : decode cX5_read 75 = .ok (.iload_n 1, 1) := by decide +kernel
theorem dX5_read_76 : decode cX5_read 76 = .ok (.iconst 2, 1) := by decide +kernel
theorem dX5_read_77 : decode cX5_read 77 = .ok (.iadd, 1) := by decide +kernel
theorem dX5_read_78 : decode cX5_read 78 = .ok (.aload_n 0, 1) := by decide +kernel
theorem dX5_read_79 : decode cX5_read 79 = .ok (.getfield 16, 3) := by decide +kernel
theorem dX5_read_82 : decode cX5_read 82 = .ok (.bipush 7, 2) := by decide +kernel
theorem dX5_read_84 : decode cX5_read 84 = .ok (.iaload, 1) := by decide +kernel
theorem dX5_read_85 : decode cX5_read 85 = .ok (.iastore, 1) := by decide +kernel
theorem dX5_read_86 : decode cX5_read 86 = .ok (.aload_n 0, 1) := by decide +kernel
theorem dX5_read_87 : decode cX5_read 87 = .ok (.getfield 16, 3) := by decide +kernel
theorem dX5_read_90 : decode cX5_read 90 = .ok (.bipush 11, 2) := by decide +kernel
theorem dX5_read_92 : decode cX5_read 92 = .ok (.dup2, 1) := by decide +kernel
theorem dX5_read_93 : decode cX5_read 93 = .ok (.iaload, 1) := by decide +kernel
theorem dX5_read_94 : decode cX5_read 94 = .ok (.iconst 1, 1) := by decide +kernel
theorem dX5_read_95 : decode cX5_read 95 = .ok (.iadd, 1) := by decide +kernel
theorem dX5_read_96 : decode cX5_read 96 = .ok (.iastore, 1) := by decide +kernel
theorem dX5_read_97 : decode cX5_read 97 = .ok (.aload_n 0, 1) := by decide +kernel
theorem dX5_read_98 : decode cX5_read 98 = .ok (.getfield 16, 3) := by decide +kernel
theorem dX5_read_101 : decode cX5_read 101 = .ok (.bipush 11, 2) := by decide +kernel
theorem dX5_read_103 : decode cX5_read 103 = .ok (.iaload, 1) := by decide +kernel
theorem dX5_read_104 : decode cX5_read 104 = .ok (.iconst 1, 1) := by decide +kernel
theorem dX5_read_105 : decode cX5_read 105 = .ok (.isub, 1) := by decide +kernel
theorem dX5_read_106 : decode cX5_read 106 = .ok (.ireturn, 1) := by decide +kernel
theorem dX5_undo_0 : decode cX5_undo 0 = .ok (.aload_n 0, 1) := by decide +kernel
theorem dX5_undo_1 : decode cX5_undo 1 = .ok (.aload_n 0, 1) := by decide +kernel
theorem dX5_undo_2 : decode cX5_undo 2 = .ok (.getfield 114, 3) := by decide +kernel
theorem dX5_undo_5 : decode cX5_undo 5 = .ok (.ifCond .ne 7, 3) := by decide +kernel
theorem dX5_undo_8 : decode cX5_undo 8 = .ok (.iconst 1, 1) := by decide +kernel
theorem dX5_undo_9 : decode cX5_undo 9 = .ok (.goto 4, 3) := by decide +kernel
theorem dX5_undo_12 : decode cX5_undo 12 = .ok (.iconst 0, 1) := by decide +kernel
theorem dX5_undo_13 : decode cX5_undo 13 = .ok (.invokevirtual 82, 3) := by decide +kernel
theorem dX5_undo_16 : decode cX5_undo 16 = .ok (.ifCond .eq 5, 3) := by decide +kernel
theorem dX5_undo_19 : decode cX5_undo 19 = .ok (.iconst 0, 1) := by decide +kernel
theorem dX5_undo_20 : decode cX5_undo 20 = .ok (.ireturn, 1) := by decide +kernel
theorem dX5_undo_21 : decode cX5_undo 21 = .ok (.aload_n 0, 1) := by decide +kernel
theorem dX5_undo_22 : decode cX5_undo 22 = .ok (.dup, 1) := by decide +kernel
theorem dX5_undo_23 : decode cX5_undo 23 = .ok (.getfield 114, 3) := by decide +kernel
theorem dX5_undo_26 : decode cX5_undo 26 = .ok (.iconst 1, 1) := by decide +kernel
theorem dX5_undo_27 : decode cX5_undo 27 = .ok (.isub, 1) := by decide +kernel
theorem dX5_undo_28 : decode cX5_undo 28 = .ok (.putfield 114, 3) := by decide +kernel
theorem dX5_undo_31 : decode cX5_undo 31 = .ok (.aload_n 0, 1) := by decide +kernel
theorem dX5_undo_32 : decode cX5_undo 32 = .ok (.getfield 22, 3) := by decide +kernel
theorem dX5_undo_35 : decode cX5_undo 35 = .ok (.sipush 212, 3) := by decide +kernel
theorem dX5_undo_38 : decode cX5_undo 38 = .ok (.aload_n 0, 1) := by decide +kernel
theorem dX5_undo_39 : decode cX5_undo 39 = .ok (.getfield 114, 3) := by decide +kernel
theorem dX5_undo_42 : decode cX5_undo 42 = .ok (.imul, 1) := by decide +kernel
theorem dX5_undo_43 : decode cX5_undo 43 = .ok (.aload_n 0, 1) := by decide +kernel
theorem dX5_undo_44 : decode cX5_undo 44 = .ok (.getfield 16, 3) := by decide +kernel
theorem dX5_undo_47 : decode cX5_undo 47 = .ok (.iconst 0, 1) := by decide +kernel
theorem dX5_undo_48 : decode cX5_undo 48 = .ok (.invokestatic 110, 3) := by decide +kernel
theorem dX5_undo_51 : decode cX5_undo 51 = .ok (.aload_n 0, 1) := by decide +kernel
theorem dX5_undo_52 : decode cX5_undo 52 = .ok (.getfield 114, 3) := by decide +kernel
theorem dX5_undo_55 : decode cX5_undo 55 = .ok (.ireturn, 1) := by decide +kernel
theorem dX5_pair_0 : decode cX5_pair 0 = .ok (.aload_n 0, 1) := by decide +kernel
theorem dX5_pair_1 : decode cX5_pair 1 = .ok (.iload_n 1, 1) := by decide +kernel
theorem dX5_pair_2 : decode cX5_pair 2 = .ok (.invokevirtual 127, 3) := by decide +kernel
theorem dX5_pair_5 : decode cX5_pair 5 = .ok (.ifCond .eq 11, 3) := by decide +kernel
theorem dX5_pair_8 : decode cX5_pair 8 = .ok (.aload_n 0, 1) := by decide +kernel
theorem dX5_pair_9 : decode cX5_pair 9 = .ok (.iload_n 2, 1) := by decide +kernel
theorem dX5_pair_10 : decode cX5_pair 10 = .ok (.invokevirtual 127, 3) := by decide +kernel
theorem dX5_pair_13 : decode cX5_pair 13 = .ok (.ifCond .ne 7, 3) := by decide +kernel
theorem dX5_pair_16 : decode cX5_pair 16 = .ok (.iconst 1, 1) := by decide +kernel
theorem dX5_pair_17 : decode cX5_pair 17 = .ok (.goto 13, 3) := by decide +kernel
theorem dX5_pair_20 : decode cX5_pair 20 = .ok (.iload_n 2, 1) := by decide +kernel
theorem dX5_pair_21 : decode cX5_pair 21 = .ok (.iload_n 1, 1) := by decide +kernel
theorem dX5_pair_22 : decode cX5_pair 22 = .ok (.if_icmp .gt 7, 3) := by decide +kernel
theorem dX5_pair_25 : decode cX5_pair 25 = .ok (.iconst 2, 1) := by decide +kernel
theorem dX5_pair_26 : decode cX5_pair 26 = .ok (.goto 4, 3) := by decide +kernel
theorem dX5_pair_29 : decode cX5_pair 29 = .ok (.iconst 0, 1) := by decide +kernel
theorem dX5_pair_30 : decode cX5_pair 30 = .ok (.ireturn, 1) := by decide +kernel
theorem dX5_moveOf_0 : decode cX5_moveOf 0 = .ok (.aload_n 0, 1) := by decide +kernel
theorem dX5_moveOf_1 : decode cX5_moveOf 1 = .ok (.getfield 16, 3) := by decide +kernel
theorem dX5_moveOf_4 : decode cX5_moveOf 4 = .ok (.sipush 152, 3) := by decide +kernel
theorem dX5_moveOf_7 : decode cX5_moveOf 7 = .ok (.iconst 3, 1) := by decide +kernel
theorem dX5_moveOf_8 : decode cX5_moveOf 8 = .ok (.iload_n 2, 1) := by decide +kernel
theorem dX5_moveOf_9 : decode cX5_moveOf 9 = .ok (.imul, 1) := by decide +kernel
theorem dX5_moveOf_10 : decode cX5_moveOf 10 = .ok (.iadd, 1) := by decide +kernel
theorem dX5_moveOf_11 : decode cX5_moveOf 11 = .ok (.iconst 1, 1) := by decide +kernel
theorem dX5_moveOf_12 : decode cX5_moveOf 12 = .ok (.iadd, 1) := by decide +kernel
theorem dX5_moveOf_13 : decode cX5_moveOf 13 = .ok (.iaload, 1) := by decide +kernel
theorem dX5_moveOf_14 : decode cX5_moveOf 14 = .ok (.aload_n 0, 1) := by decide +kernel
theorem dX5_moveOf_15 : decode cX5_moveOf 15 = .ok (.getfield 16, 3) := by decide +kernel
theorem dX5_moveOf_18 : decode cX5_moveOf 18 = .ok (.sipush 152, 3) := by decide +kernel
theorem dX5_moveOf_21 : decode cX5_moveOf 21 = .ok (.iconst 3, 1) := by decide +kernel
theorem dX5_moveOf_22 : decode cX5_moveOf 22 = .ok (.iload_n 1, 1) := by decide +kernel
theorem dX5_moveOf_23 : decode cX5_moveOf 23 = .ok (.imul, 1) := by decide +kernel
theorem dX5_moveOf_24 : decode cX5_moveOf 24 = .ok (.iadd, 1) := by decide +kernel
theorem dX5_moveOf_25 : decode cX5_moveOf 25 = .ok (.iconst 1, 1) := by decide +kernel
theorem dX5_moveOf_26 : decode cX5_moveOf 26 = .ok (.iadd, 1) := by decide +kernel
theorem dX5_moveOf_27 : decode cX5_moveOf 27 = .ok (.iaload, 1) := by decide +kernel
theorem dX5_moveOf_28 : decode cX5_moveOf 28 = .ok (.isub, 1) := by decide +kernel
theorem dX5_moveOf_29 : decode cX5_moveOf 29 = .ok (.invokestatic 59, 3) := by decide +kernel
theorem dX5_moveOf_32 : decode cX5_moveOf 32 = .ok (.ireturn, 1) := by decide +kernel
theorem dX5_move_0 : decode cX5_move 0 = .ok (.aload_n 0, 1) := by decide +kernel
theorem dX5_move_1 : decode cX5_move 1 = .ok (.aload_n 0, 1) := by decide +kernel
theorem dX5_move_2 : decode cX5_move 2 = .ok (.iload_n 1, 1) := by decide +kernel
theorem dX5_move_3 : decode cX5_move 3 = .ok (.iload_n 2, 1) := by decide +kernel
theorem dX5_move_4 : decode cX5_move 4 = .ok (.invokevirtual 164, 3) := by decide +kernel
theorem dX5_move_7 : decode cX5_move 7 = .ok (.invokevirtual 82, 3) := by decide +kernel
theorem dX5_move_10 : decode cX5_move 10 = .ok (.ifCond .eq 7, 3) := by decide +kernel
theorem dX5_move_13 : decode cX5_move 13 = .ok (.iconst 0, 1) := by decide +kernel
theorem dX5_move_14 : decode cX5_move 14 = .ok (.goto 9, 3) := by decide +kernel
theorem dX5_move_17 : decode cX5_move 17 = .ok (.aload_n 0, 1) := by decide +kernel
theorem dX5_move_18 : decode cX5_move 18 = .ok (.iload_n 1, 1) := by decide +kernel
theorem dX5_move_19 : decode cX5_move 19 = .ok (.iload_n 2, 1) := by decide +kernel
theorem dX5_move_20 : decode cX5_move 20 = .ok (.invokevirtual 168, 3) := by decide +kernel
theorem dX5_move_23 : decode cX5_move 23 = .ok (.ireturn, 1) := by decide +kernel
theorem dX5_time_0 : decode cX5_time 0 = .ok (.aload_n 0, 1) := by decide +kernel
theorem dX5_time_1 : decode cX5_time 1 = .ok (.aload_n 0, 1) := by decide +kernel
theorem dX5_time_2 : decode cX5_time 2 = .ok (.iload_n 1, 1) := by decide +kernel
theorem dX5_time_3 : decode cX5_time 3 = .ok (.iload_n 2, 1) := by decide +kernel
theorem dX5_time_4 : decode cX5_time 4 = .ok (.invokevirtual 164, 3) := by decide +kernel
theorem dX5_time_7 : decode cX5_time 7 = .ok (.invokevirtual 82, 3) := by decide +kernel
theorem dX5_time_10 : decode cX5_time 10 = .ok (.ifCond .eq 5, 3) := by decide +kernel
theorem dX5_time_13 : decode cX5_time 13 = .ok (.iconst 0, 1) := by decide +kernel
theorem dX5_time_14 : decode cX5_time 14 = .ok (.ireturn, 1) := by decide +kernel
theorem dX5_time_15 : decode cX5_time 15 = .ok (.aload_n 0, 1) := by decide +kernel
theorem dX5_time_16 : decode cX5_time 16 = .ok (.aload_n 0, 1) := by decide +kernel
theorem dX5_time_17 : decode cX5_time 17 = .ok (.getfield 16, 3) := by decide +kernel
theorem dX5_time_20 : decode cX5_time 20 = .ok (.iconst 0, 1) := by decide +kernel
theorem dX5_time_21 : decode cX5_time 21 = .ok (.iaload, 1) := by decide +kernel
theorem dX5_time_22 : decode cX5_time 22 = .ok (.invokevirtual 67, 3) := by decide +kernel
theorem dX5_time_25 : decode cX5_time 25 = .ok (.istore_n 3, 1) := by decide +kernel
theorem dX5_time_26 : decode cX5_time 26 = .ok (.aload_n 0, 1) := by decide +kernel
theorem dX5_time_27 : decode cX5_time 27 = .ok (.iload_n 1, 1) := by decide +kernel
theorem dX5_time_28 : decode cX5_time 28 = .ok (.iload_n 2, 1) := by decide +kernel
theorem dX5_time_29 : decode cX5_time 29 = .ok (.invokevirtual 168, 3) := by decide +kernel
theorem dX5_time_32 : decode cX5_time 32 = .ok (.istore 4, 2) := by decide +kernel
theorem dX5_time_34 : decode cX5_time 34 = .ok (.iload_n 3, 1) := by decide +kernel
theorem dX5_time_35 : decode cX5_time 35 = .ok (.ifCond .ne 6, 3) := by decide +kernel
theorem dX5_time_38 : decode cX5_time 38 = .ok (.bipush (-9), 2) := by decide +kernel
theorem dX5_time_40 : decode cX5_time 40 = .ok (.ireturn, 1) := by decide +kernel
theorem dX5_time_41 : decode cX5_time 41 = .ok (.iload_n 3, 1) := by decide +kernel
theorem dX5_time_42 : decode cX5_time 42 = .ok (.ifCond .le 9, 3) := by decide +kernel
theorem dX5_time_45 : decode cX5_time 45 = .ok (.iload 4, 2) := by decide +kernel
theorem dX5_time_47 : decode cX5_time 47 = .ok (.i2l, 1) := by decide +kernel
theorem dX5_time_48 : decode cX5_time 48 = .ok (.goto 19, 3) := by decide +kernel
theorem dX5_time_51 : decode cX5_time 51 = .ok (.iload 4, 2) := by decide +kernel
theorem dX5_time_53 : decode cX5_time 53 = .ok (.ifCond .ne 7, 3) := by decide +kernel
theorem dX5_time_56 : decode cX5_time 56 = .ok (.lconst 0, 1) := by decide +kernel
theorem dX5_time_57 : decode cX5_time 57 = .ok (.goto 10, 3) := by decide +kernel
theorem dX5_time_60 : decode cX5_time 60 = .ok (.sipush 10800, 3) := by decide +kernel
theorem dX5_time_63 : decode cX5_time 63 = .ok (.iload 4, 2) := by decide +kernel
theorem dX5_time_65 : decode cX5_time 65 = .ok (.isub, 1) := by decide +kernel
theorem dX5_time_66 : decode cX5_time 66 = .ok (.i2l, 1) := by decide +kernel
theorem dX5_time_67 : decode cX5_time 67 = .ok (.lstore 5, 2) := by decide +kernel
theorem dX5_time_69 : decode cX5_time 69 = .ok (.lload 5, 2) := by decide +kernel
theorem dX5_time_71 : decode cX5_time 71 = .ok (.ldc2_w 171, 3) := by decide +kernel
theorem dX5_time_74 : decode cX5_time 74 = .ok (.lmul, 1) := by decide +kernel
theorem dX5_time_75 : decode cX5_time 75 = .ok (.ldc2_w 53, 3) := by decide +kernel
theorem dX5_time_78 : decode cX5_time 78 = .ok (.iload_n 3, 1) := by decide +kernel
theorem dX5_time_79 : decode cX5_time 79 = .ok (.ifCond .ge 8, 3) := by decide +kernel
theorem dX5_time_82 : decode cX5_time 82 = .ok (.iload_n 3, 1) := by decide +kernel
theorem dX5_time_83 : decode cX5_time 83 = .ok (.ineg, 1) := by decide +kernel
theorem dX5_time_84 : decode cX5_time 84 = .ok (.goto 4, 3) := by decide +kernel
theorem dX5_time_87 : decode cX5_time 87 = .ok (.iload_n 3, 1) := by decide +kernel
theorem dX5_time_88 : decode cX5_time 88 = .ok (.i2l, 1) := by decide +kernel
theorem dX5_time_89 : decode cX5_time 89 = .ok (.lmul, 1) := by decide +kernel
theorem dX5_time_90 : decode cX5_time 90 = .ok (.ldiv, 1) := by decide +kernel
theorem dX5_time_91 : decode cX5_time 91 = .ok (.l2i, 1) := by decide +kernel
theorem dX5_time_92 : decode cX5_time 92 = .ok (.ireturn, 1) := by decide +kernel
theorem dX5_miss_0 : decode cX5_miss 0 = .ok (.aload_n 0, 1) := by decide +kernel
theorem dX5_miss_1 : decode cX5_miss 1 = .ok (.getfield 16, 3) := by decide +kernel
theorem dX5_miss_4 : decode cX5_miss 4 = .ok (.sipush 152, 3) := by decide +kernel
theorem dX5_miss_7 : decode cX5_miss 7 = .ok (.iconst 3, 1) := by decide +kernel
theorem dX5_miss_8 : decode cX5_miss 8 = .ok (.iload_n 2, 1) := by decide +kernel
theorem dX5_miss_9 : decode cX5_miss 9 = .ok (.imul, 1) := by decide +kernel
theorem dX5_miss_10 : decode cX5_miss 10 = .ok (.iadd, 1) := by decide +kernel
theorem dX5_miss_11 : decode cX5_miss 11 = .ok (.iaload, 1) := by decide +kernel
theorem dX5_miss_12 : decode cX5_miss 12 = .ok (.aload_n 0, 1) := by decide +kernel
theorem dX5_miss_13 : decode cX5_miss 13 = .ok (.getfield 16, 3) := by decide +kernel
theorem dX5_miss_16 : decode cX5_miss 16 = .ok (.sipush 152, 3) := by decide +kernel
theorem dX5_miss_19 : decode cX5_miss 19 = .ok (.iconst 3, 1) := by decide +kernel
theorem dX5_miss_20 : decode cX5_miss 20 = .ok (.iload_n 1, 1) := by decide +kernel
theorem dX5_miss_21 : decode cX5_miss 21 = .ok (.imul, 1) := by decide +kernel
theorem dX5_miss_22 : decode cX5_miss 22 = .ok (.iadd, 1) := by decide +kernel
theorem dX5_miss_23 : decode cX5_miss 23 = .ok (.iaload, 1) := by decide +kernel
theorem dX5_miss_24 : decode cX5_miss 24 = .ok (.isub, 1) := by decide +kernel
theorem dX5_miss_25 : decode cX5_miss 25 = .ok (.i2l, 1) := by decide +kernel
theorem dX5_miss_26 : decode cX5_miss 26 = .ok (.lstore 4, 2) := by decide +kernel
theorem dX5_miss_28 : decode cX5_miss 28 = .ok (.ldc2_w 53, 3) := by decide +kernel
theorem dX5_miss_31 : decode cX5_miss 31 = .ok (.aload_n 0, 1) := by decide +kernel
theorem dX5_miss_32 : decode cX5_miss 32 = .ok (.iload_n 3, 1) := by decide +kernel
theorem dX5_miss_33 : decode cX5_miss 33 = .ok (.invokevirtual 67, 3) := by decide +kernel
theorem dX5_miss_36 : decode cX5_miss 36 = .ok (.i2l, 1) := by decide +kernel
theorem dX5_miss_37 : decode cX5_miss 37 = .ok (.lmul, 1) := by decide +kernel
theorem dX5_miss_38 : decode cX5_miss 38 = .ok (.lload 4, 2) := by decide +kernel
theorem dX5_miss_40 : decode cX5_miss 40 = .ok (.lmul, 1) := by decide +kernel
theorem dX5_miss_41 : decode cX5_miss 41 = .ok (.lstore 6, 2) := by decide +kernel
theorem dX5_miss_43 : decode cX5_miss 43 = .ok (.ldc2_w 173, 3) := by decide +kernel
theorem dX5_miss_46 : decode cX5_miss 46 = .ok (.aload_n 0, 1) := by decide +kernel
theorem dX5_miss_47 : decode cX5_miss 47 = .ok (.getfield 16, 3) := by decide +kernel
theorem dX5_miss_50 : decode cX5_miss 50 = .ok (.iconst 1, 1) := by decide +kernel
theorem dX5_miss_51 : decode cX5_miss 51 = .ok (.iaload, 1) := by decide +kernel
theorem dX5_miss_52 : decode cX5_miss 52 = .ok (.i2l, 1) := by decide +kernel
theorem dX5_miss_53 : decode cX5_miss 53 = .ok (.lmul, 1) := by decide +kernel
theorem dX5_miss_54 : decode cX5_miss 54 = .ok (.lstore 8, 2) := by decide +kernel
theorem dX5_miss_56 : decode cX5_miss 56 = .ok (.lload 6, 2) := by decide +kernel
theorem dX5_miss_58 : decode cX5_miss 58 = .ok (.lload 8, 2) := by decide +kernel
theorem dX5_miss_60 : decode cX5_miss 60 = .ok (.ldiv, 1) := by decide +kernel
theorem dX5_miss_61 : decode cX5_miss 61 = .ok (.lstore 10, 2) := by decide +kernel
theorem dX5_miss_63 : decode cX5_miss 63 = .ok (.lload 10, 2) := by decide +kernel
theorem dX5_miss_65 : decode cX5_miss 65 = .ok (.lload 6, 2) := by decide +kernel
theorem dX5_miss_67 : decode cX5_miss 67 = .ok (.lconst 0, 1) := by decide +kernel
theorem dX5_miss_68 : decode cX5_miss 68 = .ok (.lcmp, 1) := by decide +kernel
theorem dX5_miss_69 : decode cX5_miss 69 = .ok (.ifCond .ge 17, 3) := by decide +kernel
theorem dX5_miss_72 : decode cX5_miss 72 = .ok (.lload 6, 2) := by decide +kernel
theorem dX5_miss_74 : decode cX5_miss 74 = .ok (.lload 8, 2) := by decide +kernel
theorem dX5_miss_76 : decode cX5_miss 76 = .ok (.lrem, 1) := by decide +kernel
theorem dX5_miss_77 : decode cX5_miss 77 = .ok (.lconst 0, 1) := by decide +kernel
theorem dX5_miss_78 : decode cX5_miss 78 = .ok (.lcmp, 1) := by decide +kernel
theorem dX5_miss_79 : decode cX5_miss 79 = .ok (.ifCond .eq 7, 3) := by decide +kernel
theorem dX5_miss_82 : decode cX5_miss 82 = .ok (.lconst 1, 1) := by decide +kernel
theorem dX5_miss_83 : decode cX5_miss 83 = .ok (.goto 4, 3) := by decide +kernel
theorem dX5_miss_86 : decode cX5_miss 86 = .ok (.lconst 0, 1) := by decide +kernel
theorem dX5_miss_87 : decode cX5_miss 87 = .ok (.lsub, 1) := by decide +kernel
theorem dX5_miss_88 : decode cX5_miss 88 = .ok (.lstore 10, 2) := by decide +kernel
theorem dX5_miss_90 : decode cX5_miss 90 = .ok (.aload_n 0, 1) := by decide +kernel
theorem dX5_miss_91 : decode cX5_miss 91 = .ok (.getfield 16, 3) := by decide +kernel
theorem dX5_miss_94 : decode cX5_miss 94 = .ok (.sipush 152, 3) := by decide +kernel
theorem dX5_miss_97 : decode cX5_miss 97 = .ok (.iconst 3, 1) := by decide +kernel
theorem dX5_miss_98 : decode cX5_miss 98 = .ok (.iload_n 1, 1) := by decide +kernel
theorem dX5_miss_99 : decode cX5_miss 99 = .ok (.imul, 1) := by decide +kernel
theorem dX5_miss_100 : decode cX5_miss 100 = .ok (.iadd, 1) := by decide +kernel
theorem dX5_miss_101 : decode cX5_miss 101 = .ok (.iconst 1, 1) := by decide +kernel
theorem dX5_miss_102 : decode cX5_miss 102 = .ok (.iadd, 1) := by decide +kernel
theorem dX5_miss_103 : decode cX5_miss 103 = .ok (.iaload, 1) := by decide +kernel
theorem dX5_miss_104 : decode cX5_miss 104 = .ok (.i2l, 1) := by decide +kernel
theorem dX5_miss_105 : decode cX5_miss 105 = .ok (.lload 10, 2) := by decide +kernel
theorem dX5_miss_107 : decode cX5_miss 107 = .ok (.ladd, 1) := by decide +kernel
theorem dX5_miss_108 : decode cX5_miss 108 = .ok (.ldc2_w 175, 3) := by decide +kernel
theorem dX5_miss_111 : decode cX5_miss 111 = .ok (.lrem, 1) := by decide +kernel
theorem dX5_miss_112 : decode cX5_miss 112 = .ok (.l2i, 1) := by decide +kernel
theorem dX5_miss_113 : decode cX5_miss 113 = .ok (.aload_n 0, 1) := by decide +kernel
theorem dX5_miss_114 : decode cX5_miss 114 = .ok (.getfield 16, 3) := by decide +kernel
theorem dX5_miss_117 : decode cX5_miss 117 = .ok (.sipush 152, 3) := by decide +kernel
theorem dX5_miss_120 : decode cX5_miss 120 = .ok (.iconst 3, 1) := by decide +kernel
theorem dX5_miss_121 : decode cX5_miss 121 = .ok (.iload_n 2, 1) := by decide +kernel
theorem dX5_miss_122 : decode cX5_miss 122 = .ok (.imul, 1) := by decide +kernel
theorem dX5_miss_123 : decode cX5_miss 123 = .ok (.iadd, 1) := by decide +kernel
theorem dX5_miss_124 : decode cX5_miss 124 = .ok (.iconst 1, 1) := by decide +kernel
theorem dX5_miss_125 : decode cX5_miss 125 = .ok (.iadd, 1) := by decide +kernel
theorem dX5_miss_126 : decode cX5_miss 126 = .ok (.iaload, 1) := by decide +kernel
theorem dX5_miss_127 : decode cX5_miss 127 = .ok (.isub, 1) := by decide +kernel
theorem dX5_miss_128 : decode cX5_miss 128 = .ok (.invokestatic 59, 3) := by decide +kernel
theorem dX5_miss_131 : decode cX5_miss 131 = .ok (.istore 12, 2) := by decide +kernel
theorem dX5_miss_133 : decode cX5_miss 133 = .ok (.iload 12, 2) := by decide +kernel
theorem dX5_miss_135 : decode cX5_miss 135 = .ok (.sipush 5400, 3) := by decide +kernel
theorem dX5_miss_138 : decode cX5_miss 138 = .ok (.if_icmp .le 12, 3) := by decide +kernel
theorem dX5_miss_141 : decode cX5_miss 141 = .ok (.sipush 10800, 3) := by decide +kernel
theorem dX5_miss_144 : decode cX5_miss 144 = .ok (.iload 12, 2) := by decide +kernel
theorem dX5_miss_146 : decode cX5_miss 146 = .ok (.isub, 1) := by decide +kernel
theorem dX5_miss_147 : decode cX5_miss 147 = .ok (.goto 5, 3) := by decide +kernel
theorem dX5_miss_150 : decode cX5_miss 150 = .ok (.iload 12, 2) := by decide +kernel
theorem dX5_miss_152 : decode cX5_miss 152 = .ok (.ireturn, 1) := by decide +kernel
theorem dX5_latitudeFrom_0 : decode cX5_latitudeFrom 0 = .ok (.aload_n 0, 1) := by decide +kernel
theorem dX5_latitudeFrom_1 : decode cX5_latitudeFrom 1 = .ok (.aload_n 0, 1) := by decide +kernel
theorem dX5_latitudeFrom_2 : decode cX5_latitudeFrom 2 = .ok (.iload_n 1, 1) := by decide +kernel
theorem dX5_latitudeFrom_3 : decode cX5_latitudeFrom 3 = .ok (.iload_n 2, 1) := by decide +kernel
theorem dX5_latitudeFrom_4 : decode cX5_latitudeFrom 4 = .ok (.invokevirtual 164, 3) := by decide +kernel
theorem dX5_latitudeFrom_7 : decode cX5_latitudeFrom 7 = .ok (.invokevirtual 82, 3) := by decide +kernel
theorem dX5_latitudeFrom_10 : decode cX5_latitudeFrom 10 = .ok (.ifCond .eq 5, 3) := by decide +kernel
theorem dX5_latitudeFrom_13 : decode cX5_latitudeFrom 13 = .ok (.iconst 0, 1) := by decide +kernel
theorem dX5_latitudeFrom_14 : decode cX5_latitudeFrom 14 = .ok (.ireturn, 1) := by decide +kernel
theorem dX5_latitudeFrom_15 : decode cX5_latitudeFrom 15 = .ok (.iconst 0, 1) := by decide +kernel
theorem dX5_latitudeFrom_16 : decode cX5_latitudeFrom 16 = .ok (.istore_n 3, 1) := by decide +kernel
theorem dX5_latitudeFrom_17 : decode cX5_latitudeFrom 17 = .ok (.aload_n 0, 1) := by decide +kernel
theorem dX5_latitudeFrom_18 : decode cX5_latitudeFrom 18 = .ok (.iload_n 1, 1) := by decide +kernel
theorem dX5_latitudeFrom_19 : decode cX5_latitudeFrom 19 = .ok (.iload_n 2, 1) := by decide +kernel
theorem dX5_latitudeFrom_20 : decode cX5_latitudeFrom 20 = .ok (.iconst 0, 1) := by decide +kernel
theorem dX5_latitudeFrom_21 : decode cX5_latitudeFrom 21 = .ok (.invokevirtual 177, 3) := by decide +kernel
theorem dX5_latitudeFrom_24 : decode cX5_latitudeFrom 24 = .ok (.istore 4, 2) := by decide +kernel
theorem dX5_latitudeFrom_26 : decode cX5_latitudeFrom 26 = .ok (.iconst 2, 1) := by decide +kernel
theorem dX5_latitudeFrom_27 : decode cX5_latitudeFrom 27 = .ok (.istore 5, 2) := by decide +kernel
theorem dX5_latitudeFrom_29 : decode cX5_latitudeFrom 29 = .ok (.iload 5, 2) := by decide +kernel
theorem dX5_latitudeFrom_31 : decode cX5_latitudeFrom 31 = .ok (.sipush 181, 3) := by decide +kernel
theorem dX5_latitudeFrom_34 : decode cX5_latitudeFrom 34 = .ok (.if_icmp .gt 70, 3) := by decide +kernel
theorem dX5_latitudeFrom_37 : decode cX5_latitudeFrom 37 = .ok (.iload 5, 2) := by decide +kernel
theorem dX5_latitudeFrom_39 : decode cX5_latitudeFrom 39 = .ok (.iconst 2, 1) := by decide +kernel
theorem dX5_latitudeFrom_40 : decode cX5_latitudeFrom 40 = .ok (.irem, 1) := by decide +kernel
theorem dX5_latitudeFrom_41 : decode cX5_latitudeFrom 41 = .ok (.ifCond .ne 10, 3) := by decide +kernel
theorem dX5_latitudeFrom_44 : decode cX5_latitudeFrom 44 = .ok (.iload 5, 2) := by decide +kernel
theorem dX5_latitudeFrom_46 : decode cX5_latitudeFrom 46 = .ok (.iconst 2, 1) := by decide +kernel
theorem dX5_latitudeFrom_47 : decode cX5_latitudeFrom 47 = .ok (.idiv, 1) := by decide +kernel
theorem dX5_latitudeFrom_48 : decode cX5_latitudeFrom 48 = .ok (.goto 8, 3) := by decide +kernel
theorem dX5_latitudeFrom_51 : decode cX5_latitudeFrom 51 = .ok (.iload 5, 2) := by decide +kernel
theorem dX5_latitudeFrom_53 : decode cX5_latitudeFrom 53 = .ok (.iconst 2, 1) := by decide +kernel
theorem dX5_latitudeFrom_54 : decode cX5_latitudeFrom 54 = .ok (.idiv, 1) := by decide +kernel
theorem dX5_latitudeFrom_55 : decode cX5_latitudeFrom 55 = .ok (.ineg, 1) := by decide +kernel
theorem dX5_latitudeFrom_56 : decode cX5_latitudeFrom 56 = .ok (.istore 6, 2) := by decide +kernel
theorem dX5_latitudeFrom_58 : decode cX5_latitudeFrom 58 = .ok (.aload_n 0, 1) := by decide +kernel
theorem dX5_latitudeFrom_59 : decode cX5_latitudeFrom 59 = .ok (.iload_n 1, 1) := by decide +kernel
theorem dX5_latitudeFrom_60 : decode cX5_latitudeFrom 60 = .ok (.iload_n 2, 1) := by decide +kernel
theorem dX5_latitudeFrom_61 : decode cX5_latitudeFrom 61 = .ok (.iload 6, 2) := by decide +kernel
theorem dX5_latitudeFrom_63 : decode cX5_latitudeFrom 63 = .ok (.invokevirtual 177, 3) := by decide +kernel
theorem dX5_latitudeFrom_66 : decode cX5_latitudeFrom 66 = .ok (.istore 7, 2) := by decide +kernel
theorem dX5_latitudeFrom_68 : decode cX5_latitudeFrom 68 = .ok (.iload 7, 2) := by decide +kernel
theorem dX5_latitudeFrom_70 : decode cX5_latitudeFrom 70 = .ok (.iload 4, 2) := by decide +kernel
theorem dX5_latitudeFrom_72 : decode cX5_latitudeFrom 72 = .ok (.if_icmp .ge 8, 3) := by decide +kernel
theorem dX5_latitudeFrom_75 : decode cX5_latitudeFrom 75 = .ok (.iload 6, 2) := by decide +kernel
theorem dX5_latitudeFrom_77 : decode cX5_latitudeFrom 77 = .ok (.goto 4, 3) := by decide +kernel
theorem dX5_latitudeFrom_80 : decode cX5_latitudeFrom 80 = .ok (.iload_n 3, 1) := by decide +kernel
theorem dX5_latitudeFrom_81 : decode cX5_latitudeFrom 81 = .ok (.istore_n 3, 1) := by decide +kernel
theorem dX5_latitudeFrom_82 : decode cX5_latitudeFrom 82 = .ok (.iload 7, 2) := by decide +kernel
theorem dX5_latitudeFrom_84 : decode cX5_latitudeFrom 84 = .ok (.iload 4, 2) := by decide +kernel
theorem dX5_latitudeFrom_86 : decode cX5_latitudeFrom 86 = .ok (.if_icmp .ge 8, 3) := by decide +kernel
theorem dX5_latitudeFrom_89 : decode cX5_latitudeFrom 89 = .ok (.iload 7, 2) := by decide +kernel
theorem dX5_latitudeFrom_91 : decode cX5_latitudeFrom 91 = .ok (.goto 5, 3) := by decide +kernel
theorem dX5_latitudeFrom_94 : decode cX5_latitudeFrom 94 = .ok (.iload 4, 2) := by decide +kernel
theorem dX5_latitudeFrom_96 : decode cX5_latitudeFrom 96 = .ok (.istore 4, 2) := by decide +kernel
theorem dX5_latitudeFrom_98 : decode cX5_latitudeFrom 98 = .ok (.iinc 5 1, 3) := by decide +kernel
theorem dX5_latitudeFrom_101 : decode cX5_latitudeFrom 101 = .ok (.goto (-72), 3) := by decide +kernel
theorem dX5_latitudeFrom_104 : decode cX5_latitudeFrom 104 = .ok (.iload_n 3, 1) := by decide +kernel
theorem dX5_latitudeFrom_105 : decode cX5_latitudeFrom 105 = .ok (.ireturn, 1) := by decide +kernel
theorem dX5_ahead_0 : decode cX5_ahead 0 = .ok (.aload_n 0, 1) := by decide +kernel
theorem dX5_ahead_1 : decode cX5_ahead 1 = .ok (.iload_n 1, 1) := by decide +kernel
theorem dX5_ahead_2 : decode cX5_ahead 2 = .ok (.i2l, 1) := by decide +kernel
theorem dX5_ahead_3 : decode cX5_ahead 3 = .ok (.lconst 0, 1) := by decide +kernel
theorem dX5_ahead_4 : decode cX5_ahead 4 = .ok (.ldc2_w 130, 3) := by decide +kernel
theorem dX5_ahead_7 : decode cX5_ahead 7 = .ok (.invokestatic 47, 3) := by decide +kernel
theorem dX5_ahead_10 : decode cX5_ahead 10 = .ok (.ifCond .eq 19, 3) := by decide +kernel
theorem dX5_ahead_13 : decode cX5_ahead 13 = .ok (.iload_n 2, 1) := by decide +kernel
theorem dX5_ahead_14 : decode cX5_ahead 14 = .ok (.i2l, 1) := by decide +kernel
theorem dX5_ahead_15 : decode cX5_ahead 15 = .ok (.lconst 0, 1) := by decide +kernel
theorem dX5_ahead_16 : decode cX5_ahead 16 = .ok (.ldc2_w 181, 3) := by decide +kernel
theorem dX5_ahead_19 : decode cX5_ahead 19 = .ok (.invokestatic 47, 3) := by decide +kernel
theorem dX5_ahead_22 : decode cX5_ahead 22 = .ok (.ifCond .eq 7, 3) := by decide +kernel
theorem dX5_ahead_25 : decode cX5_ahead 25 = .ok (.iconst 0, 1) := by decide +kernel
theorem dX5_ahead_26 : decode cX5_ahead 26 = .ok (.goto 4, 3) := by decide +kernel
theorem dX5_ahead_29 : decode cX5_ahead 29 = .ok (.iconst 1, 1) := by decide +kernel
theorem dX5_ahead_30 : decode cX5_ahead 30 = .ok (.invokevirtual 82, 3) := by decide +kernel
theorem dX5_ahead_33 : decode cX5_ahead 33 = .ok (.ifCond .eq 5, 3) := by decide +kernel
theorem dX5_ahead_36 : decode cX5_ahead 36 = .ok (.iconst 0, 1) := by decide +kernel
theorem dX5_ahead_37 : decode cX5_ahead 37 = .ok (.ireturn, 1) := by decide +kernel
theorem dX5_ahead_38 : decode cX5_ahead 38 = .ok (.aload_n 0, 1) := by decide +kernel
theorem dX5_ahead_39 : decode cX5_ahead 39 = .ok (.getfield 16, 3) := by decide +kernel
theorem dX5_ahead_42 : decode cX5_ahead 42 = .ok (.iconst 0, 1) := by decide +kernel
theorem dX5_ahead_43 : decode cX5_ahead 43 = .ok (.aload_n 0, 1) := by decide +kernel
theorem dX5_ahead_44 : decode cX5_ahead 44 = .ok (.getfield 19, 3) := by decide +kernel
theorem dX5_ahead_47 : decode cX5_ahead 47 = .ok (.iconst 0, 1) := by decide +kernel
theorem dX5_ahead_48 : decode cX5_ahead 48 = .ok (.invokestatic 110, 3) := by decide +kernel
theorem dX5_ahead_51 : decode cX5_ahead 51 = .ok (.aload_n 0, 1) := by decide +kernel
theorem dX5_ahead_52 : decode cX5_ahead 52 = .ok (.aload_n 0, 1) := by decide +kernel
theorem dX5_ahead_53 : decode cX5_ahead 53 = .ok (.getfield 19, 3) := by decide +kernel
theorem dX5_ahead_56 : decode cX5_ahead 56 = .ok (.iload_n 1, 1) := by decide +kernel
theorem dX5_ahead_57 : decode cX5_ahead 57 = .ok (.invokevirtual 135, 3) := by decide +kernel
theorem dX5_ahead_60 : decode cX5_ahead 60 = .ok (.istore_n 3, 1) := by decide +kernel
theorem dX5_ahead_61 : decode cX5_ahead 61 = .ok (.iload_n 2, 1) := by decide +kernel
theorem dX5_ahead_62 : decode cX5_ahead 62 = .ok (.ifCond .ne 12, 3) := by decide +kernel
theorem dX5_ahead_65 : decode cX5_ahead 65 = .ok (.aload_n 0, 1) := by decide +kernel
theorem dX5_ahead_66 : decode cX5_ahead 66 = .ok (.getfield 19, 3) := by decide +kernel
theorem dX5_ahead_69 : decode cX5_ahead 69 = .ok (.iconst 5, 1) := by decide +kernel
theorem dX5_ahead_70 : decode cX5_ahead 70 = .ok (.iaload, 1) := by decide +kernel
theorem dX5_ahead_71 : decode cX5_ahead 71 = .ok (.goto 34, 3) := by decide +kernel
theorem dX5_ahead_74 : decode cX5_ahead 74 = .ok (.iload_n 2, 1) := by decide +kernel
theorem dX5_ahead_75 : decode cX5_ahead 75 = .ok (.iconst 1, 1) := by decide +kernel
theorem dX5_ahead_76 : decode cX5_ahead 76 = .ok (.if_icmp .ne 13, 3) := by decide +kernel
theorem dX5_ahead_79 : decode cX5_ahead 79 = .ok (.aload_n 0, 1) := by decide +kernel
theorem dX5_ahead_80 : decode cX5_ahead 80 = .ok (.getfield 19, 3) := by decide +kernel
theorem dX5_ahead_83 : decode cX5_ahead 83 = .ok (.bipush 7, 2) := by decide +kernel
theorem dX5_ahead_85 : decode cX5_ahead 85 = .ok (.iaload, 1) := by decide +kernel
theorem dX5_ahead_86 : decode cX5_ahead 86 = .ok (.goto 19, 3) := by decide +kernel
theorem dX5_ahead_89 : decode cX5_ahead 89 = .ok (.iload_n 2, 1) := by decide +kernel
theorem dX5_ahead_90 : decode cX5_ahead 90 = .ok (.iconst 2, 1) := by decide +kernel
theorem dX5_ahead_91 : decode cX5_ahead 91 = .ok (.if_icmp .ne 7, 3) := by decide +kernel
theorem dX5_ahead_94 : decode cX5_ahead 94 = .ok (.iload_n 3, 1) := by decide +kernel
theorem dX5_ahead_95 : decode cX5_ahead 95 = .ok (.goto 10, 3) := by decide +kernel
theorem dX5_ahead_98 : decode cX5_ahead 98 = .ok (.aload_n 0, 1) := by decide +kernel
theorem dX5_ahead_99 : decode cX5_ahead 99 = .ok (.getfield 19, 3) := by decide +kernel
theorem dX5_ahead_102 : decode cX5_ahead 102 = .ok (.invokestatic 119, 3) := by decide +kernel
theorem dX5_ahead_105 : decode cX5_ahead 105 = .ok (.ireturn, 1) := by decide +kernel
theorem dX5_fallsAfter_0 : decode cX5_fallsAfter 0 = .ok (.aload_n 0, 1) := by decide +kernel
theorem dX5_fallsAfter_1 : decode cX5_fallsAfter 1 = .ok (.aload_n 0, 1) := by decide +kernel
theorem dX5_fallsAfter_2 : decode cX5_fallsAfter 2 = .ok (.iload_n 1, 1) := by decide +kernel
theorem dX5_fallsAfter_3 : decode cX5_fallsAfter 3 = .ok (.invokevirtual 122, 3) := by decide +kernel
theorem dX5_fallsAfter_6 : decode cX5_fallsAfter 6 = .ok (.ifCond .eq 7, 3) := by decide +kernel
theorem dX5_fallsAfter_9 : decode cX5_fallsAfter 9 = .ok (.iconst 0, 1) := by decide +kernel
theorem dX5_fallsAfter_10 : decode cX5_fallsAfter 10 = .ok (.goto 4, 3) := by decide +kernel
theorem dX5_fallsAfter_13 : decode cX5_fallsAfter 13 = .ok (.iconst 1, 1) := by decide +kernel
theorem dX5_fallsAfter_14 : decode cX5_fallsAfter 14 = .ok (.invokevirtual 82, 3) := by decide +kernel
theorem dX5_fallsAfter_17 : decode cX5_fallsAfter 17 = .ok (.ifCond .eq 5, 3) := by decide +kernel
theorem dX5_fallsAfter_20 : decode cX5_fallsAfter 20 = .ok (.iconst 0, 1) := by decide +kernel
theorem dX5_fallsAfter_21 : decode cX5_fallsAfter 21 = .ok (.ireturn, 1) := by decide +kernel
theorem dX5_fallsAfter_22 : decode cX5_fallsAfter 22 = .ok (.aload_n 0, 1) := by decide +kernel
theorem dX5_fallsAfter_23 : decode cX5_fallsAfter 23 = .ok (.getfield 16, 3) := by decide +kernel
theorem dX5_fallsAfter_26 : decode cX5_fallsAfter 26 = .ok (.iconst 0, 1) := by decide +kernel
theorem dX5_fallsAfter_27 : decode cX5_fallsAfter 27 = .ok (.aload_n 0, 1) := by decide +kernel
theorem dX5_fallsAfter_28 : decode cX5_fallsAfter 28 = .ok (.getfield 19, 3) := by decide +kernel
theorem dX5_fallsAfter_31 : decode cX5_fallsAfter 31 = .ok (.iconst 0, 1) := by decide +kernel
theorem dX5_fallsAfter_32 : decode cX5_fallsAfter 32 = .ok (.invokestatic 110, 3) := by decide +kernel
theorem dX5_fallsAfter_35 : decode cX5_fallsAfter 35 = .ok (.iconst 0, 1) := by decide +kernel
theorem dX5_fallsAfter_36 : decode cX5_fallsAfter 36 = .ok (.istore_n 2, 1) := by decide +kernel
theorem dX5_fallsAfter_37 : decode cX5_fallsAfter 37 = .ok (.iload_n 2, 1) := by decide +kernel
theorem dX5_fallsAfter_38 : decode cX5_fallsAfter 38 = .ok (.sipush 2000, 3) := by decide +kernel
theorem dX5_fallsAfter_41 : decode cX5_fallsAfter 41 = .ok (.if_icmp .gt 36, 3) := by decide +kernel
theorem dX5_fallsAfter_44 : decode cX5_fallsAfter 44 = .ok (.aload_n 0, 1) := by decide +kernel
theorem dX5_fallsAfter_45 : decode cX5_fallsAfter 45 = .ok (.getfield 19, 3) := by decide +kernel
theorem dX5_fallsAfter_48 : decode cX5_fallsAfter 48 = .ok (.bipush 12, 2) := by decide +kernel
theorem dX5_fallsAfter_50 : decode cX5_fallsAfter 50 = .ok (.iconst 2, 1) := by decide +kernel
theorem dX5_fallsAfter_51 : decode cX5_fallsAfter 51 = .ok (.iload_n 1, 1) := by decide +kernel
theorem dX5_fallsAfter_52 : decode cX5_fallsAfter 52 = .ok (.imul, 1) := by decide +kernel
theorem dX5_fallsAfter_53 : decode cX5_fallsAfter 53 = .ok (.iadd, 1) := by decide +kernel
theorem dX5_fallsAfter_54 : decode cX5_fallsAfter 54 = .ok (.iconst 1, 1) := by decide +kernel
theorem dX5_fallsAfter_55 : decode cX5_fallsAfter 55 = .ok (.iadd, 1) := by decide +kernel
theorem dX5_fallsAfter_56 : decode cX5_fallsAfter 56 = .ok (.iaload, 1) := by decide +kernel
theorem dX5_fallsAfter_57 : decode cX5_fallsAfter 57 = .ok (.ifCond .ne 5, 3) := by decide +kernel
theorem dX5_fallsAfter_60 : decode cX5_fallsAfter 60 = .ok (.iload_n 2, 1) := by decide +kernel
theorem dX5_fallsAfter_61 : decode cX5_fallsAfter 61 = .ok (.ireturn, 1) := by decide +kernel
theorem dX5_fallsAfter_62 : decode cX5_fallsAfter 62 = .ok (.aload_n 0, 1) := by decide +kernel
theorem dX5_fallsAfter_63 : decode cX5_fallsAfter 63 = .ok (.aload_n 0, 1) := by decide +kernel
theorem dX5_fallsAfter_64 : decode cX5_fallsAfter 64 = .ok (.getfield 19, 3) := by decide +kernel
theorem dX5_fallsAfter_67 : decode cX5_fallsAfter 67 = .ok (.invokevirtual 73, 3) := by decide +kernel
theorem dX5_fallsAfter_70 : decode cX5_fallsAfter 70 = .ok (.pop, 1) := by decide +kernel
theorem dX5_fallsAfter_71 : decode cX5_fallsAfter 71 = .ok (.iinc 2 1, 3) := by decide +kernel
theorem dX5_fallsAfter_74 : decode cX5_fallsAfter 74 = .ok (.goto (-37), 3) := by decide +kernel
theorem dX5_fallsAfter_77 : decode cX5_fallsAfter 77 = .ok (.bipush (-9), 2) := by decide +kernel
theorem dX5_fallsAfter_79 : decode cX5_fallsAfter 79 = .ok (.ireturn, 1) := by decide +kernel
theorem dX5_lowAfter_0 : decode cX5_lowAfter 0 = .ok (.aload_n 0, 1) := by decide +kernel
theorem dX5_lowAfter_1 : decode cX5_lowAfter 1 = .ok (.iload_n 1, 1) := by decide +kernel
theorem dX5_lowAfter_2 : decode cX5_lowAfter 2 = .ok (.i2l, 1) := by decide +kernel
theorem dX5_lowAfter_3 : decode cX5_lowAfter 3 = .ok (.lconst 0, 1) := by decide +kernel
theorem dX5_lowAfter_4 : decode cX5_lowAfter 4 = .ok (.ldc2_w 57, 3) := by decide +kernel
theorem dX5_lowAfter_7 : decode cX5_lowAfter 7 = .ok (.invokestatic 47, 3) := by decide +kernel
theorem dX5_lowAfter_10 : decode cX5_lowAfter 10 = .ok (.ifCond .eq 7, 3) := by decide +kernel
theorem dX5_lowAfter_13 : decode cX5_lowAfter 13 = .ok (.iconst 0, 1) := by decide +kernel
theorem dX5_lowAfter_14 : decode cX5_lowAfter 14 = .ok (.goto 4, 3) := by decide +kernel
theorem dX5_lowAfter_17 : decode cX5_lowAfter 17 = .ok (.iconst 1, 1) := by decide +kernel
theorem dX5_lowAfter_18 : decode cX5_lowAfter 18 = .ok (.invokevirtual 82, 3) := by decide +kernel
theorem dX5_lowAfter_21 : decode cX5_lowAfter 21 = .ok (.ifCond .eq 5, 3) := by decide +kernel
theorem dX5_lowAfter_24 : decode cX5_lowAfter 24 = .ok (.iconst 0, 1) := by decide +kernel
theorem dX5_lowAfter_25 : decode cX5_lowAfter 25 = .ok (.ireturn, 1) := by decide +kernel
theorem dX5_lowAfter_26 : decode cX5_lowAfter 26 = .ok (.aload_n 0, 1) := by decide +kernel
theorem dX5_lowAfter_27 : decode cX5_lowAfter 27 = .ok (.getfield 16, 3) := by decide +kernel
theorem dX5_lowAfter_30 : decode cX5_lowAfter 30 = .ok (.iconst 0, 1) := by decide +kernel
theorem dX5_lowAfter_31 : decode cX5_lowAfter 31 = .ok (.aload_n 0, 1) := by decide +kernel
theorem dX5_lowAfter_32 : decode cX5_lowAfter 32 = .ok (.getfield 19, 3) := by decide +kernel
theorem dX5_lowAfter_35 : decode cX5_lowAfter 35 = .ok (.iconst 0, 1) := by decide +kernel
theorem dX5_lowAfter_36 : decode cX5_lowAfter 36 = .ok (.invokestatic 110, 3) := by decide +kernel
theorem dX5_lowAfter_39 : decode cX5_lowAfter 39 = .ok (.iconst 0, 1) := by decide +kernel
theorem dX5_lowAfter_40 : decode cX5_lowAfter 40 = .ok (.istore_n 2, 1) := by decide +kernel
theorem dX5_lowAfter_41 : decode cX5_lowAfter 41 = .ok (.iload_n 2, 1) := by decide +kernel
theorem dX5_lowAfter_42 : decode cX5_lowAfter 42 = .ok (.sipush 3000, 3) := by decide +kernel
theorem dX5_lowAfter_45 : decode cX5_lowAfter 45 = .ok (.if_icmp .gt 31, 3) := by decide +kernel
theorem dX5_lowAfter_48 : decode cX5_lowAfter 48 = .ok (.aload_n 0, 1) := by decide +kernel
theorem dX5_lowAfter_49 : decode cX5_lowAfter 49 = .ok (.getfield 19, 3) := by decide +kernel
theorem dX5_lowAfter_52 : decode cX5_lowAfter 52 = .ok (.bipush 7, 2) := by decide +kernel
theorem dX5_lowAfter_54 : decode cX5_lowAfter 54 = .ok (.iaload, 1) := by decide +kernel
theorem dX5_lowAfter_55 : decode cX5_lowAfter 55 = .ok (.iload_n 1, 1) := by decide +kernel
theorem dX5_lowAfter_56 : decode cX5_lowAfter 56 = .ok (.if_icmp .gt 5, 3) := by decide +kernel
theorem dX5_lowAfter_59 : decode cX5_lowAfter 59 = .ok (.iload_n 2, 1) := by decide +kernel
theorem dX5_lowAfter_60 : decode cX5_lowAfter 60 = .ok (.ireturn, 1) := by decide +kernel
theorem dX5_lowAfter_61 : decode cX5_lowAfter 61 = .ok (.aload_n 0, 1) := by decide +kernel
theorem dX5_lowAfter_62 : decode cX5_lowAfter 62 = .ok (.aload_n 0, 1) := by decide +kernel
theorem dX5_lowAfter_63 : decode cX5_lowAfter 63 = .ok (.getfield 19, 3) := by decide +kernel
theorem dX5_lowAfter_66 : decode cX5_lowAfter 66 = .ok (.invokevirtual 73, 3) := by decide +kernel
theorem dX5_lowAfter_69 : decode cX5_lowAfter 69 = .ok (.pop, 1) := by decide +kernel
theorem dX5_lowAfter_70 : decode cX5_lowAfter 70 = .ok (.iinc 2 1, 3) := by decide +kernel
theorem dX5_lowAfter_73 : decode cX5_lowAfter 73 = .ok (.goto (-32), 3) := by decide +kernel
theorem dX5_lowAfter_76 : decode cX5_lowAfter 76 = .ok (.bipush (-9), 2) := by decide +kernel
theorem dX5_lowAfter_78 : decode cX5_lowAfter 78 = .ok (.ireturn, 1) := by decide +kernel
theorem dX5_pushFor_0 : decode cX5_pushFor 0 = .ok (.aload_n 0, 1) := by decide +kernel
theorem dX5_pushFor_1 : decode cX5_pushFor 1 = .ok (.iload_n 1, 1) := by decide +kernel
theorem dX5_pushFor_2 : decode cX5_pushFor 2 = .ok (.i2l, 1) := by decide +kernel
theorem dX5_pushFor_3 : decode cX5_pushFor 3 = .ok (.lconst 1, 1) := by decide +kernel
theorem dX5_pushFor_4 : decode cX5_pushFor 4 = .ok (.ldc2_w 183, 3) := by decide +kernel
theorem dX5_pushFor_7 : decode cX5_pushFor 7 = .ok (.invokestatic 47, 3) := by decide +kernel
theorem dX5_pushFor_10 : decode cX5_pushFor 10 = .ok (.ifCond .eq 7, 3) := by decide +kernel
theorem dX5_pushFor_13 : decode cX5_pushFor 13 = .ok (.iconst 0, 1) := by decide +kernel
theorem dX5_pushFor_14 : decode cX5_pushFor 14 = .ok (.goto 4, 3) := by decide +kernel
theorem dX5_pushFor_17 : decode cX5_pushFor 17 = .ok (.iconst 1, 1) := by decide +kernel
theorem dX5_pushFor_18 : decode cX5_pushFor 18 = .ok (.invokevirtual 82, 3) := by decide +kernel
theorem dX5_pushFor_21 : decode cX5_pushFor 21 = .ok (.ifCond .eq 5, 3) := by decide +kernel
theorem dX5_pushFor_24 : decode cX5_pushFor 24 = .ok (.iconst 0, 1) := by decide +kernel
theorem dX5_pushFor_25 : decode cX5_pushFor 25 = .ok (.ireturn, 1) := by decide +kernel
theorem dX5_pushFor_26 : decode cX5_pushFor 26 = .ok (.iconst 0, 1) := by decide +kernel
theorem dX5_pushFor_27 : decode cX5_pushFor 27 = .ok (.istore_n 2, 1) := by decide +kernel
theorem dX5_pushFor_28 : decode cX5_pushFor 28 = .ok (.iload_n 2, 1) := by decide +kernel
theorem dX5_pushFor_29 : decode cX5_pushFor 29 = .ok (.sipush 10000, 3) := by decide +kernel
theorem dX5_pushFor_32 : decode cX5_pushFor 32 = .ok (.if_icmp .ge 88, 3) := by decide +kernel
theorem dX5_pushFor_35 : decode cX5_pushFor 35 = .ok (.aload_n 0, 1) := by decide +kernel
theorem dX5_pushFor_36 : decode cX5_pushFor 36 = .ok (.getfield 16, 3) := by decide +kernel
theorem dX5_pushFor_39 : decode cX5_pushFor 39 = .ok (.iconst 0, 1) := by decide +kernel
theorem dX5_pushFor_40 : decode cX5_pushFor 40 = .ok (.aload_n 0, 1) := by decide +kernel
theorem dX5_pushFor_41 : decode cX5_pushFor 41 = .ok (.getfield 19, 3) := by decide +kernel
theorem dX5_pushFor_44 : decode cX5_pushFor 44 = .ok (.iconst 0, 1) := by decide +kernel
theorem dX5_pushFor_45 : decode cX5_pushFor 45 = .ok (.invokestatic 110, 3) := by decide +kernel
theorem dX5_pushFor_48 : decode cX5_pushFor 48 = .ok (.aload_n 0, 1) := by decide +kernel
theorem dX5_pushFor_49 : decode cX5_pushFor 49 = .ok (.getfield 19, 3) := by decide +kernel
theorem dX5_pushFor_52 : decode cX5_pushFor 52 = .ok (.iload_n 2, 1) := by decide +kernel
theorem dX5_pushFor_53 : decode cX5_pushFor 53 = .ok (.invokestatic 146, 3) := by decide +kernel
theorem dX5_pushFor_56 : decode cX5_pushFor 56 = .ok (.iconst 1, 1) := by decide +kernel
theorem dX5_pushFor_57 : decode cX5_pushFor 57 = .ok (.istore_n 3, 1) := by decide +kernel
theorem dX5_pushFor_58 : decode cX5_pushFor 58 = .ok (.iconst 0, 1) := by decide +kernel
theorem dX5_pushFor_59 : decode cX5_pushFor 59 = .ok (.istore 4, 2) := by decide +kernel
theorem dX5_pushFor_61 : decode cX5_pushFor 61 = .ok (.iload 4, 2) := by decide +kernel
theorem dX5_pushFor_63 : decode cX5_pushFor 63 = .ok (.iload_n 1, 1) := by decide +kernel
theorem dX5_pushFor_64 : decode cX5_pushFor 64 = .ok (.if_icmp .ge 44, 3) := by decide +kernel
theorem dX5_pushFor_67 : decode cX5_pushFor 67 = .ok (.iload_n 3, 1) := by decide +kernel
theorem dX5_pushFor_68 : decode cX5_pushFor 68 = .ok (.ifCond .eq 40, 3) := by decide +kernel
theorem dX5_pushFor_71 : decode cX5_pushFor 71 = .ok (.aload_n 0, 1) := by decide +kernel
theorem dX5_pushFor_72 : decode cX5_pushFor 72 = .ok (.aload_n 0, 1) := by decide +kernel
theorem dX5_pushFor_73 : decode cX5_pushFor 73 = .ok (.getfield 19, 3) := by decide +kernel
theorem dX5_pushFor_76 : decode cX5_pushFor 76 = .ok (.invokevirtual 73, 3) := by decide +kernel
theorem dX5_pushFor_79 : decode cX5_pushFor 79 = .ok (.pop, 1) := by decide +kernel
theorem dX5_pushFor_80 : decode cX5_pushFor 80 = .ok (.aload_n 0, 1) := by decide +kernel
theorem dX5_pushFor_81 : decode cX5_pushFor 81 = .ok (.getfield 19, 3) := by decide +kernel
theorem dX5_pushFor_84 : decode cX5_pushFor 84 = .ok (.bipush 7, 2) := by decide +kernel
theorem dX5_pushFor_86 : decode cX5_pushFor 86 = .ok (.iaload, 1) := by decide +kernel
theorem dX5_pushFor_87 : decode cX5_pushFor 87 = .ok (.aload_n 0, 1) := by decide +kernel
theorem dX5_pushFor_88 : decode cX5_pushFor 88 = .ok (.getfield 19, 3) := by decide +kernel
theorem dX5_pushFor_91 : decode cX5_pushFor 91 = .ok (.iconst 3, 1) := by decide +kernel
theorem dX5_pushFor_92 : decode cX5_pushFor 92 = .ok (.iaload, 1) := by decide +kernel
theorem dX5_pushFor_93 : decode cX5_pushFor 93 = .ok (.if_icmp .lt 7, 3) := by decide +kernel
theorem dX5_pushFor_96 : decode cX5_pushFor 96 = .ok (.iconst 1, 1) := by decide +kernel
theorem dX5_pushFor_97 : decode cX5_pushFor 97 = .ok (.goto 4, 3) := by decide +kernel
theorem dX5_pushFor_100 : decode cX5_pushFor 100 = .ok (.iconst 0, 1) := by decide +kernel
theorem dX5_pushFor_101 : decode cX5_pushFor 101 = .ok (.istore_n 3, 1) := by decide +kernel
theorem dX5_pushFor_102 : decode cX5_pushFor 102 = .ok (.iinc 4 1, 3) := by decide +kernel
theorem dX5_pushFor_105 : decode cX5_pushFor 105 = .ok (.goto (-44), 3) := by decide +kernel
theorem dX5_pushFor_108 : decode cX5_pushFor 108 = .ok (.iload_n 3, 1) := by decide +kernel
theorem dX5_pushFor_109 : decode cX5_pushFor 109 = .ok (.ifCond .eq 5, 3) := by decide +kernel
theorem dX5_pushFor_112 : decode cX5_pushFor 112 = .ok (.iload_n 2, 1) := by decide +kernel
theorem dX5_pushFor_113 : decode cX5_pushFor 113 = .ok (.ireturn, 1) := by decide +kernel
theorem dX5_pushFor_114 : decode cX5_pushFor 114 = .ok (.iinc 2 100, 3) := by decide +kernel
theorem dX5_pushFor_117 : decode cX5_pushFor 117 = .ok (.goto (-89), 3) := by decide +kernel
theorem dX5_pushFor_120 : decode cX5_pushFor 120 = .ok (.bipush (-9), 2) := by decide +kernel
theorem dX5_pushFor_122 : decode cX5_pushFor 122 = .ok (.ireturn, 1) := by decide +kernel
theorem dX5_freeStart_0 : decode cX5_freeStart 0 = .ok (.aload_n 0, 1) := by decide +kernel
theorem dX5_freeStart_1 : decode cX5_freeStart 1 = .ok (.iload_n 1, 1) := by decide +kernel
theorem dX5_freeStart_2 : decode cX5_freeStart 2 = .ok (.i2l, 1) := by decide +kernel
theorem dX5_freeStart_3 : decode cX5_freeStart 3 = .ok (.lconst 1, 1) := by decide +kernel
theorem dX5_freeStart_4 : decode cX5_freeStart 4 = .ok (.ldc2_w 183, 3) := by decide +kernel
theorem dX5_freeStart_7 : decode cX5_freeStart 7 = .ok (.invokestatic 47, 3) := by decide +kernel
theorem dX5_freeStart_10 : decode cX5_freeStart 10 = .ok (.ifCond .eq 7, 3) := by decide +kernel
theorem dX5_freeStart_13 : decode cX5_freeStart 13 = .ok (.iconst 0, 1) := by decide +kernel
theorem dX5_freeStart_14 : decode cX5_freeStart 14 = .ok (.goto 4, 3) := by decide +kernel
theorem dX5_freeStart_17 : decode cX5_freeStart 17 = .ok (.iconst 1, 1) := by decide +kernel
theorem dX5_freeStart_18 : decode cX5_freeStart 18 = .ok (.invokevirtual 82, 3) := by decide +kernel
theorem dX5_freeStart_21 : decode cX5_freeStart 21 = .ok (.ifCond .eq 5, 3) := by decide +kernel
theorem dX5_freeStart_24 : decode cX5_freeStart 24 = .ok (.iconst 0, 1) := by decide +kernel
theorem dX5_freeStart_25 : decode cX5_freeStart 25 = .ok (.ireturn, 1) := by decide +kernel
theorem dX5_freeStart_26 : decode cX5_freeStart 26 = .ok (.iconst 0, 1) := by decide +kernel
theorem dX5_freeStart_27 : decode cX5_freeStart 27 = .ok (.istore_n 2, 1) := by decide +kernel
theorem dX5_freeStart_28 : decode cX5_freeStart 28 = .ok (.iload_n 2, 1) := by decide +kernel
theorem dX5_freeStart_29 : decode cX5_freeStart 29 = .ok (.sipush 10800, 3) := by decide +kernel
theorem dX5_freeStart_32 : decode cX5_freeStart 32 = .ok (.if_icmp .ge 73, 3) := by decide +kernel
theorem dX5_freeStart_35 : decode cX5_freeStart 35 = .ok (.aload_n 0, 1) := by decide +kernel
theorem dX5_freeStart_36 : decode cX5_freeStart 36 = .ok (.getfield 16, 3) := by decide +kernel
theorem dX5_freeStart_39 : decode cX5_freeStart 39 = .ok (.iconst 0, 1) := by decide +kernel
theorem dX5_freeStart_40 : decode cX5_freeStart 40 = .ok (.aload_n 0, 1) := by decide +kernel
theorem dX5_freeStart_41 : decode cX5_freeStart 41 = .ok (.getfield 19, 3) := by decide +kernel
theorem dX5_freeStart_44 : decode cX5_freeStart 44 = .ok (.iconst 0, 1) := by decide +kernel
theorem dX5_freeStart_45 : decode cX5_freeStart 45 = .ok (.invokestatic 110, 3) := by decide +kernel
theorem dX5_freeStart_48 : decode cX5_freeStart 48 = .ok (.aload_n 0, 1) := by decide +kernel
theorem dX5_freeStart_49 : decode cX5_freeStart 49 = .ok (.getfield 19, 3) := by decide +kernel
theorem dX5_freeStart_52 : decode cX5_freeStart 52 = .ok (.iconst 5, 1) := by decide +kernel
theorem dX5_freeStart_53 : decode cX5_freeStart 53 = .ok (.iload_n 2, 1) := by decide +kernel
theorem dX5_freeStart_54 : decode cX5_freeStart 54 = .ok (.iastore, 1) := by decide +kernel
theorem dX5_freeStart_55 : decode cX5_freeStart 55 = .ok (.iconst 1, 1) := by decide +kernel
theorem dX5_freeStart_56 : decode cX5_freeStart 56 = .ok (.istore_n 3, 1) := by decide +kernel
theorem dX5_freeStart_57 : decode cX5_freeStart 57 = .ok (.iconst 0, 1) := by decide +kernel
theorem dX5_freeStart_58 : decode cX5_freeStart 58 = .ok (.istore 4, 2) := by decide +kernel
theorem dX5_freeStart_60 : decode cX5_freeStart 60 = .ok (.iload 4, 2) := by decide +kernel
theorem dX5_freeStart_62 : decode cX5_freeStart 62 = .ok (.iload_n 1, 1) := by decide +kernel
theorem dX5_freeStart_63 : decode cX5_freeStart 63 = .ok (.if_icmp .ge 30, 3) := by decide +kernel
theorem dX5_freeStart_66 : decode cX5_freeStart 66 = .ok (.iload_n 3, 1) := by decide +kernel
theorem dX5_freeStart_67 : decode cX5_freeStart 67 = .ok (.ifCond .eq 26, 3) := by decide +kernel
theorem dX5_freeStart_70 : decode cX5_freeStart 70 = .ok (.aload_n 0, 1) := by decide +kernel
theorem dX5_freeStart_71 : decode cX5_freeStart 71 = .ok (.aload_n 0, 1) := by decide +kernel
theorem dX5_freeStart_72 : decode cX5_freeStart 72 = .ok (.getfield 19, 3) := by decide +kernel
theorem dX5_freeStart_75 : decode cX5_freeStart 75 = .ok (.invokevirtual 73, 3) := by decide +kernel
theorem dX5_freeStart_78 : decode cX5_freeStart 78 = .ok (.ifCond .ne 7, 3) := by decide +kernel
theorem dX5_freeStart_81 : decode cX5_freeStart 81 = .ok (.iconst 1, 1) := by decide +kernel
theorem dX5_freeStart_82 : decode cX5_freeStart 82 = .ok (.goto 4, 3) := by decide +kernel
theorem dX5_freeStart_85 : decode cX5_freeStart 85 = .ok (.iconst 0, 1) := by decide +kernel
theorem dX5_freeStart_86 : decode cX5_freeStart 86 = .ok (.istore_n 3, 1) := by decide +kernel
theorem dX5_freeStart_87 : decode cX5_freeStart 87 = .ok (.iinc 4 1, 3) := by decide +kernel
theorem dX5_freeStart_90 : decode cX5_freeStart 90 = .ok (.goto (-30), 3) := by decide +kernel
theorem dX5_freeStart_93 : decode cX5_freeStart 93 = .ok (.iload_n 3, 1) := by decide +kernel
theorem dX5_freeStart_94 : decode cX5_freeStart 94 = .ok (.ifCond .eq 5, 3) := by decide +kernel
theorem dX5_freeStart_97 : decode cX5_freeStart 97 = .ok (.iload_n 2, 1) := by decide +kernel
theorem dX5_freeStart_98 : decode cX5_freeStart 98 = .ok (.ireturn, 1) := by decide +kernel
theorem dX5_freeStart_99 : decode cX5_freeStart 99 = .ok (.iinc 2 60, 3) := by decide +kernel
theorem dX5_freeStart_102 : decode cX5_freeStart 102 = .ok (.goto (-74), 3) := by decide +kernel
theorem dX5_freeStart_105 : decode cX5_freeStart 105 = .ok (.bipush (-9), 2) := by decide +kernel
theorem dX5_freeStart_107 : decode cX5_freeStart 107 = .ok (.ireturn, 1) := by decide +kernel
theorem dX5_next_0 : decode cX5_next 0 = .ok (.aload_n 0, 1) := by decide +kernel
theorem dX5_next_1 : decode cX5_next 1 = .ok (.iconst 0, 1) := by decide +kernel
theorem dX5_next_2 : decode cX5_next 2 = .ok (.putfield 39, 3) := by decide +kernel
theorem dX5_next_5 : decode cX5_next 5 = .ok (.aload_n 0, 1) := by decide +kernel
theorem dX5_next_6 : decode cX5_next 6 = .ok (.getfield 16, 3) := by decide +kernel
theorem dX5_next_9 : decode cX5_next 9 = .ok (.iconst 0, 1) := by decide +kernel
theorem dX5_next_10 : decode cX5_next 10 = .ok (.aload_n 0, 1) := by decide +kernel
theorem dX5_next_11 : decode cX5_next 11 = .ok (.getfield 19, 3) := by decide +kernel
theorem dX5_next_14 : decode cX5_next 14 = .ok (.iconst 0, 1) := by decide +kernel
theorem dX5_next_15 : decode cX5_next 15 = .ok (.invokestatic 110, 3) := by decide +kernel
theorem dX5_next_18 : decode cX5_next 18 = .ok (.iconst 0, 1) := by decide +kernel
theorem dX5_next_19 : decode cX5_next 19 = .ok (.istore_n 1, 1) := by decide +kernel
theorem dX5_next_20 : decode cX5_next 20 = .ok (.iload_n 1, 1) := by decide +kernel
theorem dX5_next_21 : decode cX5_next 21 = .ok (.sipush 2000, 3) := by decide +kernel
theorem dX5_next_24 : decode cX5_next 24 = .ok (.if_icmp .ge 43, 3) := by decide +kernel
theorem dX5_next_27 : decode cX5_next 27 = .ok (.aload_n 0, 1) := by decide +kernel
theorem dX5_next_28 : decode cX5_next 28 = .ok (.aload_n 0, 1) := by decide +kernel
theorem dX5_next_29 : decode cX5_next 29 = .ok (.getfield 19, 3) := by decide +kernel
theorem dX5_next_32 : decode cX5_next 32 = .ok (.invokevirtual 73, 3) := by decide +kernel
theorem dX5_next_35 : decode cX5_next 35 = .ok (.istore_n 2, 1) := by decide +kernel
theorem dX5_next_36 : decode cX5_next 36 = .ok (.iload_n 2, 1) := by decide +kernel
theorem dX5_next_37 : decode cX5_next 37 = .ok (.ifCond .le 24, 3) := by decide +kernel
theorem dX5_next_40 : decode cX5_next 40 = .ok (.aload_n 0, 1) := by decide +kernel
theorem dX5_next_41 : decode cX5_next 41 = .ok (.getfield 19, 3) := by decide +kernel
theorem dX5_next_44 : decode cX5_next 44 = .ok (.aload_n 0, 1) := by decide +kernel
theorem dX5_next_45 : decode cX5_next 45 = .ok (.getfield 19, 3) := by decide +kernel
theorem dX5_next_48 : decode cX5_next 48 = .ok (.bipush 92, 2) := by decide +kernel
theorem dX5_next_50 : decode cX5_next 50 = .ok (.iconst 3, 1) := by decide +kernel
