theorem dX11_readsFormula_200 : decode cX11_readsFormula 200 = .ok (.aload_n 0, 1) := by decide +kernel
theorem dX11_readsFormula_201 : decode cX11_readsFormula 201 = .ok (.getfield 50, 3) := by decide +kernel
theorem dX11_readsFormula_204 : decode cX11_readsFormula 204 = .ok (.aload_n 0, 1) := by decide +kernel
theorem dX11_readsFormula_205 : decode cX11_readsFormula 205 = .ok (.getfield 107, 3) := by decide +kernel
theorem dX11_readsFormula_208 : decode cX11_readsFormula 208 = .ok (.iconst 0, 1) := by decide +kernel
theorem dX11_readsFormula_209 : decode cX11_readsFormula 209 = .ok (.bastore, 1) := by decide +kernel
theorem dX11_readsFormula_210 : decode cX11_readsFormula 210 = .ok (.aload_n 0, 1) := by decide +kernel
theorem dX11_readsFormula_211 : decode cX11_readsFormula 211 = .ok (.getfield 53, 3) := by decide +kernel
theorem dX11_readsFormula_214 : decode cX11_readsFormula 214 = .ok (.aload_n 0, 1) := by decide +kernel
theorem dX11_readsFormula_215 : decode cX11_readsFormula 215 = .ok (.getfield 107, 3) := by decide +kernel
theorem dX11_readsFormula_218 : decode cX11_readsFormula 218 = .ok (.iconst 1, 1) := by decide +kernel
theorem dX11_readsFormula_219 : decode cX11_readsFormula 219 = .ok (.bastore, 1) := by decide +kernel
theorem dX11_readsFormula_220 : decode cX11_readsFormula 220 = .ok (.aload_n 0, 1) := by decide +kernel
theorem dX11_readsFormula_221 : decode cX11_readsFormula 221 = .ok (.invokevirtual 153, 3) := by decide +kernel
theorem dX11_readsFormula_224 : decode cX11_readsFormula 224 = .ok (.aload_n 0, 1) := by decide +kernel
theorem dX11_readsFormula_225 : decode cX11_readsFormula 225 = .ok (.iconst 3, 1) := by decide +kernel
theorem dX11_readsFormula_226 : decode cX11_readsFormula 226 = .ok (.invokevirtual 156, 3) := by decide +kernel
theorem dX11_readsFormula_229 : decode cX11_readsFormula 229 = .ok (.aload_n 0, 1) := by decide +kernel
theorem dX11_readsFormula_230 : decode cX11_readsFormula 230 = .ok (.dup, 1) := by decide +kernel
theorem dX11_readsFormula_231 : decode cX11_readsFormula 231 = .ok (.getfield 104, 3) := by decide +kernel
theorem dX11_readsFormula_234 : decode cX11_readsFormula 234 = .ok (.iconst 1, 1) := by decide +kernel
theorem dX11_readsFormula_235 : decode cX11_readsFormula 235 = .ok (.iadd, 1) := by decide +kernel
theorem dX11_readsFormula_236 : decode cX11_readsFormula 236 = .ok (.putfield 104, 3) := by decide +kernel
theorem dX11_readsFormula_239 : decode cX11_readsFormula 239 = .ok (.iconst 1, 1) := by decide +kernel
theorem dX11_readsFormula_240 : decode cX11_readsFormula 240 = .ok (.istore_n 1, 1) := by decide +kernel
theorem dX11_readsFormula_241 : decode cX11_readsFormula 241 = .ok (.goto 52, 3) := by decide +kernel
theorem dX11_readsFormula_244 : decode cX11_readsFormula 244 = .ok (.aload_n 0, 1) := by decide +kernel
theorem dX11_readsFormula_245 : decode cX11_readsFormula 245 = .ok (.invokevirtual 166, 3) := by decide +kernel
theorem dX11_readsFormula_248 : decode cX11_readsFormula 248 = .ok (.ifCond .ne 9, 3) := by decide +kernel
theorem dX11_readsFormula_251 : decode cX11_readsFormula 251 = .ok (.aload_n 0, 1) := by decide +kernel
theorem dX11_readsFormula_252 : decode cX11_readsFormula 252 = .ok (.invokevirtual 169, 3) := by decide +kernel
theorem dX11_readsFormula_255 : decode cX11_readsFormula 255 = .ok (.iconst 1, 1) := by decide +kernel
theorem dX11_readsFormula_256 : decode cX11_readsFormula 256 = .ok (.ireturn, 1) := by decide +kernel
theorem dX11_readsFormula_257 : decode cX11_readsFormula 257 = .ok (.iload_n 2, 1) := by decide +kernel
theorem dX11_readsFormula_258 : decode cX11_readsFormula 258 = .ok (.bipush 41, 2) := by decide +kernel
theorem dX11_readsFormula_260 : decode cX11_readsFormula 260 = .ok (.if_icmp .eq 5, 3) := by decide +kernel
theorem dX11_readsFormula_263 : decode cX11_readsFormula 263 = .ok (.iconst 0, 1) := by decide +kernel
theorem dX11_readsFormula_264 : decode cX11_readsFormula 264 = .ok (.ireturn, 1) := by decide +kernel
theorem dX11_readsFormula_265 : decode cX11_readsFormula 265 = .ok (.aload_n 0, 1) := by decide +kernel
theorem dX11_readsFormula_266 : decode cX11_readsFormula 266 = .ok (.invokevirtual 169, 3) := by decide +kernel
theorem dX11_readsFormula_269 : decode cX11_readsFormula 269 = .ok (.aload_n 0, 1) := by decide +kernel
theorem dX11_readsFormula_270 : decode cX11_readsFormula 270 = .ok (.dup, 1) := by decide +kernel
theorem dX11_readsFormula_271 : decode cX11_readsFormula 271 = .ok (.getfield 107, 3) := by decide +kernel
theorem dX11_readsFormula_274 : decode cX11_readsFormula 274 = .ok (.iconst 1, 1) := by decide +kernel
theorem dX11_readsFormula_275 : decode cX11_readsFormula 275 = .ok (.isub, 1) := by decide +kernel
theorem dX11_readsFormula_276 : decode cX11_readsFormula 276 = .ok (.putfield 107, 3) := by decide +kernel
theorem dX11_readsFormula_279 : decode cX11_readsFormula 279 = .ok (.aload_n 0, 1) := by decide +kernel
theorem dX11_readsFormula_280 : decode cX11_readsFormula 280 = .ok (.dup, 1) := by decide +kernel
theorem dX11_readsFormula_281 : decode cX11_readsFormula 281 = .ok (.getfield 104, 3) := by decide +kernel
theorem dX11_readsFormula_284 : decode cX11_readsFormula 284 = .ok (.iconst 1, 1) := by decide +kernel
theorem dX11_readsFormula_285 : decode cX11_readsFormula 285 = .ok (.iadd, 1) := by decide +kernel
theorem dX11_readsFormula_286 : decode cX11_readsFormula 286 = .ok (.putfield 104, 3) := by decide +kernel
theorem dX11_readsFormula_289 : decode cX11_readsFormula 289 = .ok (.aload_n 0, 1) := by decide +kernel
theorem dX11_readsFormula_290 : decode cX11_readsFormula 290 = .ok (.invokevirtual 163, 3) := by decide +kernel
theorem dX11_readsFormula_293 : decode cX11_readsFormula 293 = .ok (.goto (-291), 3) := by decide +kernel
theorem dX11_isSupported_0 : decode cX11_isSupported 0 = .ok (.aload_n 0, 1) := by decide +kernel
theorem dX11_isSupported_1 : decode cX11_isSupported 1 = .ok (.iload_n 1, 1) := by decide +kernel
theorem dX11_isSupported_2 : decode cX11_isSupported 2 = .ok (.invokevirtual 147, 3) := by decide +kernel
theorem dX11_isSupported_5 : decode cX11_isSupported 5 = .ok (.iconst 1, 1) := by decide +kernel
theorem dX11_isSupported_6 : decode cX11_isSupported 6 = .ok (.istore_n 2, 1) := by decide +kernel
theorem dX11_isSupported_7 : decode cX11_isSupported 7 = .ok (.iconst 0, 1) := by decide +kernel
theorem dX11_isSupported_8 : decode cX11_isSupported 8 = .ok (.istore_n 3, 1) := by decide +kernel
theorem dX11_isSupported_9 : decode cX11_isSupported 9 = .ok (.iload_n 3, 1) := by decide +kernel
theorem dX11_isSupported_10 : decode cX11_isSupported 10 = .ok (.sipush 512, 3) := by decide +kernel
theorem dX11_isSupported_13 : decode cX11_isSupported 13 = .ok (.if_icmp .ge 37, 3) := by decide +kernel
theorem dX11_isSupported_16 : decode cX11_isSupported 16 = .ok (.iload_n 2, 1) := by decide +kernel
theorem dX11_isSupported_17 : decode cX11_isSupported 17 = .ok (.ifCond .eq 25, 3) := by decide +kernel
theorem dX11_isSupported_20 : decode cX11_isSupported 20 = .ok (.aload_n 0, 1) := by decide +kernel
theorem dX11_isSupported_21 : decode cX11_isSupported 21 = .ok (.getfield 32, 3) := by decide +kernel
theorem dX11_isSupported_24 : decode cX11_isSupported 24 = .ok (.iload_n 3, 1) := by decide +kernel
theorem dX11_isSupported_25 : decode cX11_isSupported 25 = .ok (.baload, 1) := by decide +kernel
theorem dX11_isSupported_26 : decode cX11_isSupported 26 = .ok (.ifCond .eq 12, 3) := by decide +kernel
theorem dX11_isSupported_29 : decode cX11_isSupported 29 = .ok (.aload_n 0, 1) := by decide +kernel
theorem dX11_isSupported_30 : decode cX11_isSupported 30 = .ok (.getfield 26, 3) := by decide +kernel
theorem dX11_isSupported_33 : decode cX11_isSupported 33 = .ok (.iload_n 3, 1) := by decide +kernel
theorem dX11_isSupported_34 : decode cX11_isSupported 34 = .ok (.baload, 1) := by decide +kernel
theorem dX11_isSupported_35 : decode cX11_isSupported 35 = .ok (.ifCond .eq 7, 3) := by decide +kernel
theorem dX11_isSupported_38 : decode cX11_isSupported 38 = .ok (.iconst 1, 1) := by decide +kernel
theorem dX11_isSupported_39 : decode cX11_isSupported 39 = .ok (.goto 4, 3) := by decide +kernel
theorem dX11_isSupported_42 : decode cX11_isSupported 42 = .ok (.iconst 0, 1) := by decide +kernel
theorem dX11_isSupported_43 : decode cX11_isSupported 43 = .ok (.istore_n 2, 1) := by decide +kernel
theorem dX11_isSupported_44 : decode cX11_isSupported 44 = .ok (.iinc 3 1, 3) := by decide +kernel
theorem dX11_isSupported_47 : decode cX11_isSupported 47 = .ok (.goto (-38), 3) := by decide +kernel
theorem dX11_isSupported_50 : decode cX11_isSupported 50 = .ok (.iload_n 2, 1) := by decide +kernel
theorem dX11_isSupported_51 : decode cX11_isSupported 51 = .ok (.ireturn, 1) := by decide +kernel
theorem dX11_inContext_0 : decode cX11_inContext 0 = .ok (.iconst 0, 1) := by decide +kernel
theorem dX11_inContext_1 : decode cX11_inContext 1 = .ok (.istore_n 1, 1) := by decide +kernel
theorem dX11_inContext_2 : decode cX11_inContext 2 = .ok (.iconst 0, 1) := by decide +kernel
theorem dX11_inContext_3 : decode cX11_inContext 3 = .ok (.istore_n 2, 1) := by decide +kernel
theorem dX11_inContext_4 : decode cX11_inContext 4 = .ok (.iload_n 2, 1) := by decide +kernel
theorem dX11_inContext_5 : decode cX11_inContext 5 = .ok (.sipush 512, 3) := by decide +kernel
theorem dX11_inContext_8 : decode cX11_inContext 8 = .ok (.if_icmp .ge 26, 3) := by decide +kernel
theorem dX11_inContext_11 : decode cX11_inContext 11 = .ok (.iload_n 1, 1) := by decide +kernel
theorem dX11_inContext_12 : decode cX11_inContext 12 = .ok (.aload_n 0, 1) := by decide +kernel
theorem dX11_inContext_13 : decode cX11_inContext 13 = .ok (.getfield 32, 3) := by decide +kernel
theorem dX11_inContext_16 : decode cX11_inContext 16 = .ok (.iload_n 2, 1) := by decide +kernel
theorem dX11_inContext_17 : decode cX11_inContext 17 = .ok (.baload, 1) := by decide +kernel
theorem dX11_inContext_18 : decode cX11_inContext 18 = .ok (.ifCond .eq 7, 3) := by decide +kernel
theorem dX11_inContext_21 : decode cX11_inContext 21 = .ok (.iconst 1, 1) := by decide +kernel
theorem dX11_inContext_22 : decode cX11_inContext 22 = .ok (.goto 4, 3) := by decide +kernel
theorem dX11_inContext_25 : decode cX11_inContext 25 = .ok (.iconst 0, 1) := by decide +kernel
theorem dX11_inContext_26 : decode cX11_inContext 26 = .ok (.iadd, 1) := by decide +kernel
theorem dX11_inContext_27 : decode cX11_inContext 27 = .ok (.istore_n 1, 1) := by decide +kernel
theorem dX11_inContext_28 : decode cX11_inContext 28 = .ok (.iinc 2 1, 3) := by decide +kernel
theorem dX11_inContext_31 : decode cX11_inContext 31 = .ok (.goto (-27), 3) := by decide +kernel
theorem dX11_inContext_34 : decode cX11_inContext 34 = .ok (.iload_n 1, 1) := by decide +kernel
theorem dX11_inContext_35 : decode cX11_inContext 35 = .ok (.ireturn, 1) := by decide +kernel
theorem dX11_takes_0 : decode cX11_takes 0 = .ok (.iload_n 1, 1) := by decide +kernel
theorem dX11_takes_1 : decode cX11_takes 1 = .ok (.iconst 1, 1) := by decide +kernel
theorem dX11_takes_2 : decode cX11_takes 2 = .ok (.if_icmp .ne 15, 3) := by decide +kernel
theorem dX11_takes_5 : decode cX11_takes 5 = .ok (.iload_n 2, 1) := by decide +kernel
theorem dX11_takes_6 : decode cX11_takes 6 = .ok (.ifCond .eq 11, 3) := by decide +kernel
theorem dX11_takes_9 : decode cX11_takes 9 = .ok (.aload_n 0, 1) := by decide +kernel
theorem dX11_takes_10 : decode cX11_takes 10 = .ok (.iconst 0, 1) := by decide +kernel
theorem dX11_takes_11 : decode cX11_takes 11 = .ok (.invokevirtual 172, 3) := by decide +kernel
theorem dX11_takes_14 : decode cX11_takes 14 = .ok (.ifCond .eq 7, 3) := by decide +kernel
theorem dX11_takes_17 : decode cX11_takes 17 = .ok (.iconst 1, 1) := by decide +kernel
theorem dX11_takes_18 : decode cX11_takes 18 = .ok (.goto 4, 3) := by decide +kernel
theorem dX11_takes_21 : decode cX11_takes 21 = .ok (.iconst 0, 1) := by decide +kernel
theorem dX11_takes_22 : decode cX11_takes 22 = .ok (.istore 4, 2) := by decide +kernel
theorem dX11_takes_24 : decode cX11_takes 24 = .ok (.iload_n 1, 1) := by decide +kernel
theorem dX11_takes_25 : decode cX11_takes 25 = .ok (.iconst 1, 1) := by decide +kernel
theorem dX11_takes_26 : decode cX11_takes 26 = .ok (.if_icmp .eq 19, 3) := by decide +kernel
theorem dX11_takes_29 : decode cX11_takes 29 = .ok (.iload_n 1, 1) := by decide +kernel
theorem dX11_takes_30 : decode cX11_takes 30 = .ok (.iconst 2, 1) := by decide +kernel
theorem dX11_takes_31 : decode cX11_takes 31 = .ok (.if_icmp .ne 19, 3) := by decide +kernel
theorem dX11_takes_34 : decode cX11_takes 34 = .ok (.aload_n 0, 1) := by decide +kernel
theorem dX11_takes_35 : decode cX11_takes 35 = .ok (.getfield 175, 3) := by decide +kernel
theorem dX11_takes_38 : decode cX11_takes 38 = .ok (.aload_n 0, 1) := by decide +kernel
theorem dX11_takes_39 : decode cX11_takes 39 = .ok (.getfield 178, 3) := by decide +kernel
theorem dX11_takes_42 : decode cX11_takes 42 = .ok (.if_icmp .ge 8, 3) := by decide +kernel
theorem dX11_takes_45 : decode cX11_takes 45 = .ok (.aload_n 0, 1) := by decide +kernel
theorem dX11_takes_46 : decode cX11_takes 46 = .ok (.iconst 0, 1) := by decide +kernel
theorem dX11_takes_47 : decode cX11_takes 47 = .ok (.invokevirtual 181, 3) := by decide +kernel
theorem dX11_takes_50 : decode cX11_takes 50 = .ok (.iload 4, 2) := by decide +kernel
theorem dX11_takes_52 : decode cX11_takes 52 = .ok (.ifCond .ne 24, 3) := by decide +kernel
theorem dX11_takes_55 : decode cX11_takes 55 = .ok (.aload_n 0, 1) := by decide +kernel
theorem dX11_takes_56 : decode cX11_takes 56 = .ok (.getfield 7, 3) := by decide +kernel
theorem dX11_takes_59 : decode cX11_takes 59 = .ok (.bipush 6, 2) := by decide +kernel
theorem dX11_takes_61 : decode cX11_takes 61 = .ok (.iaload, 1) := by decide +kernel
theorem dX11_takes_62 : decode cX11_takes 62 = .ok (.ifCond .eq 10, 3) := by decide +kernel
theorem dX11_takes_65 : decode cX11_takes 65 = .ok (.aload_n 0, 1) := by decide +kernel
theorem dX11_takes_66 : decode cX11_takes 66 = .ok (.invokevirtual 184, 3) := by decide +kernel
theorem dX11_takes_69 : decode cX11_takes 69 = .ok (.ifCond .ne 7, 3) := by decide +kernel
theorem dX11_takes_72 : decode cX11_takes 72 = .ok (.iconst 1, 1) := by decide +kernel
theorem dX11_takes_73 : decode cX11_takes 73 = .ok (.goto 4, 3) := by decide +kernel
theorem dX11_takes_76 : decode cX11_takes 76 = .ok (.iconst 0, 1) := by decide +kernel
theorem dX11_takes_77 : decode cX11_takes 77 = .ok (.istore 5, 2) := by decide +kernel
theorem dX11_takes_79 : decode cX11_takes 79 = .ok (.aload_n 0, 1) := by decide +kernel
theorem dX11_takes_80 : decode cX11_takes 80 = .ok (.iload 5, 2) := by decide +kernel
theorem dX11_takes_82 : decode cX11_takes 82 = .ok (.ifCond .eq 7, 3) := by decide +kernel
theorem dX11_takes_85 : decode cX11_takes 85 = .ok (.iload_n 3, 1) := by decide +kernel
theorem dX11_takes_86 : decode cX11_takes 86 = .ok (.goto 5, 3) := by decide +kernel
theorem dX11_takes_89 : decode cX11_takes 89 = .ok (.bipush (-7), 2) := by decide +kernel
theorem dX11_takes_91 : decode cX11_takes 91 = .ok (.putfield 187, 3) := by decide +kernel
theorem dX11_takes_94 : decode cX11_takes 94 = .ok (.aload_n 0, 1) := by decide +kernel
theorem dX11_takes_95 : decode cX11_takes 95 = .ok (.dup, 1) := by decide +kernel
theorem dX11_takes_96 : decode cX11_takes 96 = .ok (.getfield 190, 3) := by decide +kernel
theorem dX11_takes_99 : decode cX11_takes 99 = .ok (.iload 4, 2) := by decide +kernel
theorem dX11_takes_101 : decode cX11_takes 101 = .ok (.ifCond .eq 7, 3) := by decide +kernel
theorem dX11_takes_104 : decode cX11_takes 104 = .ok (.iconst 0, 1) := by decide +kernel
theorem dX11_takes_105 : decode cX11_takes 105 = .ok (.goto 9, 3) := by decide +kernel
theorem dX11_takes_108 : decode cX11_takes 108 = .ok (.iconst 1, 1) := by decide +kernel
theorem dX11_takes_109 : decode cX11_takes 109 = .ok (.aload_n 0, 1) := by decide +kernel
theorem dX11_takes_110 : decode cX11_takes 110 = .ok (.getfield 175, 3) := by decide +kernel
theorem dX11_takes_113 : decode cX11_takes 113 = .ok (.ishl, 1) := by decide +kernel
theorem dX11_takes_114 : decode cX11_takes 114 = .ok (.ior, 1) := by decide +kernel
theorem dX11_takes_115 : decode cX11_takes 115 = .ok (.putfield 190, 3) := by decide +kernel
theorem dX11_takes_118 : decode cX11_takes 118 = .ok (.aload_n 0, 1) := by decide +kernel
theorem dX11_takes_119 : decode cX11_takes 119 = .ok (.iload_n 1, 1) := by decide +kernel
theorem dX11_takes_120 : decode cX11_takes 120 = .ok (.iconst 3, 1) := by decide +kernel
theorem dX11_takes_121 : decode cX11_takes 121 = .ok (.if_icmp .ne 10, 3) := by decide +kernel
theorem dX11_takes_124 : decode cX11_takes 124 = .ok (.aload_n 0, 1) := by decide +kernel
theorem dX11_takes_125 : decode cX11_takes 125 = .ok (.getfield 90, 3) := by decide +kernel
theorem dX11_takes_128 : decode cX11_takes 128 = .ok (.goto 4, 3) := by decide +kernel
theorem dX11_takes_131 : decode cX11_takes 131 = .ok (.iconst 0, 1) := by decide +kernel
theorem dX11_takes_132 : decode cX11_takes 132 = .ok (.putfield 90, 3) := by decide +kernel
theorem dX11_takes_135 : decode cX11_takes 135 = .ok (.iload 5, 2) := by decide +kernel
theorem dX11_takes_137 : decode cX11_takes 137 = .ok (.ifCond .ne 7, 3) := by decide +kernel
theorem dX11_takes_140 : decode cX11_takes 140 = .ok (.iconst 1, 1) := by decide +kernel
theorem dX11_takes_141 : decode cX11_takes 141 = .ok (.goto 4, 3) := by decide +kernel
theorem dX11_takes_144 : decode cX11_takes 144 = .ok (.iconst 0, 1) := by decide +kernel
theorem dX11_takes_145 : decode cX11_takes 145 = .ok (.ireturn, 1) := by decide +kernel
theorem dX11_reads_0 : decode cX11_reads 0 = .ok (.aload_n 0, 1) := by decide +kernel
theorem dX11_reads_1 : decode cX11_reads 1 = .ok (.iload_n 1, 1) := by decide +kernel
theorem dX11_reads_2 : decode cX11_reads 2 = .ok (.ifCond .eq 7, 3) := by decide +kernel
theorem dX11_reads_5 : decode cX11_reads 5 = .ok (.iconst 1, 1) := by decide +kernel
theorem dX11_reads_6 : decode cX11_reads 6 = .ok (.goto 4, 3) := by decide +kernel
theorem dX11_reads_9 : decode cX11_reads 9 = .ok (.iconst 0, 1) := by decide +kernel
theorem dX11_reads_10 : decode cX11_reads 10 = .ok (.putfield 93, 3) := by decide +kernel
theorem dX11_reads_13 : decode cX11_reads 13 = .ok (.aload_n 0, 1) := by decide +kernel
theorem dX11_reads_14 : decode cX11_reads 14 = .ok (.iconst 0, 1) := by decide +kernel
theorem dX11_reads_15 : decode cX11_reads 15 = .ok (.putfield 104, 3) := by decide +kernel
theorem dX11_reads_18 : decode cX11_reads 18 = .ok (.aload_n 0, 1) := by decide +kernel
theorem dX11_reads_19 : decode cX11_reads 19 = .ok (.iconst 0, 1) := by decide +kernel
theorem dX11_reads_20 : decode cX11_reads 20 = .ok (.putfield 90, 3) := by decide +kernel
theorem dX11_reads_23 : decode cX11_reads 23 = .ok (.aload_n 0, 1) := by decide +kernel
theorem dX11_reads_24 : decode cX11_reads 24 = .ok (.iload_n 2, 1) := by decide +kernel
theorem dX11_reads_25 : decode cX11_reads 25 = .ok (.putfield 110, 3) := by decide +kernel
theorem dX11_reads_28 : decode cX11_reads 28 = .ok (.aload_n 0, 1) := by decide +kernel
theorem dX11_reads_29 : decode cX11_reads 29 = .ok (.bipush (-7), 2) := by decide +kernel
theorem dX11_reads_31 : decode cX11_reads 31 = .ok (.putfield 113, 3) := by decide +kernel
theorem dX11_reads_34 : decode cX11_reads 34 = .ok (.aload_n 0, 1) := by decide +kernel
theorem dX11_reads_35 : decode cX11_reads 35 = .ok (.iconst 0, 1) := by decide +kernel
theorem dX11_reads_36 : decode cX11_reads 36 = .ok (.putfield 116, 3) := by decide +kernel
theorem dX11_reads_39 : decode cX11_reads 39 = .ok (.aload_n 0, 1) := by decide +kernel
theorem dX11_reads_40 : decode cX11_reads 40 = .ok (.iconst 0, 1) := by decide +kernel
theorem dX11_reads_41 : decode cX11_reads 41 = .ok (.putfield 175, 3) := by decide +kernel
theorem dX11_reads_44 : decode cX11_reads 44 = .ok (.aload_n 0, 1) := by decide +kernel
theorem dX11_reads_45 : decode cX11_reads 45 = .ok (.iconst 0, 1) := by decide +kernel
theorem dX11_reads_46 : decode cX11_reads 46 = .ok (.putfield 190, 3) := by decide +kernel
theorem dX11_reads_49 : decode cX11_reads 49 = .ok (.aload_n 0, 1) := by decide +kernel
theorem dX11_reads_50 : decode cX11_reads 50 = .ok (.bipush (-7), 2) := by decide +kernel
theorem dX11_reads_52 : decode cX11_reads 52 = .ok (.putfield 187, 3) := by decide +kernel
theorem dX11_reads_55 : decode cX11_reads 55 = .ok (.iconst 1, 1) := by decide +kernel
theorem dX11_reads_56 : decode cX11_reads 56 = .ok (.istore_n 3, 1) := by decide +kernel
theorem dX11_reads_57 : decode cX11_reads 57 = .ok (.iload_n 3, 1) := by decide +kernel
theorem dX11_reads_58 : decode cX11_reads 58 = .ok (.ifCond .eq 182, 3) := by decide +kernel
theorem dX11_reads_61 : decode cX11_reads 61 = .ok (.aload_n 0, 1) := by decide +kernel
theorem dX11_reads_62 : decode cX11_reads 62 = .ok (.getfield 104, 3) := by decide +kernel
theorem dX11_reads_65 : decode cX11_reads 65 = .ok (.istore 4, 2) := by decide +kernel
theorem dX11_reads_67 : decode cX11_reads 67 = .ok (.aload_n 0, 1) := by decide +kernel
theorem dX11_reads_68 : decode cX11_reads 68 = .ok (.invokevirtual 119, 3) := by decide +kernel
theorem dX11_reads_71 : decode cX11_reads 71 = .ok (.bipush 91, 2) := by decide +kernel
theorem dX11_reads_73 : decode cX11_reads 73 = .ok (.if_icmp .ne 7, 3) := by decide +kernel
theorem dX11_reads_76 : decode cX11_reads 76 = .ok (.iconst 1, 1) := by decide +kernel
theorem dX11_reads_77 : decode cX11_reads 77 = .ok (.goto 4, 3) := by decide +kernel
theorem dX11_reads_80 : decode cX11_reads 80 = .ok (.iconst 0, 1) := by decide +kernel
theorem dX11_reads_81 : decode cX11_reads 81 = .ok (.istore 5, 2) := by decide +kernel
theorem dX11_reads_83 : decode cX11_reads 83 = .ok (.aload_n 0, 1) := by decide +kernel
theorem dX11_reads_84 : decode cX11_reads 84 = .ok (.dup, 1) := by decide +kernel
theorem dX11_reads_85 : decode cX11_reads 85 = .ok (.getfield 104, 3) := by decide +kernel
theorem dX11_reads_88 : decode cX11_reads 88 = .ok (.iload 5, 2) := by decide +kernel
theorem dX11_reads_90 : decode cX11_reads 90 = .ok (.ifCond .eq 7, 3) := by decide +kernel
theorem dX11_reads_93 : decode cX11_reads 93 = .ok (.iconst 1, 1) := by decide +kernel
theorem dX11_reads_94 : decode cX11_reads 94 = .ok (.goto 4, 3) := by decide +kernel
theorem dX11_reads_97 : decode cX11_reads 97 = .ok (.iconst 0, 1) := by decide +kernel
theorem dX11_reads_98 : decode cX11_reads 98 = .ok (.iadd, 1) := by decide +kernel
theorem dX11_reads_99 : decode cX11_reads 99 = .ok (.putfield 104, 3) := by decide +kernel
theorem dX11_reads_102 : decode cX11_reads 102 = .ok (.aload_n 0, 1) := by decide +kernel
theorem dX11_reads_103 : decode cX11_reads 103 = .ok (.iconst (-1), 1) := by decide +kernel
theorem dX11_reads_104 : decode cX11_reads 104 = .ok (.putfield 107, 3) := by decide +kernel
theorem dX11_reads_107 : decode cX11_reads 107 = .ok (.aload_n 0, 1) := by decide +kernel
theorem dX11_reads_108 : decode cX11_reads 108 = .ok (.iconst 0, 1) := by decide +kernel
theorem dX11_reads_109 : decode cX11_reads 109 = .ok (.invokevirtual 156, 3) := by decide +kernel
theorem dX11_reads_112 : decode cX11_reads 112 = .ok (.aload_n 0, 1) := by decide +kernel
theorem dX11_reads_113 : decode cX11_reads 113 = .ok (.invokevirtual 193, 3) := by decide +kernel
theorem dX11_reads_116 : decode cX11_reads 116 = .ok (.ifCond .eq 17, 3) := by decide +kernel
theorem dX11_reads_119 : decode cX11_reads 119 = .ok (.iload 5, 2) := by decide +kernel
theorem dX11_reads_121 : decode cX11_reads 121 = .ok (.ifCond .eq 14, 3) := by decide +kernel
theorem dX11_reads_124 : decode cX11_reads 124 = .ok (.aload_n 0, 1) := by decide +kernel
theorem dX11_reads_125 : decode cX11_reads 125 = .ok (.invokevirtual 119, 3) := by decide +kernel
theorem dX11_reads_128 : decode cX11_reads 128 = .ok (.bipush 93, 2) := by decide +kernel
theorem dX11_reads_130 : decode cX11_reads 130 = .ok (.if_icmp .eq 5, 3) := by decide +kernel
theorem dX11_reads_133 : decode cX11_reads 133 = .ok (.iconst 0, 1) := by decide +kernel
theorem dX11_reads_134 : decode cX11_reads 134 = .ok (.ireturn, 1) := by decide +kernel
theorem dX11_reads_135 : decode cX11_reads 135 = .ok (.aload_n 0, 1) := by decide +kernel
theorem dX11_reads_136 : decode cX11_reads 136 = .ok (.dup, 1) := by decide +kernel
theorem dX11_reads_137 : decode cX11_reads 137 = .ok (.getfield 104, 3) := by decide +kernel
theorem dX11_reads_140 : decode cX11_reads 140 = .ok (.iload 5, 2) := by decide +kernel
theorem dX11_reads_142 : decode cX11_reads 142 = .ok (.ifCond .eq 7, 3) := by decide +kernel
theorem dX11_reads_145 : decode cX11_reads 145 = .ok (.iconst 1, 1) := by decide +kernel
theorem dX11_reads_146 : decode cX11_reads 146 = .ok (.goto 4, 3) := by decide +kernel
theorem dX11_reads_149 : decode cX11_reads 149 = .ok (.iconst 0, 1) := by decide +kernel
theorem dX11_reads_150 : decode cX11_reads 150 = .ok (.iadd, 1) := by decide +kernel
theorem dX11_reads_151 : decode cX11_reads 151 = .ok (.putfield 104, 3) := by decide +kernel
theorem dX11_reads_154 : decode cX11_reads 154 = .ok (.aload_n 0, 1) := by decide +kernel
theorem dX11_reads_155 : decode cX11_reads 155 = .ok (.getfield 93, 3) := by decide +kernel
theorem dX11_reads_158 : decode cX11_reads 158 = .ok (.ifCond .eq 17, 3) := by decide +kernel
theorem dX11_reads_161 : decode cX11_reads 161 = .ok (.aload_n 0, 1) := by decide +kernel
theorem dX11_reads_162 : decode cX11_reads 162 = .ok (.iload_n 1, 1) := by decide +kernel
theorem dX11_reads_163 : decode cX11_reads 163 = .ok (.iload 5, 2) := by decide +kernel
theorem dX11_reads_165 : decode cX11_reads 165 = .ok (.iload 4, 2) := by decide +kernel
theorem dX11_reads_167 : decode cX11_reads 167 = .ok (.invokevirtual 196, 3) := by decide +kernel
theorem dX11_reads_170 : decode cX11_reads 170 = .ok (.ifCond .ne 5, 3) := by decide +kernel
theorem dX11_reads_173 : decode cX11_reads 173 = .ok (.iconst 1, 1) := by decide +kernel
theorem dX11_reads_174 : decode cX11_reads 174 = .ok (.ireturn, 1) := by decide +kernel
theorem dX11_reads_175 : decode cX11_reads 175 = .ok (.aload_n 0, 1) := by decide +kernel
theorem dX11_reads_176 : decode cX11_reads 176 = .ok (.aload_n 0, 1) := by decide +kernel
theorem dX11_reads_177 : decode cX11_reads 177 = .ok (.getfield 93, 3) := by decide +kernel
theorem dX11_reads_180 : decode cX11_reads 180 = .ok (.ifCond .eq 10, 3) := by decide +kernel
theorem dX11_reads_183 : decode cX11_reads 183 = .ok (.aload_n 0, 1) := by decide +kernel
theorem dX11_reads_184 : decode cX11_reads 184 = .ok (.getfield 90, 3) := by decide +kernel
theorem dX11_reads_187 : decode cX11_reads 187 = .ok (.goto 4, 3) := by decide +kernel
theorem dX11_reads_190 : decode cX11_reads 190 = .ok (.iconst 0, 1) := by decide +kernel
theorem dX11_reads_191 : decode cX11_reads 191 = .ok (.putfield 90, 3) := by decide +kernel
theorem dX11_reads_194 : decode cX11_reads 194 = .ok (.aload_n 0, 1) := by decide +kernel
theorem dX11_reads_195 : decode cX11_reads 195 = .ok (.dup, 1) := by decide +kernel
theorem dX11_reads_196 : decode cX11_reads 196 = .ok (.getfield 175, 3) := by decide +kernel
theorem dX11_reads_199 : decode cX11_reads 199 = .ok (.iconst 1, 1) := by decide +kernel
theorem dX11_reads_200 : decode cX11_reads 200 = .ok (.iadd, 1) := by decide +kernel
theorem dX11_reads_201 : decode cX11_reads 201 = .ok (.putfield 175, 3) := by decide +kernel
theorem dX11_reads_204 : decode cX11_reads 204 = .ok (.aload_n 0, 1) := by decide +kernel
theorem dX11_reads_205 : decode cX11_reads 205 = .ok (.invokevirtual 119, 3) := by decide +kernel
theorem dX11_reads_208 : decode cX11_reads 208 = .ok (.bipush 59, 2) := by decide +kernel
theorem dX11_reads_210 : decode cX11_reads 210 = .ok (.if_icmp .ne 7, 3) := by decide +kernel
theorem dX11_reads_213 : decode cX11_reads 213 = .ok (.iconst 1, 1) := by decide +kernel
theorem dX11_reads_214 : decode cX11_reads 214 = .ok (.goto 4, 3) := by decide +kernel
theorem dX11_reads_217 : decode cX11_reads 217 = .ok (.iconst 0, 1) := by decide +kernel
theorem dX11_reads_218 : decode cX11_reads 218 = .ok (.istore_n 3, 1) := by decide +kernel
theorem dX11_reads_219 : decode cX11_reads 219 = .ok (.aload_n 0, 1) := by decide +kernel
theorem dX11_reads_220 : decode cX11_reads 220 = .ok (.dup, 1) := by decide +kernel
theorem dX11_reads_221 : decode cX11_reads 221 = .ok (.getfield 104, 3) := by decide +kernel
theorem dX11_reads_224 : decode cX11_reads 224 = .ok (.iload_n 3, 1) := by decide +kernel
theorem dX11_reads_225 : decode cX11_reads 225 = .ok (.ifCond .eq 7, 3) := by decide +kernel
theorem dX11_reads_228 : decode cX11_reads 228 = .ok (.iconst 1, 1) := by decide +kernel
theorem dX11_reads_229 : decode cX11_reads 229 = .ok (.goto 4, 3) := by decide +kernel
theorem dX11_reads_232 : decode cX11_reads 232 = .ok (.iconst 0, 1) := by decide +kernel
theorem dX11_reads_233 : decode cX11_reads 233 = .ok (.iadd, 1) := by decide +kernel
theorem dX11_reads_234 : decode cX11_reads 234 = .ok (.putfield 104, 3) := by decide +kernel
theorem dX11_reads_237 : decode cX11_reads 237 = .ok (.goto (-180), 3) := by decide +kernel
theorem dX11_reads_240 : decode cX11_reads 240 = .ok (.aload_n 0, 1) := by decide +kernel
theorem dX11_reads_241 : decode cX11_reads 241 = .ok (.getfield 104, 3) := by decide +kernel
theorem dX11_reads_244 : decode cX11_reads 244 = .ok (.aload_n 0, 1) := by decide +kernel
theorem dX11_reads_245 : decode cX11_reads 245 = .ok (.getfield 87, 3) := by decide +kernel
theorem dX11_reads_248 : decode cX11_reads 248 = .ok (.if_icmp .ne 7, 3) := by decide +kernel
theorem dX11_reads_251 : decode cX11_reads 251 = .ok (.iconst 1, 1) := by decide +kernel
theorem dX11_reads_252 : decode cX11_reads 252 = .ok (.goto 4, 3) := by decide +kernel
theorem dX11_reads_255 : decode cX11_reads 255 = .ok (.iconst 0, 1) := by decide +kernel
theorem dX11_reads_256 : decode cX11_reads 256 = .ok (.ireturn, 1) := by decide +kernel
theorem dX11_takesContext_0 : decode cX11_takesContext 0 = .ok (.iconst 0, 1) := by decide +kernel
theorem dX11_takesContext_1 : decode cX11_takesContext 1 = .ok (.istore_n 2, 1) := by decide +kernel
theorem dX11_takesContext_2 : decode cX11_takesContext 2 = .ok (.iload_n 2, 1) := by decide +kernel
theorem dX11_takesContext_3 : decode cX11_takesContext 3 = .ok (.sipush 512, 3) := by decide +kernel
theorem dX11_takesContext_6 : decode cX11_takesContext 6 = .ok (.if_icmp .ge 36, 3) := by decide +kernel
theorem dX11_takesContext_9 : decode cX11_takesContext 9 = .ok (.aload_n 0, 1) := by decide +kernel
theorem dX11_takesContext_10 : decode cX11_takesContext 10 = .ok (.getfield 32, 3) := by decide +kernel
theorem dX11_takesContext_13 : decode cX11_takesContext 13 = .ok (.iload_n 2, 1) := by decide +kernel
theorem dX11_takesContext_14 : decode cX11_takesContext 14 = .ok (.iload_n 1, 1) := by decide +kernel
theorem dX11_takesContext_15 : decode cX11_takesContext 15 = .ok (.ifCond .eq 15, 3) := by decide +kernel
theorem dX11_takesContext_18 : decode cX11_takesContext 18 = .ok (.iload_n 2, 1) := by decide +kernel
theorem dX11_takesContext_19 : decode cX11_takesContext 19 = .ok (.ifCond .ne 7, 3) := by decide +kernel
theorem dX11_takesContext_22 : decode cX11_takesContext 22 = .ok (.iconst 1, 1) := by decide +kernel
theorem dX11_takesContext_23 : decode cX11_takesContext 23 = .ok (.goto 12, 3) := by decide +kernel
theorem dX11_takesContext_26 : decode cX11_takesContext 26 = .ok (.iconst 0, 1) := by decide +kernel
theorem dX11_takesContext_27 : decode cX11_takesContext 27 = .ok (.goto 8, 3) := by decide +kernel
theorem dX11_takesContext_30 : decode cX11_takesContext 30 = .ok (.aload_n 0, 1) := by decide +kernel
theorem dX11_takesContext_31 : decode cX11_takesContext 31 = .ok (.iload_n 2, 1) := by decide +kernel
theorem dX11_takesContext_32 : decode cX11_takesContext 32 = .ok (.invokevirtual 71, 3) := by decide +kernel
theorem dX11_takesContext_35 : decode cX11_takesContext 35 = .ok (.bastore, 1) := by decide +kernel
theorem dX11_takesContext_36 : decode cX11_takesContext 36 = .ok (.iinc 2 1, 3) := by decide +kernel
theorem dX11_takesContext_39 : decode cX11_takesContext 39 = .ok (.goto (-37), 3) := by decide +kernel
theorem dX11_takesContext_42 : decode cX11_takesContext 42 = .ok (.return_, 1) := by decide +kernel
theorem dX11_error_0 : decode cX11_error 0 = .ok (.aload_n 0, 1) := by decide +kernel
theorem dX11_error_1 : decode cX11_error 1 = .ok (.iconst 0, 1) := by decide +kernel
theorem dX11_error_2 : decode cX11_error 2 = .ok (.iload_n 1, 1) := by decide +kernel
theorem dX11_error_3 : decode cX11_error 3 = .ok (.invokevirtual 200, 3) := by decide +kernel
theorem dX11_error_6 : decode cX11_error 6 = .ok (.ifCond .ne 8, 3) := by decide +kernel
theorem dX11_error_9 : decode cX11_error 9 = .ok (.bipush (-2), 2) := by decide +kernel
theorem dX11_error_11 : decode cX11_error 11 = .ok (.goto 18, 3) := by decide +kernel
theorem dX11_error_14 : decode cX11_error 14 = .ok (.aload_n 0, 1) := by decide +kernel
theorem dX11_error_15 : decode cX11_error 15 = .ok (.getfield 113, 3) := by decide +kernel
theorem dX11_error_18 : decode cX11_error 18 = .ok (.bipush (-7), 2) := by decide +kernel
theorem dX11_error_20 : decode cX11_error 20 = .ok (.if_icmp .eq 8, 3) := by decide +kernel
theorem dX11_error_23 : decode cX11_error 23 = .ok (.bipush (-3), 2) := by decide +kernel
theorem dX11_error_25 : decode cX11_error 25 = .ok (.goto 4, 3) := by decide +kernel
theorem dX11_error_28 : decode cX11_error 28 = .ok (.iconst 0, 1) := by decide +kernel
theorem dX11_error_29 : decode cX11_error 29 = .ok (.ireturn, 1) := by decide +kernel
theorem dX11_syntaxFault_0 : decode cX11_syntaxFault 0 = .ok (.aload_n 0, 1) := by decide +kernel
theorem dX11_syntaxFault_1 : decode cX11_syntaxFault 1 = .ok (.iconst 0, 1) := by decide +kernel
theorem dX11_syntaxFault_2 : decode cX11_syntaxFault 2 = .ok (.iconst 0, 1) := by decide +kernel
theorem dX11_syntaxFault_3 : decode cX11_syntaxFault 3 = .ok (.invokevirtual 200, 3) := by decide +kernel
theorem dX11_syntaxFault_6 : decode cX11_syntaxFault 6 = .ok (.ifCond .eq 8, 3) := by decide +kernel
theorem dX11_syntaxFault_9 : decode cX11_syntaxFault 9 = .ok (.bipush (-7), 2) := by decide +kernel
theorem dX11_syntaxFault_11 : decode cX11_syntaxFault 11 = .ok (.goto 7, 3) := by decide +kernel
theorem dX11_syntaxFault_14 : decode cX11_syntaxFault 14 = .ok (.aload_n 0, 1) := by decide +kernel
theorem dX11_syntaxFault_15 : decode cX11_syntaxFault 15 = .ok (.getfield 104, 3) := by decide +kernel
theorem dX11_syntaxFault_18 : decode cX11_syntaxFault 18 = .ok (.ireturn, 1) := by decide +kernel
theorem dX11_unknownVariable_0 : decode cX11_unknownVariable 0 = .ok (.aload_n 0, 1) := by decide +kernel
theorem dX11_unknownVariable_1 : decode cX11_unknownVariable 1 = .ok (.iconst 0, 1) := by decide +kernel
theorem dX11_unknownVariable_2 : decode cX11_unknownVariable 2 = .ok (.aload_n 0, 1) := by decide +kernel
theorem dX11_unknownVariable_3 : decode cX11_unknownVariable 3 = .ok (.getfield 7, 3) := by decide +kernel
theorem dX11_unknownVariable_6 : decode cX11_unknownVariable 6 = .ok (.bipush 7, 2) := by decide +kernel
theorem dX11_unknownVariable_8 : decode cX11_unknownVariable 8 = .ok (.iaload, 1) := by decide +kernel
theorem dX11_unknownVariable_9 : decode cX11_unknownVariable 9 = .ok (.invokevirtual 200, 3) := by decide +kernel
theorem dX11_unknownVariable_12 : decode cX11_unknownVariable 12 = .ok (.ifCond .eq 10, 3) := by decide +kernel
theorem dX11_unknownVariable_15 : decode cX11_unknownVariable 15 = .ok (.aload_n 0, 1) := by decide +kernel
theorem dX11_unknownVariable_16 : decode cX11_unknownVariable 16 = .ok (.getfield 113, 3) := by decide +kernel
theorem dX11_unknownVariable_19 : decode cX11_unknownVariable 19 = .ok (.goto 5, 3) := by decide +kernel
theorem dX11_unknownVariable_22 : decode cX11_unknownVariable 22 = .ok (.bipush (-2), 2) := by decide +kernel
theorem dX11_unknownVariable_24 : decode cX11_unknownVariable 24 = .ok (.ireturn, 1) := by decide +kernel
theorem dX11_unknownDepth_0 : decode cX11_unknownDepth 0 = .ok (.aload_n 0, 1) := by decide +kernel
theorem dX11_unknownDepth_1 : decode cX11_unknownDepth 1 = .ok (.iconst 0, 1) := by decide +kernel
theorem dX11_unknownDepth_2 : decode cX11_unknownDepth 2 = .ok (.aload_n 0, 1) := by decide +kernel
theorem dX11_unknownDepth_3 : decode cX11_unknownDepth 3 = .ok (.getfield 7, 3) := by decide +kernel
theorem dX11_unknownDepth_6 : decode cX11_unknownDepth 6 = .ok (.bipush 7, 2) := by decide +kernel
theorem dX11_unknownDepth_8 : decode cX11_unknownDepth 8 = .ok (.iaload, 1) := by decide +kernel
theorem dX11_unknownDepth_9 : decode cX11_unknownDepth 9 = .ok (.invokevirtual 200, 3) := by decide +kernel
theorem dX11_unknownDepth_12 : decode cX11_unknownDepth 12 = .ok (.ifCond .ne 8, 3) := by decide +kernel
theorem dX11_unknownDepth_15 : decode cX11_unknownDepth 15 = .ok (.bipush (-2), 2) := by decide +kernel
theorem dX11_unknownDepth_17 : decode cX11_unknownDepth 17 = .ok (.goto 21, 3) := by decide +kernel
theorem dX11_unknownDepth_20 : decode cX11_unknownDepth 20 = .ok (.aload_n 0, 1) := by decide +kernel
theorem dX11_unknownDepth_21 : decode cX11_unknownDepth 21 = .ok (.getfield 113, 3) := by decide +kernel
theorem dX11_unknownDepth_24 : decode cX11_unknownDepth 24 = .ok (.bipush (-7), 2) := by decide +kernel
theorem dX11_unknownDepth_26 : decode cX11_unknownDepth 26 = .ok (.if_icmp .ne 8, 3) := by decide +kernel
theorem dX11_unknownDepth_29 : decode cX11_unknownDepth 29 = .ok (.bipush (-7), 2) := by decide +kernel
theorem dX11_unknownDepth_31 : decode cX11_unknownDepth 31 = .ok (.goto 7, 3) := by decide +kernel
theorem dX11_unknownDepth_34 : decode cX11_unknownDepth 34 = .ok (.aload_n 0, 1) := by decide +kernel
theorem dX11_unknownDepth_35 : decode cX11_unknownDepth 35 = .ok (.getfield 116, 3) := by decide +kernel
theorem dX11_unknownDepth_38 : decode cX11_unknownDepth 38 = .ok (.ireturn, 1) := by decide +kernel
theorem dX11_partCount_0 : decode cX11_partCount 0 = .ok (.aload_n 0, 1) := by decide +kernel
theorem dX11_partCount_1 : decode cX11_partCount 1 = .ok (.iconst 0, 1) := by decide +kernel
theorem dX11_partCount_2 : decode cX11_partCount 2 = .ok (.iconst 0, 1) := by decide +kernel
theorem dX11_partCount_3 : decode cX11_partCount 3 = .ok (.invokevirtual 200, 3) := by decide +kernel
theorem dX11_partCount_6 : decode cX11_partCount 6 = .ok (.ifCond .eq 10, 3) := by decide +kernel
theorem dX11_partCount_9 : decode cX11_partCount 9 = .ok (.aload_n 0, 1) := by decide +kernel
theorem dX11_partCount_10 : decode cX11_partCount 10 = .ok (.getfield 175, 3) := by decide +kernel
theorem dX11_partCount_13 : decode cX11_partCount 13 = .ok (.goto 5, 3) := by decide +kernel
theorem dX11_partCount_16 : decode cX11_partCount 16 = .ok (.bipush (-2), 2) := by decide +kernel
theorem dX11_partCount_18 : decode cX11_partCount 18 = .ok (.ireturn, 1) := by decide +kernel
theorem dX11_contextSize_0 : decode cX11_contextSize 0 = .ok (.aload_n 0, 1) := by decide +kernel
theorem dX11_contextSize_1 : decode cX11_contextSize 1 = .ok (.invokevirtual 204, 3) := by decide +kernel
theorem dX11_contextSize_4 : decode cX11_contextSize 4 = .ok (.ireturn, 1) := by decide +kernel
theorem dX11_known_0 : decode cX11_known 0 = .ok (.aload_n 0, 1) := by decide +kernel
theorem dX11_known_1 : decode cX11_known 1 = .ok (.getfield 7, 3) := by decide +kernel
theorem dX11_known_4 : decode cX11_known 4 = .ok (.bipush 7, 2) := by decide +kernel
theorem dX11_known_6 : decode cX11_known 6 = .ok (.iaload, 1) := by decide +kernel
theorem dX11_known_7 : decode cX11_known 7 = .ok (.ireturn, 1) := by decide +kernel
theorem dX11_isKnown_0 : decode cX11_isKnown 0 = .ok (.aload_n 0, 1) := by decide +kernel
theorem dX11_isKnown_1 : decode cX11_isKnown 1 = .ok (.getfield 7, 3) := by decide +kernel
theorem dX11_isKnown_4 : decode cX11_isKnown 4 = .ok (.bipush 7, 2) := by decide +kernel
theorem dX11_isKnown_6 : decode cX11_isKnown 6 = .ok (.iaload, 1) := by decide +kernel
theorem dX11_isKnown_7 : decode cX11_isKnown 7 = .ok (.iload_n 1, 1) := by decide +kernel
theorem dX11_isKnown_8 : decode cX11_isKnown 8 = .ok (.ishr, 1) := by decide +kernel
theorem dX11_isKnown_9 : decode cX11_isKnown 9 = .ok (.iconst 1, 1) := by decide +kernel
theorem dX11_isKnown_10 : decode cX11_isKnown 10 = .ok (.iand, 1) := by decide +kernel
theorem dX11_isKnown_11 : decode cX11_isKnown 11 = .ok (.iconst 1, 1) := by decide +kernel
theorem dX11_isKnown_12 : decode cX11_isKnown 12 = .ok (.if_icmp .ne 7, 3) := by decide +kernel
theorem dX11_isKnown_15 : decode cX11_isKnown 15 = .ok (.iconst 1, 1) := by decide +kernel
theorem dX11_isKnown_16 : decode cX11_isKnown 16 = .ok (.goto 4, 3) := by decide +kernel
theorem dX11_isKnown_19 : decode cX11_isKnown 19 = .ok (.iconst 0, 1) := by decide +kernel
theorem dX11_isKnown_20 : decode cX11_isKnown 20 = .ok (.ireturn, 1) := by decide +kernel
theorem dX11_objects_0 : decode cX11_objects 0 = .ok (.iload_n 1, 1) := by decide +kernel
theorem dX11_objects_1 : decode cX11_objects 1 = .ok (.iconst 0, 1) := by decide +kernel
theorem dX11_objects_2 : decode cX11_objects 2 = .ok (.iconst 2, 1) := by decide +kernel
theorem dX11_objects_3 : decode cX11_objects 3 = .ok (.invokestatic 67, 3) := by decide +kernel
theorem dX11_objects_6 : decode cX11_objects 6 = .ok (.ifCond .ne 5, 3) := by decide +kernel
theorem dX11_objects_9 : decode cX11_objects 9 = .ok (.iconst (-1), 1) := by decide +kernel
theorem dX11_objects_10 : decode cX11_objects 10 = .ok (.ireturn, 1) := by decide +kernel
theorem dX11_objects_11 : decode cX11_objects 11 = .ok (.iconst 0, 1) := by decide +kernel
theorem dX11_objects_12 : decode cX11_objects 12 = .ok (.istore_n 2, 1) := by decide +kernel
theorem dX11_objects_13 : decode cX11_objects 13 = .ok (.iconst 0, 1) := by decide +kernel
theorem dX11_objects_14 : decode cX11_objects 14 = .ok (.istore_n 3, 1) := by decide +kernel
theorem dX11_objects_15 : decode cX11_objects 15 = .ok (.iload_n 3, 1) := by decide +kernel
theorem dX11_objects_16 : decode cX11_objects 16 = .ok (.sipush 512, 3) := by decide +kernel
theorem dX11_objects_19 : decode cX11_objects 19 = .ok (.if_icmp .ge 31, 3) := by decide +kernel
theorem dX11_objects_22 : decode cX11_objects 22 = .ok (.iload_n 2, 1) := by decide +kernel
theorem dX11_objects_23 : decode cX11_objects 23 = .ok (.aload_n 0, 1) := by decide +kernel
theorem dX11_objects_24 : decode cX11_objects 24 = .ok (.iload_n 3, 1) := by decide +kernel
theorem dX11_objects_25 : decode cX11_objects 25 = .ok (.invokevirtual 71, 3) := by decide +kernel
theorem dX11_objects_28 : decode cX11_objects 28 = .ok (.ifCond .eq 13, 3) := by decide +kernel
theorem dX11_objects_31 : decode cX11_objects 31 = .ok (.iconst 1, 1) := by decide +kernel
theorem dX11_objects_32 : decode cX11_objects 32 = .ok (.iload_n 3, 1) := by decide +kernel
theorem dX11_objects_33 : decode cX11_objects 33 = .ok (.iload_n 1, 1) := by decide +kernel
theorem dX11_objects_34 : decode cX11_objects 34 = .ok (.invokestatic 129, 3) := by decide +kernel
theorem dX11_objects_37 : decode cX11_objects 37 = .ok (.ishl, 1) := by decide +kernel
theorem dX11_objects_38 : decode cX11_objects 38 = .ok (.goto 4, 3) := by decide +kernel
theorem dX11_objects_41 : decode cX11_objects 41 = .ok (.iconst 0, 1) := by decide +kernel
theorem dX11_objects_42 : decode cX11_objects 42 = .ok (.ior, 1) := by decide +kernel
theorem dX11_objects_43 : decode cX11_objects 43 = .ok (.istore_n 2, 1) := by decide +kernel
theorem dX11_objects_44 : decode cX11_objects 44 = .ok (.iinc 3 1, 3) := by decide +kernel
theorem dX11_objects_47 : decode cX11_objects 47 = .ok (.goto (-32), 3) := by decide +kernel
theorem dX11_objects_50 : decode cX11_objects 50 = .ok (.aload_n 0, 1) := by decide +kernel
theorem dX11_objects_51 : decode cX11_objects 51 = .ok (.iload_n 1, 1) := by decide +kernel
theorem dX11_objects_52 : decode cX11_objects 52 = .ok (.invokevirtual 207, 3) := by decide +kernel
theorem dX11_objects_55 : decode cX11_objects 55 = .ok (.ifCond .eq 7, 3) := by decide +kernel
theorem dX11_objects_58 : decode cX11_objects 58 = .ok (.iload_n 2, 1) := by decide +kernel
theorem dX11_objects_59 : decode cX11_objects 59 = .ok (.goto 5, 3) := by decide +kernel
theorem dX11_objects_62 : decode cX11_objects 62 = .ok (.bipush (-7), 2) := by decide +kernel
theorem dX11_objects_64 : decode cX11_objects 64 = .ok (.ireturn, 1) := by decide +kernel
theorem dX11_together_0 : decode cX11_together 0 = .ok (.iload_n 1, 1) := by decide +kernel
theorem dX11_together_1 : decode cX11_together 1 = .ok (.iconst 0, 1) := by decide +kernel
theorem dX11_together_2 : decode cX11_together 2 = .ok (.iconst 2, 1) := by decide +kernel
theorem dX11_together_3 : decode cX11_together 3 = .ok (.invokestatic 67, 3) := by decide +kernel
theorem dX11_together_6 : decode cX11_together 6 = .ok (.ifCond .eq 29, 3) := by decide +kernel
theorem dX11_together_9 : decode cX11_together 9 = .ok (.aload_n 0, 1) := by decide +kernel
theorem dX11_together_10 : decode cX11_together 10 = .ok (.iload_n 2, 1) := by decide +kernel
theorem dX11_together_11 : decode cX11_together 11 = .ok (.invokevirtual 81, 3) := by decide +kernel
theorem dX11_together_14 : decode cX11_together 14 = .ok (.ifCond .eq 21, 3) := by decide +kernel
theorem dX11_together_17 : decode cX11_together 17 = .ok (.iload_n 3, 1) := by decide +kernel
theorem dX11_together_18 : decode cX11_together 18 = .ok (.iconst 0, 1) := by decide +kernel
theorem dX11_together_19 : decode cX11_together 19 = .ok (.iconst 2, 1) := by decide +kernel
theorem dX11_together_20 : decode cX11_together 20 = .ok (.invokestatic 67, 3) := by decide +kernel
theorem dX11_together_23 : decode cX11_together 23 = .ok (.ifCond .eq 12, 3) := by decide +kernel
theorem dX11_together_26 : decode cX11_together 26 = .ok (.aload_n 0, 1) := by decide +kernel
theorem dX11_together_27 : decode cX11_together 27 = .ok (.iload 4, 2) := by decide +kernel
theorem dX11_together_29 : decode cX11_together 29 = .ok (.invokevirtual 81, 3) := by decide +kernel
theorem dX11_together_32 : decode cX11_together 32 = .ok (.ifCond .ne 5, 3) := by decide +kernel
theorem dX11_together_35 : decode cX11_together 35 = .ok (.iconst (-1), 1) := by decide +kernel
theorem dX11_together_36 : decode cX11_together 36 = .ok (.ireturn, 1) := by decide +kernel
theorem dX11_together_37 : decode cX11_together 37 = .ok (.iconst 0, 1) := by decide +kernel
theorem dX11_together_38 : decode cX11_together 38 = .ok (.istore 5, 2) := by decide +kernel
theorem dX11_together_40 : decode cX11_together 40 = .ok (.iconst 0, 1) := by decide +kernel
theorem dX11_together_41 : decode cX11_together 41 = .ok (.istore 6, 2) := by decide +kernel
theorem dX11_together_43 : decode cX11_together 43 = .ok (.iload 6, 2) := by decide +kernel
theorem dX11_together_45 : decode cX11_together 45 = .ok (.sipush 512, 3) := by decide +kernel
theorem dX11_together_48 : decode cX11_together 48 = .ok (.if_icmp .ge 49, 3) := by decide +kernel
theorem dX11_together_51 : decode cX11_together 51 = .ok (.iload 5, 2) := by decide +kernel
theorem dX11_together_53 : decode cX11_together 53 = .ok (.aload_n 0, 1) := by decide +kernel
theorem dX11_together_54 : decode cX11_together 54 = .ok (.iload 6, 2) := by decide +kernel
theorem dX11_together_56 : decode cX11_together 56 = .ok (.invokevirtual 71, 3) := by decide +kernel
theorem dX11_together_59 : decode cX11_together 59 = .ok (.ifCond .eq 28, 3) := by decide +kernel
theorem dX11_together_62 : decode cX11_together 62 = .ok (.iload 6, 2) := by decide +kernel
theorem dX11_together_64 : decode cX11_together 64 = .ok (.iload_n 1, 1) := by decide +kernel
theorem dX11_together_65 : decode cX11_together 65 = .ok (.invokestatic 129, 3) := by decide +kernel
theorem dX11_together_68 : decode cX11_together 68 = .ok (.iload_n 2, 1) := by decide +kernel
theorem dX11_together_69 : decode cX11_together 69 = .ok (.if_icmp .ne 18, 3) := by decide +kernel
theorem dX11_together_72 : decode cX11_together 72 = .ok (.iload 6, 2) := by decide +kernel
theorem dX11_together_74 : decode cX11_together 74 = .ok (.iload_n 3, 1) := by decide +kernel
theorem dX11_together_75 : decode cX11_together 75 = .ok (.invokestatic 129, 3) := by decide +kernel
theorem dX11_together_78 : decode cX11_together 78 = .ok (.iload 4, 2) := by decide +kernel
theorem dX11_together_80 : decode cX11_together 80 = .ok (.if_icmp .ne 7, 3) := by decide +kernel
theorem dX11_together_83 : decode cX11_together 83 = .ok (.iconst 1, 1) := by decide +kernel
theorem dX11_together_84 : decode cX11_together 84 = .ok (.goto 4, 3) := by decide +kernel
theorem dX11_together_87 : decode cX11_together 87 = .ok (.iconst 0, 1) := by decide +kernel
theorem dX11_together_88 : decode cX11_together 88 = .ok (.iadd, 1) := by decide +kernel
theorem dX11_together_89 : decode cX11_together 89 = .ok (.istore 5, 2) := by decide +kernel
theorem dX11_together_91 : decode cX11_together 91 = .ok (.iinc 6 1, 3) := by decide +kernel
theorem dX11_together_94 : decode cX11_together 94 = .ok (.goto (-51), 3) := by decide +kernel
theorem dX11_together_97 : decode cX11_together 97 = .ok (.aload_n 0, 1) := by decide +kernel
theorem dX11_together_98 : decode cX11_together 98 = .ok (.iload_n 1, 1) := by decide +kernel
theorem dX11_together_99 : decode cX11_together 99 = .ok (.invokevirtual 207, 3) := by decide +kernel
theorem dX11_together_102 : decode cX11_together 102 = .ok (.ifCond .eq 16, 3) := by decide +kernel
theorem dX11_together_105 : decode cX11_together 105 = .ok (.aload_n 0, 1) := by decide +kernel
theorem dX11_together_106 : decode cX11_together 106 = .ok (.iload_n 3, 1) := by decide +kernel
theorem dX11_together_107 : decode cX11_together 107 = .ok (.invokevirtual 207, 3) := by decide +kernel
theorem dX11_together_110 : decode cX11_together 110 = .ok (.ifCond .eq 8, 3) := by decide +kernel
theorem dX11_together_113 : decode cX11_together 113 = .ok (.iload 5, 2) := by decide +kernel
theorem dX11_together_115 : decode cX11_together 115 = .ok (.goto 5, 3) := by decide +kernel
theorem dX11_together_118 : decode cX11_together 118 = .ok (.bipush (-7), 2) := by decide +kernel
theorem dX11_together_120 : decode cX11_together 120 = .ok (.ireturn, 1) := by decide +kernel
theorem dX11_resetContext_0 : decode cX11_resetContext 0 = .ok (.aload_n 0, 1) := by decide +kernel
theorem dX11_resetContext_1 : decode cX11_resetContext 1 = .ok (.invokevirtual 75, 3) := by decide +kernel
theorem dX11_resetContext_4 : decode cX11_resetContext 4 = .ok (.aload_n 0, 1) := by decide +kernel
theorem dX11_resetContext_5 : decode cX11_resetContext 5 = .ok (.invokevirtual 204, 3) := by decide +kernel
theorem dX11_resetContext_8 : decode cX11_resetContext 8 = .ok (.istore_n 1, 1) := by decide +kernel
theorem dX11_resetContext_9 : decode cX11_resetContext 9 = .ok (.aload_n 0, 1) := by decide +kernel
theorem dX11_resetContext_10 : decode cX11_resetContext 10 = .ok (.invokevirtual 78, 3) := by decide +kernel
theorem dX11_resetContext_13 : decode cX11_resetContext 13 = .ok (.iload_n 1, 1) := by decide +kernel
theorem dX11_resetContext_14 : decode cX11_resetContext 14 = .ok (.ireturn, 1) := by decide +kernel
theorem dX11_setAccommodation_0 : decode cX11_setAccommodation 0 = .ok (.iload_n 1, 1) := by decide +kernel
theorem dX11_setAccommodation_1 : decode cX11_setAccommodation 1 = .ok (.iconst 0, 1) := by decide +kernel
theorem dX11_setAccommodation_2 : decode cX11_setAccommodation 2 = .ok (.iconst 1, 1) := by decide +kernel
theorem dX11_setAccommodation_3 : decode cX11_setAccommodation 3 = .ok (.invokestatic 67, 3) := by decide +kernel
theorem dX11_setAccommodation_6 : decode cX11_setAccommodation 6 = .ok (.ifCond .ne 5, 3) := by decide +kernel
theorem dX11_setAccommodation_9 : decode cX11_setAccommodation 9 = .ok (.iconst (-1), 1) := by decide +kernel
theorem dX11_setAccommodation_10 : decode cX11_setAccommodation 10 = .ok (.ireturn, 1) := by decide +kernel
theorem dX11_setAccommodation_11 : decode cX11_setAccommodation 11 = .ok (.aload_n 0, 1) := by decide +kernel
theorem dX11_setAccommodation_12 : decode cX11_setAccommodation 12 = .ok (.invokevirtual 75, 3) := by decide +kernel
theorem dX11_setAccommodation_15 : decode cX11_setAccommodation 15 = .ok (.aload_n 0, 1) := by decide +kernel
theorem dX11_setAccommodation_16 : decode cX11_setAccommodation 16 = .ok (.getfield 7, 3) := by decide +kernel
theorem dX11_setAccommodation_19 : decode cX11_setAccommodation 19 = .ok (.bipush 6, 2) := by decide +kernel
theorem dX11_setAccommodation_21 : decode cX11_setAccommodation 21 = .ok (.iaload, 1) := by decide +kernel
theorem dX11_setAccommodation_22 : decode cX11_setAccommodation 22 = .ok (.istore_n 2, 1) := by decide +kernel
theorem dX11_setAccommodation_23 : decode cX11_setAccommodation 23 = .ok (.aload_n 0, 1) := by decide +kernel
theorem dX11_setAccommodation_24 : decode cX11_setAccommodation 24 = .ok (.getfield 7, 3) := by decide +kernel
theorem dX11_setAccommodation_27 : decode cX11_setAccommodation 27 = .ok (.bipush 6, 2) := by decide +kernel
theorem dX11_setAccommodation_29 : decode cX11_setAccommodation 29 = .ok (.iload_n 1, 1) := by decide +kernel
theorem dX11_setAccommodation_30 : decode cX11_setAccommodation 30 = .ok (.iastore, 1) := by decide +kernel
theorem dX11_setAccommodation_31 : decode cX11_setAccommodation 31 = .ok (.iload_n 2, 1) := by decide +kernel
theorem dX11_setAccommodation_32 : decode cX11_setAccommodation 32 = .ok (.ireturn, 1) := by decide +kernel
theorem dX11_tries_0 : decode cX11_tries 0 = .ok (.aload_n 0, 1) := by decide +kernel
theorem dX11_tries_1 : decode cX11_tries 1 = .ok (.aload_n 0, 1) := by decide +kernel
theorem dX11_tries_2 : decode cX11_tries 2 = .ok (.getfield 7, 3) := by decide +kernel
theorem dX11_tries_5 : decode cX11_tries 5 = .ok (.bipush 7, 2) := by decide +kernel
theorem dX11_tries_7 : decode cX11_tries 7 = .ok (.iaload, 1) := by decide +kernel
theorem dX11_tries_8 : decode cX11_tries 8 = .ok (.invokevirtual 210, 3) := by decide +kernel
theorem dX11_tries_11 : decode cX11_tries 11 = .ok (.istore_n 1, 1) := by decide +kernel
theorem dX11_tries_12 : decode cX11_tries 12 = .ok (.iload_n 1, 1) := by decide +kernel
theorem dX11_tries_13 : decode cX11_tries 13 = .ok (.ifCond .ge 5, 3) := by decide +kernel
theorem dX11_tries_16 : decode cX11_tries 16 = .ok (.iload_n 1, 1) := by decide +kernel
theorem dX11_tries_17 : decode cX11_tries 17 = .ok (.ireturn, 1) := by decide +kernel
theorem dX11_tries_18 : decode cX11_tries 18 = .ok (.aload_n 0, 1) := by decide +kernel
theorem dX11_tries_19 : decode cX11_tries 19 = .ok (.iconst 0, 1) := by decide +kernel
theorem dX11_tries_20 : decode cX11_tries 20 = .ok (.invokevirtual 213, 3) := by decide +kernel
theorem dX11_tries_23 : decode cX11_tries 23 = .ok (.aload_n 0, 1) := by decide +kernel
theorem dX11_tries_24 : decode cX11_tries 24 = .ok (.iconst 1, 1) := by decide +kernel
theorem dX11_tries_25 : decode cX11_tries 25 = .ok (.aload_n 0, 1) := by decide +kernel
theorem dX11_tries_26 : decode cX11_tries 26 = .ok (.getfield 7, 3) := by decide +kernel
theorem dX11_tries_29 : decode cX11_tries 29 = .ok (.bipush 7, 2) := by decide +kernel
theorem dX11_tries_31 : decode cX11_tries 31 = .ok (.iaload, 1) := by decide +kernel
theorem dX11_tries_32 : decode cX11_tries 32 = .ok (.invokevirtual 200, 3) := by decide +kernel
theorem dX11_tries_35 : decode cX11_tries 35 = .ok (.istore_n 2, 1) := by decide +kernel
theorem dX11_tries_36 : decode cX11_tries 36 = .ok (.iload_n 2, 1) := by decide +kernel
theorem dX11_tries_37 : decode cX11_tries 37 = .ok (.ifCond .eq 19, 3) := by decide +kernel
theorem dX11_tries_40 : decode cX11_tries 40 = .ok (.aload_n 0, 1) := by decide +kernel
theorem dX11_tries_41 : decode cX11_tries 41 = .ok (.getfield 187, 3) := by decide +kernel
theorem dX11_tries_44 : decode cX11_tries 44 = .ok (.bipush (-7), 2) := by decide +kernel
theorem dX11_tries_46 : decode cX11_tries 46 = .ok (.if_icmp .ne 10, 3) := by decide +kernel
theorem dX11_tries_49 : decode cX11_tries 49 = .ok (.aload_n 0, 1) := by decide +kernel
theorem dX11_tries_50 : decode cX11_tries 50 = .ok (.invokevirtual 184, 3) := by decide +kernel
theorem dX11_tries_53 : decode cX11_tries 53 = .ok (.goto 5, 3) := by decide +kernel
theorem dX11_tries_56 : decode cX11_tries 56 = .ok (.bipush (-4), 2) := by decide +kernel
theorem dX11_tries_58 : decode cX11_tries 58 = .ok (.ireturn, 1) := by decide +kernel
theorem dX11_accept_0 : decode cX11_accept 0 = .ok (.aload_n 0, 1) := by decide +kernel
theorem dX11_accept_1 : decode cX11_accept 1 = .ok (.invokevirtual 216, 3) := by decide +kernel
theorem dX11_accept_4 : decode cX11_accept 4 = .ok (.istore_n 1, 1) := by decide +kernel
theorem dX11_accept_5 : decode cX11_accept 5 = .ok (.iload_n 1, 1) := by decide +kernel
theorem dX11_accept_6 : decode cX11_accept 6 = .ok (.ifCond .ge 5, 3) := by decide +kernel
theorem dX11_accept_9 : decode cX11_accept 9 = .ok (.iload_n 1, 1) := by decide +kernel
theorem dX11_accept_10 : decode cX11_accept 10 = .ok (.ireturn, 1) := by decide +kernel
theorem dX11_accept_11 : decode cX11_accept 11 = .ok (.aload_n 0, 1) := by decide +kernel
theorem dX11_accept_12 : decode cX11_accept 12 = .ok (.invokevirtual 75, 3) := by decide +kernel
theorem dX11_accept_15 : decode cX11_accept 15 = .ok (.aload_n 0, 1) := by decide +kernel
theorem dX11_accept_16 : decode cX11_accept 16 = .ok (.getfield 7, 3) := by decide +kernel
theorem dX11_accept_19 : decode cX11_accept 19 = .ok (.bipush 7, 2) := by decide +kernel
theorem dX11_accept_21 : decode cX11_accept 21 = .ok (.aload_n 0, 1) := by decide +kernel
theorem dX11_accept_22 : decode cX11_accept 22 = .ok (.getfield 110, 3) := by decide +kernel
theorem dX11_accept_25 : decode cX11_accept 25 = .ok (.iastore, 1) := by decide +kernel
theorem dX11_accept_26 : decode cX11_accept 26 = .ok (.aload_n 0, 1) := by decide +kernel
theorem dX11_accept_27 : decode cX11_accept 27 = .ok (.getfield 7, 3) := by decide +kernel
theorem dX11_accept_30 : decode cX11_accept 30 = .ok (.bipush 8, 2) := by decide +kernel
theorem dX11_accept_32 : decode cX11_accept 32 = .ok (.aload_n 0, 1) := by decide +kernel
theorem dX11_accept_33 : decode cX11_accept 33 = .ok (.getfield 190, 3) := by decide +kernel
theorem dX11_accept_36 : decode cX11_accept 36 = .ok (.iastore, 1) := by decide +kernel
theorem dX11_accept_37 : decode cX11_accept 37 = .ok (.iconst 0, 1) := by decide +kernel
theorem dX11_accept_38 : decode cX11_accept 38 = .ok (.istore_n 2, 1) := by decide +kernel
theorem dX11_accept_39 : decode cX11_accept 39 = .ok (.iload_n 2, 1) := by decide +kernel
theorem dX11_accept_40 : decode cX11_accept 40 = .ok (.bipush 16, 2) := by decide +kernel
theorem dX11_accept_42 : decode cX11_accept 42 = .ok (.if_icmp .ge 19, 3) := by decide +kernel
theorem dX11_accept_45 : decode cX11_accept 45 = .ok (.aload_n 0, 1) := by decide +kernel
theorem dX11_accept_46 : decode cX11_accept 46 = .ok (.getfield 7, 3) := by decide +kernel
theorem dX11_accept_49 : decode cX11_accept 49 = .ok (.bipush 9, 2) := by decide +kernel
theorem dX11_accept_51 : decode cX11_accept 51 = .ok (.iload_n 2, 1) := by decide +kernel
theorem dX11_accept_52 : decode cX11_accept 52 = .ok (.iadd, 1) := by decide +kernel
theorem dX11_accept_53 : decode cX11_accept 53 = .ok (.iconst 0, 1) := by decide +kernel
theorem dX11_accept_54 : decode cX11_accept 54 = .ok (.iastore, 1) := by decide +kernel
theorem dX11_accept_55 : decode cX11_accept 55 = .ok (.iinc 2 1, 3) := by decide +kernel
theorem dX11_accept_58 : decode cX11_accept 58 = .ok (.goto (-19), 3) := by decide +kernel
theorem dX11_accept_61 : decode cX11_accept 61 = .ok (.iconst 0, 1) := by decide +kernel
theorem dX11_accept_62 : decode cX11_accept 62 = .ok (.istore_n 2, 1) := by decide +kernel
theorem dX11_accept_63 : decode cX11_accept 63 = .ok (.iload_n 2, 1) := by decide +kernel
theorem dX11_accept_64 : decode cX11_accept 64 = .ok (.sipush 512, 3) := by decide +kernel
theorem dX11_accept_67 : decode cX11_accept 67 = .ok (.if_icmp .ge 43, 3) := by decide +kernel
theorem dX11_accept_70 : decode cX11_accept 70 = .ok (.aload_n 0, 1) := by decide +kernel
theorem dX11_accept_71 : decode cX11_accept 71 = .ok (.getfield 7, 3) := by decide +kernel
theorem dX11_accept_74 : decode cX11_accept 74 = .ok (.bipush 9, 2) := by decide +kernel
theorem dX11_accept_76 : decode cX11_accept 76 = .ok (.iload_n 2, 1) := by decide +kernel
theorem dX11_accept_77 : decode cX11_accept 77 = .ok (.bipush 32, 2) := by decide +kernel
theorem dX11_accept_79 : decode cX11_accept 79 = .ok (.idiv, 1) := by decide +kernel
theorem dX11_accept_80 : decode cX11_accept 80 = .ok (.iadd, 1) := by decide +kernel
theorem dX11_accept_81 : decode cX11_accept 81 = .ok (.dup2, 1) := by decide +kernel
theorem dX11_accept_82 : decode cX11_accept 82 = .ok (.iaload, 1) := by decide +kernel
theorem dX11_accept_83 : decode cX11_accept 83 = .ok (.aload_n 0, 1) := by decide +kernel
theorem dX11_accept_84 : decode cX11_accept 84 = .ok (.getfield 32, 3) := by decide +kernel
theorem dX11_accept_87 : decode cX11_accept 87 = .ok (.iload_n 2, 1) := by decide +kernel
theorem dX11_accept_88 : decode cX11_accept 88 = .ok (.baload, 1) := by decide +kernel
theorem dX11_accept_89 : decode cX11_accept 89 = .ok (.ifCond .eq 12, 3) := by decide +kernel
theorem dX11_accept_92 : decode cX11_accept 92 = .ok (.iconst 1, 1) := by decide +kernel
theorem dX11_accept_93 : decode cX11_accept 93 = .ok (.iload_n 2, 1) := by decide +kernel
theorem dX11_accept_94 : decode cX11_accept 94 = .ok (.bipush 32, 2) := by decide +kernel
theorem dX11_accept_96 : decode cX11_accept 96 = .ok (.irem, 1) := by decide +kernel
theorem dX11_accept_97 : decode cX11_accept 97 = .ok (.ishl, 1) := by decide +kernel
theorem dX11_accept_98 : decode cX11_accept 98 = .ok (.goto 4, 3) := by decide +kernel
theorem dX11_accept_101 : decode cX11_accept 101 = .ok (.iconst 0, 1) := by decide +kernel
theorem dX11_accept_102 : decode cX11_accept 102 = .ok (.ior, 1) := by decide +kernel
theorem dX11_accept_103 : decode cX11_accept 103 = .ok (.iastore, 1) := by decide +kernel
theorem dX11_accept_104 : decode cX11_accept 104 = .ok (.iinc 2 1, 3) := by decide +kernel
theorem dX11_accept_107 : decode cX11_accept 107 = .ok (.goto (-44), 3) := by decide +kernel
theorem dX11_accept_110 : decode cX11_accept 110 = .ok (.iload_n 1, 1) := by decide +kernel
theorem dX11_accept_111 : decode cX11_accept 111 = .ok (.ireturn, 1) := by decide +kernel
theorem dX11_acceptable_0 : decode cX11_acceptable 0 = .ok (.aload_n 0, 1) := by decide +kernel
theorem dX11_acceptable_1 : decode cX11_acceptable 1 = .ok (.invokevirtual 216, 3) := by decide +kernel
theorem dX11_acceptable_4 : decode cX11_acceptable 4 = .ok (.ireturn, 1) := by decide +kernel
theorem dX11_failingAt_0 : decode cX11_failingAt 0 = .ok (.aload_n 0, 1) := by decide +kernel
theorem dX11_failingAt_1 : decode cX11_failingAt 1 = .ok (.invokevirtual 216, 3) := by decide +kernel
theorem dX11_failingAt_4 : decode cX11_failingAt 4 = .ok (.istore_n 1, 1) := by decide +kernel
theorem dX11_failingAt_5 : decode cX11_failingAt 5 = .ok (.iload_n 1, 1) := by decide +kernel
theorem dX11_failingAt_6 : decode cX11_failingAt 6 = .ok (.bipush (-2), 2) := by decide +kernel
theorem dX11_failingAt_8 : decode cX11_failingAt 8 = .ok (.if_icmp .eq 9, 3) := by decide +kernel
theorem dX11_failingAt_11 : decode cX11_failingAt 11 = .ok (.iload_n 1, 1) := by decide +kernel
theorem dX11_failingAt_12 : decode cX11_failingAt 12 = .ok (.bipush (-3), 2) := by decide +kernel
theorem dX11_failingAt_14 : decode cX11_failingAt 14 = .ok (.if_icmp .ne 7, 3) := by decide +kernel
theorem dX11_failingAt_17 : decode cX11_failingAt 17 = .ok (.iload_n 1, 1) := by decide +kernel
theorem dX11_failingAt_18 : decode cX11_failingAt 18 = .ok (.goto 18, 3) := by decide +kernel
theorem dX11_failingAt_21 : decode cX11_failingAt 21 = .ok (.iload_n 1, 1) := by decide +kernel
theorem dX11_failingAt_22 : decode cX11_failingAt 22 = .ok (.bipush (-4), 2) := by decide +kernel
theorem dX11_failingAt_24 : decode cX11_failingAt 24 = .ok (.if_icmp .ne 10, 3) := by decide +kernel
theorem dX11_failingAt_27 : decode cX11_failingAt 27 = .ok (.aload_n 0, 1) := by decide +kernel
theorem dX11_failingAt_28 : decode cX11_failingAt 28 = .ok (.getfield 187, 3) := by decide +kernel
theorem dX11_failingAt_31 : decode cX11_failingAt 31 = .ok (.goto 5, 3) := by decide +kernel
theorem dX11_failingAt_34 : decode cX11_failingAt 34 = .ok (.bipush (-7), 2) := by decide +kernel
theorem dX11_failingAt_36 : decode cX11_failingAt 36 = .ok (.ireturn, 1) := by decide +kernel
theorem dX11_accommodated_0 : decode cX11_accommodated 0 = .ok (.iconst 0, 1) := by decide +kernel
theorem dX11_accommodated_1 : decode cX11_accommodated 1 = .ok (.istore_n 1, 1) := by decide +kernel
theorem dX11_accommodated_2 : decode cX11_accommodated 2 = .ok (.iconst 0, 1) := by decide +kernel
theorem dX11_accommodated_3 : decode cX11_accommodated 3 = .ok (.istore_n 2, 1) := by decide +kernel
theorem dX11_accommodated_4 : decode cX11_accommodated 4 = .ok (.iload_n 2, 1) := by decide +kernel
theorem dX11_accommodated_5 : decode cX11_accommodated 5 = .ok (.bipush 30, 2) := by decide +kernel
theorem dX11_accommodated_7 : decode cX11_accommodated 7 = .ok (.if_icmp .ge 23, 3) := by decide +kernel
theorem dX11_accommodated_10 : decode cX11_accommodated 10 = .ok (.iload_n 1, 1) := by decide +kernel
theorem dX11_accommodated_11 : decode cX11_accommodated 11 = .ok (.aload_n 0, 1) := by decide +kernel
theorem dX11_accommodated_12 : decode cX11_accommodated 12 = .ok (.getfield 7, 3) := by decide +kernel
theorem dX11_accommodated_15 : decode cX11_accommodated 15 = .ok (.bipush 8, 2) := by decide +kernel
theorem dX11_accommodated_17 : decode cX11_accommodated 17 = .ok (.iaload, 1) := by decide +kernel
theorem dX11_accommodated_18 : decode cX11_accommodated 18 = .ok (.iload_n 2, 1) := by decide +kernel
theorem dX11_accommodated_19 : decode cX11_accommodated 19 = .ok (.ishr, 1) := by decide +kernel
theorem dX11_accommodated_20 : decode cX11_accommodated 20 = .ok (.iconst 1, 1) := by decide +kernel
theorem dX11_accommodated_21 : decode cX11_accommodated 21 = .ok (.iand, 1) := by decide +kernel
theorem dX11_accommodated_22 : decode cX11_accommodated 22 = .ok (.iadd, 1) := by decide +kernel
theorem dX11_accommodated_23 : decode cX11_accommodated 23 = .ok (.istore_n 1, 1) := by decide +kernel
theorem dX11_accommodated_24 : decode cX11_accommodated 24 = .ok (.iinc 2 1, 3) := by decide +kernel
theorem dX11_accommodated_27 : decode cX11_accommodated 27 = .ok (.goto (-23), 3) := by decide +kernel
theorem dX11_accommodated_30 : decode cX11_accommodated 30 = .ok (.iload_n 1, 1) := by decide +kernel
theorem dX11_accommodated_31 : decode cX11_accommodated 31 = .ok (.ireturn, 1) := by decide +kernel
theorem dX11_accommodatedPart_0 : decode cX11_accommodatedPart 0 = .ok (.iload_n 1, 1) := by decide +kernel
theorem dX11_accommodatedPart_1 : decode cX11_accommodatedPart 1 = .ok (.ifCond .ge 5, 3) := by decide +kernel
theorem dX11_accommodatedPart_4 : decode cX11_accommodatedPart 4 = .ok (.iconst (-1), 1) := by decide +kernel
theorem dX11_accommodatedPart_5 : decode cX11_accommodatedPart 5 = .ok (.ireturn, 1) := by decide +kernel
theorem dX11_accommodatedPart_6 : decode cX11_accommodatedPart 6 = .ok (.iconst 0, 1) := by decide +kernel
theorem dX11_accommodatedPart_7 : decode cX11_accommodatedPart 7 = .ok (.istore_n 2, 1) := by decide +kernel
theorem dX11_accommodatedPart_8 : decode cX11_accommodatedPart 8 = .ok (.iconst 0, 1) := by decide +kernel
theorem dX11_accommodatedPart_9 : decode cX11_accommodatedPart 9 = .ok (.istore_n 3, 1) := by decide +kernel
theorem dX11_accommodatedPart_10 : decode cX11_accommodatedPart 10 = .ok (.iload_n 3, 1) := by decide +kernel
theorem dX11_accommodatedPart_11 : decode cX11_accommodatedPart 11 = .ok (.bipush 30, 2) := by decide +kernel
theorem dX11_accommodatedPart_13 : decode cX11_accommodatedPart 13 = .ok (.if_icmp .ge 56, 3) := by decide +kernel
theorem dX11_accommodatedPart_16 : decode cX11_accommodatedPart 16 = .ok (.aload_n 0, 1) := by decide +kernel
theorem dX11_accommodatedPart_17 : decode cX11_accommodatedPart 17 = .ok (.getfield 7, 3) := by decide +kernel
theorem dX11_accommodatedPart_20 : decode cX11_accommodatedPart 20 = .ok (.bipush 8, 2) := by decide +kernel
theorem dX11_accommodatedPart_22 : decode cX11_accommodatedPart 22 = .ok (.iaload, 1) := by decide +kernel
theorem dX11_accommodatedPart_23 : decode cX11_accommodatedPart 23 = .ok (.iload_n 3, 1) := by decide +kernel
theorem dX11_accommodatedPart_24 : decode cX11_accommodatedPart 24 = .ok (.ishr, 1) := by decide +kernel
theorem dX11_accommodatedPart_25 : decode cX11_accommodatedPart 25 = .ok (.iconst 1, 1) := by decide +kernel
theorem dX11_accommodatedPart_26 : decode cX11_accommodatedPart 26 = .ok (.iand, 1) := by decide +kernel
theorem dX11_accommodatedPart_27 : decode cX11_accommodatedPart 27 = .ok (.iconst 1, 1) := by decide +kernel
theorem dX11_accommodatedPart_28 : decode cX11_accommodatedPart 28 = .ok (.if_icmp .ne 7, 3) := by decide +kernel
theorem dX11_accommodatedPart_31 : decode cX11_accommodatedPart 31 = .ok (.iconst 1, 1) := by decide +kernel
theorem dX11_accommodatedPart_32 : decode cX11_accommodatedPart 32 = .ok (.goto 4, 3) := by decide +kernel
theorem dX11_accommodatedPart_35 : decode cX11_accommodatedPart 35 = .ok (.iconst 0, 1) := by decide +kernel
theorem dX11_accommodatedPart_36 : decode cX11_accommodatedPart 36 = .ok (.istore 4, 2) := by decide +kernel
theorem dX11_accommodatedPart_38 : decode cX11_accommodatedPart 38 = .ok (.iload 4, 2) := by decide +kernel
theorem dX11_accommodatedPart_40 : decode cX11_accommodatedPart 40 = .ok (.ifCond .eq 10, 3) := by decide +kernel
theorem dX11_accommodatedPart_43 : decode cX11_accommodatedPart 43 = .ok (.iload_n 2, 1) := by decide +kernel
theorem dX11_accommodatedPart_44 : decode cX11_accommodatedPart 44 = .ok (.iload_n 1, 1) := by decide +kernel
theorem dX11_accommodatedPart_45 : decode cX11_accommodatedPart 45 = .ok (.if_icmp .ne 5, 3) := by decide +kernel
theorem dX11_accommodatedPart_48 : decode cX11_accommodatedPart 48 = .ok (.iload_n 3, 1) := by decide +kernel
theorem dX11_accommodatedPart_49 : decode cX11_accommodatedPart 49 = .ok (.ireturn, 1) := by decide +kernel
theorem dX11_accommodatedPart_50 : decode cX11_accommodatedPart 50 = .ok (.iload_n 2, 1) := by decide +kernel
theorem dX11_accommodatedPart_51 : decode cX11_accommodatedPart 51 = .ok (.iload 4, 2) := by decide +kernel
theorem dX11_accommodatedPart_53 : decode cX11_accommodatedPart 53 = .ok (.ifCond .eq 7, 3) := by decide +kernel
theorem dX11_accommodatedPart_56 : decode cX11_accommodatedPart 56 = .ok (.iconst 1, 1) := by decide +kernel
theorem dX11_accommodatedPart_57 : decode cX11_accommodatedPart 57 = .ok (.goto 4, 3) := by decide +kernel
theorem dX11_accommodatedPart_60 : decode cX11_accommodatedPart 60 = .ok (.iconst 0, 1) := by decide +kernel
theorem dX11_accommodatedPart_61 : decode cX11_accommodatedPart 61 = .ok (.iadd, 1) := by decide +kernel
theorem dX11_accommodatedPart_62 : decode cX11_accommodatedPart 62 = .ok (.istore_n 2, 1) := by decide +kernel
theorem dX11_accommodatedPart_63 : decode cX11_accommodatedPart 63 = .ok (.iinc 3 1, 3) := by decide +kernel
theorem dX11_accommodatedPart_66 : decode cX11_accommodatedPart 66 = .ok (.goto (-56), 3) := by decide +kernel
theorem dX11_accommodatedPart_69 : decode cX11_accommodatedPart 69 = .ok (.bipush (-7), 2) := by decide +kernel
theorem dX11_accommodatedPart_71 : decode cX11_accommodatedPart 71 = .ok (.ireturn, 1) := by decide +kernel
theorem dX11_sizeBehind_0 : decode cX11_sizeBehind 0 = .ok (.iload_n 1, 1) := by decide +kernel
theorem dX11_sizeBehind_1 : decode cX11_sizeBehind 1 = .ok (.ifCond .ge 5, 3) := by decide +kernel
theorem dX11_sizeBehind_4 : decode cX11_sizeBehind 4 = .ok (.iconst (-1), 1) := by decide +kernel
theorem dX11_sizeBehind_5 : decode cX11_sizeBehind 5 = .ok (.ireturn, 1) := by decide +kernel
theorem dX11_sizeBehind_6 : decode cX11_sizeBehind 6 = .ok (.aload_n 0, 1) := by decide +kernel
theorem dX11_sizeBehind_7 : decode cX11_sizeBehind 7 = .ok (.aload_n 0, 1) := by decide +kernel
theorem dX11_sizeBehind_8 : decode cX11_sizeBehind 8 = .ok (.getfield 7, 3) := by decide +kernel
theorem dX11_sizeBehind_11 : decode cX11_sizeBehind 11 = .ok (.bipush 7, 2) := by decide +kernel
theorem dX11_sizeBehind_13 : decode cX11_sizeBehind 13 = .ok (.iaload, 1) := by decide +kernel
theorem dX11_sizeBehind_14 : decode cX11_sizeBehind 14 = .ok (.invokevirtual 210, 3) := by decide +kernel
theorem dX11_sizeBehind_17 : decode cX11_sizeBehind 17 = .ok (.istore_n 2, 1) := by decide +kernel
theorem dX11_sizeBehind_18 : decode cX11_sizeBehind 18 = .ok (.iload_n 2, 1) := by decide +kernel
theorem dX11_sizeBehind_19 : decode cX11_sizeBehind 19 = .ok (.ifCond .lt 11, 3) := by decide +kernel
theorem dX11_sizeBehind_22 : decode cX11_sizeBehind 22 = .ok (.aload_n 0, 1) := by decide +kernel
theorem dX11_sizeBehind_23 : decode cX11_sizeBehind 23 = .ok (.getfield 175, 3) := by decide +kernel
theorem dX11_sizeBehind_26 : decode cX11_sizeBehind 26 = .ok (.iload_n 1, 1) := by decide +kernel
theorem dX11_sizeBehind_27 : decode cX11_sizeBehind 27 = .ok (.if_icmp .ge 14, 3) := by decide +kernel
theorem dX11_sizeBehind_30 : decode cX11_sizeBehind 30 = .ok (.iload_n 2, 1) := by decide +kernel
theorem dX11_sizeBehind_31 : decode cX11_sizeBehind 31 = .ok (.ifCond .ge 7, 3) := by decide +kernel
theorem dX11_sizeBehind_34 : decode cX11_sizeBehind 34 = .ok (.iload_n 2, 1) := by decide +kernel
theorem dX11_sizeBehind_35 : decode cX11_sizeBehind 35 = .ok (.goto 5, 3) := by decide +kernel
theorem dX11_sizeBehind_38 : decode cX11_sizeBehind 38 = .ok (.bipush (-7), 2) := by decide +kernel
theorem dX11_sizeBehind_40 : decode cX11_sizeBehind 40 = .ok (.ireturn, 1) := by decide +kernel
theorem dX11_sizeBehind_41 : decode cX11_sizeBehind 41 = .ok (.aload_n 0, 1) := by decide +kernel
theorem dX11_sizeBehind_42 : decode cX11_sizeBehind 42 = .ok (.iload_n 1, 1) := by decide +kernel
theorem dX11_sizeBehind_43 : decode cX11_sizeBehind 43 = .ok (.putfield 178, 3) := by decide +kernel
theorem dX11_sizeBehind_46 : decode cX11_sizeBehind 46 = .ok (.aload_n 0, 1) := by decide +kernel
theorem dX11_sizeBehind_47 : decode cX11_sizeBehind 47 = .ok (.iconst 0, 1) := by decide +kernel
theorem dX11_sizeBehind_48 : decode cX11_sizeBehind 48 = .ok (.invokevirtual 213, 3) := by decide +kernel
theorem dX11_sizeBehind_51 : decode cX11_sizeBehind 51 = .ok (.aload_n 0, 1) := by decide +kernel
theorem dX11_sizeBehind_52 : decode cX11_sizeBehind 52 = .ok (.iconst 2, 1) := by decide +kernel
theorem dX11_sizeBehind_53 : decode cX11_sizeBehind 53 = .ok (.aload_n 0, 1) := by decide +kernel
theorem dX11_sizeBehind_54 : decode cX11_sizeBehind 54 = .ok (.getfield 7, 3) := by decide +kernel
theorem dX11_sizeBehind_57 : decode cX11_sizeBehind 57 = .ok (.bipush 7, 2) := by decide +kernel
theorem dX11_sizeBehind_59 : decode cX11_sizeBehind 59 = .ok (.iaload, 1) := by decide +kernel
theorem dX11_sizeBehind_60 : decode cX11_sizeBehind 60 = .ok (.invokevirtual 200, 3) := by decide +kernel
theorem dX11_sizeBehind_63 : decode cX11_sizeBehind 63 = .ok (.ifCond .eq 10, 3) := by decide +kernel
theorem dX11_sizeBehind_66 : decode cX11_sizeBehind 66 = .ok (.aload_n 0, 1) := by decide +kernel
theorem dX11_sizeBehind_67 : decode cX11_sizeBehind 67 = .ok (.invokevirtual 184, 3) := by decide +kernel
theorem dX11_sizeBehind_70 : decode cX11_sizeBehind 70 = .ok (.goto 5, 3) := by decide +kernel
theorem dX11_sizeBehind_73 : decode cX11_sizeBehind 73 = .ok (.bipush (-7), 2) := by decide +kernel
theorem dX11_sizeBehind_75 : decode cX11_sizeBehind 75 = .ok (.ireturn, 1) := by decide +kernel
theorem dX11_isAllSupported_0 : decode cX11_isAllSupported 0 = .ok (.aload_n 0, 1) := by decide +kernel
theorem dX11_isAllSupported_1 : decode cX11_isAllSupported 1 = .ok (.iconst 3, 1) := by decide +kernel
theorem dX11_isAllSupported_2 : decode cX11_isAllSupported 2 = .ok (.iload_n 1, 1) := by decide +kernel
theorem dX11_isAllSupported_3 : decode cX11_isAllSupported 3 = .ok (.invokevirtual 200, 3) := by decide +kernel
theorem dX11_isAllSupported_6 : decode cX11_isAllSupported 6 = .ok (.ifCond .eq 15, 3) := by decide +kernel
theorem dX11_isAllSupported_9 : decode cX11_isAllSupported 9 = .ok (.aload_n 0, 1) := by decide +kernel
theorem dX11_isAllSupported_10 : decode cX11_isAllSupported 10 = .ok (.iconst 0, 1) := by decide +kernel
theorem dX11_isAllSupported_11 : decode cX11_isAllSupported 11 = .ok (.invokevirtual 172, 3) := by decide +kernel
theorem dX11_isAllSupported_14 : decode cX11_isAllSupported 14 = .ok (.ifCond .eq 7, 3) := by decide +kernel
theorem dX11_isAllSupported_17 : decode cX11_isAllSupported 17 = .ok (.iconst 1, 1) := by decide +kernel
theorem dX11_isAllSupported_18 : decode cX11_isAllSupported 18 = .ok (.goto 4, 3) := by decide +kernel
theorem dX11_isAllSupported_21 : decode cX11_isAllSupported 21 = .ok (.iconst 0, 1) := by decide +kernel
theorem dX11_isAllSupported_22 : decode cX11_isAllSupported 22 = .ok (.ireturn, 1) := by decide +kernel
theorem dX11_supports_0 : decode cX11_supports 0 = .ok (.aload_n 0, 1) := by decide +kernel
theorem dX11_supports_1 : decode cX11_supports 1 = .ok (.aload_n 0, 1) := by decide +kernel
theorem dX11_supports_2 : decode cX11_supports 2 = .ok (.getfield 7, 3) := by decide +kernel
theorem dX11_supports_5 : decode cX11_supports 5 = .ok (.bipush 7, 2) := by decide +kernel
theorem dX11_supports_7 : decode cX11_supports 7 = .ok (.iaload, 1) := by decide +kernel
theorem dX11_supports_8 : decode cX11_supports 8 = .ok (.invokevirtual 210, 3) := by decide +kernel
theorem dX11_supports_11 : decode cX11_supports 11 = .ok (.istore_n 1, 1) := by decide +kernel
theorem dX11_supports_12 : decode cX11_supports 12 = .ok (.iload_n 1, 1) := by decide +kernel
theorem dX11_supports_13 : decode cX11_supports 13 = .ok (.ifCond .ge 5, 3) := by decide +kernel
theorem dX11_supports_16 : decode cX11_supports 16 = .ok (.iload_n 1, 1) := by decide +kernel
theorem dX11_supports_17 : decode cX11_supports 17 = .ok (.ireturn, 1) := by decide +kernel
theorem dX11_supports_18 : decode cX11_supports 18 = .ok (.aload_n 0, 1) := by decide +kernel
theorem dX11_supports_19 : decode cX11_supports 19 = .ok (.iconst 0, 1) := by decide +kernel
theorem dX11_supports_20 : decode cX11_supports 20 = .ok (.invokevirtual 213, 3) := by decide +kernel
theorem dX11_supports_23 : decode cX11_supports 23 = .ok (.aload_n 0, 1) := by decide +kernel
theorem dX11_supports_24 : decode cX11_supports 24 = .ok (.aload_n 0, 1) := by decide +kernel
theorem dX11_supports_25 : decode cX11_supports 25 = .ok (.getfield 7, 3) := by decide +kernel
theorem dX11_supports_28 : decode cX11_supports 28 = .ok (.bipush 7, 2) := by decide +kernel
theorem dX11_supports_30 : decode cX11_supports 30 = .ok (.iaload, 1) := by decide +kernel
theorem dX11_supports_31 : decode cX11_supports 31 = .ok (.invokevirtual 219, 3) := by decide +kernel
theorem dX11_supports_34 : decode cX11_supports 34 = .ok (.ifCond .eq 7, 3) := by decide +kernel
theorem dX11_supports_37 : decode cX11_supports 37 = .ok (.iconst 1, 1) := by decide +kernel
theorem dX11_supports_38 : decode cX11_supports 38 = .ok (.goto 4, 3) := by decide +kernel
theorem dX11_supports_41 : decode cX11_supports 41 = .ok (.iconst 0, 1) := by decide +kernel
theorem dX11_supports_42 : decode cX11_supports 42 = .ok (.ireturn, 1) := by decide +kernel
theorem dX11_worldsTrue_0 : decode cX11_worldsTrue 0 = .ok (.aload_n 0, 1) := by decide +kernel
theorem dX11_worldsTrue_1 : decode cX11_worldsTrue 1 = .ok (.iconst 0, 1) := by decide +kernel
theorem dX11_worldsTrue_2 : decode cX11_worldsTrue 2 = .ok (.invokevirtual 210, 3) := by decide +kernel
theorem dX11_worldsTrue_5 : decode cX11_worldsTrue 5 = .ok (.istore_n 1, 1) := by decide +kernel
theorem dX11_worldsTrue_6 : decode cX11_worldsTrue 6 = .ok (.iload_n 1, 1) := by decide +kernel
theorem dX11_worldsTrue_7 : decode cX11_worldsTrue 7 = .ok (.ifCond .ge 5, 3) := by decide +kernel
theorem dX11_worldsTrue_10 : decode cX11_worldsTrue 10 = .ok (.iload_n 1, 1) := by decide +kernel
theorem dX11_worldsTrue_11 : decode cX11_worldsTrue 11 = .ok (.ireturn, 1) := by decide +kernel
theorem dX11_worldsTrue_12 : decode cX11_worldsTrue 12 = .ok (.aload_n 0, 1) := by decide +kernel
theorem dX11_worldsTrue_13 : decode cX11_worldsTrue 13 = .ok (.getfield 7, 3) := by decide +kernel
theorem dX11_worldsTrue_16 : decode cX11_worldsTrue 16 = .ok (.iconst 1, 1) := by decide +kernel
theorem dX11_worldsTrue_17 : decode cX11_worldsTrue 17 = .ok (.iaload, 1) := by decide +kernel
theorem dX11_worldsTrue_18 : decode cX11_worldsTrue 18 = .ok (.istore_n 2, 1) := by decide +kernel
theorem dX11_worldsTrue_19 : decode cX11_worldsTrue 19 = .ok (.aload_n 0, 1) := by decide +kernel
theorem dX11_worldsTrue_20 : decode cX11_worldsTrue 20 = .ok (.getfield 7, 3) := by decide +kernel
theorem dX11_worldsTrue_23 : decode cX11_worldsTrue 23 = .ok (.iconst 2, 1) := by decide +kernel
theorem dX11_worldsTrue_24 : decode cX11_worldsTrue 24 = .ok (.iaload, 1) := by decide +kernel
theorem dX11_worldsTrue_25 : decode cX11_worldsTrue 25 = .ok (.istore_n 3, 1) := by decide +kernel
theorem dX11_worldsTrue_26 : decode cX11_worldsTrue 26 = .ok (.iconst 0, 1) := by decide +kernel
theorem dX11_worldsTrue_27 : decode cX11_worldsTrue 27 = .ok (.istore 4, 2) := by decide +kernel
theorem dX11_worldsTrue_29 : decode cX11_worldsTrue 29 = .ok (.aload_n 0, 1) := by decide +kernel
theorem dX11_worldsTrue_30 : decode cX11_worldsTrue 30 = .ok (.iconst 1, 1) := by decide +kernel
theorem dX11_worldsTrue_31 : decode cX11_worldsTrue 31 = .ok (.invokevirtual 213, 3) := by decide +kernel
theorem dX11_worldsTrue_34 : decode cX11_worldsTrue 34 = .ok (.iconst 0, 1) := by decide +kernel
theorem dX11_worldsTrue_35 : decode cX11_worldsTrue 35 = .ok (.istore 5, 2) := by decide +kernel
theorem dX11_worldsTrue_37 : decode cX11_worldsTrue 37 = .ok (.iload 5, 2) := by decide +kernel
theorem dX11_worldsTrue_39 : decode cX11_worldsTrue 39 = .ok (.iconst 1, 1) := by decide +kernel
theorem dX11_worldsTrue_40 : decode cX11_worldsTrue 40 = .ok (.iconst 2, 1) := by decide +kernel
theorem dX11_worldsTrue_41 : decode cX11_worldsTrue 41 = .ok (.aload_n 0, 1) := by decide +kernel
theorem dX11_worldsTrue_42 : decode cX11_worldsTrue 42 = .ok (.getfield 7, 3) := by decide +kernel
theorem dX11_worldsTrue_45 : decode cX11_worldsTrue 45 = .ok (.iconst 0, 1) := by decide +kernel
theorem dX11_worldsTrue_46 : decode cX11_worldsTrue 46 = .ok (.iaload, 1) := by decide +kernel
theorem dX11_worldsTrue_47 : decode cX11_worldsTrue 47 = .ok (.imul, 1) := by decide +kernel
theorem dX11_worldsTrue_48 : decode cX11_worldsTrue 48 = .ok (.ishl, 1) := by decide +kernel
theorem dX11_worldsTrue_49 : decode cX11_worldsTrue 49 = .ok (.if_icmp .ge 55, 3) := by decide +kernel
theorem dX11_worldsTrue_52 : decode cX11_worldsTrue 52 = .ok (.aload_n 0, 1) := by decide +kernel
theorem dX11_worldsTrue_53 : decode cX11_worldsTrue 53 = .ok (.getfield 7, 3) := by decide +kernel
theorem dX11_worldsTrue_56 : decode cX11_worldsTrue 56 = .ok (.iconst 1, 1) := by decide +kernel
theorem dX11_worldsTrue_57 : decode cX11_worldsTrue 57 = .ok (.iload 5, 2) := by decide +kernel
theorem dX11_worldsTrue_59 : decode cX11_worldsTrue 59 = .ok (.aload_n 0, 1) := by decide +kernel
theorem dX11_worldsTrue_60 : decode cX11_worldsTrue 60 = .ok (.invokevirtual 63, 3) := by decide +kernel
theorem dX11_worldsTrue_63 : decode cX11_worldsTrue 63 = .ok (.iand, 1) := by decide +kernel
theorem dX11_worldsTrue_64 : decode cX11_worldsTrue 64 = .ok (.iastore, 1) := by decide +kernel
theorem dX11_worldsTrue_65 : decode cX11_worldsTrue 65 = .ok (.aload_n 0, 1) := by decide +kernel
theorem dX11_worldsTrue_66 : decode cX11_worldsTrue 66 = .ok (.getfield 7, 3) := by decide +kernel
theorem dX11_worldsTrue_69 : decode cX11_worldsTrue 69 = .ok (.iconst 2, 1) := by decide +kernel
theorem dX11_worldsTrue_70 : decode cX11_worldsTrue 70 = .ok (.iload 5, 2) := by decide +kernel
theorem dX11_worldsTrue_72 : decode cX11_worldsTrue 72 = .ok (.aload_n 0, 1) := by decide +kernel
theorem dX11_worldsTrue_73 : decode cX11_worldsTrue 73 = .ok (.getfield 7, 3) := by decide +kernel
theorem dX11_worldsTrue_76 : decode cX11_worldsTrue 76 = .ok (.iconst 0, 1) := by decide +kernel
theorem dX11_worldsTrue_77 : decode cX11_worldsTrue 77 = .ok (.iaload, 1) := by decide +kernel
theorem dX11_worldsTrue_78 : decode cX11_worldsTrue 78 = .ok (.ishr, 1) := by decide +kernel
theorem dX11_worldsTrue_79 : decode cX11_worldsTrue 79 = .ok (.iastore, 1) := by decide +kernel
theorem dX11_worldsTrue_80 : decode cX11_worldsTrue 80 = .ok (.iload 4, 2) := by decide +kernel
theorem dX11_worldsTrue_82 : decode cX11_worldsTrue 82 = .ok (.aload_n 0, 1) := by decide +kernel
theorem dX11_worldsTrue_83 : decode cX11_worldsTrue 83 = .ok (.iconst 0, 1) := by decide +kernel
theorem dX11_worldsTrue_84 : decode cX11_worldsTrue 84 = .ok (.invokevirtual 219, 3) := by decide +kernel
theorem dX11_worldsTrue_87 : decode cX11_worldsTrue 87 = .ok (.ifCond .eq 7, 3) := by decide +kernel
theorem dX11_worldsTrue_90 : decode cX11_worldsTrue 90 = .ok (.iconst 1, 1) := by decide +kernel
theorem dX11_worldsTrue_91 : decode cX11_worldsTrue 91 = .ok (.goto 4, 3) := by decide +kernel
theorem dX11_worldsTrue_94 : decode cX11_worldsTrue 94 = .ok (.iconst 0, 1) := by decide +kernel
theorem dX11_worldsTrue_95 : decode cX11_worldsTrue 95 = .ok (.iadd, 1) := by decide +kernel
theorem dX11_worldsTrue_96 : decode cX11_worldsTrue 96 = .ok (.istore 4, 2) := by decide +kernel
theorem dX11_worldsTrue_98 : decode cX11_worldsTrue 98 = .ok (.iinc 5 1, 3) := by decide +kernel
theorem dX11_worldsTrue_101 : decode cX11_worldsTrue 101 = .ok (.goto (-64), 3) := by decide +kernel
theorem dX11_worldsTrue_104 : decode cX11_worldsTrue 104 = .ok (.aload_n 0, 1) := by decide +kernel
theorem dX11_worldsTrue_105 : decode cX11_worldsTrue 105 = .ok (.getfield 7, 3) := by decide +kernel
theorem dX11_worldsTrue_108 : decode cX11_worldsTrue 108 = .ok (.iconst 1, 1) := by decide +kernel
theorem dX11_worldsTrue_109 : decode cX11_worldsTrue 109 = .ok (.iload_n 2, 1) := by decide +kernel
theorem dX11_worldsTrue_110 : decode cX11_worldsTrue 110 = .ok (.iastore, 1) := by decide +kernel
theorem dX11_worldsTrue_111 : decode cX11_worldsTrue 111 = .ok (.aload_n 0, 1) := by decide +kernel
theorem dX11_worldsTrue_112 : decode cX11_worldsTrue 112 = .ok (.getfield 7, 3) := by decide +kernel
theorem dX11_worldsTrue_115 : decode cX11_worldsTrue 115 = .ok (.iconst 2, 1) := by decide +kernel
theorem dX11_worldsTrue_116 : decode cX11_worldsTrue 116 = .ok (.iload_n 3, 1) := by decide +kernel
theorem dX11_worldsTrue_117 : decode cX11_worldsTrue 117 = .ok (.iastore, 1) := by decide +kernel
theorem dX11_worldsTrue_118 : decode cX11_worldsTrue 118 = .ok (.iload 4, 2) := by decide +kernel
theorem dX11_worldsTrue_120 : decode cX11_worldsTrue 120 = .ok (.ireturn, 1) := by decide +kernel
theorem dX11_historySize_0 : decode cX11_historySize 0 = .ok (.aload_n 0, 1) := by decide +kernel
theorem dX11_historySize_1 : decode cX11_historySize 1 = .ok (.getfield 59, 3) := by decide +kernel
theorem dX11_historySize_4 : decode cX11_historySize 4 = .ok (.ireturn, 1) := by decide +kernel
theorem dX11_undo_0 : decode cX11_undo 0 = .ok (.aload_n 0, 1) := by decide +kernel
theorem dX11_undo_1 : decode cX11_undo 1 = .ok (.getfield 59, 3) := by decide +kernel
theorem dX11_undo_4 : decode cX11_undo 4 = .ok (.ifCond .ne 6, 3) := by decide +kernel
theorem dX11_undo_7 : decode cX11_undo 7 = .ok (.bipush (-6), 2) := by decide +kernel
theorem dX11_undo_9 : decode cX11_undo 9 = .ok (.ireturn, 1) := by decide +kernel
theorem dX11_undo_10 : decode cX11_undo 10 = .ok (.aload_n 0, 1) := by decide +kernel
theorem dX11_undo_11 : decode cX11_undo 11 = .ok (.dup, 1) := by decide +kernel
theorem dX11_undo_12 : decode cX11_undo 12 = .ok (.getfield 59, 3) := by decide +kernel
theorem dX11_undo_15 : decode cX11_undo 15 = .ok (.iconst 1, 1) := by decide +kernel
theorem dX11_undo_16 : decode cX11_undo 16 = .ok (.isub, 1) := by decide +kernel
theorem dX11_undo_17 : decode cX11_undo 17 = .ok (.putfield 59, 3) := by decide +kernel
theorem dX11_undo_20 : decode cX11_undo 20 = .ok (.iconst 0, 1) := by decide +kernel
theorem dX11_undo_21 : decode cX11_undo 21 = .ok (.istore_n 1, 1) := by decide +kernel
theorem dX11_undo_22 : decode cX11_undo 22 = .ok (.iload_n 1, 1) := by decide +kernel
theorem dX11_undo_23 : decode cX11_undo 23 = .ok (.bipush 25, 2) := by decide +kernel
theorem dX11_undo_25 : decode cX11_undo 25 = .ok (.if_icmp .ge 29, 3) := by decide +kernel
theorem dX11_undo_28 : decode cX11_undo 28 = .ok (.aload_n 0, 1) := by decide +kernel
theorem dX11_undo_29 : decode cX11_undo 29 = .ok (.getfield 7, 3) := by decide +kernel
theorem dX11_undo_32 : decode cX11_undo 32 = .ok (.iload_n 1, 1) := by decide +kernel
theorem dX11_undo_33 : decode cX11_undo 33 = .ok (.aload_n 0, 1) := by decide +kernel
theorem dX11_undo_34 : decode cX11_undo 34 = .ok (.getfield 13, 3) := by decide +kernel
theorem dX11_undo_37 : decode cX11_undo 37 = .ok (.bipush 25, 2) := by decide +kernel
theorem dX11_undo_39 : decode cX11_undo 39 = .ok (.aload_n 0, 1) := by decide +kernel
theorem dX11_undo_40 : decode cX11_undo 40 = .ok (.getfield 59, 3) := by decide +kernel
theorem dX11_undo_43 : decode cX11_undo 43 = .ok (.imul, 1) := by decide +kernel
theorem dX11_undo_44 : decode cX11_undo 44 = .ok (.iload_n 1, 1) := by decide +kernel
theorem dX11_undo_45 : decode cX11_undo 45 = .ok (.iadd, 1) := by decide +kernel
theorem dX11_undo_46 : decode cX11_undo 46 = .ok (.iaload, 1) := by decide +kernel
theorem dX11_undo_47 : decode cX11_undo 47 = .ok (.iastore, 1) := by decide +kernel
theorem dX11_undo_48 : decode cX11_undo 48 = .ok (.iinc 1 1, 3) := by decide +kernel
theorem dX11_undo_51 : decode cX11_undo 51 = .ok (.goto (-29), 3) := by decide +kernel
theorem dX11_undo_54 : decode cX11_undo 54 = .ok (.aload_n 0, 1) := by decide +kernel
theorem dX11_undo_55 : decode cX11_undo 55 = .ok (.getfield 59, 3) := by decide +kernel
theorem dX11_undo_58 : decode cX11_undo 58 = .ok (.ireturn, 1) := by decide +kernel
theorem dJ6_bitCount_0f7a4_0 : decode cJ6_bitCount_0f7a4 0 = .ok (.iload_n 0, 1) := by decide +kernel
theorem dJ6_bitCount_0f7a4_1 : decode cJ6_bitCount_0f7a4 1 = .ok (.iload_n 0, 1) := by decide +kernel
theorem dJ6_bitCount_0f7a4_2 : decode cJ6_bitCount_0f7a4 2 = .ok (.iconst 1, 1) := by decide +kernel
theorem dJ6_bitCount_0f7a4_3 : decode cJ6_bitCount_0f7a4 3 = .ok (.iushr, 1) := by decide +kernel
theorem dJ6_bitCount_0f7a4_4 : decode cJ6_bitCount_0f7a4 4 = .ok (.ldc_w 265, 3) := by decide +kernel
theorem dJ6_bitCount_0f7a4_7 : decode cJ6_bitCount_0f7a4 7 = .ok (.iand, 1) := by decide +kernel
theorem dJ6_bitCount_0f7a4_8 : decode cJ6_bitCount_0f7a4 8 = .ok (.isub, 1) := by decide +kernel
theorem dJ6_bitCount_0f7a4_9 : decode cJ6_bitCount_0f7a4 9 = .ok (.istore_n 0, 1) := by decide +kernel
theorem dJ6_bitCount_0f7a4_10 : decode cJ6_bitCount_0f7a4 10 = .ok (.iload_n 0, 1) := by decide +kernel
theorem dJ6_bitCount_0f7a4_11 : decode cJ6_bitCount_0f7a4 11 = .ok (.ldc_w 266, 3) := by decide +kernel
theorem dJ6_bitCount_0f7a4_14 : decode cJ6_bitCount_0f7a4 14 = .ok (.iand, 1) := by decide +kernel
theorem dJ6_bitCount_0f7a4_15 : decode cJ6_bitCount_0f7a4 15 = .ok (.iload_n 0, 1) := by decide +kernel
theorem dJ6_bitCount_0f7a4_16 : decode cJ6_bitCount_0f7a4 16 = .ok (.iconst 2, 1) := by decide +kernel
theorem dJ6_bitCount_0f7a4_17 : decode cJ6_bitCount_0f7a4 17 = .ok (.iushr, 1) := by decide +kernel
theorem dJ6_bitCount_0f7a4_18 : decode cJ6_bitCount_0f7a4 18 = .ok (.ldc_w 266, 3) := by decide +kernel
theorem dJ6_bitCount_0f7a4_21 : decode cJ6_bitCount_0f7a4 21 = .ok (.iand, 1) := by decide +kernel
theorem dJ6_bitCount_0f7a4_22 : decode cJ6_bitCount_0f7a4 22 = .ok (.iadd, 1) := by decide +kernel
theorem dJ6_bitCount_0f7a4_23 : decode cJ6_bitCount_0f7a4 23 = .ok (.istore_n 0, 1) := by decide +kernel
theorem dJ6_bitCount_0f7a4_24 : decode cJ6_bitCount_0f7a4 24 = .ok (.iload_n 0, 1) := by decide +kernel
theorem dJ6_bitCount_0f7a4_25 : decode cJ6_bitCount_0f7a4 25 = .ok (.iload_n 0, 1) := by decide +kernel
theorem dJ6_bitCount_0f7a4_26 : decode cJ6_bitCount_0f7a4 26 = .ok (.iconst 4, 1) := by decide +kernel
theorem dJ6_bitCount_0f7a4_27 : decode cJ6_bitCount_0f7a4 27 = .ok (.iushr, 1) := by decide +kernel
theorem dJ6_bitCount_0f7a4_28 : decode cJ6_bitCount_0f7a4 28 = .ok (.iadd, 1) := by decide +kernel
theorem dJ6_bitCount_0f7a4_29 : decode cJ6_bitCount_0f7a4 29 = .ok (.ldc_w 267, 3) := by decide +kernel
theorem dJ6_bitCount_0f7a4_32 : decode cJ6_bitCount_0f7a4 32 = .ok (.iand, 1) := by decide +kernel
theorem dJ6_bitCount_0f7a4_33 : decode cJ6_bitCount_0f7a4 33 = .ok (.istore_n 0, 1) := by decide +kernel
theorem dJ6_bitCount_0f7a4_34 : decode cJ6_bitCount_0f7a4 34 = .ok (.iload_n 0, 1) := by decide +kernel
theorem dJ6_bitCount_0f7a4_35 : decode cJ6_bitCount_0f7a4 35 = .ok (.iload_n 0, 1) := by decide +kernel
theorem dJ6_bitCount_0f7a4_36 : decode cJ6_bitCount_0f7a4 36 = .ok (.bipush 8, 2) := by decide +kernel
theorem dJ6_bitCount_0f7a4_38 : decode cJ6_bitCount_0f7a4 38 = .ok (.iushr, 1) := by decide +kernel
theorem dJ6_bitCount_0f7a4_39 : decode cJ6_bitCount_0f7a4 39 = .ok (.iadd, 1) := by decide +kernel
theorem dJ6_bitCount_0f7a4_40 : decode cJ6_bitCount_0f7a4 40 = .ok (.istore_n 0, 1) := by decide +kernel
theorem dJ6_bitCount_0f7a4_41 : decode cJ6_bitCount_0f7a4 41 = .ok (.iload_n 0, 1) := by decide +kernel
theorem dJ6_bitCount_0f7a4_42 : decode cJ6_bitCount_0f7a4 42 = .ok (.iload_n 0, 1) := by decide +kernel
theorem dJ6_bitCount_0f7a4_43 : decode cJ6_bitCount_0f7a4 43 = .ok (.bipush 16, 2) := by decide +kernel
theorem dJ6_bitCount_0f7a4_45 : decode cJ6_bitCount_0f7a4 45 = .ok (.iushr, 1) := by decide +kernel
theorem dJ6_bitCount_0f7a4_46 : decode cJ6_bitCount_0f7a4 46 = .ok (.iadd, 1) := by decide +kernel
theorem dJ6_bitCount_0f7a4_47 : decode cJ6_bitCount_0f7a4 47 = .ok (.istore_n 0, 1) := by decide +kernel
theorem dJ6_bitCount_0f7a4_48 : decode cJ6_bitCount_0f7a4 48 = .ok (.iload_n 0, 1) := by decide +kernel
theorem dJ6_bitCount_0f7a4_49 : decode cJ6_bitCount_0f7a4 49 = .ok (.bipush 63, 2) := by decide +kernel
theorem dJ6_bitCount_0f7a4_51 : decode cJ6_bitCount_0f7a4 51 = .ok (.iand, 1) := by decide +kernel
theorem dJ6_bitCount_0f7a4_52 : decode cJ6_bitCount_0f7a4 52 = .ok (.ireturn, 1) := by decide +kernel
theorem dJ13_bitCount_95d88_0 : decode cJ13_bitCount_95d88 0 = .ok (.lload_n 0, 1) := by decide +kernel
theorem dJ13_bitCount_95d88_1 : decode cJ13_bitCount_95d88 1 = .ok (.lload_n 0, 1) := by decide +kernel
theorem dJ13_bitCount_95d88_2 : decode cJ13_bitCount_95d88 2 = .ok (.iconst 1, 1) := by decide +kernel
theorem dJ13_bitCount_95d88_3 : decode cJ13_bitCount_95d88 3 = .ok (.lushr, 1) := by decide +kernel
theorem dJ13_bitCount_95d88_4 : decode cJ13_bitCount_95d88 4 = .ok (.ldc2_w 314, 3) := by decide +kernel
theorem dJ13_bitCount_95d88_7 : decode cJ13_bitCount_95d88 7 = .ok (.land, 1) := by decide +kernel
theorem dJ13_bitCount_95d88_8 : decode cJ13_bitCount_95d88 8 = .ok (.lsub, 1) := by decide +kernel
theorem dJ13_bitCount_95d88_9 : decode cJ13_bitCount_95d88 9 = .ok (.lstore_n 0, 1) := by decide +kernel
theorem dJ13_bitCount_95d88_10 : decode cJ13_bitCount_95d88 10 = .ok (.lload_n 0, 1) := by decide +kernel
theorem dJ13_bitCount_95d88_11 : decode cJ13_bitCount_95d88 11 = .ok (.ldc2_w 316, 3) := by decide +kernel
theorem dJ13_bitCount_95d88_14 : decode cJ13_bitCount_95d88 14 = .ok (.land, 1) := by decide +kernel
theorem dJ13_bitCount_95d88_15 : decode cJ13_bitCount_95d88 15 = .ok (.lload_n 0, 1) := by decide +kernel
theorem dJ13_bitCount_95d88_16 : decode cJ13_bitCount_95d88 16 = .ok (.iconst 2, 1) := by decide +kernel
theorem dJ13_bitCount_95d88_17 : decode cJ13_bitCount_95d88 17 = .ok (.lushr, 1) := by decide +kernel
theorem dJ13_bitCount_95d88_18 : decode cJ13_bitCount_95d88 18 = .ok (.ldc2_w 316, 3) := by decide +kernel
theorem dJ13_bitCount_95d88_21 : decode cJ13_bitCount_95d88 21 = .ok (.land, 1) := by decide +kernel
theorem dJ13_bitCount_95d88_22 : decode cJ13_bitCount_95d88 22 = .ok (.ladd, 1) := by decide +kernel
theorem dJ13_bitCount_95d88_23 : decode cJ13_bitCount_95d88 23 = .ok (.lstore_n 0, 1) := by decide +kernel
theorem dJ13_bitCount_95d88_24 : decode cJ13_bitCount_95d88 24 = .ok (.lload_n 0, 1) := by decide +kernel
theorem dJ13_bitCount_95d88_25 : decode cJ13_bitCount_95d88 25 = .ok (.lload_n 0, 1) := by decide +kernel
theorem dJ13_bitCount_95d88_26 : decode cJ13_bitCount_95d88 26 = .ok (.iconst 4, 1) := by decide +kernel
theorem dJ13_bitCount_95d88_27 : decode cJ13_bitCount_95d88 27 = .ok (.lushr, 1) := by decide +kernel
theorem dJ13_bitCount_95d88_28 : decode cJ13_bitCount_95d88 28 = .ok (.ladd, 1) := by decide +kernel
theorem dJ13_bitCount_95d88_29 : decode cJ13_bitCount_95d88 29 = .ok (.ldc2_w 318, 3) := by decide +kernel
theorem dJ13_bitCount_95d88_32 : decode cJ13_bitCount_95d88 32 = .ok (.land, 1) := by decide +kernel
theorem dJ13_bitCount_95d88_33 : decode cJ13_bitCount_95d88 33 = .ok (.lstore_n 0, 1) := by decide +kernel
theorem dJ13_bitCount_95d88_34 : decode cJ13_bitCount_95d88 34 = .ok (.lload_n 0, 1) := by decide +kernel
theorem dJ13_bitCount_95d88_35 : decode cJ13_bitCount_95d88 35 = .ok (.lload_n 0, 1) := by decide +kernel
theorem dJ13_bitCount_95d88_36 : decode cJ13_bitCount_95d88 36 = .ok (.bipush 8, 2) := by decide +kernel
theorem dJ13_bitCount_95d88_38 : decode cJ13_bitCount_95d88 38 = .ok (.lushr, 1) := by decide +kernel
theorem dJ13_bitCount_95d88_39 : decode cJ13_bitCount_95d88 39 = .ok (.ladd, 1) := by decide +kernel
theorem dJ13_bitCount_95d88_40 : decode cJ13_bitCount_95d88 40 = .ok (.lstore_n 0, 1) := by decide +kernel
theorem dJ13_bitCount_95d88_41 : decode cJ13_bitCount_95d88 41 = .ok (.lload_n 0, 1) := by decide +kernel
theorem dJ13_bitCount_95d88_42 : decode cJ13_bitCount_95d88 42 = .ok (.lload_n 0, 1) := by decide +kernel
theorem dJ13_bitCount_95d88_43 : decode cJ13_bitCount_95d88 43 = .ok (.bipush 16, 2) := by decide +kernel
theorem dJ13_bitCount_95d88_45 : decode cJ13_bitCount_95d88 45 = .ok (.lushr, 1) := by decide +kernel
theorem dJ13_bitCount_95d88_46 : decode cJ13_bitCount_95d88 46 = .ok (.ladd, 1) := by decide +kernel
theorem dJ13_bitCount_95d88_47 : decode cJ13_bitCount_95d88 47 = .ok (.lstore_n 0, 1) := by decide +kernel
theorem dJ13_bitCount_95d88_48 : decode cJ13_bitCount_95d88 48 = .ok (.lload_n 0, 1) := by decide +kernel
theorem dJ13_bitCount_95d88_49 : decode cJ13_bitCount_95d88 49 = .ok (.lload_n 0, 1) := by decide +kernel
theorem dJ13_bitCount_95d88_50 : decode cJ13_bitCount_95d88 50 = .ok (.bipush 32, 2) := by decide +kernel
theorem dJ13_bitCount_95d88_52 : decode cJ13_bitCount_95d88 52 = .ok (.lushr, 1) := by decide +kernel
theorem dJ13_bitCount_95d88_53 : decode cJ13_bitCount_95d88 53 = .ok (.ladd, 1) := by decide +kernel
theorem dJ13_bitCount_95d88_54 : decode cJ13_bitCount_95d88 54 = .ok (.lstore_n 0, 1) := by decide +kernel
theorem dJ13_bitCount_95d88_55 : decode cJ13_bitCount_95d88 55 = .ok (.lload_n 0, 1) := by decide +kernel
theorem dJ13_bitCount_95d88_56 : decode cJ13_bitCount_95d88 56 = .ok (.l2i, 1) := by decide +kernel
theorem dJ13_bitCount_95d88_57 : decode cJ13_bitCount_95d88 57 = .ok (.bipush 127, 2) := by decide +kernel
theorem dJ13_bitCount_95d88_59 : decode cJ13_bitCount_95d88 59 = .ok (.iand, 1) := by decide +kernel
theorem dJ13_bitCount_95d88_60 : decode cJ13_bitCount_95d88 60 = .ok (.ireturn, 1) := by decide +kernel
theorem dJ9_min_7cf53_0 : decode cJ9_min_7cf53 0 = .ok (.iload_n 0, 1) := by decide +kernel
theorem dJ9_min_7cf53_1 : decode cJ9_min_7cf53 1 = .ok (.iload_n 1, 1) := by decide +kernel
theorem dJ9_min_7cf53_2 : decode cJ9_min_7cf53 2 = .ok (.if_icmp .gt 7, 3) := by decide +kernel
theorem dJ9_min_7cf53_5 : decode cJ9_min_7cf53 5 = .ok (.iload_n 0, 1) := by decide +kernel
theorem dJ9_min_7cf53_6 : decode cJ9_min_7cf53 6 = .ok (.goto 4, 3) := by decide +kernel
theorem dJ9_min_7cf53_9 : decode cJ9_min_7cf53 9 = .ok (.iload_n 1, 1) := by decide +kernel
theorem dJ9_min_7cf53_10 : decode cJ9_min_7cf53 10 = .ok (.ireturn, 1) := by decide +kernel
theorem dL_law_0 : decode cL_law 0 = .ok (.new 7, 3) := by decide +kernel
theorem dL_law_3 : decode cL_law 3 = .ok (.dup, 1) := by decide +kernel
theorem dL_law_4 : decode cL_law 4 = .ok (.invokespecial 9, 3) := by decide +kernel
theorem dL_law_7 : decode cL_law 7 = .ok (.astore_n 1, 1) := by decide +kernel
theorem dL_law_8 : decode cL_law 8 = .ok (.new 10, 3) := by decide +kernel
theorem dL_law_11 : decode cL_law 11 = .ok (.dup, 1) := by decide +kernel
theorem dL_law_12 : decode cL_law 12 = .ok (.invokespecial 12, 3) := by decide +kernel
theorem dL_law_15 : decode cL_law 15 = .ok (.astore_n 2, 1) := by decide +kernel
theorem dL_law_16 : decode cL_law 16 = .ok (.iconst 0, 1) := by decide +kernel
theorem dL_law_17 : decode cL_law 17 = .ok (.istore_n 3, 1) := by decide +kernel
theorem dL_law_18 : decode cL_law 18 = .ok (.iload_n 3, 1) := by decide +kernel
theorem dL_law_19 : decode cL_law 19 = .ok (.aload_n 0, 1) := by decide +kernel
theorem dL_law_20 : decode cL_law 20 = .ok (.arraylength, 1) := by decide +kernel
theorem dL_law_21 : decode cL_law 21 = .ok (.iconst 5, 1) := by decide +kernel
theorem dL_law_22 : decode cL_law 22 = .ok (.isub, 1) := by decide +kernel
theorem dL_law_23 : decode cL_law 23 = .ok (.if_icmp .gt 707, 3) := by decide +kernel
theorem dL_law_26 : decode cL_law 26 = .ok (.aload_n 0, 1) := by decide +kernel
theorem dL_law_27 : decode cL_law 27 = .ok (.iload_n 3, 1) := by decide +kernel
theorem dL_law_28 : decode cL_law 28 = .ok (.iaload, 1) := by decide +kernel
theorem dL_law_29 : decode cL_law 29 = .ok (.bipush 31, 2) := by decide +kernel
theorem dL_law_31 : decode cL_law 31 = .ok (.iand, 1) := by decide +kernel
theorem dL_law_32 : decode cL_law 32 = .ok (.tableswitch 692 0 27 #[128, 151, 184, 237, 250, 273, 316, 339, 352, 365, 378, 391, 404, 417, 430, 453, 506, 519, 542, 555, 568, 581, 594, 617, 640, 653, 666, 679], 128) := by decide +kernel
theorem dL_law_160 : decode cL_law 160 = .ok (.aload_n 1, 1) := by decide +kernel
theorem dL_law_161 : decode cL_law 161 = .ok (.aload_n 0, 1) := by decide +kernel
theorem dL_law_162 : decode cL_law 162 = .ok (.iload_n 3, 1) := by decide +kernel
theorem dL_law_163 : decode cL_law 163 = .ok (.iconst 1, 1) := by decide +kernel
theorem dL_law_164 : decode cL_law 164 = .ok (.iadd, 1) := by decide +kernel
theorem dL_law_165 : decode cL_law 165 = .ok (.iaload, 1) := by decide +kernel
theorem dL_law_166 : decode cL_law 166 = .ok (.invokevirtual 13, 3) := by decide +kernel
theorem dL_law_169 : decode cL_law 169 = .ok (.aload_n 2, 1) := by decide +kernel
theorem dL_law_170 : decode cL_law 170 = .ok (.aload_n 0, 1) := by decide +kernel
theorem dL_law_171 : decode cL_law 171 = .ok (.iload_n 3, 1) := by decide +kernel
theorem dL_law_172 : decode cL_law 172 = .ok (.iconst 1, 1) := by decide +kernel
theorem dL_law_173 : decode cL_law 173 = .ok (.iadd, 1) := by decide +kernel
theorem dL_law_174 : decode cL_law 174 = .ok (.iaload, 1) := by decide +kernel
theorem dL_law_175 : decode cL_law 175 = .ok (.invokevirtual 17, 3) := by decide +kernel
theorem dL_law_178 : decode cL_law 178 = .ok (.if_icmp .eq 546, 3) := by decide +kernel
theorem dL_law_181 : decode cL_law 181 = .ok (.iconst 0, 1) := by decide +kernel
theorem dL_law_182 : decode cL_law 182 = .ok (.ireturn, 1) := by decide +kernel
theorem dL_law_183 : decode cL_law 183 = .ok (.aload_n 1, 1) := by decide +kernel
theorem dL_law_184 : decode cL_law 184 = .ok (.aload_n 0, 1) := by decide +kernel
theorem dL_law_185 : decode cL_law 185 = .ok (.iload_n 3, 1) := by decide +kernel
theorem dL_law_186 : decode cL_law 186 = .ok (.iconst 1, 1) := by decide +kernel
theorem dL_law_187 : decode cL_law 187 = .ok (.iadd, 1) := by decide +kernel
theorem dL_law_188 : decode cL_law 188 = .ok (.iaload, 1) := by decide +kernel
theorem dL_law_189 : decode cL_law 189 = .ok (.aload_n 0, 1) := by decide +kernel
theorem dL_law_190 : decode cL_law 190 = .ok (.iload_n 3, 1) := by decide +kernel
theorem dL_law_191 : decode cL_law 191 = .ok (.iconst 2, 1) := by decide +kernel
theorem dL_law_192 : decode cL_law 192 = .ok (.iadd, 1) := by decide +kernel
theorem dL_law_193 : decode cL_law 193 = .ok (.iaload, 1) := by decide +kernel
theorem dL_law_194 : decode cL_law 194 = .ok (.invokevirtual 18, 3) := by decide +kernel
theorem dL_law_197 : decode cL_law 197 = .ok (.aload_n 2, 1) := by decide +kernel
theorem dL_law_198 : decode cL_law 198 = .ok (.aload_n 0, 1) := by decide +kernel
theorem dL_law_199 : decode cL_law 199 = .ok (.iload_n 3, 1) := by decide +kernel
theorem dL_law_200 : decode cL_law 200 = .ok (.iconst 1, 1) := by decide +kernel
theorem dL_law_201 : decode cL_law 201 = .ok (.iadd, 1) := by decide +kernel
theorem dL_law_202 : decode cL_law 202 = .ok (.iaload, 1) := by decide +kernel
theorem dL_law_203 : decode cL_law 203 = .ok (.aload_n 0, 1) := by decide +kernel
theorem dL_law_204 : decode cL_law 204 = .ok (.iload_n 3, 1) := by decide +kernel
theorem dL_law_205 : decode cL_law 205 = .ok (.iconst 2, 1) := by decide +kernel
theorem dL_law_206 : decode cL_law 206 = .ok (.iadd, 1) := by decide +kernel
theorem dL_law_207 : decode cL_law 207 = .ok (.iaload, 1) := by decide +kernel
theorem dL_law_208 : decode cL_law 208 = .ok (.invokevirtual 22, 3) := by decide +kernel
theorem dL_law_211 : decode cL_law 211 = .ok (.if_icmp .eq 513, 3) := by decide +kernel
theorem dL_law_214 : decode cL_law 214 = .ok (.iconst 0, 1) := by decide +kernel
theorem dL_law_215 : decode cL_law 215 = .ok (.ireturn, 1) := by decide +kernel
theorem dL_law_216 : decode cL_law 216 = .ok (.aload_n 1, 1) := by decide +kernel
theorem dL_law_217 : decode cL_law 217 = .ok (.aload_n 0, 1) := by decide +kernel
theorem dL_law_218 : decode cL_law 218 = .ok (.iload_n 3, 1) := by decide +kernel
theorem dL_law_219 : decode cL_law 219 = .ok (.iconst 1, 1) := by decide +kernel
theorem dL_law_220 : decode cL_law 220 = .ok (.iadd, 1) := by decide +kernel
theorem dL_law_221 : decode cL_law 221 = .ok (.iaload, 1) := by decide +kernel
theorem dL_law_222 : decode cL_law 222 = .ok (.aload_n 0, 1) := by decide +kernel
theorem dL_law_223 : decode cL_law 223 = .ok (.iload_n 3, 1) := by decide +kernel
theorem dL_law_224 : decode cL_law 224 = .ok (.iconst 2, 1) := by decide +kernel
theorem dL_law_225 : decode cL_law 225 = .ok (.iadd, 1) := by decide +kernel
theorem dL_law_226 : decode cL_law 226 = .ok (.iaload, 1) := by decide +kernel
theorem dL_law_227 : decode cL_law 227 = .ok (.aload_n 0, 1) := by decide +kernel
theorem dL_law_228 : decode cL_law 228 = .ok (.iload_n 3, 1) := by decide +kernel
theorem dL_law_229 : decode cL_law 229 = .ok (.iconst 3, 1) := by decide +kernel
theorem dL_law_230 : decode cL_law 230 = .ok (.iadd, 1) := by decide +kernel
theorem dL_law_231 : decode cL_law 231 = .ok (.iaload, 1) := by decide +kernel
theorem dL_law_232 : decode cL_law 232 = .ok (.aload_n 0, 1) := by decide +kernel
theorem dL_law_233 : decode cL_law 233 = .ok (.iload_n 3, 1) := by decide +kernel
theorem dL_law_234 : decode cL_law 234 = .ok (.iconst 4, 1) := by decide +kernel
theorem dL_law_235 : decode cL_law 235 = .ok (.iadd, 1) := by decide +kernel
theorem dL_law_236 : decode cL_law 236 = .ok (.iaload, 1) := by decide +kernel
theorem dL_law_237 : decode cL_law 237 = .ok (.invokevirtual 23, 3) := by decide +kernel
theorem dL_law_240 : decode cL_law 240 = .ok (.aload_n 2, 1) := by decide +kernel
theorem dL_law_241 : decode cL_law 241 = .ok (.aload_n 0, 1) := by decide +kernel
theorem dL_law_242 : decode cL_law 242 = .ok (.iload_n 3, 1) := by decide +kernel
theorem dL_law_243 : decode cL_law 243 = .ok (.iconst 1, 1) := by decide +kernel
theorem dL_law_244 : decode cL_law 244 = .ok (.iadd, 1) := by decide +kernel
theorem dL_law_245 : decode cL_law 245 = .ok (.iaload, 1) := by decide +kernel
theorem dL_law_246 : decode cL_law 246 = .ok (.aload_n 0, 1) := by decide +kernel
theorem dL_law_247 : decode cL_law 247 = .ok (.iload_n 3, 1) := by decide +kernel
theorem dL_law_248 : decode cL_law 248 = .ok (.iconst 2, 1) := by decide +kernel
theorem dL_law_249 : decode cL_law 249 = .ok (.iadd, 1) := by decide +kernel
theorem dL_law_250 : decode cL_law 250 = .ok (.iaload, 1) := by decide +kernel
theorem dL_law_251 : decode cL_law 251 = .ok (.aload_n 0, 1) := by decide +kernel
theorem dL_law_252 : decode cL_law 252 = .ok (.iload_n 3, 1) := by decide +kernel
theorem dL_law_253 : decode cL_law 253 = .ok (.iconst 3, 1) := by decide +kernel
theorem dL_law_254 : decode cL_law 254 = .ok (.iadd, 1) := by decide +kernel
theorem dL_law_255 : decode cL_law 255 = .ok (.iaload, 1) := by decide +kernel
theorem dL_law_256 : decode cL_law 256 = .ok (.aload_n 0, 1) := by decide +kernel
theorem dL_law_257 : decode cL_law 257 = .ok (.iload_n 3, 1) := by decide +kernel
theorem dL_law_258 : decode cL_law 258 = .ok (.iconst 4, 1) := by decide +kernel
theorem dL_law_259 : decode cL_law 259 = .ok (.iadd, 1) := by decide +kernel
theorem dL_law_260 : decode cL_law 260 = .ok (.iaload, 1) := by decide +kernel
theorem dL_law_261 : decode cL_law 261 = .ok (.invokevirtual 27, 3) := by decide +kernel
theorem dL_law_264 : decode cL_law 264 = .ok (.if_icmp .eq 460, 3) := by decide +kernel
theorem dL_law_267 : decode cL_law 267 = .ok (.iconst 0, 1) := by decide +kernel
theorem dL_law_268 : decode cL_law 268 = .ok (.ireturn, 1) := by decide +kernel
theorem dL_law_269 : decode cL_law 269 = .ok (.aload_n 1, 1) := by decide +kernel
theorem dL_law_270 : decode cL_law 270 = .ok (.invokevirtual 28, 3) := by decide +kernel
theorem dL_law_273 : decode cL_law 273 = .ok (.aload_n 2, 1) := by decide +kernel
theorem dL_law_274 : decode cL_law 274 = .ok (.invokevirtual 32, 3) := by decide +kernel
theorem dL_law_277 : decode cL_law 277 = .ok (.if_icmp .eq 447, 3) := by decide +kernel
theorem dL_law_280 : decode cL_law 280 = .ok (.iconst 0, 1) := by decide +kernel
theorem dL_law_281 : decode cL_law 281 = .ok (.ireturn, 1) := by decide +kernel
theorem dL_law_282 : decode cL_law 282 = .ok (.aload_n 1, 1) := by decide +kernel
theorem dL_law_283 : decode cL_law 283 = .ok (.aload_n 0, 1) := by decide +kernel
theorem dL_law_284 : decode cL_law 284 = .ok (.iload_n 3, 1) := by decide +kernel
theorem dL_law_285 : decode cL_law 285 = .ok (.iconst 1, 1) := by decide +kernel
theorem dL_law_286 : decode cL_law 286 = .ok (.iadd, 1) := by decide +kernel
theorem dL_law_287 : decode cL_law 287 = .ok (.iaload, 1) := by decide +kernel
theorem dL_law_288 : decode cL_law 288 = .ok (.invokevirtual 33, 3) := by decide +kernel
theorem dL_law_291 : decode cL_law 291 = .ok (.aload_n 2, 1) := by decide +kernel
theorem dL_law_292 : decode cL_law 292 = .ok (.aload_n 0, 1) := by decide +kernel
theorem dL_law_293 : decode cL_law 293 = .ok (.iload_n 3, 1) := by decide +kernel
theorem dL_law_294 : decode cL_law 294 = .ok (.iconst 1, 1) := by decide +kernel
theorem dL_law_295 : decode cL_law 295 = .ok (.iadd, 1) := by decide +kernel
theorem dL_law_296 : decode cL_law 296 = .ok (.iaload, 1) := by decide +kernel
theorem dL_law_297 : decode cL_law 297 = .ok (.invokevirtual 36, 3) := by decide +kernel
theorem dL_law_300 : decode cL_law 300 = .ok (.if_icmp .eq 424, 3) := by decide +kernel
theorem dL_law_303 : decode cL_law 303 = .ok (.iconst 0, 1) := by decide +kernel
theorem dL_law_304 : decode cL_law 304 = .ok (.ireturn, 1) := by decide +kernel
theorem dL_law_305 : decode cL_law 305 = .ok (.aload_n 1, 1) := by decide +kernel
theorem dL_law_306 : decode cL_law 306 = .ok (.aload_n 0, 1) := by decide +kernel
theorem dL_law_307 : decode cL_law 307 = .ok (.iload_n 3, 1) := by decide +kernel
theorem dL_law_308 : decode cL_law 308 = .ok (.iconst 1, 1) := by decide +kernel
theorem dL_law_309 : decode cL_law 309 = .ok (.iadd, 1) := by decide +kernel
theorem dL_law_310 : decode cL_law 310 = .ok (.iaload, 1) := by decide +kernel
theorem dL_law_311 : decode cL_law 311 = .ok (.aload_n 0, 1) := by decide +kernel
theorem dL_law_312 : decode cL_law 312 = .ok (.iload_n 3, 1) := by decide +kernel
theorem dL_law_313 : decode cL_law 313 = .ok (.iconst 2, 1) := by decide +kernel
theorem dL_law_314 : decode cL_law 314 = .ok (.iadd, 1) := by decide +kernel
theorem dL_law_315 : decode cL_law 315 = .ok (.iaload, 1) := by decide +kernel
theorem dL_law_316 : decode cL_law 316 = .ok (.aload_n 0, 1) := by decide +kernel
theorem dL_law_317 : decode cL_law 317 = .ok (.iload_n 3, 1) := by decide +kernel
theorem dL_law_318 : decode cL_law 318 = .ok (.iconst 3, 1) := by decide +kernel
theorem dL_law_319 : decode cL_law 319 = .ok (.iadd, 1) := by decide +kernel
theorem dL_law_320 : decode cL_law 320 = .ok (.iaload, 1) := by decide +kernel
theorem dL_law_321 : decode cL_law 321 = .ok (.invokevirtual 37, 3) := by decide +kernel
theorem dL_law_324 : decode cL_law 324 = .ok (.aload_n 2, 1) := by decide +kernel
theorem dL_law_325 : decode cL_law 325 = .ok (.aload_n 0, 1) := by decide +kernel
theorem dL_law_326 : decode cL_law 326 = .ok (.iload_n 3, 1) := by decide +kernel
theorem dL_law_327 : decode cL_law 327 = .ok (.iconst 1, 1) := by decide +kernel
theorem dL_law_328 : decode cL_law 328 = .ok (.iadd, 1) := by decide +kernel
theorem dL_law_329 : decode cL_law 329 = .ok (.iaload, 1) := by decide +kernel
theorem dL_law_330 : decode cL_law 330 = .ok (.aload_n 0, 1) := by decide +kernel
theorem dL_law_331 : decode cL_law 331 = .ok (.iload_n 3, 1) := by decide +kernel
theorem dL_law_332 : decode cL_law 332 = .ok (.iconst 2, 1) := by decide +kernel
theorem dL_law_333 : decode cL_law 333 = .ok (.iadd, 1) := by decide +kernel
theorem dL_law_334 : decode cL_law 334 = .ok (.iaload, 1) := by decide +kernel
theorem dL_law_335 : decode cL_law 335 = .ok (.aload_n 0, 1) := by decide +kernel
theorem dL_law_336 : decode cL_law 336 = .ok (.iload_n 3, 1) := by decide +kernel
theorem dL_law_337 : decode cL_law 337 = .ok (.iconst 3, 1) := by decide +kernel
theorem dL_law_338 : decode cL_law 338 = .ok (.iadd, 1) := by decide +kernel
theorem dL_law_339 : decode cL_law 339 = .ok (.iaload, 1) := by decide +kernel
theorem dL_law_340 : decode cL_law 340 = .ok (.invokevirtual 41, 3) := by decide +kernel
theorem dL_law_343 : decode cL_law 343 = .ok (.if_icmp .eq 381, 3) := by decide +kernel
theorem dL_law_346 : decode cL_law 346 = .ok (.iconst 0, 1) := by decide +kernel
theorem dL_law_347 : decode cL_law 347 = .ok (.ireturn, 1) := by decide +kernel
theorem dL_law_348 : decode cL_law 348 = .ok (.aload_n 1, 1) := by decide +kernel
theorem dL_law_349 : decode cL_law 349 = .ok (.aload_n 0, 1) := by decide +kernel
theorem dL_law_350 : decode cL_law 350 = .ok (.iload_n 3, 1) := by decide +kernel
theorem dL_law_351 : decode cL_law 351 = .ok (.iconst 1, 1) := by decide +kernel
theorem dL_law_352 : decode cL_law 352 = .ok (.iadd, 1) := by decide +kernel
theorem dL_law_353 : decode cL_law 353 = .ok (.iaload, 1) := by decide +kernel
theorem dL_law_354 : decode cL_law 354 = .ok (.invokevirtual 42, 3) := by decide +kernel
theorem dL_law_357 : decode cL_law 357 = .ok (.aload_n 2, 1) := by decide +kernel
theorem dL_law_358 : decode cL_law 358 = .ok (.aload_n 0, 1) := by decide +kernel
theorem dL_law_359 : decode cL_law 359 = .ok (.iload_n 3, 1) := by decide +kernel
theorem dL_law_360 : decode cL_law 360 = .ok (.iconst 1, 1) := by decide +kernel
theorem dL_law_361 : decode cL_law 361 = .ok (.iadd, 1) := by decide +kernel
theorem dL_law_362 : decode cL_law 362 = .ok (.iaload, 1) := by decide +kernel
theorem dL_law_363 : decode cL_law 363 = .ok (.invokevirtual 45, 3) := by decide +kernel
theorem dL_law_366 : decode cL_law 366 = .ok (.if_icmp .eq 358, 3) := by decide +kernel
theorem dL_law_369 : decode cL_law 369 = .ok (.iconst 0, 1) := by decide +kernel
theorem dL_law_370 : decode cL_law 370 = .ok (.ireturn, 1) := by decide +kernel
theorem dL_law_371 : decode cL_law 371 = .ok (.aload_n 1, 1) := by decide +kernel
theorem dL_law_372 : decode cL_law 372 = .ok (.invokevirtual 46, 3) := by decide +kernel
theorem dL_law_375 : decode cL_law 375 = .ok (.aload_n 2, 1) := by decide +kernel
theorem dL_law_376 : decode cL_law 376 = .ok (.invokevirtual 49, 3) := by decide +kernel
theorem dL_law_379 : decode cL_law 379 = .ok (.if_icmp .eq 345, 3) := by decide +kernel
theorem dL_law_382 : decode cL_law 382 = .ok (.iconst 0, 1) := by decide +kernel
theorem dL_law_383 : decode cL_law 383 = .ok (.ireturn, 1) := by decide +kernel
theorem dL_law_384 : decode cL_law 384 = .ok (.aload_n 1, 1) := by decide +kernel
theorem dL_law_385 : decode cL_law 385 = .ok (.invokevirtual 50, 3) := by decide +kernel
theorem dL_law_388 : decode cL_law 388 = .ok (.aload_n 2, 1) := by decide +kernel
theorem dL_law_389 : decode cL_law 389 = .ok (.invokevirtual 53, 3) := by decide +kernel
theorem dL_law_392 : decode cL_law 392 = .ok (.if_icmp .eq 332, 3) := by decide +kernel
theorem dL_law_395 : decode cL_law 395 = .ok (.iconst 0, 1) := by decide +kernel
theorem dL_law_396 : decode cL_law 396 = .ok (.ireturn, 1) := by decide +kernel
theorem dL_law_397 : decode cL_law 397 = .ok (.aload_n 1, 1) := by decide +kernel
theorem dL_law_398 : decode cL_law 398 = .ok (.invokevirtual 54, 3) := by decide +kernel
theorem dL_law_401 : decode cL_law 401 = .ok (.aload_n 2, 1) := by decide +kernel
theorem dL_law_402 : decode cL_law 402 = .ok (.invokevirtual 57, 3) := by decide +kernel
theorem dL_law_405 : decode cL_law 405 = .ok (.if_icmp .eq 319, 3) := by decide +kernel
theorem dL_law_408 : decode cL_law 408 = .ok (.iconst 0, 1) := by decide +kernel
theorem dL_law_409 : decode cL_law 409 = .ok (.ireturn, 1) := by decide +kernel
theorem dL_law_410 : decode cL_law 410 = .ok (.aload_n 1, 1) := by decide +kernel
theorem dL_law_411 : decode cL_law 411 = .ok (.invokevirtual 58, 3) := by decide +kernel
theorem dL_law_414 : decode cL_law 414 = .ok (.aload_n 2, 1) := by decide +kernel
theorem dL_law_415 : decode cL_law 415 = .ok (.invokevirtual 61, 3) := by decide +kernel
theorem dL_law_418 : decode cL_law 418 = .ok (.if_icmp .eq 306, 3) := by decide +kernel
theorem dL_law_421 : decode cL_law 421 = .ok (.iconst 0, 1) := by decide +kernel
theorem dL_law_422 : decode cL_law 422 = .ok (.ireturn, 1) := by decide +kernel
theorem dL_law_423 : decode cL_law 423 = .ok (.aload_n 1, 1) := by decide +kernel
theorem dL_law_424 : decode cL_law 424 = .ok (.invokevirtual 62, 3) := by decide +kernel
theorem dL_law_427 : decode cL_law 427 = .ok (.aload_n 2, 1) := by decide +kernel
theorem dL_law_428 : decode cL_law 428 = .ok (.invokevirtual 65, 3) := by decide +kernel
theorem dL_law_431 : decode cL_law 431 = .ok (.if_icmp .eq 293, 3) := by decide +kernel
theorem dL_law_434 : decode cL_law 434 = .ok (.iconst 0, 1) := by decide +kernel
theorem dL_law_435 : decode cL_law 435 = .ok (.ireturn, 1) := by decide +kernel
theorem dL_law_436 : decode cL_law 436 = .ok (.aload_n 1, 1) := by decide +kernel
theorem dL_law_437 : decode cL_law 437 = .ok (.invokevirtual 66, 3) := by decide +kernel
theorem dL_law_440 : decode cL_law 440 = .ok (.aload_n 2, 1) := by decide +kernel
theorem dL_law_441 : decode cL_law 441 = .ok (.invokevirtual 69, 3) := by decide +kernel
theorem dL_law_444 : decode cL_law 444 = .ok (.if_icmp .eq 280, 3) := by decide +kernel
theorem dL_law_447 : decode cL_law 447 = .ok (.iconst 0, 1) := by decide +kernel
theorem dL_law_448 : decode cL_law 448 = .ok (.ireturn, 1) := by decide +kernel
theorem dL_law_449 : decode cL_law 449 = .ok (.aload_n 1, 1) := by decide +kernel
theorem dL_law_450 : decode cL_law 450 = .ok (.invokevirtual 70, 3) := by decide +kernel
theorem dL_law_453 : decode cL_law 453 = .ok (.aload_n 2, 1) := by decide +kernel
theorem dL_law_454 : decode cL_law 454 = .ok (.invokevirtual 73, 3) := by decide +kernel
theorem dL_law_457 : decode cL_law 457 = .ok (.if_icmp .eq 267, 3) := by decide +kernel
theorem dL_law_460 : decode cL_law 460 = .ok (.iconst 0, 1) := by decide +kernel
theorem dL_law_461 : decode cL_law 461 = .ok (.ireturn, 1) := by decide +kernel
theorem dL_law_462 : decode cL_law 462 = .ok (.aload_n 1, 1) := by decide +kernel
theorem dL_law_463 : decode cL_law 463 = .ok (.aload_n 0, 1) := by decide +kernel
theorem dL_law_464 : decode cL_law 464 = .ok (.iload_n 3, 1) := by decide +kernel
theorem dL_law_465 : decode cL_law 465 = .ok (.iconst 1, 1) := by decide +kernel
theorem dL_law_466 : decode cL_law 466 = .ok (.iadd, 1) := by decide +kernel
theorem dL_law_467 : decode cL_law 467 = .ok (.iaload, 1) := by decide +kernel
theorem dL_law_468 : decode cL_law 468 = .ok (.invokevirtual 74, 3) := by decide +kernel
theorem dL_law_471 : decode cL_law 471 = .ok (.aload_n 2, 1) := by decide +kernel
theorem dL_law_472 : decode cL_law 472 = .ok (.aload_n 0, 1) := by decide +kernel
theorem dL_law_473 : decode cL_law 473 = .ok (.iload_n 3, 1) := by decide +kernel
theorem dL_law_474 : decode cL_law 474 = .ok (.iconst 1, 1) := by decide +kernel
theorem dL_law_475 : decode cL_law 475 = .ok (.iadd, 1) := by decide +kernel
theorem dL_law_476 : decode cL_law 476 = .ok (.iaload, 1) := by decide +kernel
theorem dL_law_477 : decode cL_law 477 = .ok (.invokevirtual 77, 3) := by decide +kernel
theorem dL_law_480 : decode cL_law 480 = .ok (.if_icmp .eq 244, 3) := by decide +kernel
theorem dL_law_483 : decode cL_law 483 = .ok (.iconst 0, 1) := by decide +kernel
theorem dL_law_484 : decode cL_law 484 = .ok (.ireturn, 1) := by decide +kernel
theorem dL_law_485 : decode cL_law 485 = .ok (.aload_n 1, 1) := by decide +kernel
theorem dL_law_486 : decode cL_law 486 = .ok (.aload_n 0, 1) := by decide +kernel
theorem dL_law_487 : decode cL_law 487 = .ok (.iload_n 3, 1) := by decide +kernel
theorem dL_law_488 : decode cL_law 488 = .ok (.iconst 1, 1) := by decide +kernel
theorem dL_law_489 : decode cL_law 489 = .ok (.iadd, 1) := by decide +kernel
theorem dL_law_490 : decode cL_law 490 = .ok (.iaload, 1) := by decide +kernel
theorem dL_law_491 : decode cL_law 491 = .ok (.aload_n 0, 1) := by decide +kernel
theorem dL_law_492 : decode cL_law 492 = .ok (.iload_n 3, 1) := by decide +kernel
theorem dL_law_493 : decode cL_law 493 = .ok (.iconst 2, 1) := by decide +kernel
theorem dL_law_494 : decode cL_law 494 = .ok (.iadd, 1) := by decide +kernel
theorem dL_law_495 : decode cL_law 495 = .ok (.iaload, 1) := by decide +kernel
theorem dL_law_496 : decode cL_law 496 = .ok (.aload_n 0, 1) := by decide +kernel
theorem dL_law_497 : decode cL_law 497 = .ok (.iload_n 3, 1) := by decide +kernel
theorem dL_law_498 : decode cL_law 498 = .ok (.iconst 3, 1) := by decide +kernel
theorem dL_law_499 : decode cL_law 499 = .ok (.iadd, 1) := by decide +kernel
theorem dL_law_500 : decode cL_law 500 = .ok (.iaload, 1) := by decide +kernel
theorem dL_law_501 : decode cL_law 501 = .ok (.aload_n 0, 1) := by decide +kernel
theorem dL_law_502 : decode cL_law 502 = .ok (.iload_n 3, 1) := by decide +kernel
theorem dL_law_503 : decode cL_law 503 = .ok (.iconst 4, 1) := by decide +kernel
theorem dL_law_504 : decode cL_law 504 = .ok (.iadd, 1) := by decide +kernel
theorem dL_law_505 : decode cL_law 505 = .ok (.iaload, 1) := by decide +kernel
theorem dL_law_506 : decode cL_law 506 = .ok (.invokevirtual 78, 3) := by decide +kernel
theorem dL_law_509 : decode cL_law 509 = .ok (.aload_n 2, 1) := by decide +kernel
theorem dL_law_510 : decode cL_law 510 = .ok (.aload_n 0, 1) := by decide +kernel
theorem dL_law_511 : decode cL_law 511 = .ok (.iload_n 3, 1) := by decide +kernel
theorem dL_law_512 : decode cL_law 512 = .ok (.iconst 1, 1) := by decide +kernel
theorem dL_law_513 : decode cL_law 513 = .ok (.iadd, 1) := by decide +kernel
theorem dL_law_514 : decode cL_law 514 = .ok (.iaload, 1) := by decide +kernel
theorem dL_law_515 : decode cL_law 515 = .ok (.aload_n 0, 1) := by decide +kernel
theorem dL_law_516 : decode cL_law 516 = .ok (.iload_n 3, 1) := by decide +kernel
theorem dL_law_517 : decode cL_law 517 = .ok (.iconst 2, 1) := by decide +kernel
theorem dL_law_518 : decode cL_law 518 = .ok (.iadd, 1) := by decide +kernel
theorem dL_law_519 : decode cL_law 519 = .ok (.iaload, 1) := by decide +kernel
theorem dL_law_520 : decode cL_law 520 = .ok (.aload_n 0, 1) := by decide +kernel
theorem dL_law_521 : decode cL_law 521 = .ok (.iload_n 3, 1) := by decide +kernel
theorem dL_law_522 : decode cL_law 522 = .ok (.iconst 3, 1) := by decide +kernel
theorem dL_law_523 : decode cL_law 523 = .ok (.iadd, 1) := by decide +kernel
theorem dL_law_524 : decode cL_law 524 = .ok (.iaload, 1) := by decide +kernel
theorem dL_law_525 : decode cL_law 525 = .ok (.aload_n 0, 1) := by decide +kernel
theorem dL_law_526 : decode cL_law 526 = .ok (.iload_n 3, 1) := by decide +kernel
theorem dL_law_527 : decode cL_law 527 = .ok (.iconst 4, 1) := by decide +kernel
theorem dL_law_528 : decode cL_law 528 = .ok (.iadd, 1) := by decide +kernel
theorem dL_law_529 : decode cL_law 529 = .ok (.iaload, 1) := by decide +kernel
theorem dL_law_530 : decode cL_law 530 = .ok (.invokevirtual 81, 3) := by decide +kernel
theorem dL_law_533 : decode cL_law 533 = .ok (.if_icmp .eq 191, 3) := by decide +kernel
theorem dL_law_536 : decode cL_law 536 = .ok (.iconst 0, 1) := by decide +kernel
theorem dL_law_537 : decode cL_law 537 = .ok (.ireturn, 1) := by decide +kernel
theorem dL_law_538 : decode cL_law 538 = .ok (.aload_n 1, 1) := by decide +kernel
theorem dL_law_539 : decode cL_law 539 = .ok (.invokevirtual 82, 3) := by decide +kernel
theorem dL_law_542 : decode cL_law 542 = .ok (.aload_n 2, 1) := by decide +kernel
theorem dL_law_543 : decode cL_law 543 = .ok (.invokevirtual 85, 3) := by decide +kernel
theorem dL_law_546 : decode cL_law 546 = .ok (.if_icmp .eq 178, 3) := by decide +kernel
theorem dL_law_549 : decode cL_law 549 = .ok (.iconst 0, 1) := by decide +kernel
theorem dL_law_550 : decode cL_law 550 = .ok (.ireturn, 1) := by decide +kernel
theorem dL_law_551 : decode cL_law 551 = .ok (.aload_n 1, 1) := by decide +kernel
theorem dL_law_552 : decode cL_law 552 = .ok (.aload_n 0, 1) := by decide +kernel
theorem dL_law_553 : decode cL_law 553 = .ok (.iload_n 3, 1) := by decide +kernel
theorem dL_law_554 : decode cL_law 554 = .ok (.iconst 1, 1) := by decide +kernel
theorem dL_law_555 : decode cL_law 555 = .ok (.iadd, 1) := by decide +kernel
theorem dL_law_556 : decode cL_law 556 = .ok (.iaload, 1) := by decide +kernel
theorem dL_law_557 : decode cL_law 557 = .ok (.invokevirtual 86, 3) := by decide +kernel
theorem dL_law_560 : decode cL_law 560 = .ok (.aload_n 2, 1) := by decide +kernel
theorem dL_law_561 : decode cL_law 561 = .ok (.aload_n 0, 1) := by decide +kernel
theorem dL_law_562 : decode cL_law 562 = .ok (.iload_n 3, 1) := by decide +kernel
theorem dL_law_563 : decode cL_law 563 = .ok (.iconst 1, 1) := by decide +kernel
theorem dL_law_564 : decode cL_law 564 = .ok (.iadd, 1) := by decide +kernel
theorem dL_law_565 : decode cL_law 565 = .ok (.iaload, 1) := by decide +kernel
theorem dL_law_566 : decode cL_law 566 = .ok (.invokevirtual 89, 3) := by decide +kernel
theorem dL_law_569 : decode cL_law 569 = .ok (.if_icmp .eq 155, 3) := by decide +kernel
theorem dL_law_572 : decode cL_law 572 = .ok (.iconst 0, 1) := by decide +kernel
theorem dL_law_573 : decode cL_law 573 = .ok (.ireturn, 1) := by decide +kernel
theorem dL_law_574 : decode cL_law 574 = .ok (.aload_n 1, 1) := by decide +kernel
theorem dL_law_575 : decode cL_law 575 = .ok (.invokevirtual 90, 3) := by decide +kernel
theorem dL_law_578 : decode cL_law 578 = .ok (.aload_n 2, 1) := by decide +kernel
theorem dL_law_579 : decode cL_law 579 = .ok (.invokevirtual 93, 3) := by decide +kernel
theorem dL_law_582 : decode cL_law 582 = .ok (.if_icmp .eq 142, 3) := by decide +kernel
theorem dL_law_585 : decode cL_law 585 = .ok (.iconst 0, 1) := by decide +kernel
theorem dL_law_586 : decode cL_law 586 = .ok (.ireturn, 1) := by decide +kernel
theorem dL_law_587 : decode cL_law 587 = .ok (.aload_n 1, 1) := by decide +kernel
theorem dL_law_588 : decode cL_law 588 = .ok (.invokevirtual 94, 3) := by decide +kernel
theorem dL_law_591 : decode cL_law 591 = .ok (.aload_n 2, 1) := by decide +kernel
theorem dL_law_592 : decode cL_law 592 = .ok (.invokevirtual 97, 3) := by decide +kernel
theorem dL_law_595 : decode cL_law 595 = .ok (.if_icmp .eq 129, 3) := by decide +kernel
theorem dL_law_598 : decode cL_law 598 = .ok (.iconst 0, 1) := by decide +kernel
theorem dL_law_599 : decode cL_law 599 = .ok (.ireturn, 1) := by decide +kernel
theorem dL_law_600 : decode cL_law 600 = .ok (.aload_n 1, 1) := by decide +kernel
theorem dL_law_601 : decode cL_law 601 = .ok (.invokevirtual 98, 3) := by decide +kernel
theorem dL_law_604 : decode cL_law 604 = .ok (.aload_n 2, 1) := by decide +kernel
theorem dL_law_605 : decode cL_law 605 = .ok (.invokevirtual 101, 3) := by decide +kernel
theorem dL_law_608 : decode cL_law 608 = .ok (.if_icmp .eq 116, 3) := by decide +kernel
theorem dL_law_611 : decode cL_law 611 = .ok (.iconst 0, 1) := by decide +kernel
theorem dL_law_612 : decode cL_law 612 = .ok (.ireturn, 1) := by decide +kernel
theorem dL_law_613 : decode cL_law 613 = .ok (.aload_n 1, 1) := by decide +kernel
theorem dL_law_614 : decode cL_law 614 = .ok (.invokevirtual 102, 3) := by decide +kernel
theorem dL_law_617 : decode cL_law 617 = .ok (.aload_n 2, 1) := by decide +kernel
theorem dL_law_618 : decode cL_law 618 = .ok (.invokevirtual 105, 3) := by decide +kernel
theorem dL_law_621 : decode cL_law 621 = .ok (.if_icmp .eq 103, 3) := by decide +kernel
theorem dL_law_624 : decode cL_law 624 = .ok (.iconst 0, 1) := by decide +kernel
theorem dL_law_625 : decode cL_law 625 = .ok (.ireturn, 1) := by decide +kernel
theorem dL_law_626 : decode cL_law 626 = .ok (.aload_n 1, 1) := by decide +kernel
theorem dL_law_627 : decode cL_law 627 = .ok (.aload_n 0, 1) := by decide +kernel
theorem dL_law_628 : decode cL_law 628 = .ok (.iload_n 3, 1) := by decide +kernel
theorem dL_law_629 : decode cL_law 629 = .ok (.iconst 1, 1) := by decide +kernel
theorem dL_law_630 : decode cL_law 630 = .ok (.iadd, 1) := by decide +kernel
theorem dL_law_631 : decode cL_law 631 = .ok (.iaload, 1) := by decide +kernel
theorem dL_law_632 : decode cL_law 632 = .ok (.invokevirtual 106, 3) := by decide +kernel
theorem dL_law_635 : decode cL_law 635 = .ok (.aload_n 2, 1) := by decide +kernel
theorem dL_law_636 : decode cL_law 636 = .ok (.aload_n 0, 1) := by decide +kernel
theorem dL_law_637 : decode cL_law 637 = .ok (.iload_n 3, 1) := by decide +kernel
theorem dL_law_638 : decode cL_law 638 = .ok (.iconst 1, 1) := by decide +kernel
theorem dL_law_639 : decode cL_law 639 = .ok (.iadd, 1) := by decide +kernel
theorem dL_law_640 : decode cL_law 640 = .ok (.iaload, 1) := by decide +kernel
theorem dL_law_641 : decode cL_law 641 = .ok (.invokevirtual 109, 3) := by decide +kernel
theorem dL_law_644 : decode cL_law 644 = .ok (.if_icmp .eq 80, 3) := by decide +kernel
theorem dL_law_647 : decode cL_law 647 = .ok (.iconst 0, 1) := by decide +kernel
theorem dL_law_648 : decode cL_law 648 = .ok (.ireturn, 1) := by decide +kernel
theorem dL_law_649 : decode cL_law 649 = .ok (.aload_n 1, 1) := by decide +kernel
theorem dL_law_650 : decode cL_law 650 = .ok (.aload_n 0, 1) := by decide +kernel
theorem dL_law_651 : decode cL_law 651 = .ok (.iload_n 3, 1) := by decide +kernel
theorem dL_law_652 : decode cL_law 652 = .ok (.iconst 1, 1) := by decide +kernel
theorem dL_law_653 : decode cL_law 653 = .ok (.iadd, 1) := by decide +kernel
theorem dL_law_654 : decode cL_law 654 = .ok (.iaload, 1) := by decide +kernel
theorem dL_law_655 : decode cL_law 655 = .ok (.invokevirtual 110, 3) := by decide +kernel
theorem dL_law_658 : decode cL_law 658 = .ok (.aload_n 2, 1) := by decide +kernel
theorem dL_law_659 : decode cL_law 659 = .ok (.aload_n 0, 1) := by decide +kernel
theorem dL_law_660 : decode cL_law 660 = .ok (.iload_n 3, 1) := by decide +kernel
theorem dL_law_661 : decode cL_law 661 = .ok (.iconst 1, 1) := by decide +kernel
theorem dL_law_662 : decode cL_law 662 = .ok (.iadd, 1) := by decide +kernel
theorem dL_law_663 : decode cL_law 663 = .ok (.iaload, 1) := by decide +kernel
theorem dL_law_664 : decode cL_law 664 = .ok (.invokevirtual 113, 3) := by decide +kernel
theorem dL_law_667 : decode cL_law 667 = .ok (.if_icmp .eq 57, 3) := by decide +kernel
theorem dL_law_670 : decode cL_law 670 = .ok (.iconst 0, 1) := by decide +kernel
theorem dL_law_671 : decode cL_law 671 = .ok (.ireturn, 1) := by decide +kernel
theorem dL_law_672 : decode cL_law 672 = .ok (.aload_n 1, 1) := by decide +kernel
theorem dL_law_673 : decode cL_law 673 = .ok (.invokevirtual 114, 3) := by decide +kernel
theorem dL_law_676 : decode cL_law 676 = .ok (.aload_n 2, 1) := by decide +kernel
theorem dL_law_677 : decode cL_law 677 = .ok (.invokevirtual 117, 3) := by decide +kernel
theorem dL_law_680 : decode cL_law 680 = .ok (.if_icmp .eq 44, 3) := by decide +kernel
theorem dL_law_683 : decode cL_law 683 = .ok (.iconst 0, 1) := by decide +kernel
theorem dL_law_684 : decode cL_law 684 = .ok (.ireturn, 1) := by decide +kernel
theorem dL_law_685 : decode cL_law 685 = .ok (.aload_n 1, 1) := by decide +kernel
theorem dL_law_686 : decode cL_law 686 = .ok (.invokevirtual 118, 3) := by decide +kernel
theorem dL_law_689 : decode cL_law 689 = .ok (.aload_n 2, 1) := by decide +kernel
theorem dL_law_690 : decode cL_law 690 = .ok (.invokevirtual 121, 3) := by decide +kernel
theorem dL_law_693 : decode cL_law 693 = .ok (.if_icmp .eq 31, 3) := by decide +kernel
theorem dL_law_696 : decode cL_law 696 = .ok (.iconst 0, 1) := by decide +kernel
theorem dL_law_697 : decode cL_law 697 = .ok (.ireturn, 1) := by decide +kernel
theorem dL_law_698 : decode cL_law 698 = .ok (.aload_n 1, 1) := by decide +kernel
theorem dL_law_699 : decode cL_law 699 = .ok (.invokevirtual 122, 3) := by decide +kernel
theorem dL_law_702 : decode cL_law 702 = .ok (.aload_n 2, 1) := by decide +kernel
theorem dL_law_703 : decode cL_law 703 = .ok (.invokevirtual 125, 3) := by decide +kernel
theorem dL_law_706 : decode cL_law 706 = .ok (.if_icmp .eq 18, 3) := by decide +kernel
theorem dL_law_709 : decode cL_law 709 = .ok (.iconst 0, 1) := by decide +kernel
theorem dL_law_710 : decode cL_law 710 = .ok (.ireturn, 1) := by decide +kernel
theorem dL_law_711 : decode cL_law 711 = .ok (.aload_n 1, 1) := by decide +kernel
theorem dL_law_712 : decode cL_law 712 = .ok (.invokevirtual 126, 3) := by decide +kernel
theorem dL_law_715 : decode cL_law 715 = .ok (.aload_n 2, 1) := by decide +kernel
theorem dL_law_716 : decode cL_law 716 = .ok (.invokevirtual 129, 3) := by decide +kernel
theorem dL_law_719 : decode cL_law 719 = .ok (.if_icmp .eq 5, 3) := by decide +kernel
theorem dL_law_722 : decode cL_law 722 = .ok (.iconst 0, 1) := by decide +kernel
theorem dL_law_723 : decode cL_law 723 = .ok (.ireturn, 1) := by decide +kernel
theorem dL_law_724 : decode cL_law 724 = .ok (.iinc 3 5, 3) := by decide +kernel
theorem dL_law_727 : decode cL_law 727 = .ok (.goto (-709), 3) := by decide +kernel
theorem dL_law_730 : decode cL_law 730 = .ok (.iconst 1, 1) := by decide +kernel
theorem dL_law_731 : decode cL_law 731 = .ok (.ireturn, 1) := by decide +kernel
