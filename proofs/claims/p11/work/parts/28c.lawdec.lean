/-! the law, decoded -/
theorem dg_law_0 : (decode code 0 = .ok (.new 7, 3)) ∧ (decode code 3 = .ok (.dup, 1)) ∧ (decode code 4 = .ok (.invokespecial 9, 3)) ∧ (decode code 7 = .ok (.astore_n 1, 1)) ∧ (decode code 8 = .ok (.new 10, 3)) ∧ (decode code 11 = .ok (.dup, 1)) ∧ (decode code 12 = .ok (.invokespecial 12, 3)) ∧ (decode code 15 = .ok (.astore_n 2, 1)) ∧ (decode code 16 = .ok (.iconst 0, 1)) ∧ (decode code 17 = .ok (.istore_n 3, 1)) ∧ (decode code 18 = .ok (.iload_n 3, 1)) ∧ (decode code 19 = .ok (.aload_n 0, 1)) ∧ (decode code 20 = .ok (.arraylength, 1)) ∧ (decode code 21 = .ok (.bipush 6, 2)) ∧ (decode code 23 = .ok (.isub, 1)) ∧ (decode code 24 = .ok (.if_icmp .gt 1356, 3)) ∧ True := fd_of (cc := code) [(0, .new 7, 3), (3, .dup, 1), (4, .invokespecial 9, 3), (7, .astore_n 1, 1), (8, .new 10, 3), (11, .dup, 1), (12, .invokespecial 12, 3), (15, .astore_n 2, 1), (16, .iconst 0, 1), (17, .istore_n 3, 1), (18, .iload_n 3, 1), (19, .aload_n 0, 1), (20, .arraylength, 1), (21, .bipush 6, 2), (23, .isub, 1), (24, .if_icmp .gt 1356, 3)] (by decide +kernel)
theorem d_law_0 : decode code 0 = .ok (.new 7, 3) := dg_law_0.1
theorem d_law_3 : decode code 3 = .ok (.dup, 1) := dg_law_0.2.1
theorem d_law_4 : decode code 4 = .ok (.invokespecial 9, 3) := dg_law_0.2.2.1
theorem d_law_7 : decode code 7 = .ok (.astore_n 1, 1) := dg_law_0.2.2.2.1
theorem d_law_8 : decode code 8 = .ok (.new 10, 3) := dg_law_0.2.2.2.2.1
theorem d_law_11 : decode code 11 = .ok (.dup, 1) := dg_law_0.2.2.2.2.2.1
theorem d_law_12 : decode code 12 = .ok (.invokespecial 12, 3) := dg_law_0.2.2.2.2.2.2.1
theorem d_law_15 : decode code 15 = .ok (.astore_n 2, 1) := dg_law_0.2.2.2.2.2.2.2.1
theorem d_law_16 : decode code 16 = .ok (.iconst 0, 1) := dg_law_0.2.2.2.2.2.2.2.2.1
theorem d_law_17 : decode code 17 = .ok (.istore_n 3, 1) := dg_law_0.2.2.2.2.2.2.2.2.2.1
theorem d_law_18 : decode code 18 = .ok (.iload_n 3, 1) := dg_law_0.2.2.2.2.2.2.2.2.2.2.1
theorem d_law_19 : decode code 19 = .ok (.aload_n 0, 1) := dg_law_0.2.2.2.2.2.2.2.2.2.2.2.1
theorem d_law_20 : decode code 20 = .ok (.arraylength, 1) := dg_law_0.2.2.2.2.2.2.2.2.2.2.2.2.1
theorem d_law_21 : decode code 21 = .ok (.bipush 6, 2) := dg_law_0.2.2.2.2.2.2.2.2.2.2.2.2.2.1
theorem d_law_23 : decode code 23 = .ok (.isub, 1) := dg_law_0.2.2.2.2.2.2.2.2.2.2.2.2.2.2.1
theorem d_law_24 : decode code 24 = .ok (.if_icmp .gt 1356, 3) := dg_law_0.2.2.2.2.2.2.2.2.2.2.2.2.2.2.2.1
theorem dg_law_16 : (decode code 27 = .ok (.aload_n 0, 1)) ∧ (decode code 28 = .ok (.iload_n 3, 1)) ∧ (decode code 29 = .ok (.iaload, 1)) ∧ (decode code 30 = .ok (.bipush 63, 2)) ∧ (decode code 32 = .ok (.iand, 1)) ∧ (decode code 33 = .ok (.tableswitch 1341 0 37 #[167, 230, 253, 266, 289, 312, 355, 414, 447, 470, 513, 552, 565, 604, 637, 680, 713, 736, 769, 792, 815, 848, 871, 894, 917, 986, 1009, 1042, 1055, 1068, 1081, 1104, 1117, 1140, 1203, 1262, 1285, 1308], 167)) ∧ (decode code 200 = .ok (.aload_n 1, 1)) ∧ (decode code 201 = .ok (.aload_n 0, 1)) ∧ (decode code 202 = .ok (.iload_n 3, 1)) ∧ (decode code 203 = .ok (.iconst 1, 1)) ∧ (decode code 204 = .ok (.iadd, 1)) ∧ (decode code 205 = .ok (.iaload, 1)) ∧ (decode code 206 = .ok (.aload_n 0, 1)) ∧ (decode code 207 = .ok (.iload_n 3, 1)) ∧ (decode code 208 = .ok (.iconst 2, 1)) ∧ (decode code 209 = .ok (.iadd, 1)) ∧ True := fd_of (cc := code) [(27, .aload_n 0, 1), (28, .iload_n 3, 1), (29, .iaload, 1), (30, .bipush 63, 2), (32, .iand, 1), (33, .tableswitch 1341 0 37 #[167, 230, 253, 266, 289, 312, 355, 414, 447, 470, 513, 552, 565, 604, 637, 680, 713, 736, 769, 792, 815, 848, 871, 894, 917, 986, 1009, 1042, 1055, 1068, 1081, 1104, 1117, 1140, 1203, 1262, 1285, 1308], 167), (200, .aload_n 1, 1), (201, .aload_n 0, 1), (202, .iload_n 3, 1), (203, .iconst 1, 1), (204, .iadd, 1), (205, .iaload, 1), (206, .aload_n 0, 1), (207, .iload_n 3, 1), (208, .iconst 2, 1), (209, .iadd, 1)] (by decide +kernel)
theorem d_law_27 : decode code 27 = .ok (.aload_n 0, 1) := dg_law_16.1
theorem d_law_28 : decode code 28 = .ok (.iload_n 3, 1) := dg_law_16.2.1
theorem d_law_29 : decode code 29 = .ok (.iaload, 1) := dg_law_16.2.2.1
theorem d_law_30 : decode code 30 = .ok (.bipush 63, 2) := dg_law_16.2.2.2.1
theorem d_law_32 : decode code 32 = .ok (.iand, 1) := dg_law_16.2.2.2.2.1
theorem d_law_33 : decode code 33 = .ok (.tableswitch 1341 0 37 #[167, 230, 253, 266, 289, 312, 355, 414, 447, 470, 513, 552, 565, 604, 637, 680, 713, 736, 769, 792, 815, 848, 871, 894, 917, 986, 1009, 1042, 1055, 1068, 1081, 1104, 1117, 1140, 1203, 1262, 1285, 1308], 167) := dg_law_16.2.2.2.2.2.1
theorem d_law_200 : decode code 200 = .ok (.aload_n 1, 1) := dg_law_16.2.2.2.2.2.2.1
theorem d_law_201 : decode code 201 = .ok (.aload_n 0, 1) := dg_law_16.2.2.2.2.2.2.2.1
theorem d_law_202 : decode code 202 = .ok (.iload_n 3, 1) := dg_law_16.2.2.2.2.2.2.2.2.1
theorem d_law_203 : decode code 203 = .ok (.iconst 1, 1) := dg_law_16.2.2.2.2.2.2.2.2.2.1
theorem d_law_204 : decode code 204 = .ok (.iadd, 1) := dg_law_16.2.2.2.2.2.2.2.2.2.2.1
theorem d_law_205 : decode code 205 = .ok (.iaload, 1) := dg_law_16.2.2.2.2.2.2.2.2.2.2.2.1
theorem d_law_206 : decode code 206 = .ok (.aload_n 0, 1) := dg_law_16.2.2.2.2.2.2.2.2.2.2.2.2.1
theorem d_law_207 : decode code 207 = .ok (.iload_n 3, 1) := dg_law_16.2.2.2.2.2.2.2.2.2.2.2.2.2.1
theorem d_law_208 : decode code 208 = .ok (.iconst 2, 1) := dg_law_16.2.2.2.2.2.2.2.2.2.2.2.2.2.2.1
theorem d_law_209 : decode code 209 = .ok (.iadd, 1) := dg_law_16.2.2.2.2.2.2.2.2.2.2.2.2.2.2.2.1
theorem dg_law_32 : (decode code 210 = .ok (.iaload, 1)) ∧ (decode code 211 = .ok (.aload_n 0, 1)) ∧ (decode code 212 = .ok (.iload_n 3, 1)) ∧ (decode code 213 = .ok (.iconst 3, 1)) ∧ (decode code 214 = .ok (.iadd, 1)) ∧ (decode code 215 = .ok (.iaload, 1)) ∧ (decode code 216 = .ok (.aload_n 0, 1)) ∧ (decode code 217 = .ok (.iload_n 3, 1)) ∧ (decode code 218 = .ok (.iconst 4, 1)) ∧ (decode code 219 = .ok (.iadd, 1)) ∧ (decode code 220 = .ok (.iaload, 1)) ∧ (decode code 221 = .ok (.aload_n 0, 1)) ∧ (decode code 222 = .ok (.iload_n 3, 1)) ∧ (decode code 223 = .ok (.iconst 5, 1)) ∧ (decode code 224 = .ok (.iadd, 1)) ∧ (decode code 225 = .ok (.iaload, 1)) ∧ True := fd_of (cc := code) [(210, .iaload, 1), (211, .aload_n 0, 1), (212, .iload_n 3, 1), (213, .iconst 3, 1), (214, .iadd, 1), (215, .iaload, 1), (216, .aload_n 0, 1), (217, .iload_n 3, 1), (218, .iconst 4, 1), (219, .iadd, 1), (220, .iaload, 1), (221, .aload_n 0, 1), (222, .iload_n 3, 1), (223, .iconst 5, 1), (224, .iadd, 1), (225, .iaload, 1)] (by decide +kernel)
theorem d_law_210 : decode code 210 = .ok (.iaload, 1) := dg_law_32.1
theorem d_law_211 : decode code 211 = .ok (.aload_n 0, 1) := dg_law_32.2.1
theorem d_law_212 : decode code 212 = .ok (.iload_n 3, 1) := dg_law_32.2.2.1
theorem d_law_213 : decode code 213 = .ok (.iconst 3, 1) := dg_law_32.2.2.2.1
theorem d_law_214 : decode code 214 = .ok (.iadd, 1) := dg_law_32.2.2.2.2.1
theorem d_law_215 : decode code 215 = .ok (.iaload, 1) := dg_law_32.2.2.2.2.2.1
theorem d_law_216 : decode code 216 = .ok (.aload_n 0, 1) := dg_law_32.2.2.2.2.2.2.1
theorem d_law_217 : decode code 217 = .ok (.iload_n 3, 1) := dg_law_32.2.2.2.2.2.2.2.1
theorem d_law_218 : decode code 218 = .ok (.iconst 4, 1) := dg_law_32.2.2.2.2.2.2.2.2.1
theorem d_law_219 : decode code 219 = .ok (.iadd, 1) := dg_law_32.2.2.2.2.2.2.2.2.2.1
theorem d_law_220 : decode code 220 = .ok (.iaload, 1) := dg_law_32.2.2.2.2.2.2.2.2.2.2.1
theorem d_law_221 : decode code 221 = .ok (.aload_n 0, 1) := dg_law_32.2.2.2.2.2.2.2.2.2.2.2.1
theorem d_law_222 : decode code 222 = .ok (.iload_n 3, 1) := dg_law_32.2.2.2.2.2.2.2.2.2.2.2.2.1
theorem d_law_223 : decode code 223 = .ok (.iconst 5, 1) := dg_law_32.2.2.2.2.2.2.2.2.2.2.2.2.2.1
theorem d_law_224 : decode code 224 = .ok (.iadd, 1) := dg_law_32.2.2.2.2.2.2.2.2.2.2.2.2.2.2.1
theorem d_law_225 : decode code 225 = .ok (.iaload, 1) := dg_law_32.2.2.2.2.2.2.2.2.2.2.2.2.2.2.2.1
theorem dg_law_48 : (decode code 226 = .ok (.invokevirtual 13, 3)) ∧ (decode code 229 = .ok (.pop, 1)) ∧ (decode code 230 = .ok (.aload_n 2, 1)) ∧ (decode code 231 = .ok (.aload_n 0, 1)) ∧ (decode code 232 = .ok (.iload_n 3, 1)) ∧ (decode code 233 = .ok (.iconst 1, 1)) ∧ (decode code 234 = .ok (.iadd, 1)) ∧ (decode code 235 = .ok (.iaload, 1)) ∧ (decode code 236 = .ok (.aload_n 0, 1)) ∧ (decode code 237 = .ok (.iload_n 3, 1)) ∧ (decode code 238 = .ok (.iconst 2, 1)) ∧ (decode code 239 = .ok (.iadd, 1)) ∧ (decode code 240 = .ok (.iaload, 1)) ∧ (decode code 241 = .ok (.aload_n 0, 1)) ∧ (decode code 242 = .ok (.iload_n 3, 1)) ∧ (decode code 243 = .ok (.iconst 3, 1)) ∧ True := fd_of (cc := code) [(226, .invokevirtual 13, 3), (229, .pop, 1), (230, .aload_n 2, 1), (231, .aload_n 0, 1), (232, .iload_n 3, 1), (233, .iconst 1, 1), (234, .iadd, 1), (235, .iaload, 1), (236, .aload_n 0, 1), (237, .iload_n 3, 1), (238, .iconst 2, 1), (239, .iadd, 1), (240, .iaload, 1), (241, .aload_n 0, 1), (242, .iload_n 3, 1), (243, .iconst 3, 1)] (by decide +kernel)
theorem d_law_226 : decode code 226 = .ok (.invokevirtual 13, 3) := dg_law_48.1
theorem d_law_229 : decode code 229 = .ok (.pop, 1) := dg_law_48.2.1
theorem d_law_230 : decode code 230 = .ok (.aload_n 2, 1) := dg_law_48.2.2.1
theorem d_law_231 : decode code 231 = .ok (.aload_n 0, 1) := dg_law_48.2.2.2.1
theorem d_law_232 : decode code 232 = .ok (.iload_n 3, 1) := dg_law_48.2.2.2.2.1
theorem d_law_233 : decode code 233 = .ok (.iconst 1, 1) := dg_law_48.2.2.2.2.2.1
theorem d_law_234 : decode code 234 = .ok (.iadd, 1) := dg_law_48.2.2.2.2.2.2.1
theorem d_law_235 : decode code 235 = .ok (.iaload, 1) := dg_law_48.2.2.2.2.2.2.2.1
theorem d_law_236 : decode code 236 = .ok (.aload_n 0, 1) := dg_law_48.2.2.2.2.2.2.2.2.1
theorem d_law_237 : decode code 237 = .ok (.iload_n 3, 1) := dg_law_48.2.2.2.2.2.2.2.2.2.1
theorem d_law_238 : decode code 238 = .ok (.iconst 2, 1) := dg_law_48.2.2.2.2.2.2.2.2.2.2.1
theorem d_law_239 : decode code 239 = .ok (.iadd, 1) := dg_law_48.2.2.2.2.2.2.2.2.2.2.2.1
theorem d_law_240 : decode code 240 = .ok (.iaload, 1) := dg_law_48.2.2.2.2.2.2.2.2.2.2.2.2.1
theorem d_law_241 : decode code 241 = .ok (.aload_n 0, 1) := dg_law_48.2.2.2.2.2.2.2.2.2.2.2.2.2.1
theorem d_law_242 : decode code 242 = .ok (.iload_n 3, 1) := dg_law_48.2.2.2.2.2.2.2.2.2.2.2.2.2.2.1
theorem d_law_243 : decode code 243 = .ok (.iconst 3, 1) := dg_law_48.2.2.2.2.2.2.2.2.2.2.2.2.2.2.2.1
theorem dg_law_64 : (decode code 244 = .ok (.iadd, 1)) ∧ (decode code 245 = .ok (.iaload, 1)) ∧ (decode code 246 = .ok (.aload_n 0, 1)) ∧ (decode code 247 = .ok (.iload_n 3, 1)) ∧ (decode code 248 = .ok (.iconst 4, 1)) ∧ (decode code 249 = .ok (.iadd, 1)) ∧ (decode code 250 = .ok (.iaload, 1)) ∧ (decode code 251 = .ok (.aload_n 0, 1)) ∧ (decode code 252 = .ok (.iload_n 3, 1)) ∧ (decode code 253 = .ok (.iconst 5, 1)) ∧ (decode code 254 = .ok (.iadd, 1)) ∧ (decode code 255 = .ok (.iaload, 1)) ∧ (decode code 256 = .ok (.invokevirtual 17, 3)) ∧ (decode code 259 = .ok (.pop, 1)) ∧ (decode code 260 = .ok (.goto 1114, 3)) ∧ (decode code 263 = .ok (.aload_n 1, 1)) ∧ True := fd_of (cc := code) [(244, .iadd, 1), (245, .iaload, 1), (246, .aload_n 0, 1), (247, .iload_n 3, 1), (248, .iconst 4, 1), (249, .iadd, 1), (250, .iaload, 1), (251, .aload_n 0, 1), (252, .iload_n 3, 1), (253, .iconst 5, 1), (254, .iadd, 1), (255, .iaload, 1), (256, .invokevirtual 17, 3), (259, .pop, 1), (260, .goto 1114, 3), (263, .aload_n 1, 1)] (by decide +kernel)
theorem d_law_244 : decode code 244 = .ok (.iadd, 1) := dg_law_64.1
theorem d_law_245 : decode code 245 = .ok (.iaload, 1) := dg_law_64.2.1
theorem d_law_246 : decode code 246 = .ok (.aload_n 0, 1) := dg_law_64.2.2.1
theorem d_law_247 : decode code 247 = .ok (.iload_n 3, 1) := dg_law_64.2.2.2.1
theorem d_law_248 : decode code 248 = .ok (.iconst 4, 1) := dg_law_64.2.2.2.2.1
theorem d_law_249 : decode code 249 = .ok (.iadd, 1) := dg_law_64.2.2.2.2.2.1
theorem d_law_250 : decode code 250 = .ok (.iaload, 1) := dg_law_64.2.2.2.2.2.2.1
theorem d_law_251 : decode code 251 = .ok (.aload_n 0, 1) := dg_law_64.2.2.2.2.2.2.2.1
theorem d_law_252 : decode code 252 = .ok (.iload_n 3, 1) := dg_law_64.2.2.2.2.2.2.2.2.1
theorem d_law_253 : decode code 253 = .ok (.iconst 5, 1) := dg_law_64.2.2.2.2.2.2.2.2.2.1
theorem d_law_254 : decode code 254 = .ok (.iadd, 1) := dg_law_64.2.2.2.2.2.2.2.2.2.2.1
theorem d_law_255 : decode code 255 = .ok (.iaload, 1) := dg_law_64.2.2.2.2.2.2.2.2.2.2.2.1
theorem d_law_256 : decode code 256 = .ok (.invokevirtual 17, 3) := dg_law_64.2.2.2.2.2.2.2.2.2.2.2.2.1
theorem d_law_259 : decode code 259 = .ok (.pop, 1) := dg_law_64.2.2.2.2.2.2.2.2.2.2.2.2.2.1
theorem d_law_260 : decode code 260 = .ok (.goto 1114, 3) := dg_law_64.2.2.2.2.2.2.2.2.2.2.2.2.2.2.1
theorem d_law_263 : decode code 263 = .ok (.aload_n 1, 1) := dg_law_64.2.2.2.2.2.2.2.2.2.2.2.2.2.2.2.1
theorem dg_law_80 : (decode code 264 = .ok (.aload_n 0, 1)) ∧ (decode code 265 = .ok (.iload_n 3, 1)) ∧ (decode code 266 = .ok (.iconst 1, 1)) ∧ (decode code 267 = .ok (.iadd, 1)) ∧ (decode code 268 = .ok (.iaload, 1)) ∧ (decode code 269 = .ok (.invokevirtual 18, 3)) ∧ (decode code 272 = .ok (.pop, 1)) ∧ (decode code 273 = .ok (.aload_n 2, 1)) ∧ (decode code 274 = .ok (.aload_n 0, 1)) ∧ (decode code 275 = .ok (.iload_n 3, 1)) ∧ (decode code 276 = .ok (.iconst 1, 1)) ∧ (decode code 277 = .ok (.iadd, 1)) ∧ (decode code 278 = .ok (.iaload, 1)) ∧ (decode code 279 = .ok (.invokevirtual 22, 3)) ∧ (decode code 282 = .ok (.pop, 1)) ∧ (decode code 283 = .ok (.goto 1091, 3)) ∧ True := fd_of (cc := code) [(264, .aload_n 0, 1), (265, .iload_n 3, 1), (266, .iconst 1, 1), (267, .iadd, 1), (268, .iaload, 1), (269, .invokevirtual 18, 3), (272, .pop, 1), (273, .aload_n 2, 1), (274, .aload_n 0, 1), (275, .iload_n 3, 1), (276, .iconst 1, 1), (277, .iadd, 1), (278, .iaload, 1), (279, .invokevirtual 22, 3), (282, .pop, 1), (283, .goto 1091, 3)] (by decide +kernel)
theorem d_law_264 : decode code 264 = .ok (.aload_n 0, 1) := dg_law_80.1
theorem d_law_265 : decode code 265 = .ok (.iload_n 3, 1) := dg_law_80.2.1
theorem d_law_266 : decode code 266 = .ok (.iconst 1, 1) := dg_law_80.2.2.1
theorem d_law_267 : decode code 267 = .ok (.iadd, 1) := dg_law_80.2.2.2.1
theorem d_law_268 : decode code 268 = .ok (.iaload, 1) := dg_law_80.2.2.2.2.1
theorem d_law_269 : decode code 269 = .ok (.invokevirtual 18, 3) := dg_law_80.2.2.2.2.2.1
theorem d_law_272 : decode code 272 = .ok (.pop, 1) := dg_law_80.2.2.2.2.2.2.1
theorem d_law_273 : decode code 273 = .ok (.aload_n 2, 1) := dg_law_80.2.2.2.2.2.2.2.1
theorem d_law_274 : decode code 274 = .ok (.aload_n 0, 1) := dg_law_80.2.2.2.2.2.2.2.2.1
theorem d_law_275 : decode code 275 = .ok (.iload_n 3, 1) := dg_law_80.2.2.2.2.2.2.2.2.2.1
theorem d_law_276 : decode code 276 = .ok (.iconst 1, 1) := dg_law_80.2.2.2.2.2.2.2.2.2.2.1
theorem d_law_277 : decode code 277 = .ok (.iadd, 1) := dg_law_80.2.2.2.2.2.2.2.2.2.2.2.1
theorem d_law_278 : decode code 278 = .ok (.iaload, 1) := dg_law_80.2.2.2.2.2.2.2.2.2.2.2.2.1
theorem d_law_279 : decode code 279 = .ok (.invokevirtual 22, 3) := dg_law_80.2.2.2.2.2.2.2.2.2.2.2.2.2.1
theorem d_law_282 : decode code 282 = .ok (.pop, 1) := dg_law_80.2.2.2.2.2.2.2.2.2.2.2.2.2.2.1
theorem d_law_283 : decode code 283 = .ok (.goto 1091, 3) := dg_law_80.2.2.2.2.2.2.2.2.2.2.2.2.2.2.2.1
theorem dg_law_96 : (decode code 286 = .ok (.aload_n 1, 1)) ∧ (decode code 287 = .ok (.invokevirtual 23, 3)) ∧ (decode code 290 = .ok (.pop, 1)) ∧ (decode code 291 = .ok (.aload_n 2, 1)) ∧ (decode code 292 = .ok (.invokevirtual 27, 3)) ∧ (decode code 295 = .ok (.pop, 1)) ∧ (decode code 296 = .ok (.goto 1078, 3)) ∧ (decode code 299 = .ok (.aload_n 1, 1)) ∧ (decode code 300 = .ok (.aload_n 0, 1)) ∧ (decode code 301 = .ok (.iload_n 3, 1)) ∧ (decode code 302 = .ok (.iconst 1, 1)) ∧ (decode code 303 = .ok (.iadd, 1)) ∧ (decode code 304 = .ok (.iaload, 1)) ∧ (decode code 305 = .ok (.invokevirtual 28, 3)) ∧ (decode code 308 = .ok (.pop, 1)) ∧ (decode code 309 = .ok (.aload_n 2, 1)) ∧ True := fd_of (cc := code) [(286, .aload_n 1, 1), (287, .invokevirtual 23, 3), (290, .pop, 1), (291, .aload_n 2, 1), (292, .invokevirtual 27, 3), (295, .pop, 1), (296, .goto 1078, 3), (299, .aload_n 1, 1), (300, .aload_n 0, 1), (301, .iload_n 3, 1), (302, .iconst 1, 1), (303, .iadd, 1), (304, .iaload, 1), (305, .invokevirtual 28, 3), (308, .pop, 1), (309, .aload_n 2, 1)] (by decide +kernel)
theorem d_law_286 : decode code 286 = .ok (.aload_n 1, 1) := dg_law_96.1
theorem d_law_287 : decode code 287 = .ok (.invokevirtual 23, 3) := dg_law_96.2.1
theorem d_law_290 : decode code 290 = .ok (.pop, 1) := dg_law_96.2.2.1
theorem d_law_291 : decode code 291 = .ok (.aload_n 2, 1) := dg_law_96.2.2.2.1
theorem d_law_292 : decode code 292 = .ok (.invokevirtual 27, 3) := dg_law_96.2.2.2.2.1
theorem d_law_295 : decode code 295 = .ok (.pop, 1) := dg_law_96.2.2.2.2.2.1
theorem d_law_296 : decode code 296 = .ok (.goto 1078, 3) := dg_law_96.2.2.2.2.2.2.1
theorem d_law_299 : decode code 299 = .ok (.aload_n 1, 1) := dg_law_96.2.2.2.2.2.2.2.1
theorem d_law_300 : decode code 300 = .ok (.aload_n 0, 1) := dg_law_96.2.2.2.2.2.2.2.2.1
theorem d_law_301 : decode code 301 = .ok (.iload_n 3, 1) := dg_law_96.2.2.2.2.2.2.2.2.2.1
theorem d_law_302 : decode code 302 = .ok (.iconst 1, 1) := dg_law_96.2.2.2.2.2.2.2.2.2.2.1
theorem d_law_303 : decode code 303 = .ok (.iadd, 1) := dg_law_96.2.2.2.2.2.2.2.2.2.2.2.1
theorem d_law_304 : decode code 304 = .ok (.iaload, 1) := dg_law_96.2.2.2.2.2.2.2.2.2.2.2.2.1
theorem d_law_305 : decode code 305 = .ok (.invokevirtual 28, 3) := dg_law_96.2.2.2.2.2.2.2.2.2.2.2.2.2.1
theorem d_law_308 : decode code 308 = .ok (.pop, 1) := dg_law_96.2.2.2.2.2.2.2.2.2.2.2.2.2.2.1
theorem d_law_309 : decode code 309 = .ok (.aload_n 2, 1) := dg_law_96.2.2.2.2.2.2.2.2.2.2.2.2.2.2.2.1
theorem dg_law_112 : (decode code 310 = .ok (.aload_n 0, 1)) ∧ (decode code 311 = .ok (.iload_n 3, 1)) ∧ (decode code 312 = .ok (.iconst 1, 1)) ∧ (decode code 313 = .ok (.iadd, 1)) ∧ (decode code 314 = .ok (.iaload, 1)) ∧ (decode code 315 = .ok (.invokevirtual 32, 3)) ∧ (decode code 318 = .ok (.pop, 1)) ∧ (decode code 319 = .ok (.goto 1055, 3)) ∧ (decode code 322 = .ok (.aload_n 1, 1)) ∧ (decode code 323 = .ok (.aload_n 0, 1)) ∧ (decode code 324 = .ok (.iload_n 3, 1)) ∧ (decode code 325 = .ok (.iconst 1, 1)) ∧ (decode code 326 = .ok (.iadd, 1)) ∧ (decode code 327 = .ok (.iaload, 1)) ∧ (decode code 328 = .ok (.invokevirtual 33, 3)) ∧ (decode code 331 = .ok (.pop, 1)) ∧ True := fd_of (cc := code) [(310, .aload_n 0, 1), (311, .iload_n 3, 1), (312, .iconst 1, 1), (313, .iadd, 1), (314, .iaload, 1), (315, .invokevirtual 32, 3), (318, .pop, 1), (319, .goto 1055, 3), (322, .aload_n 1, 1), (323, .aload_n 0, 1), (324, .iload_n 3, 1), (325, .iconst 1, 1), (326, .iadd, 1), (327, .iaload, 1), (328, .invokevirtual 33, 3), (331, .pop, 1)] (by decide +kernel)
theorem d_law_310 : decode code 310 = .ok (.aload_n 0, 1) := dg_law_112.1
theorem d_law_311 : decode code 311 = .ok (.iload_n 3, 1) := dg_law_112.2.1
theorem d_law_312 : decode code 312 = .ok (.iconst 1, 1) := dg_law_112.2.2.1
theorem d_law_313 : decode code 313 = .ok (.iadd, 1) := dg_law_112.2.2.2.1
theorem d_law_314 : decode code 314 = .ok (.iaload, 1) := dg_law_112.2.2.2.2.1
theorem d_law_315 : decode code 315 = .ok (.invokevirtual 32, 3) := dg_law_112.2.2.2.2.2.1
theorem d_law_318 : decode code 318 = .ok (.pop, 1) := dg_law_112.2.2.2.2.2.2.1
theorem d_law_319 : decode code 319 = .ok (.goto 1055, 3) := dg_law_112.2.2.2.2.2.2.2.1
theorem d_law_322 : decode code 322 = .ok (.aload_n 1, 1) := dg_law_112.2.2.2.2.2.2.2.2.1
theorem d_law_323 : decode code 323 = .ok (.aload_n 0, 1) := dg_law_112.2.2.2.2.2.2.2.2.2.1
theorem d_law_324 : decode code 324 = .ok (.iload_n 3, 1) := dg_law_112.2.2.2.2.2.2.2.2.2.2.1
theorem d_law_325 : decode code 325 = .ok (.iconst 1, 1) := dg_law_112.2.2.2.2.2.2.2.2.2.2.2.1
theorem d_law_326 : decode code 326 = .ok (.iadd, 1) := dg_law_112.2.2.2.2.2.2.2.2.2.2.2.2.1
theorem d_law_327 : decode code 327 = .ok (.iaload, 1) := dg_law_112.2.2.2.2.2.2.2.2.2.2.2.2.2.1
theorem d_law_328 : decode code 328 = .ok (.invokevirtual 33, 3) := dg_law_112.2.2.2.2.2.2.2.2.2.2.2.2.2.2.1
theorem d_law_331 : decode code 331 = .ok (.pop, 1) := dg_law_112.2.2.2.2.2.2.2.2.2.2.2.2.2.2.2.1
theorem dg_law_128 : (decode code 332 = .ok (.aload_n 2, 1)) ∧ (decode code 333 = .ok (.aload_n 0, 1)) ∧ (decode code 334 = .ok (.iload_n 3, 1)) ∧ (decode code 335 = .ok (.iconst 1, 1)) ∧ (decode code 336 = .ok (.iadd, 1)) ∧ (decode code 337 = .ok (.iaload, 1)) ∧ (decode code 338 = .ok (.invokevirtual 36, 3)) ∧ (decode code 341 = .ok (.pop, 1)) ∧ (decode code 342 = .ok (.goto 1032, 3)) ∧ (decode code 345 = .ok (.aload_n 1, 1)) ∧ (decode code 346 = .ok (.aload_n 0, 1)) ∧ (decode code 347 = .ok (.iload_n 3, 1)) ∧ (decode code 348 = .ok (.iconst 1, 1)) ∧ (decode code 349 = .ok (.iadd, 1)) ∧ (decode code 350 = .ok (.iaload, 1)) ∧ (decode code 351 = .ok (.aload_n 0, 1)) ∧ True := fd_of (cc := code) [(332, .aload_n 2, 1), (333, .aload_n 0, 1), (334, .iload_n 3, 1), (335, .iconst 1, 1), (336, .iadd, 1), (337, .iaload, 1), (338, .invokevirtual 36, 3), (341, .pop, 1), (342, .goto 1032, 3), (345, .aload_n 1, 1), (346, .aload_n 0, 1), (347, .iload_n 3, 1), (348, .iconst 1, 1), (349, .iadd, 1), (350, .iaload, 1), (351, .aload_n 0, 1)] (by decide +kernel)
theorem d_law_332 : decode code 332 = .ok (.aload_n 2, 1) := dg_law_128.1
theorem d_law_333 : decode code 333 = .ok (.aload_n 0, 1) := dg_law_128.2.1
theorem d_law_334 : decode code 334 = .ok (.iload_n 3, 1) := dg_law_128.2.2.1
theorem d_law_335 : decode code 335 = .ok (.iconst 1, 1) := dg_law_128.2.2.2.1
theorem d_law_336 : decode code 336 = .ok (.iadd, 1) := dg_law_128.2.2.2.2.1
theorem d_law_337 : decode code 337 = .ok (.iaload, 1) := dg_law_128.2.2.2.2.2.1
theorem d_law_338 : decode code 338 = .ok (.invokevirtual 36, 3) := dg_law_128.2.2.2.2.2.2.1
theorem d_law_341 : decode code 341 = .ok (.pop, 1) := dg_law_128.2.2.2.2.2.2.2.1
theorem d_law_342 : decode code 342 = .ok (.goto 1032, 3) := dg_law_128.2.2.2.2.2.2.2.2.1
theorem d_law_345 : decode code 345 = .ok (.aload_n 1, 1) := dg_law_128.2.2.2.2.2.2.2.2.2.1
theorem d_law_346 : decode code 346 = .ok (.aload_n 0, 1) := dg_law_128.2.2.2.2.2.2.2.2.2.2.1
theorem d_law_347 : decode code 347 = .ok (.iload_n 3, 1) := dg_law_128.2.2.2.2.2.2.2.2.2.2.2.1
theorem d_law_348 : decode code 348 = .ok (.iconst 1, 1) := dg_law_128.2.2.2.2.2.2.2.2.2.2.2.2.1
theorem d_law_349 : decode code 349 = .ok (.iadd, 1) := dg_law_128.2.2.2.2.2.2.2.2.2.2.2.2.2.1
theorem d_law_350 : decode code 350 = .ok (.iaload, 1) := dg_law_128.2.2.2.2.2.2.2.2.2.2.2.2.2.2.1
theorem d_law_351 : decode code 351 = .ok (.aload_n 0, 1) := dg_law_128.2.2.2.2.2.2.2.2.2.2.2.2.2.2.2.1
theorem dg_law_144 : (decode code 352 = .ok (.iload_n 3, 1)) ∧ (decode code 353 = .ok (.iconst 2, 1)) ∧ (decode code 354 = .ok (.iadd, 1)) ∧ (decode code 355 = .ok (.iaload, 1)) ∧ (decode code 356 = .ok (.aload_n 0, 1)) ∧ (decode code 357 = .ok (.iload_n 3, 1)) ∧ (decode code 358 = .ok (.iconst 3, 1)) ∧ (decode code 359 = .ok (.iadd, 1)) ∧ (decode code 360 = .ok (.iaload, 1)) ∧ (decode code 361 = .ok (.invokevirtual 37, 3)) ∧ (decode code 364 = .ok (.pop, 1)) ∧ (decode code 365 = .ok (.aload_n 2, 1)) ∧ (decode code 366 = .ok (.aload_n 0, 1)) ∧ (decode code 367 = .ok (.iload_n 3, 1)) ∧ (decode code 368 = .ok (.iconst 1, 1)) ∧ (decode code 369 = .ok (.iadd, 1)) ∧ True := fd_of (cc := code) [(352, .iload_n 3, 1), (353, .iconst 2, 1), (354, .iadd, 1), (355, .iaload, 1), (356, .aload_n 0, 1), (357, .iload_n 3, 1), (358, .iconst 3, 1), (359, .iadd, 1), (360, .iaload, 1), (361, .invokevirtual 37, 3), (364, .pop, 1), (365, .aload_n 2, 1), (366, .aload_n 0, 1), (367, .iload_n 3, 1), (368, .iconst 1, 1), (369, .iadd, 1)] (by decide +kernel)
theorem d_law_352 : decode code 352 = .ok (.iload_n 3, 1) := dg_law_144.1
theorem d_law_353 : decode code 353 = .ok (.iconst 2, 1) := dg_law_144.2.1
theorem d_law_354 : decode code 354 = .ok (.iadd, 1) := dg_law_144.2.2.1
theorem d_law_355 : decode code 355 = .ok (.iaload, 1) := dg_law_144.2.2.2.1
theorem d_law_356 : decode code 356 = .ok (.aload_n 0, 1) := dg_law_144.2.2.2.2.1
theorem d_law_357 : decode code 357 = .ok (.iload_n 3, 1) := dg_law_144.2.2.2.2.2.1
theorem d_law_358 : decode code 358 = .ok (.iconst 3, 1) := dg_law_144.2.2.2.2.2.2.1
theorem d_law_359 : decode code 359 = .ok (.iadd, 1) := dg_law_144.2.2.2.2.2.2.2.1
theorem d_law_360 : decode code 360 = .ok (.iaload, 1) := dg_law_144.2.2.2.2.2.2.2.2.1
theorem d_law_361 : decode code 361 = .ok (.invokevirtual 37, 3) := dg_law_144.2.2.2.2.2.2.2.2.2.1
theorem d_law_364 : decode code 364 = .ok (.pop, 1) := dg_law_144.2.2.2.2.2.2.2.2.2.2.1
theorem d_law_365 : decode code 365 = .ok (.aload_n 2, 1) := dg_law_144.2.2.2.2.2.2.2.2.2.2.2.1
theorem d_law_366 : decode code 366 = .ok (.aload_n 0, 1) := dg_law_144.2.2.2.2.2.2.2.2.2.2.2.2.1
theorem d_law_367 : decode code 367 = .ok (.iload_n 3, 1) := dg_law_144.2.2.2.2.2.2.2.2.2.2.2.2.2.1
theorem d_law_368 : decode code 368 = .ok (.iconst 1, 1) := dg_law_144.2.2.2.2.2.2.2.2.2.2.2.2.2.2.1
theorem d_law_369 : decode code 369 = .ok (.iadd, 1) := dg_law_144.2.2.2.2.2.2.2.2.2.2.2.2.2.2.2.1
theorem dg_law_160 : (decode code 370 = .ok (.iaload, 1)) ∧ (decode code 371 = .ok (.aload_n 0, 1)) ∧ (decode code 372 = .ok (.iload_n 3, 1)) ∧ (decode code 373 = .ok (.iconst 2, 1)) ∧ (decode code 374 = .ok (.iadd, 1)) ∧ (decode code 375 = .ok (.iaload, 1)) ∧ (decode code 376 = .ok (.aload_n 0, 1)) ∧ (decode code 377 = .ok (.iload_n 3, 1)) ∧ (decode code 378 = .ok (.iconst 3, 1)) ∧ (decode code 379 = .ok (.iadd, 1)) ∧ (decode code 380 = .ok (.iaload, 1)) ∧ (decode code 381 = .ok (.invokevirtual 41, 3)) ∧ (decode code 384 = .ok (.pop, 1)) ∧ (decode code 385 = .ok (.goto 989, 3)) ∧ (decode code 388 = .ok (.aload_n 1, 1)) ∧ (decode code 389 = .ok (.aload_n 0, 1)) ∧ True := fd_of (cc := code) [(370, .iaload, 1), (371, .aload_n 0, 1), (372, .iload_n 3, 1), (373, .iconst 2, 1), (374, .iadd, 1), (375, .iaload, 1), (376, .aload_n 0, 1), (377, .iload_n 3, 1), (378, .iconst 3, 1), (379, .iadd, 1), (380, .iaload, 1), (381, .invokevirtual 41, 3), (384, .pop, 1), (385, .goto 989, 3), (388, .aload_n 1, 1), (389, .aload_n 0, 1)] (by decide +kernel)
theorem d_law_370 : decode code 370 = .ok (.iaload, 1) := dg_law_160.1
theorem d_law_371 : decode code 371 = .ok (.aload_n 0, 1) := dg_law_160.2.1
theorem d_law_372 : decode code 372 = .ok (.iload_n 3, 1) := dg_law_160.2.2.1
theorem d_law_373 : decode code 373 = .ok (.iconst 2, 1) := dg_law_160.2.2.2.1
theorem d_law_374 : decode code 374 = .ok (.iadd, 1) := dg_law_160.2.2.2.2.1
theorem d_law_375 : decode code 375 = .ok (.iaload, 1) := dg_law_160.2.2.2.2.2.1
theorem d_law_376 : decode code 376 = .ok (.aload_n 0, 1) := dg_law_160.2.2.2.2.2.2.1
theorem d_law_377 : decode code 377 = .ok (.iload_n 3, 1) := dg_law_160.2.2.2.2.2.2.2.1
theorem d_law_378 : decode code 378 = .ok (.iconst 3, 1) := dg_law_160.2.2.2.2.2.2.2.2.1
theorem d_law_379 : decode code 379 = .ok (.iadd, 1) := dg_law_160.2.2.2.2.2.2.2.2.2.1
theorem d_law_380 : decode code 380 = .ok (.iaload, 1) := dg_law_160.2.2.2.2.2.2.2.2.2.2.1
theorem d_law_381 : decode code 381 = .ok (.invokevirtual 41, 3) := dg_law_160.2.2.2.2.2.2.2.2.2.2.2.1
theorem d_law_384 : decode code 384 = .ok (.pop, 1) := dg_law_160.2.2.2.2.2.2.2.2.2.2.2.2.1
theorem d_law_385 : decode code 385 = .ok (.goto 989, 3) := dg_law_160.2.2.2.2.2.2.2.2.2.2.2.2.2.1
theorem d_law_388 : decode code 388 = .ok (.aload_n 1, 1) := dg_law_160.2.2.2.2.2.2.2.2.2.2.2.2.2.2.1
theorem d_law_389 : decode code 389 = .ok (.aload_n 0, 1) := dg_law_160.2.2.2.2.2.2.2.2.2.2.2.2.2.2.2.1
theorem dg_law_176 : (decode code 390 = .ok (.iload_n 3, 1)) ∧ (decode code 391 = .ok (.iconst 1, 1)) ∧ (decode code 392 = .ok (.iadd, 1)) ∧ (decode code 393 = .ok (.iaload, 1)) ∧ (decode code 394 = .ok (.aload_n 0, 1)) ∧ (decode code 395 = .ok (.iload_n 3, 1)) ∧ (decode code 396 = .ok (.iconst 2, 1)) ∧ (decode code 397 = .ok (.iadd, 1)) ∧ (decode code 398 = .ok (.iaload, 1)) ∧ (decode code 399 = .ok (.aload_n 0, 1)) ∧ (decode code 400 = .ok (.iload_n 3, 1)) ∧ (decode code 401 = .ok (.iconst 3, 1)) ∧ (decode code 402 = .ok (.iadd, 1)) ∧ (decode code 403 = .ok (.iaload, 1)) ∧ (decode code 404 = .ok (.ifCond .eq 7, 3)) ∧ (decode code 407 = .ok (.iconst 1, 1)) ∧ True := fd_of (cc := code) [(390, .iload_n 3, 1), (391, .iconst 1, 1), (392, .iadd, 1), (393, .iaload, 1), (394, .aload_n 0, 1), (395, .iload_n 3, 1), (396, .iconst 2, 1), (397, .iadd, 1), (398, .iaload, 1), (399, .aload_n 0, 1), (400, .iload_n 3, 1), (401, .iconst 3, 1), (402, .iadd, 1), (403, .iaload, 1), (404, .ifCond .eq 7, 3), (407, .iconst 1, 1)] (by decide +kernel)
theorem d_law_390 : decode code 390 = .ok (.iload_n 3, 1) := dg_law_176.1
theorem d_law_391 : decode code 391 = .ok (.iconst 1, 1) := dg_law_176.2.1
theorem d_law_392 : decode code 392 = .ok (.iadd, 1) := dg_law_176.2.2.1
theorem d_law_393 : decode code 393 = .ok (.iaload, 1) := dg_law_176.2.2.2.1
theorem d_law_394 : decode code 394 = .ok (.aload_n 0, 1) := dg_law_176.2.2.2.2.1
theorem d_law_395 : decode code 395 = .ok (.iload_n 3, 1) := dg_law_176.2.2.2.2.2.1
theorem d_law_396 : decode code 396 = .ok (.iconst 2, 1) := dg_law_176.2.2.2.2.2.2.1
theorem d_law_397 : decode code 397 = .ok (.iadd, 1) := dg_law_176.2.2.2.2.2.2.2.1
theorem d_law_398 : decode code 398 = .ok (.iaload, 1) := dg_law_176.2.2.2.2.2.2.2.2.1
theorem d_law_399 : decode code 399 = .ok (.aload_n 0, 1) := dg_law_176.2.2.2.2.2.2.2.2.2.1
theorem d_law_400 : decode code 400 = .ok (.iload_n 3, 1) := dg_law_176.2.2.2.2.2.2.2.2.2.2.1
theorem d_law_401 : decode code 401 = .ok (.iconst 3, 1) := dg_law_176.2.2.2.2.2.2.2.2.2.2.2.1
theorem d_law_402 : decode code 402 = .ok (.iadd, 1) := dg_law_176.2.2.2.2.2.2.2.2.2.2.2.2.1
theorem d_law_403 : decode code 403 = .ok (.iaload, 1) := dg_law_176.2.2.2.2.2.2.2.2.2.2.2.2.2.1
theorem d_law_404 : decode code 404 = .ok (.ifCond .eq 7, 3) := dg_law_176.2.2.2.2.2.2.2.2.2.2.2.2.2.2.1
theorem d_law_407 : decode code 407 = .ok (.iconst 1, 1) := dg_law_176.2.2.2.2.2.2.2.2.2.2.2.2.2.2.2.1
theorem dg_law_192 : (decode code 408 = .ok (.goto 4, 3)) ∧ (decode code 411 = .ok (.iconst 0, 1)) ∧ (decode code 412 = .ok (.invokevirtual 42, 3)) ∧ (decode code 415 = .ok (.pop, 1)) ∧ (decode code 416 = .ok (.aload_n 2, 1)) ∧ (decode code 417 = .ok (.aload_n 0, 1)) ∧ (decode code 418 = .ok (.iload_n 3, 1)) ∧ (decode code 419 = .ok (.iconst 1, 1)) ∧ (decode code 420 = .ok (.iadd, 1)) ∧ (decode code 421 = .ok (.iaload, 1)) ∧ (decode code 422 = .ok (.aload_n 0, 1)) ∧ (decode code 423 = .ok (.iload_n 3, 1)) ∧ (decode code 424 = .ok (.iconst 2, 1)) ∧ (decode code 425 = .ok (.iadd, 1)) ∧ (decode code 426 = .ok (.iaload, 1)) ∧ (decode code 427 = .ok (.aload_n 0, 1)) ∧ True := fd_of (cc := code) [(408, .goto 4, 3), (411, .iconst 0, 1), (412, .invokevirtual 42, 3), (415, .pop, 1), (416, .aload_n 2, 1), (417, .aload_n 0, 1), (418, .iload_n 3, 1), (419, .iconst 1, 1), (420, .iadd, 1), (421, .iaload, 1), (422, .aload_n 0, 1), (423, .iload_n 3, 1), (424, .iconst 2, 1), (425, .iadd, 1), (426, .iaload, 1), (427, .aload_n 0, 1)] (by decide +kernel)
theorem d_law_408 : decode code 408 = .ok (.goto 4, 3) := dg_law_192.1
theorem d_law_411 : decode code 411 = .ok (.iconst 0, 1) := dg_law_192.2.1
theorem d_law_412 : decode code 412 = .ok (.invokevirtual 42, 3) := dg_law_192.2.2.1
theorem d_law_415 : decode code 415 = .ok (.pop, 1) := dg_law_192.2.2.2.1
theorem d_law_416 : decode code 416 = .ok (.aload_n 2, 1) := dg_law_192.2.2.2.2.1
theorem d_law_417 : decode code 417 = .ok (.aload_n 0, 1) := dg_law_192.2.2.2.2.2.1
theorem d_law_418 : decode code 418 = .ok (.iload_n 3, 1) := dg_law_192.2.2.2.2.2.2.1
theorem d_law_419 : decode code 419 = .ok (.iconst 1, 1) := dg_law_192.2.2.2.2.2.2.2.1
theorem d_law_420 : decode code 420 = .ok (.iadd, 1) := dg_law_192.2.2.2.2.2.2.2.2.1
theorem d_law_421 : decode code 421 = .ok (.iaload, 1) := dg_law_192.2.2.2.2.2.2.2.2.2.1
theorem d_law_422 : decode code 422 = .ok (.aload_n 0, 1) := dg_law_192.2.2.2.2.2.2.2.2.2.2.1
theorem d_law_423 : decode code 423 = .ok (.iload_n 3, 1) := dg_law_192.2.2.2.2.2.2.2.2.2.2.2.1
theorem d_law_424 : decode code 424 = .ok (.iconst 2, 1) := dg_law_192.2.2.2.2.2.2.2.2.2.2.2.2.1
theorem d_law_425 : decode code 425 = .ok (.iadd, 1) := dg_law_192.2.2.2.2.2.2.2.2.2.2.2.2.2.1
theorem d_law_426 : decode code 426 = .ok (.iaload, 1) := dg_law_192.2.2.2.2.2.2.2.2.2.2.2.2.2.2.1
theorem d_law_427 : decode code 427 = .ok (.aload_n 0, 1) := dg_law_192.2.2.2.2.2.2.2.2.2.2.2.2.2.2.2.1
theorem dg_law_208 : (decode code 428 = .ok (.iload_n 3, 1)) ∧ (decode code 429 = .ok (.iconst 3, 1)) ∧ (decode code 430 = .ok (.iadd, 1)) ∧ (decode code 431 = .ok (.iaload, 1)) ∧ (decode code 432 = .ok (.ifCond .eq 7, 3)) ∧ (decode code 435 = .ok (.iconst 1, 1)) ∧ (decode code 436 = .ok (.goto 4, 3)) ∧ (decode code 439 = .ok (.iconst 0, 1)) ∧ (decode code 440 = .ok (.invokevirtual 46, 3)) ∧ (decode code 443 = .ok (.pop, 1)) ∧ (decode code 444 = .ok (.goto 930, 3)) ∧ (decode code 447 = .ok (.aload_n 1, 1)) ∧ (decode code 448 = .ok (.aload_n 0, 1)) ∧ (decode code 449 = .ok (.iload_n 3, 1)) ∧ (decode code 450 = .ok (.iconst 1, 1)) ∧ (decode code 451 = .ok (.iadd, 1)) ∧ True := fd_of (cc := code) [(428, .iload_n 3, 1), (429, .iconst 3, 1), (430, .iadd, 1), (431, .iaload, 1), (432, .ifCond .eq 7, 3), (435, .iconst 1, 1), (436, .goto 4, 3), (439, .iconst 0, 1), (440, .invokevirtual 46, 3), (443, .pop, 1), (444, .goto 930, 3), (447, .aload_n 1, 1), (448, .aload_n 0, 1), (449, .iload_n 3, 1), (450, .iconst 1, 1), (451, .iadd, 1)] (by decide +kernel)
theorem d_law_428 : decode code 428 = .ok (.iload_n 3, 1) := dg_law_208.1
theorem d_law_429 : decode code 429 = .ok (.iconst 3, 1) := dg_law_208.2.1
theorem d_law_430 : decode code 430 = .ok (.iadd, 1) := dg_law_208.2.2.1
theorem d_law_431 : decode code 431 = .ok (.iaload, 1) := dg_law_208.2.2.2.1
theorem d_law_432 : decode code 432 = .ok (.ifCond .eq 7, 3) := dg_law_208.2.2.2.2.1
theorem d_law_435 : decode code 435 = .ok (.iconst 1, 1) := dg_law_208.2.2.2.2.2.1
theorem d_law_436 : decode code 436 = .ok (.goto 4, 3) := dg_law_208.2.2.2.2.2.2.1
theorem d_law_439 : decode code 439 = .ok (.iconst 0, 1) := dg_law_208.2.2.2.2.2.2.2.1
theorem d_law_440 : decode code 440 = .ok (.invokevirtual 46, 3) := dg_law_208.2.2.2.2.2.2.2.2.1
theorem d_law_443 : decode code 443 = .ok (.pop, 1) := dg_law_208.2.2.2.2.2.2.2.2.2.1
theorem d_law_444 : decode code 444 = .ok (.goto 930, 3) := dg_law_208.2.2.2.2.2.2.2.2.2.2.1
theorem d_law_447 : decode code 447 = .ok (.aload_n 1, 1) := dg_law_208.2.2.2.2.2.2.2.2.2.2.2.1
theorem d_law_448 : decode code 448 = .ok (.aload_n 0, 1) := dg_law_208.2.2.2.2.2.2.2.2.2.2.2.2.1
theorem d_law_449 : decode code 449 = .ok (.iload_n 3, 1) := dg_law_208.2.2.2.2.2.2.2.2.2.2.2.2.2.1
theorem d_law_450 : decode code 450 = .ok (.iconst 1, 1) := dg_law_208.2.2.2.2.2.2.2.2.2.2.2.2.2.2.1
theorem d_law_451 : decode code 451 = .ok (.iadd, 1) := dg_law_208.2.2.2.2.2.2.2.2.2.2.2.2.2.2.2.1
theorem dg_law_224 : (decode code 452 = .ok (.iaload, 1)) ∧ (decode code 453 = .ok (.aload_n 0, 1)) ∧ (decode code 454 = .ok (.iload_n 3, 1)) ∧ (decode code 455 = .ok (.iconst 2, 1)) ∧ (decode code 456 = .ok (.iadd, 1)) ∧ (decode code 457 = .ok (.iaload, 1)) ∧ (decode code 458 = .ok (.invokevirtual 47, 3)) ∧ (decode code 461 = .ok (.pop, 1)) ∧ (decode code 462 = .ok (.aload_n 2, 1)) ∧ (decode code 463 = .ok (.aload_n 0, 1)) ∧ (decode code 464 = .ok (.iload_n 3, 1)) ∧ (decode code 465 = .ok (.iconst 1, 1)) ∧ (decode code 466 = .ok (.iadd, 1)) ∧ (decode code 467 = .ok (.iaload, 1)) ∧ (decode code 468 = .ok (.aload_n 0, 1)) ∧ (decode code 469 = .ok (.iload_n 3, 1)) ∧ True := fd_of (cc := code) [(452, .iaload, 1), (453, .aload_n 0, 1), (454, .iload_n 3, 1), (455, .iconst 2, 1), (456, .iadd, 1), (457, .iaload, 1), (458, .invokevirtual 47, 3), (461, .pop, 1), (462, .aload_n 2, 1), (463, .aload_n 0, 1), (464, .iload_n 3, 1), (465, .iconst 1, 1), (466, .iadd, 1), (467, .iaload, 1), (468, .aload_n 0, 1), (469, .iload_n 3, 1)] (by decide +kernel)
theorem d_law_452 : decode code 452 = .ok (.iaload, 1) := dg_law_224.1
theorem d_law_453 : decode code 453 = .ok (.aload_n 0, 1) := dg_law_224.2.1
theorem d_law_454 : decode code 454 = .ok (.iload_n 3, 1) := dg_law_224.2.2.1
theorem d_law_455 : decode code 455 = .ok (.iconst 2, 1) := dg_law_224.2.2.2.1
theorem d_law_456 : decode code 456 = .ok (.iadd, 1) := dg_law_224.2.2.2.2.1
theorem d_law_457 : decode code 457 = .ok (.iaload, 1) := dg_law_224.2.2.2.2.2.1
theorem d_law_458 : decode code 458 = .ok (.invokevirtual 47, 3) := dg_law_224.2.2.2.2.2.2.1
theorem d_law_461 : decode code 461 = .ok (.pop, 1) := dg_law_224.2.2.2.2.2.2.2.1
theorem d_law_462 : decode code 462 = .ok (.aload_n 2, 1) := dg_law_224.2.2.2.2.2.2.2.2.1
theorem d_law_463 : decode code 463 = .ok (.aload_n 0, 1) := dg_law_224.2.2.2.2.2.2.2.2.2.1
theorem d_law_464 : decode code 464 = .ok (.iload_n 3, 1) := dg_law_224.2.2.2.2.2.2.2.2.2.2.1
theorem d_law_465 : decode code 465 = .ok (.iconst 1, 1) := dg_law_224.2.2.2.2.2.2.2.2.2.2.2.1
theorem d_law_466 : decode code 466 = .ok (.iadd, 1) := dg_law_224.2.2.2.2.2.2.2.2.2.2.2.2.1
theorem d_law_467 : decode code 467 = .ok (.iaload, 1) := dg_law_224.2.2.2.2.2.2.2.2.2.2.2.2.2.1
theorem d_law_468 : decode code 468 = .ok (.aload_n 0, 1) := dg_law_224.2.2.2.2.2.2.2.2.2.2.2.2.2.2.1
theorem d_law_469 : decode code 469 = .ok (.iload_n 3, 1) := dg_law_224.2.2.2.2.2.2.2.2.2.2.2.2.2.2.2.1
theorem dg_law_240 : (decode code 470 = .ok (.iconst 2, 1)) ∧ (decode code 471 = .ok (.iadd, 1)) ∧ (decode code 472 = .ok (.iaload, 1)) ∧ (decode code 473 = .ok (.invokevirtual 51, 3)) ∧ (decode code 476 = .ok (.pop, 1)) ∧ (decode code 477 = .ok (.goto 897, 3)) ∧ (decode code 480 = .ok (.aload_n 1, 1)) ∧ (decode code 481 = .ok (.aload_n 0, 1)) ∧ (decode code 482 = .ok (.iload_n 3, 1)) ∧ (decode code 483 = .ok (.iconst 1, 1)) ∧ (decode code 484 = .ok (.iadd, 1)) ∧ (decode code 485 = .ok (.iaload, 1)) ∧ (decode code 486 = .ok (.invokevirtual 52, 3)) ∧ (decode code 489 = .ok (.pop, 1)) ∧ (decode code 490 = .ok (.aload_n 2, 1)) ∧ (decode code 491 = .ok (.aload_n 0, 1)) ∧ True := fd_of (cc := code) [(470, .iconst 2, 1), (471, .iadd, 1), (472, .iaload, 1), (473, .invokevirtual 51, 3), (476, .pop, 1), (477, .goto 897, 3), (480, .aload_n 1, 1), (481, .aload_n 0, 1), (482, .iload_n 3, 1), (483, .iconst 1, 1), (484, .iadd, 1), (485, .iaload, 1), (486, .invokevirtual 52, 3), (489, .pop, 1), (490, .aload_n 2, 1), (491, .aload_n 0, 1)] (by decide +kernel)
theorem d_law_470 : decode code 470 = .ok (.iconst 2, 1) := dg_law_240.1
theorem d_law_471 : decode code 471 = .ok (.iadd, 1) := dg_law_240.2.1
theorem d_law_472 : decode code 472 = .ok (.iaload, 1) := dg_law_240.2.2.1
theorem d_law_473 : decode code 473 = .ok (.invokevirtual 51, 3) := dg_law_240.2.2.2.1
theorem d_law_476 : decode code 476 = .ok (.pop, 1) := dg_law_240.2.2.2.2.1
theorem d_law_477 : decode code 477 = .ok (.goto 897, 3) := dg_law_240.2.2.2.2.2.1
theorem d_law_480 : decode code 480 = .ok (.aload_n 1, 1) := dg_law_240.2.2.2.2.2.2.1
theorem d_law_481 : decode code 481 = .ok (.aload_n 0, 1) := dg_law_240.2.2.2.2.2.2.2.1
theorem d_law_482 : decode code 482 = .ok (.iload_n 3, 1) := dg_law_240.2.2.2.2.2.2.2.2.1
theorem d_law_483 : decode code 483 = .ok (.iconst 1, 1) := dg_law_240.2.2.2.2.2.2.2.2.2.1
theorem d_law_484 : decode code 484 = .ok (.iadd, 1) := dg_law_240.2.2.2.2.2.2.2.2.2.2.1
theorem d_law_485 : decode code 485 = .ok (.iaload, 1) := dg_law_240.2.2.2.2.2.2.2.2.2.2.2.1
theorem d_law_486 : decode code 486 = .ok (.invokevirtual 52, 3) := dg_law_240.2.2.2.2.2.2.2.2.2.2.2.2.1
theorem d_law_489 : decode code 489 = .ok (.pop, 1) := dg_law_240.2.2.2.2.2.2.2.2.2.2.2.2.2.1
theorem d_law_490 : decode code 490 = .ok (.aload_n 2, 1) := dg_law_240.2.2.2.2.2.2.2.2.2.2.2.2.2.2.1
theorem d_law_491 : decode code 491 = .ok (.aload_n 0, 1) := dg_law_240.2.2.2.2.2.2.2.2.2.2.2.2.2.2.2.1
theorem dg_law_256 : (decode code 492 = .ok (.iload_n 3, 1)) ∧ (decode code 493 = .ok (.iconst 1, 1)) ∧ (decode code 494 = .ok (.iadd, 1)) ∧ (decode code 495 = .ok (.iaload, 1)) ∧ (decode code 496 = .ok (.invokevirtual 55, 3)) ∧ (decode code 499 = .ok (.pop, 1)) ∧ (decode code 500 = .ok (.goto 874, 3)) ∧ (decode code 503 = .ok (.aload_n 1, 1)) ∧ (decode code 504 = .ok (.aload_n 0, 1)) ∧ (decode code 505 = .ok (.iload_n 3, 1)) ∧ (decode code 506 = .ok (.iconst 1, 1)) ∧ (decode code 507 = .ok (.iadd, 1)) ∧ (decode code 508 = .ok (.iaload, 1)) ∧ (decode code 509 = .ok (.aload_n 0, 1)) ∧ (decode code 510 = .ok (.iload_n 3, 1)) ∧ (decode code 511 = .ok (.iconst 2, 1)) ∧ True := fd_of (cc := code) [(492, .iload_n 3, 1), (493, .iconst 1, 1), (494, .iadd, 1), (495, .iaload, 1), (496, .invokevirtual 55, 3), (499, .pop, 1), (500, .goto 874, 3), (503, .aload_n 1, 1), (504, .aload_n 0, 1), (505, .iload_n 3, 1), (506, .iconst 1, 1), (507, .iadd, 1), (508, .iaload, 1), (509, .aload_n 0, 1), (510, .iload_n 3, 1), (511, .iconst 2, 1)] (by decide +kernel)
theorem d_law_492 : decode code 492 = .ok (.iload_n 3, 1) := dg_law_256.1
theorem d_law_493 : decode code 493 = .ok (.iconst 1, 1) := dg_law_256.2.1
theorem d_law_494 : decode code 494 = .ok (.iadd, 1) := dg_law_256.2.2.1
theorem d_law_495 : decode code 495 = .ok (.iaload, 1) := dg_law_256.2.2.2.1
theorem d_law_496 : decode code 496 = .ok (.invokevirtual 55, 3) := dg_law_256.2.2.2.2.1
theorem d_law_499 : decode code 499 = .ok (.pop, 1) := dg_law_256.2.2.2.2.2.1
theorem d_law_500 : decode code 500 = .ok (.goto 874, 3) := dg_law_256.2.2.2.2.2.2.1
theorem d_law_503 : decode code 503 = .ok (.aload_n 1, 1) := dg_law_256.2.2.2.2.2.2.2.1
theorem d_law_504 : decode code 504 = .ok (.aload_n 0, 1) := dg_law_256.2.2.2.2.2.2.2.2.1
theorem d_law_505 : decode code 505 = .ok (.iload_n 3, 1) := dg_law_256.2.2.2.2.2.2.2.2.2.1
theorem d_law_506 : decode code 506 = .ok (.iconst 1, 1) := dg_law_256.2.2.2.2.2.2.2.2.2.2.1
theorem d_law_507 : decode code 507 = .ok (.iadd, 1) := dg_law_256.2.2.2.2.2.2.2.2.2.2.2.1
theorem d_law_508 : decode code 508 = .ok (.iaload, 1) := dg_law_256.2.2.2.2.2.2.2.2.2.2.2.2.1
theorem d_law_509 : decode code 509 = .ok (.aload_n 0, 1) := dg_law_256.2.2.2.2.2.2.2.2.2.2.2.2.2.1
theorem d_law_510 : decode code 510 = .ok (.iload_n 3, 1) := dg_law_256.2.2.2.2.2.2.2.2.2.2.2.2.2.2.1
theorem d_law_511 : decode code 511 = .ok (.iconst 2, 1) := dg_law_256.2.2.2.2.2.2.2.2.2.2.2.2.2.2.2.1
theorem dg_law_272 : (decode code 512 = .ok (.iadd, 1)) ∧ (decode code 513 = .ok (.iaload, 1)) ∧ (decode code 514 = .ok (.aload_n 0, 1)) ∧ (decode code 515 = .ok (.iload_n 3, 1)) ∧ (decode code 516 = .ok (.iconst 3, 1)) ∧ (decode code 517 = .ok (.iadd, 1)) ∧ (decode code 518 = .ok (.iaload, 1)) ∧ (decode code 519 = .ok (.invokevirtual 56, 3)) ∧ (decode code 522 = .ok (.aload_n 2, 1)) ∧ (decode code 523 = .ok (.aload_n 0, 1)) ∧ (decode code 524 = .ok (.iload_n 3, 1)) ∧ (decode code 525 = .ok (.iconst 1, 1)) ∧ (decode code 526 = .ok (.iadd, 1)) ∧ (decode code 527 = .ok (.iaload, 1)) ∧ (decode code 528 = .ok (.aload_n 0, 1)) ∧ (decode code 529 = .ok (.iload_n 3, 1)) ∧ True := fd_of (cc := code) [(512, .iadd, 1), (513, .iaload, 1), (514, .aload_n 0, 1), (515, .iload_n 3, 1), (516, .iconst 3, 1), (517, .iadd, 1), (518, .iaload, 1), (519, .invokevirtual 56, 3), (522, .aload_n 2, 1), (523, .aload_n 0, 1), (524, .iload_n 3, 1), (525, .iconst 1, 1), (526, .iadd, 1), (527, .iaload, 1), (528, .aload_n 0, 1), (529, .iload_n 3, 1)] (by decide +kernel)
theorem d_law_512 : decode code 512 = .ok (.iadd, 1) := dg_law_272.1
theorem d_law_513 : decode code 513 = .ok (.iaload, 1) := dg_law_272.2.1
theorem d_law_514 : decode code 514 = .ok (.aload_n 0, 1) := dg_law_272.2.2.1
theorem d_law_515 : decode code 515 = .ok (.iload_n 3, 1) := dg_law_272.2.2.2.1
theorem d_law_516 : decode code 516 = .ok (.iconst 3, 1) := dg_law_272.2.2.2.2.1
theorem d_law_517 : decode code 517 = .ok (.iadd, 1) := dg_law_272.2.2.2.2.2.1
theorem d_law_518 : decode code 518 = .ok (.iaload, 1) := dg_law_272.2.2.2.2.2.2.1
theorem d_law_519 : decode code 519 = .ok (.invokevirtual 56, 3) := dg_law_272.2.2.2.2.2.2.2.1
theorem d_law_522 : decode code 522 = .ok (.aload_n 2, 1) := dg_law_272.2.2.2.2.2.2.2.2.1
theorem d_law_523 : decode code 523 = .ok (.aload_n 0, 1) := dg_law_272.2.2.2.2.2.2.2.2.2.1
theorem d_law_524 : decode code 524 = .ok (.iload_n 3, 1) := dg_law_272.2.2.2.2.2.2.2.2.2.2.1
theorem d_law_525 : decode code 525 = .ok (.iconst 1, 1) := dg_law_272.2.2.2.2.2.2.2.2.2.2.2.1
theorem d_law_526 : decode code 526 = .ok (.iadd, 1) := dg_law_272.2.2.2.2.2.2.2.2.2.2.2.2.1
theorem d_law_527 : decode code 527 = .ok (.iaload, 1) := dg_law_272.2.2.2.2.2.2.2.2.2.2.2.2.2.1
theorem d_law_528 : decode code 528 = .ok (.aload_n 0, 1) := dg_law_272.2.2.2.2.2.2.2.2.2.2.2.2.2.2.1
theorem d_law_529 : decode code 529 = .ok (.iload_n 3, 1) := dg_law_272.2.2.2.2.2.2.2.2.2.2.2.2.2.2.2.1
theorem dg_law_288 : (decode code 530 = .ok (.iconst 2, 1)) ∧ (decode code 531 = .ok (.iadd, 1)) ∧ (decode code 532 = .ok (.iaload, 1)) ∧ (decode code 533 = .ok (.aload_n 0, 1)) ∧ (decode code 534 = .ok (.iload_n 3, 1)) ∧ (decode code 535 = .ok (.iconst 3, 1)) ∧ (decode code 536 = .ok (.iadd, 1)) ∧ (decode code 537 = .ok (.iaload, 1)) ∧ (decode code 538 = .ok (.invokevirtual 59, 3)) ∧ (decode code 541 = .ok (.if_icmp .eq 833, 3)) ∧ (decode code 544 = .ok (.iconst 0, 1)) ∧ (decode code 545 = .ok (.ireturn, 1)) ∧ (decode code 546 = .ok (.aload_n 1, 1)) ∧ (decode code 547 = .ok (.aload_n 0, 1)) ∧ (decode code 548 = .ok (.iload_n 3, 1)) ∧ (decode code 549 = .ok (.iconst 1, 1)) ∧ True := fd_of (cc := code) [(530, .iconst 2, 1), (531, .iadd, 1), (532, .iaload, 1), (533, .aload_n 0, 1), (534, .iload_n 3, 1), (535, .iconst 3, 1), (536, .iadd, 1), (537, .iaload, 1), (538, .invokevirtual 59, 3), (541, .if_icmp .eq 833, 3), (544, .iconst 0, 1), (545, .ireturn, 1), (546, .aload_n 1, 1), (547, .aload_n 0, 1), (548, .iload_n 3, 1), (549, .iconst 1, 1)] (by decide +kernel)
theorem d_law_530 : decode code 530 = .ok (.iconst 2, 1) := dg_law_288.1
theorem d_law_531 : decode code 531 = .ok (.iadd, 1) := dg_law_288.2.1
theorem d_law_532 : decode code 532 = .ok (.iaload, 1) := dg_law_288.2.2.1
theorem d_law_533 : decode code 533 = .ok (.aload_n 0, 1) := dg_law_288.2.2.2.1
theorem d_law_534 : decode code 534 = .ok (.iload_n 3, 1) := dg_law_288.2.2.2.2.1
theorem d_law_535 : decode code 535 = .ok (.iconst 3, 1) := dg_law_288.2.2.2.2.2.1
theorem d_law_536 : decode code 536 = .ok (.iadd, 1) := dg_law_288.2.2.2.2.2.2.1
theorem d_law_537 : decode code 537 = .ok (.iaload, 1) := dg_law_288.2.2.2.2.2.2.2.1
theorem d_law_538 : decode code 538 = .ok (.invokevirtual 59, 3) := dg_law_288.2.2.2.2.2.2.2.2.1
theorem d_law_541 : decode code 541 = .ok (.if_icmp .eq 833, 3) := dg_law_288.2.2.2.2.2.2.2.2.2.1
theorem d_law_544 : decode code 544 = .ok (.iconst 0, 1) := dg_law_288.2.2.2.2.2.2.2.2.2.2.1
theorem d_law_545 : decode code 545 = .ok (.ireturn, 1) := dg_law_288.2.2.2.2.2.2.2.2.2.2.2.1
theorem d_law_546 : decode code 546 = .ok (.aload_n 1, 1) := dg_law_288.2.2.2.2.2.2.2.2.2.2.2.2.1
theorem d_law_547 : decode code 547 = .ok (.aload_n 0, 1) := dg_law_288.2.2.2.2.2.2.2.2.2.2.2.2.2.1
theorem d_law_548 : decode code 548 = .ok (.iload_n 3, 1) := dg_law_288.2.2.2.2.2.2.2.2.2.2.2.2.2.2.1
theorem d_law_549 : decode code 549 = .ok (.iconst 1, 1) := dg_law_288.2.2.2.2.2.2.2.2.2.2.2.2.2.2.2.1
theorem dg_law_304 : (decode code 550 = .ok (.iadd, 1)) ∧ (decode code 551 = .ok (.iaload, 1)) ∧ (decode code 552 = .ok (.ifCond .eq 7, 3)) ∧ (decode code 555 = .ok (.iconst 1, 1)) ∧ (decode code 556 = .ok (.goto 4, 3)) ∧ (decode code 559 = .ok (.iconst 0, 1)) ∧ (decode code 560 = .ok (.invokevirtual 60, 3)) ∧ (decode code 563 = .ok (.pop2, 1)) ∧ (decode code 564 = .ok (.aload_n 2, 1)) ∧ (decode code 565 = .ok (.aload_n 0, 1)) ∧ (decode code 566 = .ok (.iload_n 3, 1)) ∧ (decode code 567 = .ok (.iconst 1, 1)) ∧ (decode code 568 = .ok (.iadd, 1)) ∧ (decode code 569 = .ok (.iaload, 1)) ∧ (decode code 570 = .ok (.ifCond .eq 7, 3)) ∧ (decode code 573 = .ok (.iconst 1, 1)) ∧ True := fd_of (cc := code) [(550, .iadd, 1), (551, .iaload, 1), (552, .ifCond .eq 7, 3), (555, .iconst 1, 1), (556, .goto 4, 3), (559, .iconst 0, 1), (560, .invokevirtual 60, 3), (563, .pop2, 1), (564, .aload_n 2, 1), (565, .aload_n 0, 1), (566, .iload_n 3, 1), (567, .iconst 1, 1), (568, .iadd, 1), (569, .iaload, 1), (570, .ifCond .eq 7, 3), (573, .iconst 1, 1)] (by decide +kernel)
theorem d_law_550 : decode code 550 = .ok (.iadd, 1) := dg_law_304.1
theorem d_law_551 : decode code 551 = .ok (.iaload, 1) := dg_law_304.2.1
theorem d_law_552 : decode code 552 = .ok (.ifCond .eq 7, 3) := dg_law_304.2.2.1
theorem d_law_555 : decode code 555 = .ok (.iconst 1, 1) := dg_law_304.2.2.2.1
theorem d_law_556 : decode code 556 = .ok (.goto 4, 3) := dg_law_304.2.2.2.2.1
theorem d_law_559 : decode code 559 = .ok (.iconst 0, 1) := dg_law_304.2.2.2.2.2.1
theorem d_law_560 : decode code 560 = .ok (.invokevirtual 60, 3) := dg_law_304.2.2.2.2.2.2.1
theorem d_law_563 : decode code 563 = .ok (.pop2, 1) := dg_law_304.2.2.2.2.2.2.2.1
theorem d_law_564 : decode code 564 = .ok (.aload_n 2, 1) := dg_law_304.2.2.2.2.2.2.2.2.1
theorem d_law_565 : decode code 565 = .ok (.aload_n 0, 1) := dg_law_304.2.2.2.2.2.2.2.2.2.1
theorem d_law_566 : decode code 566 = .ok (.iload_n 3, 1) := dg_law_304.2.2.2.2.2.2.2.2.2.2.1
theorem d_law_567 : decode code 567 = .ok (.iconst 1, 1) := dg_law_304.2.2.2.2.2.2.2.2.2.2.2.1
theorem d_law_568 : decode code 568 = .ok (.iadd, 1) := dg_law_304.2.2.2.2.2.2.2.2.2.2.2.2.1
theorem d_law_569 : decode code 569 = .ok (.iaload, 1) := dg_law_304.2.2.2.2.2.2.2.2.2.2.2.2.2.1
theorem d_law_570 : decode code 570 = .ok (.ifCond .eq 7, 3) := dg_law_304.2.2.2.2.2.2.2.2.2.2.2.2.2.2.1
theorem d_law_573 : decode code 573 = .ok (.iconst 1, 1) := dg_law_304.2.2.2.2.2.2.2.2.2.2.2.2.2.2.2.1
theorem dg_law_320 : (decode code 574 = .ok (.goto 4, 3)) ∧ (decode code 577 = .ok (.iconst 0, 1)) ∧ (decode code 578 = .ok (.invokevirtual 64, 3)) ∧ (decode code 581 = .ok (.pop2, 1)) ∧ (decode code 582 = .ok (.goto 792, 3)) ∧ (decode code 585 = .ok (.aload_n 1, 1)) ∧ (decode code 586 = .ok (.invokevirtual 65, 3)) ∧ (decode code 589 = .ok (.pop2, 1)) ∧ (decode code 590 = .ok (.aload_n 2, 1)) ∧ (decode code 591 = .ok (.invokevirtual 69, 3)) ∧ (decode code 594 = .ok (.pop2, 1)) ∧ (decode code 595 = .ok (.goto 779, 3)) ∧ (decode code 598 = .ok (.aload_n 1, 1)) ∧ (decode code 599 = .ok (.aload_n 0, 1)) ∧ (decode code 600 = .ok (.iload_n 3, 1)) ∧ (decode code 601 = .ok (.iconst 1, 1)) ∧ True := fd_of (cc := code) [(574, .goto 4, 3), (577, .iconst 0, 1), (578, .invokevirtual 64, 3), (581, .pop2, 1), (582, .goto 792, 3), (585, .aload_n 1, 1), (586, .invokevirtual 65, 3), (589, .pop2, 1), (590, .aload_n 2, 1), (591, .invokevirtual 69, 3), (594, .pop2, 1), (595, .goto 779, 3), (598, .aload_n 1, 1), (599, .aload_n 0, 1), (600, .iload_n 3, 1), (601, .iconst 1, 1)] (by decide +kernel)
theorem d_law_574 : decode code 574 = .ok (.goto 4, 3) := dg_law_320.1
theorem d_law_577 : decode code 577 = .ok (.iconst 0, 1) := dg_law_320.2.1
theorem d_law_578 : decode code 578 = .ok (.invokevirtual 64, 3) := dg_law_320.2.2.1
theorem d_law_581 : decode code 581 = .ok (.pop2, 1) := dg_law_320.2.2.2.1
theorem d_law_582 : decode code 582 = .ok (.goto 792, 3) := dg_law_320.2.2.2.2.1
theorem d_law_585 : decode code 585 = .ok (.aload_n 1, 1) := dg_law_320.2.2.2.2.2.1
theorem d_law_586 : decode code 586 = .ok (.invokevirtual 65, 3) := dg_law_320.2.2.2.2.2.2.1
theorem d_law_589 : decode code 589 = .ok (.pop2, 1) := dg_law_320.2.2.2.2.2.2.2.1
theorem d_law_590 : decode code 590 = .ok (.aload_n 2, 1) := dg_law_320.2.2.2.2.2.2.2.2.1
theorem d_law_591 : decode code 591 = .ok (.invokevirtual 69, 3) := dg_law_320.2.2.2.2.2.2.2.2.2.1
theorem d_law_594 : decode code 594 = .ok (.pop2, 1) := dg_law_320.2.2.2.2.2.2.2.2.2.2.1
theorem d_law_595 : decode code 595 = .ok (.goto 779, 3) := dg_law_320.2.2.2.2.2.2.2.2.2.2.2.1
theorem d_law_598 : decode code 598 = .ok (.aload_n 1, 1) := dg_law_320.2.2.2.2.2.2.2.2.2.2.2.2.1
theorem d_law_599 : decode code 599 = .ok (.aload_n 0, 1) := dg_law_320.2.2.2.2.2.2.2.2.2.2.2.2.2.1
theorem d_law_600 : decode code 600 = .ok (.iload_n 3, 1) := dg_law_320.2.2.2.2.2.2.2.2.2.2.2.2.2.2.1
theorem d_law_601 : decode code 601 = .ok (.iconst 1, 1) := dg_law_320.2.2.2.2.2.2.2.2.2.2.2.2.2.2.2.1
theorem dg_law_336 : (decode code 602 = .ok (.iadd, 1)) ∧ (decode code 603 = .ok (.iaload, 1)) ∧ (decode code 604 = .ok (.ifCond .eq 7, 3)) ∧ (decode code 607 = .ok (.iconst 1, 1)) ∧ (decode code 608 = .ok (.goto 4, 3)) ∧ (decode code 611 = .ok (.iconst 0, 1)) ∧ (decode code 612 = .ok (.invokevirtual 70, 3)) ∧ (decode code 615 = .ok (.pop2, 1)) ∧ (decode code 616 = .ok (.aload_n 2, 1)) ∧ (decode code 617 = .ok (.aload_n 0, 1)) ∧ (decode code 618 = .ok (.iload_n 3, 1)) ∧ (decode code 619 = .ok (.iconst 1, 1)) ∧ (decode code 620 = .ok (.iadd, 1)) ∧ (decode code 621 = .ok (.iaload, 1)) ∧ (decode code 622 = .ok (.ifCond .eq 7, 3)) ∧ (decode code 625 = .ok (.iconst 1, 1)) ∧ True := fd_of (cc := code) [(602, .iadd, 1), (603, .iaload, 1), (604, .ifCond .eq 7, 3), (607, .iconst 1, 1), (608, .goto 4, 3), (611, .iconst 0, 1), (612, .invokevirtual 70, 3), (615, .pop2, 1), (616, .aload_n 2, 1), (617, .aload_n 0, 1), (618, .iload_n 3, 1), (619, .iconst 1, 1), (620, .iadd, 1), (621, .iaload, 1), (622, .ifCond .eq 7, 3), (625, .iconst 1, 1)] (by decide +kernel)
theorem d_law_602 : decode code 602 = .ok (.iadd, 1) := dg_law_336.1
theorem d_law_603 : decode code 603 = .ok (.iaload, 1) := dg_law_336.2.1
theorem d_law_604 : decode code 604 = .ok (.ifCond .eq 7, 3) := dg_law_336.2.2.1
theorem d_law_607 : decode code 607 = .ok (.iconst 1, 1) := dg_law_336.2.2.2.1
theorem d_law_608 : decode code 608 = .ok (.goto 4, 3) := dg_law_336.2.2.2.2.1
theorem d_law_611 : decode code 611 = .ok (.iconst 0, 1) := dg_law_336.2.2.2.2.2.1
theorem d_law_612 : decode code 612 = .ok (.invokevirtual 70, 3) := dg_law_336.2.2.2.2.2.2.1
theorem d_law_615 : decode code 615 = .ok (.pop2, 1) := dg_law_336.2.2.2.2.2.2.2.1
theorem d_law_616 : decode code 616 = .ok (.aload_n 2, 1) := dg_law_336.2.2.2.2.2.2.2.2.1
theorem d_law_617 : decode code 617 = .ok (.aload_n 0, 1) := dg_law_336.2.2.2.2.2.2.2.2.2.1
theorem d_law_618 : decode code 618 = .ok (.iload_n 3, 1) := dg_law_336.2.2.2.2.2.2.2.2.2.2.1
theorem d_law_619 : decode code 619 = .ok (.iconst 1, 1) := dg_law_336.2.2.2.2.2.2.2.2.2.2.2.1
theorem d_law_620 : decode code 620 = .ok (.iadd, 1) := dg_law_336.2.2.2.2.2.2.2.2.2.2.2.2.1
theorem d_law_621 : decode code 621 = .ok (.iaload, 1) := dg_law_336.2.2.2.2.2.2.2.2.2.2.2.2.2.1
theorem d_law_622 : decode code 622 = .ok (.ifCond .eq 7, 3) := dg_law_336.2.2.2.2.2.2.2.2.2.2.2.2.2.2.1
theorem d_law_625 : decode code 625 = .ok (.iconst 1, 1) := dg_law_336.2.2.2.2.2.2.2.2.2.2.2.2.2.2.2.1
theorem dg_law_352 : (decode code 626 = .ok (.goto 4, 3)) ∧ (decode code 629 = .ok (.iconst 0, 1)) ∧ (decode code 630 = .ok (.invokevirtual 73, 3)) ∧ (decode code 633 = .ok (.pop2, 1)) ∧ (decode code 634 = .ok (.goto 740, 3)) ∧ (decode code 637 = .ok (.aload_n 1, 1)) ∧ (decode code 638 = .ok (.aload_n 0, 1)) ∧ (decode code 639 = .ok (.iload_n 3, 1)) ∧ (decode code 640 = .ok (.iconst 1, 1)) ∧ (decode code 641 = .ok (.iadd, 1)) ∧ (decode code 642 = .ok (.iaload, 1)) ∧ (decode code 643 = .ok (.aload_n 0, 1)) ∧ (decode code 644 = .ok (.iload_n 3, 1)) ∧ (decode code 645 = .ok (.iconst 2, 1)) ∧ (decode code 646 = .ok (.iadd, 1)) ∧ (decode code 647 = .ok (.iaload, 1)) ∧ True := fd_of (cc := code) [(626, .goto 4, 3), (629, .iconst 0, 1), (630, .invokevirtual 73, 3), (633, .pop2, 1), (634, .goto 740, 3), (637, .aload_n 1, 1), (638, .aload_n 0, 1), (639, .iload_n 3, 1), (640, .iconst 1, 1), (641, .iadd, 1), (642, .iaload, 1), (643, .aload_n 0, 1), (644, .iload_n 3, 1), (645, .iconst 2, 1), (646, .iadd, 1), (647, .iaload, 1)] (by decide +kernel)
theorem d_law_626 : decode code 626 = .ok (.goto 4, 3) := dg_law_352.1
theorem d_law_629 : decode code 629 = .ok (.iconst 0, 1) := dg_law_352.2.1
theorem d_law_630 : decode code 630 = .ok (.invokevirtual 73, 3) := dg_law_352.2.2.1
theorem d_law_633 : decode code 633 = .ok (.pop2, 1) := dg_law_352.2.2.2.1
theorem d_law_634 : decode code 634 = .ok (.goto 740, 3) := dg_law_352.2.2.2.2.1
theorem d_law_637 : decode code 637 = .ok (.aload_n 1, 1) := dg_law_352.2.2.2.2.2.1
theorem d_law_638 : decode code 638 = .ok (.aload_n 0, 1) := dg_law_352.2.2.2.2.2.2.1
theorem d_law_639 : decode code 639 = .ok (.iload_n 3, 1) := dg_law_352.2.2.2.2.2.2.2.1
theorem d_law_640 : decode code 640 = .ok (.iconst 1, 1) := dg_law_352.2.2.2.2.2.2.2.2.1
theorem d_law_641 : decode code 641 = .ok (.iadd, 1) := dg_law_352.2.2.2.2.2.2.2.2.2.1
theorem d_law_642 : decode code 642 = .ok (.iaload, 1) := dg_law_352.2.2.2.2.2.2.2.2.2.2.1
theorem d_law_643 : decode code 643 = .ok (.aload_n 0, 1) := dg_law_352.2.2.2.2.2.2.2.2.2.2.2.1
theorem d_law_644 : decode code 644 = .ok (.iload_n 3, 1) := dg_law_352.2.2.2.2.2.2.2.2.2.2.2.2.1
theorem d_law_645 : decode code 645 = .ok (.iconst 2, 1) := dg_law_352.2.2.2.2.2.2.2.2.2.2.2.2.2.1
theorem d_law_646 : decode code 646 = .ok (.iadd, 1) := dg_law_352.2.2.2.2.2.2.2.2.2.2.2.2.2.2.1
theorem d_law_647 : decode code 647 = .ok (.iaload, 1) := dg_law_352.2.2.2.2.2.2.2.2.2.2.2.2.2.2.2.1
theorem dg_law_368 : (decode code 648 = .ok (.invokevirtual 74, 3)) ∧ (decode code 651 = .ok (.pop, 1)) ∧ (decode code 652 = .ok (.aload_n 2, 1)) ∧ (decode code 653 = .ok (.aload_n 0, 1)) ∧ (decode code 654 = .ok (.iload_n 3, 1)) ∧ (decode code 655 = .ok (.iconst 1, 1)) ∧ (decode code 656 = .ok (.iadd, 1)) ∧ (decode code 657 = .ok (.iaload, 1)) ∧ (decode code 658 = .ok (.aload_n 0, 1)) ∧ (decode code 659 = .ok (.iload_n 3, 1)) ∧ (decode code 660 = .ok (.iconst 2, 1)) ∧ (decode code 661 = .ok (.iadd, 1)) ∧ (decode code 662 = .ok (.iaload, 1)) ∧ (decode code 663 = .ok (.invokevirtual 77, 3)) ∧ (decode code 666 = .ok (.pop, 1)) ∧ (decode code 667 = .ok (.goto 707, 3)) ∧ True := fd_of (cc := code) [(648, .invokevirtual 74, 3), (651, .pop, 1), (652, .aload_n 2, 1), (653, .aload_n 0, 1), (654, .iload_n 3, 1), (655, .iconst 1, 1), (656, .iadd, 1), (657, .iaload, 1), (658, .aload_n 0, 1), (659, .iload_n 3, 1), (660, .iconst 2, 1), (661, .iadd, 1), (662, .iaload, 1), (663, .invokevirtual 77, 3), (666, .pop, 1), (667, .goto 707, 3)] (by decide +kernel)
theorem d_law_648 : decode code 648 = .ok (.invokevirtual 74, 3) := dg_law_368.1
theorem d_law_651 : decode code 651 = .ok (.pop, 1) := dg_law_368.2.1
theorem d_law_652 : decode code 652 = .ok (.aload_n 2, 1) := dg_law_368.2.2.1
theorem d_law_653 : decode code 653 = .ok (.aload_n 0, 1) := dg_law_368.2.2.2.1
theorem d_law_654 : decode code 654 = .ok (.iload_n 3, 1) := dg_law_368.2.2.2.2.1
theorem d_law_655 : decode code 655 = .ok (.iconst 1, 1) := dg_law_368.2.2.2.2.2.1
theorem d_law_656 : decode code 656 = .ok (.iadd, 1) := dg_law_368.2.2.2.2.2.2.1
theorem d_law_657 : decode code 657 = .ok (.iaload, 1) := dg_law_368.2.2.2.2.2.2.2.1
theorem d_law_658 : decode code 658 = .ok (.aload_n 0, 1) := dg_law_368.2.2.2.2.2.2.2.2.1
theorem d_law_659 : decode code 659 = .ok (.iload_n 3, 1) := dg_law_368.2.2.2.2.2.2.2.2.2.1
theorem d_law_660 : decode code 660 = .ok (.iconst 2, 1) := dg_law_368.2.2.2.2.2.2.2.2.2.2.1
theorem d_law_661 : decode code 661 = .ok (.iadd, 1) := dg_law_368.2.2.2.2.2.2.2.2.2.2.2.1
theorem d_law_662 : decode code 662 = .ok (.iaload, 1) := dg_law_368.2.2.2.2.2.2.2.2.2.2.2.2.1
theorem d_law_663 : decode code 663 = .ok (.invokevirtual 77, 3) := dg_law_368.2.2.2.2.2.2.2.2.2.2.2.2.2.1
theorem d_law_666 : decode code 666 = .ok (.pop, 1) := dg_law_368.2.2.2.2.2.2.2.2.2.2.2.2.2.2.1
theorem d_law_667 : decode code 667 = .ok (.goto 707, 3) := dg_law_368.2.2.2.2.2.2.2.2.2.2.2.2.2.2.2.1
theorem dg_law_384 : (decode code 670 = .ok (.aload_n 1, 1)) ∧ (decode code 671 = .ok (.aload_n 0, 1)) ∧ (decode code 672 = .ok (.iload_n 3, 1)) ∧ (decode code 673 = .ok (.iconst 1, 1)) ∧ (decode code 674 = .ok (.iadd, 1)) ∧ (decode code 675 = .ok (.iaload, 1)) ∧ (decode code 676 = .ok (.aload_n 0, 1)) ∧ (decode code 677 = .ok (.iload_n 3, 1)) ∧ (decode code 678 = .ok (.iconst 2, 1)) ∧ (decode code 679 = .ok (.iadd, 1)) ∧ (decode code 680 = .ok (.iaload, 1)) ∧ (decode code 681 = .ok (.aload_n 0, 1)) ∧ (decode code 682 = .ok (.iload_n 3, 1)) ∧ (decode code 683 = .ok (.iconst 3, 1)) ∧ (decode code 684 = .ok (.iadd, 1)) ∧ (decode code 685 = .ok (.iaload, 1)) ∧ True := fd_of (cc := code) [(670, .aload_n 1, 1), (671, .aload_n 0, 1), (672, .iload_n 3, 1), (673, .iconst 1, 1), (674, .iadd, 1), (675, .iaload, 1), (676, .aload_n 0, 1), (677, .iload_n 3, 1), (678, .iconst 2, 1), (679, .iadd, 1), (680, .iaload, 1), (681, .aload_n 0, 1), (682, .iload_n 3, 1), (683, .iconst 3, 1), (684, .iadd, 1), (685, .iaload, 1)] (by decide +kernel)
theorem d_law_670 : decode code 670 = .ok (.aload_n 1, 1) := dg_law_384.1
theorem d_law_671 : decode code 671 = .ok (.aload_n 0, 1) := dg_law_384.2.1
theorem d_law_672 : decode code 672 = .ok (.iload_n 3, 1) := dg_law_384.2.2.1
theorem d_law_673 : decode code 673 = .ok (.iconst 1, 1) := dg_law_384.2.2.2.1
theorem d_law_674 : decode code 674 = .ok (.iadd, 1) := dg_law_384.2.2.2.2.1
theorem d_law_675 : decode code 675 = .ok (.iaload, 1) := dg_law_384.2.2.2.2.2.1
theorem d_law_676 : decode code 676 = .ok (.aload_n 0, 1) := dg_law_384.2.2.2.2.2.2.1
theorem d_law_677 : decode code 677 = .ok (.iload_n 3, 1) := dg_law_384.2.2.2.2.2.2.2.1
theorem d_law_678 : decode code 678 = .ok (.iconst 2, 1) := dg_law_384.2.2.2.2.2.2.2.2.1
theorem d_law_679 : decode code 679 = .ok (.iadd, 1) := dg_law_384.2.2.2.2.2.2.2.2.2.1
theorem d_law_680 : decode code 680 = .ok (.iaload, 1) := dg_law_384.2.2.2.2.2.2.2.2.2.2.1
theorem d_law_681 : decode code 681 = .ok (.aload_n 0, 1) := dg_law_384.2.2.2.2.2.2.2.2.2.2.2.1
theorem d_law_682 : decode code 682 = .ok (.iload_n 3, 1) := dg_law_384.2.2.2.2.2.2.2.2.2.2.2.2.1
theorem d_law_683 : decode code 683 = .ok (.iconst 3, 1) := dg_law_384.2.2.2.2.2.2.2.2.2.2.2.2.2.1
theorem d_law_684 : decode code 684 = .ok (.iadd, 1) := dg_law_384.2.2.2.2.2.2.2.2.2.2.2.2.2.2.1
theorem d_law_685 : decode code 685 = .ok (.iaload, 1) := dg_law_384.2.2.2.2.2.2.2.2.2.2.2.2.2.2.2.1
theorem dg_law_400 : (decode code 686 = .ok (.invokevirtual 78, 3)) ∧ (decode code 689 = .ok (.pop, 1)) ∧ (decode code 690 = .ok (.aload_n 2, 1)) ∧ (decode code 691 = .ok (.aload_n 0, 1)) ∧ (decode code 692 = .ok (.iload_n 3, 1)) ∧ (decode code 693 = .ok (.iconst 1, 1)) ∧ (decode code 694 = .ok (.iadd, 1)) ∧ (decode code 695 = .ok (.iaload, 1)) ∧ (decode code 696 = .ok (.aload_n 0, 1)) ∧ (decode code 697 = .ok (.iload_n 3, 1)) ∧ (decode code 698 = .ok (.iconst 2, 1)) ∧ (decode code 699 = .ok (.iadd, 1)) ∧ (decode code 700 = .ok (.iaload, 1)) ∧ (decode code 701 = .ok (.aload_n 0, 1)) ∧ (decode code 702 = .ok (.iload_n 3, 1)) ∧ (decode code 703 = .ok (.iconst 3, 1)) ∧ True := fd_of (cc := code) [(686, .invokevirtual 78, 3), (689, .pop, 1), (690, .aload_n 2, 1), (691, .aload_n 0, 1), (692, .iload_n 3, 1), (693, .iconst 1, 1), (694, .iadd, 1), (695, .iaload, 1), (696, .aload_n 0, 1), (697, .iload_n 3, 1), (698, .iconst 2, 1), (699, .iadd, 1), (700, .iaload, 1), (701, .aload_n 0, 1), (702, .iload_n 3, 1), (703, .iconst 3, 1)] (by decide +kernel)
theorem d_law_686 : decode code 686 = .ok (.invokevirtual 78, 3) := dg_law_400.1
theorem d_law_689 : decode code 689 = .ok (.pop, 1) := dg_law_400.2.1
theorem d_law_690 : decode code 690 = .ok (.aload_n 2, 1) := dg_law_400.2.2.1
theorem d_law_691 : decode code 691 = .ok (.aload_n 0, 1) := dg_law_400.2.2.2.1
theorem d_law_692 : decode code 692 = .ok (.iload_n 3, 1) := dg_law_400.2.2.2.2.1
theorem d_law_693 : decode code 693 = .ok (.iconst 1, 1) := dg_law_400.2.2.2.2.2.1
theorem d_law_694 : decode code 694 = .ok (.iadd, 1) := dg_law_400.2.2.2.2.2.2.1
theorem d_law_695 : decode code 695 = .ok (.iaload, 1) := dg_law_400.2.2.2.2.2.2.2.1
theorem d_law_696 : decode code 696 = .ok (.aload_n 0, 1) := dg_law_400.2.2.2.2.2.2.2.2.1
theorem d_law_697 : decode code 697 = .ok (.iload_n 3, 1) := dg_law_400.2.2.2.2.2.2.2.2.2.1
theorem d_law_698 : decode code 698 = .ok (.iconst 2, 1) := dg_law_400.2.2.2.2.2.2.2.2.2.2.1
theorem d_law_699 : decode code 699 = .ok (.iadd, 1) := dg_law_400.2.2.2.2.2.2.2.2.2.2.2.1
theorem d_law_700 : decode code 700 = .ok (.iaload, 1) := dg_law_400.2.2.2.2.2.2.2.2.2.2.2.2.1
theorem d_law_701 : decode code 701 = .ok (.aload_n 0, 1) := dg_law_400.2.2.2.2.2.2.2.2.2.2.2.2.2.1
theorem d_law_702 : decode code 702 = .ok (.iload_n 3, 1) := dg_law_400.2.2.2.2.2.2.2.2.2.2.2.2.2.2.1
theorem d_law_703 : decode code 703 = .ok (.iconst 3, 1) := dg_law_400.2.2.2.2.2.2.2.2.2.2.2.2.2.2.2.1
theorem dg_law_416 : (decode code 704 = .ok (.iadd, 1)) ∧ (decode code 705 = .ok (.iaload, 1)) ∧ (decode code 706 = .ok (.invokevirtual 81, 3)) ∧ (decode code 709 = .ok (.pop, 1)) ∧ (decode code 710 = .ok (.goto 664, 3)) ∧ (decode code 713 = .ok (.aload_n 1, 1)) ∧ (decode code 714 = .ok (.aload_n 0, 1)) ∧ (decode code 715 = .ok (.iload_n 3, 1)) ∧ (decode code 716 = .ok (.iconst 1, 1)) ∧ (decode code 717 = .ok (.iadd, 1)) ∧ (decode code 718 = .ok (.iaload, 1)) ∧ (decode code 719 = .ok (.aload_n 0, 1)) ∧ (decode code 720 = .ok (.iload_n 3, 1)) ∧ (decode code 721 = .ok (.iconst 2, 1)) ∧ (decode code 722 = .ok (.iadd, 1)) ∧ (decode code 723 = .ok (.iaload, 1)) ∧ True := fd_of (cc := code) [(704, .iadd, 1), (705, .iaload, 1), (706, .invokevirtual 81, 3), (709, .pop, 1), (710, .goto 664, 3), (713, .aload_n 1, 1), (714, .aload_n 0, 1), (715, .iload_n 3, 1), (716, .iconst 1, 1), (717, .iadd, 1), (718, .iaload, 1), (719, .aload_n 0, 1), (720, .iload_n 3, 1), (721, .iconst 2, 1), (722, .iadd, 1), (723, .iaload, 1)] (by decide +kernel)
theorem d_law_704 : decode code 704 = .ok (.iadd, 1) := dg_law_416.1
theorem d_law_705 : decode code 705 = .ok (.iaload, 1) := dg_law_416.2.1
theorem d_law_706 : decode code 706 = .ok (.invokevirtual 81, 3) := dg_law_416.2.2.1
theorem d_law_709 : decode code 709 = .ok (.pop, 1) := dg_law_416.2.2.2.1
theorem d_law_710 : decode code 710 = .ok (.goto 664, 3) := dg_law_416.2.2.2.2.1
theorem d_law_713 : decode code 713 = .ok (.aload_n 1, 1) := dg_law_416.2.2.2.2.2.1
theorem d_law_714 : decode code 714 = .ok (.aload_n 0, 1) := dg_law_416.2.2.2.2.2.2.1
theorem d_law_715 : decode code 715 = .ok (.iload_n 3, 1) := dg_law_416.2.2.2.2.2.2.2.1
theorem d_law_716 : decode code 716 = .ok (.iconst 1, 1) := dg_law_416.2.2.2.2.2.2.2.2.1
theorem d_law_717 : decode code 717 = .ok (.iadd, 1) := dg_law_416.2.2.2.2.2.2.2.2.2.1
theorem d_law_718 : decode code 718 = .ok (.iaload, 1) := dg_law_416.2.2.2.2.2.2.2.2.2.2.1
theorem d_law_719 : decode code 719 = .ok (.aload_n 0, 1) := dg_law_416.2.2.2.2.2.2.2.2.2.2.2.1
theorem d_law_720 : decode code 720 = .ok (.iload_n 3, 1) := dg_law_416.2.2.2.2.2.2.2.2.2.2.2.2.1
theorem d_law_721 : decode code 721 = .ok (.iconst 2, 1) := dg_law_416.2.2.2.2.2.2.2.2.2.2.2.2.2.1
theorem d_law_722 : decode code 722 = .ok (.iadd, 1) := dg_law_416.2.2.2.2.2.2.2.2.2.2.2.2.2.2.1
theorem d_law_723 : decode code 723 = .ok (.iaload, 1) := dg_law_416.2.2.2.2.2.2.2.2.2.2.2.2.2.2.2.1
theorem dg_law_432 : (decode code 724 = .ok (.invokevirtual 82, 3)) ∧ (decode code 727 = .ok (.pop, 1)) ∧ (decode code 728 = .ok (.aload_n 2, 1)) ∧ (decode code 729 = .ok (.aload_n 0, 1)) ∧ (decode code 730 = .ok (.iload_n 3, 1)) ∧ (decode code 731 = .ok (.iconst 1, 1)) ∧ (decode code 732 = .ok (.iadd, 1)) ∧ (decode code 733 = .ok (.iaload, 1)) ∧ (decode code 734 = .ok (.aload_n 0, 1)) ∧ (decode code 735 = .ok (.iload_n 3, 1)) ∧ (decode code 736 = .ok (.iconst 2, 1)) ∧ (decode code 737 = .ok (.iadd, 1)) ∧ (decode code 738 = .ok (.iaload, 1)) ∧ (decode code 739 = .ok (.invokevirtual 85, 3)) ∧ (decode code 742 = .ok (.pop, 1)) ∧ (decode code 743 = .ok (.goto 631, 3)) ∧ True := fd_of (cc := code) [(724, .invokevirtual 82, 3), (727, .pop, 1), (728, .aload_n 2, 1), (729, .aload_n 0, 1), (730, .iload_n 3, 1), (731, .iconst 1, 1), (732, .iadd, 1), (733, .iaload, 1), (734, .aload_n 0, 1), (735, .iload_n 3, 1), (736, .iconst 2, 1), (737, .iadd, 1), (738, .iaload, 1), (739, .invokevirtual 85, 3), (742, .pop, 1), (743, .goto 631, 3)] (by decide +kernel)
theorem d_law_724 : decode code 724 = .ok (.invokevirtual 82, 3) := dg_law_432.1
theorem d_law_727 : decode code 727 = .ok (.pop, 1) := dg_law_432.2.1
theorem d_law_728 : decode code 728 = .ok (.aload_n 2, 1) := dg_law_432.2.2.1
theorem d_law_729 : decode code 729 = .ok (.aload_n 0, 1) := dg_law_432.2.2.2.1
theorem d_law_730 : decode code 730 = .ok (.iload_n 3, 1) := dg_law_432.2.2.2.2.1
theorem d_law_731 : decode code 731 = .ok (.iconst 1, 1) := dg_law_432.2.2.2.2.2.1
theorem d_law_732 : decode code 732 = .ok (.iadd, 1) := dg_law_432.2.2.2.2.2.2.1
theorem d_law_733 : decode code 733 = .ok (.iaload, 1) := dg_law_432.2.2.2.2.2.2.2.1
theorem d_law_734 : decode code 734 = .ok (.aload_n 0, 1) := dg_law_432.2.2.2.2.2.2.2.2.1
theorem d_law_735 : decode code 735 = .ok (.iload_n 3, 1) := dg_law_432.2.2.2.2.2.2.2.2.2.1
theorem d_law_736 : decode code 736 = .ok (.iconst 2, 1) := dg_law_432.2.2.2.2.2.2.2.2.2.2.1
theorem d_law_737 : decode code 737 = .ok (.iadd, 1) := dg_law_432.2.2.2.2.2.2.2.2.2.2.2.1
theorem d_law_738 : decode code 738 = .ok (.iaload, 1) := dg_law_432.2.2.2.2.2.2.2.2.2.2.2.2.1
theorem d_law_739 : decode code 739 = .ok (.invokevirtual 85, 3) := dg_law_432.2.2.2.2.2.2.2.2.2.2.2.2.2.1
theorem d_law_742 : decode code 742 = .ok (.pop, 1) := dg_law_432.2.2.2.2.2.2.2.2.2.2.2.2.2.2.1
theorem d_law_743 : decode code 743 = .ok (.goto 631, 3) := dg_law_432.2.2.2.2.2.2.2.2.2.2.2.2.2.2.2.1
theorem dg_law_448 : (decode code 746 = .ok (.aload_n 1, 1)) ∧ (decode code 747 = .ok (.aload_n 0, 1)) ∧ (decode code 748 = .ok (.iload_n 3, 1)) ∧ (decode code 749 = .ok (.iconst 1, 1)) ∧ (decode code 750 = .ok (.iadd, 1)) ∧ (decode code 751 = .ok (.iaload, 1)) ∧ (decode code 752 = .ok (.invokevirtual 86, 3)) ∧ (decode code 755 = .ok (.pop, 1)) ∧ (decode code 756 = .ok (.aload_n 2, 1)) ∧ (decode code 757 = .ok (.aload_n 0, 1)) ∧ (decode code 758 = .ok (.iload_n 3, 1)) ∧ (decode code 759 = .ok (.iconst 1, 1)) ∧ (decode code 760 = .ok (.iadd, 1)) ∧ (decode code 761 = .ok (.iaload, 1)) ∧ (decode code 762 = .ok (.invokevirtual 89, 3)) ∧ (decode code 765 = .ok (.pop, 1)) ∧ True := fd_of (cc := code) [(746, .aload_n 1, 1), (747, .aload_n 0, 1), (748, .iload_n 3, 1), (749, .iconst 1, 1), (750, .iadd, 1), (751, .iaload, 1), (752, .invokevirtual 86, 3), (755, .pop, 1), (756, .aload_n 2, 1), (757, .aload_n 0, 1), (758, .iload_n 3, 1), (759, .iconst 1, 1), (760, .iadd, 1), (761, .iaload, 1), (762, .invokevirtual 89, 3), (765, .pop, 1)] (by decide +kernel)
theorem d_law_746 : decode code 746 = .ok (.aload_n 1, 1) := dg_law_448.1
theorem d_law_747 : decode code 747 = .ok (.aload_n 0, 1) := dg_law_448.2.1
theorem d_law_748 : decode code 748 = .ok (.iload_n 3, 1) := dg_law_448.2.2.1
theorem d_law_749 : decode code 749 = .ok (.iconst 1, 1) := dg_law_448.2.2.2.1
theorem d_law_750 : decode code 750 = .ok (.iadd, 1) := dg_law_448.2.2.2.2.1
theorem d_law_751 : decode code 751 = .ok (.iaload, 1) := dg_law_448.2.2.2.2.2.1
theorem d_law_752 : decode code 752 = .ok (.invokevirtual 86, 3) := dg_law_448.2.2.2.2.2.2.1
theorem d_law_755 : decode code 755 = .ok (.pop, 1) := dg_law_448.2.2.2.2.2.2.2.1
theorem d_law_756 : decode code 756 = .ok (.aload_n 2, 1) := dg_law_448.2.2.2.2.2.2.2.2.1
theorem d_law_757 : decode code 757 = .ok (.aload_n 0, 1) := dg_law_448.2.2.2.2.2.2.2.2.2.1
theorem d_law_758 : decode code 758 = .ok (.iload_n 3, 1) := dg_law_448.2.2.2.2.2.2.2.2.2.2.1
theorem d_law_759 : decode code 759 = .ok (.iconst 1, 1) := dg_law_448.2.2.2.2.2.2.2.2.2.2.2.1
theorem d_law_760 : decode code 760 = .ok (.iadd, 1) := dg_law_448.2.2.2.2.2.2.2.2.2.2.2.2.1
theorem d_law_761 : decode code 761 = .ok (.iaload, 1) := dg_law_448.2.2.2.2.2.2.2.2.2.2.2.2.2.1
theorem d_law_762 : decode code 762 = .ok (.invokevirtual 89, 3) := dg_law_448.2.2.2.2.2.2.2.2.2.2.2.2.2.2.1
theorem d_law_765 : decode code 765 = .ok (.pop, 1) := dg_law_448.2.2.2.2.2.2.2.2.2.2.2.2.2.2.2.1
theorem dg_law_464 : (decode code 766 = .ok (.goto 608, 3)) ∧ (decode code 769 = .ok (.aload_n 1, 1)) ∧ (decode code 770 = .ok (.aload_n 0, 1)) ∧ (decode code 771 = .ok (.iload_n 3, 1)) ∧ (decode code 772 = .ok (.iconst 1, 1)) ∧ (decode code 773 = .ok (.iadd, 1)) ∧ (decode code 774 = .ok (.iaload, 1)) ∧ (decode code 775 = .ok (.aload_n 0, 1)) ∧ (decode code 776 = .ok (.iload_n 3, 1)) ∧ (decode code 777 = .ok (.iconst 2, 1)) ∧ (decode code 778 = .ok (.iadd, 1)) ∧ (decode code 779 = .ok (.iaload, 1)) ∧ (decode code 780 = .ok (.invokevirtual 90, 3)) ∧ (decode code 783 = .ok (.pop, 1)) ∧ (decode code 784 = .ok (.aload_n 2, 1)) ∧ (decode code 785 = .ok (.aload_n 0, 1)) ∧ True := fd_of (cc := code) [(766, .goto 608, 3), (769, .aload_n 1, 1), (770, .aload_n 0, 1), (771, .iload_n 3, 1), (772, .iconst 1, 1), (773, .iadd, 1), (774, .iaload, 1), (775, .aload_n 0, 1), (776, .iload_n 3, 1), (777, .iconst 2, 1), (778, .iadd, 1), (779, .iaload, 1), (780, .invokevirtual 90, 3), (783, .pop, 1), (784, .aload_n 2, 1), (785, .aload_n 0, 1)] (by decide +kernel)
theorem d_law_766 : decode code 766 = .ok (.goto 608, 3) := dg_law_464.1
theorem d_law_769 : decode code 769 = .ok (.aload_n 1, 1) := dg_law_464.2.1
theorem d_law_770 : decode code 770 = .ok (.aload_n 0, 1) := dg_law_464.2.2.1
theorem d_law_771 : decode code 771 = .ok (.iload_n 3, 1) := dg_law_464.2.2.2.1
theorem d_law_772 : decode code 772 = .ok (.iconst 1, 1) := dg_law_464.2.2.2.2.1
theorem d_law_773 : decode code 773 = .ok (.iadd, 1) := dg_law_464.2.2.2.2.2.1
theorem d_law_774 : decode code 774 = .ok (.iaload, 1) := dg_law_464.2.2.2.2.2.2.1
theorem d_law_775 : decode code 775 = .ok (.aload_n 0, 1) := dg_law_464.2.2.2.2.2.2.2.1
theorem d_law_776 : decode code 776 = .ok (.iload_n 3, 1) := dg_law_464.2.2.2.2.2.2.2.2.1
theorem d_law_777 : decode code 777 = .ok (.iconst 2, 1) := dg_law_464.2.2.2.2.2.2.2.2.2.1
theorem d_law_778 : decode code 778 = .ok (.iadd, 1) := dg_law_464.2.2.2.2.2.2.2.2.2.2.1
theorem d_law_779 : decode code 779 = .ok (.iaload, 1) := dg_law_464.2.2.2.2.2.2.2.2.2.2.2.1
theorem d_law_780 : decode code 780 = .ok (.invokevirtual 90, 3) := dg_law_464.2.2.2.2.2.2.2.2.2.2.2.2.1
theorem d_law_783 : decode code 783 = .ok (.pop, 1) := dg_law_464.2.2.2.2.2.2.2.2.2.2.2.2.2.1
theorem d_law_784 : decode code 784 = .ok (.aload_n 2, 1) := dg_law_464.2.2.2.2.2.2.2.2.2.2.2.2.2.2.1
theorem d_law_785 : decode code 785 = .ok (.aload_n 0, 1) := dg_law_464.2.2.2.2.2.2.2.2.2.2.2.2.2.2.2.1
theorem dg_law_480 : (decode code 786 = .ok (.iload_n 3, 1)) ∧ (decode code 787 = .ok (.iconst 1, 1)) ∧ (decode code 788 = .ok (.iadd, 1)) ∧ (decode code 789 = .ok (.iaload, 1)) ∧ (decode code 790 = .ok (.aload_n 0, 1)) ∧ (decode code 791 = .ok (.iload_n 3, 1)) ∧ (decode code 792 = .ok (.iconst 2, 1)) ∧ (decode code 793 = .ok (.iadd, 1)) ∧ (decode code 794 = .ok (.iaload, 1)) ∧ (decode code 795 = .ok (.invokevirtual 93, 3)) ∧ (decode code 798 = .ok (.pop, 1)) ∧ (decode code 799 = .ok (.goto 575, 3)) ∧ (decode code 802 = .ok (.aload_n 1, 1)) ∧ (decode code 803 = .ok (.aload_n 0, 1)) ∧ (decode code 804 = .ok (.iload_n 3, 1)) ∧ (decode code 805 = .ok (.iconst 1, 1)) ∧ True := fd_of (cc := code) [(786, .iload_n 3, 1), (787, .iconst 1, 1), (788, .iadd, 1), (789, .iaload, 1), (790, .aload_n 0, 1), (791, .iload_n 3, 1), (792, .iconst 2, 1), (793, .iadd, 1), (794, .iaload, 1), (795, .invokevirtual 93, 3), (798, .pop, 1), (799, .goto 575, 3), (802, .aload_n 1, 1), (803, .aload_n 0, 1), (804, .iload_n 3, 1), (805, .iconst 1, 1)] (by decide +kernel)
theorem d_law_786 : decode code 786 = .ok (.iload_n 3, 1) := dg_law_480.1
theorem d_law_787 : decode code 787 = .ok (.iconst 1, 1) := dg_law_480.2.1
theorem d_law_788 : decode code 788 = .ok (.iadd, 1) := dg_law_480.2.2.1
theorem d_law_789 : decode code 789 = .ok (.iaload, 1) := dg_law_480.2.2.2.1
theorem d_law_790 : decode code 790 = .ok (.aload_n 0, 1) := dg_law_480.2.2.2.2.1
theorem d_law_791 : decode code 791 = .ok (.iload_n 3, 1) := dg_law_480.2.2.2.2.2.1
theorem d_law_792 : decode code 792 = .ok (.iconst 2, 1) := dg_law_480.2.2.2.2.2.2.1
theorem d_law_793 : decode code 793 = .ok (.iadd, 1) := dg_law_480.2.2.2.2.2.2.2.1
theorem d_law_794 : decode code 794 = .ok (.iaload, 1) := dg_law_480.2.2.2.2.2.2.2.2.1
theorem d_law_795 : decode code 795 = .ok (.invokevirtual 93, 3) := dg_law_480.2.2.2.2.2.2.2.2.2.1
theorem d_law_798 : decode code 798 = .ok (.pop, 1) := dg_law_480.2.2.2.2.2.2.2.2.2.2.1
theorem d_law_799 : decode code 799 = .ok (.goto 575, 3) := dg_law_480.2.2.2.2.2.2.2.2.2.2.2.1
theorem d_law_802 : decode code 802 = .ok (.aload_n 1, 1) := dg_law_480.2.2.2.2.2.2.2.2.2.2.2.2.1
theorem d_law_803 : decode code 803 = .ok (.aload_n 0, 1) := dg_law_480.2.2.2.2.2.2.2.2.2.2.2.2.2.1
theorem d_law_804 : decode code 804 = .ok (.iload_n 3, 1) := dg_law_480.2.2.2.2.2.2.2.2.2.2.2.2.2.2.1
theorem d_law_805 : decode code 805 = .ok (.iconst 1, 1) := dg_law_480.2.2.2.2.2.2.2.2.2.2.2.2.2.2.2.1
theorem dg_law_496 : (decode code 806 = .ok (.iadd, 1)) ∧ (decode code 807 = .ok (.iaload, 1)) ∧ (decode code 808 = .ok (.invokevirtual 94, 3)) ∧ (decode code 811 = .ok (.pop, 1)) ∧ (decode code 812 = .ok (.aload_n 2, 1)) ∧ (decode code 813 = .ok (.aload_n 0, 1)) ∧ (decode code 814 = .ok (.iload_n 3, 1)) ∧ (decode code 815 = .ok (.iconst 1, 1)) ∧ (decode code 816 = .ok (.iadd, 1)) ∧ (decode code 817 = .ok (.iaload, 1)) ∧ (decode code 818 = .ok (.invokevirtual 97, 3)) ∧ (decode code 821 = .ok (.pop, 1)) ∧ (decode code 822 = .ok (.goto 552, 3)) ∧ (decode code 825 = .ok (.aload_n 1, 1)) ∧ (decode code 826 = .ok (.aload_n 0, 1)) ∧ (decode code 827 = .ok (.iload_n 3, 1)) ∧ True := fd_of (cc := code) [(806, .iadd, 1), (807, .iaload, 1), (808, .invokevirtual 94, 3), (811, .pop, 1), (812, .aload_n 2, 1), (813, .aload_n 0, 1), (814, .iload_n 3, 1), (815, .iconst 1, 1), (816, .iadd, 1), (817, .iaload, 1), (818, .invokevirtual 97, 3), (821, .pop, 1), (822, .goto 552, 3), (825, .aload_n 1, 1), (826, .aload_n 0, 1), (827, .iload_n 3, 1)] (by decide +kernel)
theorem d_law_806 : decode code 806 = .ok (.iadd, 1) := dg_law_496.1
theorem d_law_807 : decode code 807 = .ok (.iaload, 1) := dg_law_496.2.1
theorem d_law_808 : decode code 808 = .ok (.invokevirtual 94, 3) := dg_law_496.2.2.1
theorem d_law_811 : decode code 811 = .ok (.pop, 1) := dg_law_496.2.2.2.1
theorem d_law_812 : decode code 812 = .ok (.aload_n 2, 1) := dg_law_496.2.2.2.2.1
theorem d_law_813 : decode code 813 = .ok (.aload_n 0, 1) := dg_law_496.2.2.2.2.2.1
theorem d_law_814 : decode code 814 = .ok (.iload_n 3, 1) := dg_law_496.2.2.2.2.2.2.1
theorem d_law_815 : decode code 815 = .ok (.iconst 1, 1) := dg_law_496.2.2.2.2.2.2.2.1
theorem d_law_816 : decode code 816 = .ok (.iadd, 1) := dg_law_496.2.2.2.2.2.2.2.2.1
theorem d_law_817 : decode code 817 = .ok (.iaload, 1) := dg_law_496.2.2.2.2.2.2.2.2.2.1
theorem d_law_818 : decode code 818 = .ok (.invokevirtual 97, 3) := dg_law_496.2.2.2.2.2.2.2.2.2.2.1
theorem d_law_821 : decode code 821 = .ok (.pop, 1) := dg_law_496.2.2.2.2.2.2.2.2.2.2.2.1
theorem d_law_822 : decode code 822 = .ok (.goto 552, 3) := dg_law_496.2.2.2.2.2.2.2.2.2.2.2.2.1
theorem d_law_825 : decode code 825 = .ok (.aload_n 1, 1) := dg_law_496.2.2.2.2.2.2.2.2.2.2.2.2.2.1
theorem d_law_826 : decode code 826 = .ok (.aload_n 0, 1) := dg_law_496.2.2.2.2.2.2.2.2.2.2.2.2.2.2.1
theorem d_law_827 : decode code 827 = .ok (.iload_n 3, 1) := dg_law_496.2.2.2.2.2.2.2.2.2.2.2.2.2.2.2.1
theorem dg_law_512 : (decode code 828 = .ok (.iconst 1, 1)) ∧ (decode code 829 = .ok (.iadd, 1)) ∧ (decode code 830 = .ok (.iaload, 1)) ∧ (decode code 831 = .ok (.invokevirtual 98, 3)) ∧ (decode code 834 = .ok (.pop, 1)) ∧ (decode code 835 = .ok (.aload_n 2, 1)) ∧ (decode code 836 = .ok (.aload_n 0, 1)) ∧ (decode code 837 = .ok (.iload_n 3, 1)) ∧ (decode code 838 = .ok (.iconst 1, 1)) ∧ (decode code 839 = .ok (.iadd, 1)) ∧ (decode code 840 = .ok (.iaload, 1)) ∧ (decode code 841 = .ok (.invokevirtual 101, 3)) ∧ (decode code 844 = .ok (.pop, 1)) ∧ (decode code 845 = .ok (.goto 529, 3)) ∧ (decode code 848 = .ok (.aload_n 1, 1)) ∧ (decode code 849 = .ok (.aload_n 0, 1)) ∧ True := fd_of (cc := code) [(828, .iconst 1, 1), (829, .iadd, 1), (830, .iaload, 1), (831, .invokevirtual 98, 3), (834, .pop, 1), (835, .aload_n 2, 1), (836, .aload_n 0, 1), (837, .iload_n 3, 1), (838, .iconst 1, 1), (839, .iadd, 1), (840, .iaload, 1), (841, .invokevirtual 101, 3), (844, .pop, 1), (845, .goto 529, 3), (848, .aload_n 1, 1), (849, .aload_n 0, 1)] (by decide +kernel)
theorem d_law_828 : decode code 828 = .ok (.iconst 1, 1) := dg_law_512.1
theorem d_law_829 : decode code 829 = .ok (.iadd, 1) := dg_law_512.2.1
theorem d_law_830 : decode code 830 = .ok (.iaload, 1) := dg_law_512.2.2.1
theorem d_law_831 : decode code 831 = .ok (.invokevirtual 98, 3) := dg_law_512.2.2.2.1
theorem d_law_834 : decode code 834 = .ok (.pop, 1) := dg_law_512.2.2.2.2.1
theorem d_law_835 : decode code 835 = .ok (.aload_n 2, 1) := dg_law_512.2.2.2.2.2.1
theorem d_law_836 : decode code 836 = .ok (.aload_n 0, 1) := dg_law_512.2.2.2.2.2.2.1
theorem d_law_837 : decode code 837 = .ok (.iload_n 3, 1) := dg_law_512.2.2.2.2.2.2.2.1
theorem d_law_838 : decode code 838 = .ok (.iconst 1, 1) := dg_law_512.2.2.2.2.2.2.2.2.1
theorem d_law_839 : decode code 839 = .ok (.iadd, 1) := dg_law_512.2.2.2.2.2.2.2.2.2.1
theorem d_law_840 : decode code 840 = .ok (.iaload, 1) := dg_law_512.2.2.2.2.2.2.2.2.2.2.1
theorem d_law_841 : decode code 841 = .ok (.invokevirtual 101, 3) := dg_law_512.2.2.2.2.2.2.2.2.2.2.2.1
theorem d_law_844 : decode code 844 = .ok (.pop, 1) := dg_law_512.2.2.2.2.2.2.2.2.2.2.2.2.1
theorem d_law_845 : decode code 845 = .ok (.goto 529, 3) := dg_law_512.2.2.2.2.2.2.2.2.2.2.2.2.2.1
theorem d_law_848 : decode code 848 = .ok (.aload_n 1, 1) := dg_law_512.2.2.2.2.2.2.2.2.2.2.2.2.2.2.1
theorem d_law_849 : decode code 849 = .ok (.aload_n 0, 1) := dg_law_512.2.2.2.2.2.2.2.2.2.2.2.2.2.2.2.1
theorem dg_law_528 : (decode code 850 = .ok (.iload_n 3, 1)) ∧ (decode code 851 = .ok (.iconst 1, 1)) ∧ (decode code 852 = .ok (.iadd, 1)) ∧ (decode code 853 = .ok (.iaload, 1)) ∧ (decode code 854 = .ok (.aload_n 0, 1)) ∧ (decode code 855 = .ok (.iload_n 3, 1)) ∧ (decode code 856 = .ok (.iconst 2, 1)) ∧ (decode code 857 = .ok (.iadd, 1)) ∧ (decode code 858 = .ok (.iaload, 1)) ∧ (decode code 859 = .ok (.invokevirtual 102, 3)) ∧ (decode code 862 = .ok (.pop, 1)) ∧ (decode code 863 = .ok (.aload_n 2, 1)) ∧ (decode code 864 = .ok (.aload_n 0, 1)) ∧ (decode code 865 = .ok (.iload_n 3, 1)) ∧ (decode code 866 = .ok (.iconst 1, 1)) ∧ (decode code 867 = .ok (.iadd, 1)) ∧ True := fd_of (cc := code) [(850, .iload_n 3, 1), (851, .iconst 1, 1), (852, .iadd, 1), (853, .iaload, 1), (854, .aload_n 0, 1), (855, .iload_n 3, 1), (856, .iconst 2, 1), (857, .iadd, 1), (858, .iaload, 1), (859, .invokevirtual 102, 3), (862, .pop, 1), (863, .aload_n 2, 1), (864, .aload_n 0, 1), (865, .iload_n 3, 1), (866, .iconst 1, 1), (867, .iadd, 1)] (by decide +kernel)
theorem d_law_850 : decode code 850 = .ok (.iload_n 3, 1) := dg_law_528.1
theorem d_law_851 : decode code 851 = .ok (.iconst 1, 1) := dg_law_528.2.1
theorem d_law_852 : decode code 852 = .ok (.iadd, 1) := dg_law_528.2.2.1
theorem d_law_853 : decode code 853 = .ok (.iaload, 1) := dg_law_528.2.2.2.1
theorem d_law_854 : decode code 854 = .ok (.aload_n 0, 1) := dg_law_528.2.2.2.2.1
theorem d_law_855 : decode code 855 = .ok (.iload_n 3, 1) := dg_law_528.2.2.2.2.2.1
theorem d_law_856 : decode code 856 = .ok (.iconst 2, 1) := dg_law_528.2.2.2.2.2.2.1
theorem d_law_857 : decode code 857 = .ok (.iadd, 1) := dg_law_528.2.2.2.2.2.2.2.1
theorem d_law_858 : decode code 858 = .ok (.iaload, 1) := dg_law_528.2.2.2.2.2.2.2.2.1
theorem d_law_859 : decode code 859 = .ok (.invokevirtual 102, 3) := dg_law_528.2.2.2.2.2.2.2.2.2.1
theorem d_law_862 : decode code 862 = .ok (.pop, 1) := dg_law_528.2.2.2.2.2.2.2.2.2.2.1
theorem d_law_863 : decode code 863 = .ok (.aload_n 2, 1) := dg_law_528.2.2.2.2.2.2.2.2.2.2.2.1
theorem d_law_864 : decode code 864 = .ok (.aload_n 0, 1) := dg_law_528.2.2.2.2.2.2.2.2.2.2.2.2.1
theorem d_law_865 : decode code 865 = .ok (.iload_n 3, 1) := dg_law_528.2.2.2.2.2.2.2.2.2.2.2.2.2.1
theorem d_law_866 : decode code 866 = .ok (.iconst 1, 1) := dg_law_528.2.2.2.2.2.2.2.2.2.2.2.2.2.2.1
theorem d_law_867 : decode code 867 = .ok (.iadd, 1) := dg_law_528.2.2.2.2.2.2.2.2.2.2.2.2.2.2.2.1
theorem dg_law_544 : (decode code 868 = .ok (.iaload, 1)) ∧ (decode code 869 = .ok (.aload_n 0, 1)) ∧ (decode code 870 = .ok (.iload_n 3, 1)) ∧ (decode code 871 = .ok (.iconst 2, 1)) ∧ (decode code 872 = .ok (.iadd, 1)) ∧ (decode code 873 = .ok (.iaload, 1)) ∧ (decode code 874 = .ok (.invokevirtual 105, 3)) ∧ (decode code 877 = .ok (.pop, 1)) ∧ (decode code 878 = .ok (.goto 496, 3)) ∧ (decode code 881 = .ok (.aload_n 1, 1)) ∧ (decode code 882 = .ok (.aload_n 0, 1)) ∧ (decode code 883 = .ok (.iload_n 3, 1)) ∧ (decode code 884 = .ok (.iconst 1, 1)) ∧ (decode code 885 = .ok (.iadd, 1)) ∧ (decode code 886 = .ok (.iaload, 1)) ∧ (decode code 887 = .ok (.invokevirtual 106, 3)) ∧ True := fd_of (cc := code) [(868, .iaload, 1), (869, .aload_n 0, 1), (870, .iload_n 3, 1), (871, .iconst 2, 1), (872, .iadd, 1), (873, .iaload, 1), (874, .invokevirtual 105, 3), (877, .pop, 1), (878, .goto 496, 3), (881, .aload_n 1, 1), (882, .aload_n 0, 1), (883, .iload_n 3, 1), (884, .iconst 1, 1), (885, .iadd, 1), (886, .iaload, 1), (887, .invokevirtual 106, 3)] (by decide +kernel)
theorem d_law_868 : decode code 868 = .ok (.iaload, 1) := dg_law_544.1
theorem d_law_869 : decode code 869 = .ok (.aload_n 0, 1) := dg_law_544.2.1
theorem d_law_870 : decode code 870 = .ok (.iload_n 3, 1) := dg_law_544.2.2.1
theorem d_law_871 : decode code 871 = .ok (.iconst 2, 1) := dg_law_544.2.2.2.1
theorem d_law_872 : decode code 872 = .ok (.iadd, 1) := dg_law_544.2.2.2.2.1
theorem d_law_873 : decode code 873 = .ok (.iaload, 1) := dg_law_544.2.2.2.2.2.1
theorem d_law_874 : decode code 874 = .ok (.invokevirtual 105, 3) := dg_law_544.2.2.2.2.2.2.1
theorem d_law_877 : decode code 877 = .ok (.pop, 1) := dg_law_544.2.2.2.2.2.2.2.1
theorem d_law_878 : decode code 878 = .ok (.goto 496, 3) := dg_law_544.2.2.2.2.2.2.2.2.1
theorem d_law_881 : decode code 881 = .ok (.aload_n 1, 1) := dg_law_544.2.2.2.2.2.2.2.2.2.1
theorem d_law_882 : decode code 882 = .ok (.aload_n 0, 1) := dg_law_544.2.2.2.2.2.2.2.2.2.2.1
theorem d_law_883 : decode code 883 = .ok (.iload_n 3, 1) := dg_law_544.2.2.2.2.2.2.2.2.2.2.2.1
theorem d_law_884 : decode code 884 = .ok (.iconst 1, 1) := dg_law_544.2.2.2.2.2.2.2.2.2.2.2.2.1
theorem d_law_885 : decode code 885 = .ok (.iadd, 1) := dg_law_544.2.2.2.2.2.2.2.2.2.2.2.2.2.1
theorem d_law_886 : decode code 886 = .ok (.iaload, 1) := dg_law_544.2.2.2.2.2.2.2.2.2.2.2.2.2.2.1
theorem d_law_887 : decode code 887 = .ok (.invokevirtual 106, 3) := dg_law_544.2.2.2.2.2.2.2.2.2.2.2.2.2.2.2.1
theorem dg_law_560 : (decode code 890 = .ok (.pop, 1)) ∧ (decode code 891 = .ok (.aload_n 2, 1)) ∧ (decode code 892 = .ok (.aload_n 0, 1)) ∧ (decode code 893 = .ok (.iload_n 3, 1)) ∧ (decode code 894 = .ok (.iconst 1, 1)) ∧ (decode code 895 = .ok (.iadd, 1)) ∧ (decode code 896 = .ok (.iaload, 1)) ∧ (decode code 897 = .ok (.invokevirtual 109, 3)) ∧ (decode code 900 = .ok (.pop, 1)) ∧ (decode code 901 = .ok (.goto 473, 3)) ∧ (decode code 904 = .ok (.aload_n 1, 1)) ∧ (decode code 905 = .ok (.aload_n 0, 1)) ∧ (decode code 906 = .ok (.iload_n 3, 1)) ∧ (decode code 907 = .ok (.iconst 1, 1)) ∧ (decode code 908 = .ok (.iadd, 1)) ∧ (decode code 909 = .ok (.iaload, 1)) ∧ True := fd_of (cc := code) [(890, .pop, 1), (891, .aload_n 2, 1), (892, .aload_n 0, 1), (893, .iload_n 3, 1), (894, .iconst 1, 1), (895, .iadd, 1), (896, .iaload, 1), (897, .invokevirtual 109, 3), (900, .pop, 1), (901, .goto 473, 3), (904, .aload_n 1, 1), (905, .aload_n 0, 1), (906, .iload_n 3, 1), (907, .iconst 1, 1), (908, .iadd, 1), (909, .iaload, 1)] (by decide +kernel)
theorem d_law_890 : decode code 890 = .ok (.pop, 1) := dg_law_560.1
theorem d_law_891 : decode code 891 = .ok (.aload_n 2, 1) := dg_law_560.2.1
theorem d_law_892 : decode code 892 = .ok (.aload_n 0, 1) := dg_law_560.2.2.1
theorem d_law_893 : decode code 893 = .ok (.iload_n 3, 1) := dg_law_560.2.2.2.1
theorem d_law_894 : decode code 894 = .ok (.iconst 1, 1) := dg_law_560.2.2.2.2.1
theorem d_law_895 : decode code 895 = .ok (.iadd, 1) := dg_law_560.2.2.2.2.2.1
theorem d_law_896 : decode code 896 = .ok (.iaload, 1) := dg_law_560.2.2.2.2.2.2.1
theorem d_law_897 : decode code 897 = .ok (.invokevirtual 109, 3) := dg_law_560.2.2.2.2.2.2.2.1
theorem d_law_900 : decode code 900 = .ok (.pop, 1) := dg_law_560.2.2.2.2.2.2.2.2.1
theorem d_law_901 : decode code 901 = .ok (.goto 473, 3) := dg_law_560.2.2.2.2.2.2.2.2.2.1
theorem d_law_904 : decode code 904 = .ok (.aload_n 1, 1) := dg_law_560.2.2.2.2.2.2.2.2.2.2.1
theorem d_law_905 : decode code 905 = .ok (.aload_n 0, 1) := dg_law_560.2.2.2.2.2.2.2.2.2.2.2.1
theorem d_law_906 : decode code 906 = .ok (.iload_n 3, 1) := dg_law_560.2.2.2.2.2.2.2.2.2.2.2.2.1
theorem d_law_907 : decode code 907 = .ok (.iconst 1, 1) := dg_law_560.2.2.2.2.2.2.2.2.2.2.2.2.2.1
theorem d_law_908 : decode code 908 = .ok (.iadd, 1) := dg_law_560.2.2.2.2.2.2.2.2.2.2.2.2.2.2.1
theorem d_law_909 : decode code 909 = .ok (.iaload, 1) := dg_law_560.2.2.2.2.2.2.2.2.2.2.2.2.2.2.2.1
theorem dg_law_576 : (decode code 910 = .ok (.invokevirtual 110, 3)) ∧ (decode code 913 = .ok (.pop, 1)) ∧ (decode code 914 = .ok (.aload_n 2, 1)) ∧ (decode code 915 = .ok (.aload_n 0, 1)) ∧ (decode code 916 = .ok (.iload_n 3, 1)) ∧ (decode code 917 = .ok (.iconst 1, 1)) ∧ (decode code 918 = .ok (.iadd, 1)) ∧ (decode code 919 = .ok (.iaload, 1)) ∧ (decode code 920 = .ok (.invokevirtual 113, 3)) ∧ (decode code 923 = .ok (.pop, 1)) ∧ (decode code 924 = .ok (.goto 450, 3)) ∧ (decode code 927 = .ok (.aload_n 1, 1)) ∧ (decode code 928 = .ok (.aload_n 0, 1)) ∧ (decode code 929 = .ok (.iload_n 3, 1)) ∧ (decode code 930 = .ok (.iconst 1, 1)) ∧ (decode code 931 = .ok (.iadd, 1)) ∧ True := fd_of (cc := code) [(910, .invokevirtual 110, 3), (913, .pop, 1), (914, .aload_n 2, 1), (915, .aload_n 0, 1), (916, .iload_n 3, 1), (917, .iconst 1, 1), (918, .iadd, 1), (919, .iaload, 1), (920, .invokevirtual 113, 3), (923, .pop, 1), (924, .goto 450, 3), (927, .aload_n 1, 1), (928, .aload_n 0, 1), (929, .iload_n 3, 1), (930, .iconst 1, 1), (931, .iadd, 1)] (by decide +kernel)
theorem d_law_910 : decode code 910 = .ok (.invokevirtual 110, 3) := dg_law_576.1
theorem d_law_913 : decode code 913 = .ok (.pop, 1) := dg_law_576.2.1
theorem d_law_914 : decode code 914 = .ok (.aload_n 2, 1) := dg_law_576.2.2.1
theorem d_law_915 : decode code 915 = .ok (.aload_n 0, 1) := dg_law_576.2.2.2.1
theorem d_law_916 : decode code 916 = .ok (.iload_n 3, 1) := dg_law_576.2.2.2.2.1
theorem d_law_917 : decode code 917 = .ok (.iconst 1, 1) := dg_law_576.2.2.2.2.2.1
theorem d_law_918 : decode code 918 = .ok (.iadd, 1) := dg_law_576.2.2.2.2.2.2.1
theorem d_law_919 : decode code 919 = .ok (.iaload, 1) := dg_law_576.2.2.2.2.2.2.2.1
theorem d_law_920 : decode code 920 = .ok (.invokevirtual 113, 3) := dg_law_576.2.2.2.2.2.2.2.2.1
theorem d_law_923 : decode code 923 = .ok (.pop, 1) := dg_law_576.2.2.2.2.2.2.2.2.2.1
theorem d_law_924 : decode code 924 = .ok (.goto 450, 3) := dg_law_576.2.2.2.2.2.2.2.2.2.2.1
theorem d_law_927 : decode code 927 = .ok (.aload_n 1, 1) := dg_law_576.2.2.2.2.2.2.2.2.2.2.2.1
theorem d_law_928 : decode code 928 = .ok (.aload_n 0, 1) := dg_law_576.2.2.2.2.2.2.2.2.2.2.2.2.1
theorem d_law_929 : decode code 929 = .ok (.iload_n 3, 1) := dg_law_576.2.2.2.2.2.2.2.2.2.2.2.2.2.1
theorem d_law_930 : decode code 930 = .ok (.iconst 1, 1) := dg_law_576.2.2.2.2.2.2.2.2.2.2.2.2.2.2.1
theorem d_law_931 : decode code 931 = .ok (.iadd, 1) := dg_law_576.2.2.2.2.2.2.2.2.2.2.2.2.2.2.2.1
theorem dg_law_592 : (decode code 932 = .ok (.iaload, 1)) ∧ (decode code 933 = .ok (.invokevirtual 114, 3)) ∧ (decode code 936 = .ok (.pop, 1)) ∧ (decode code 937 = .ok (.aload_n 2, 1)) ∧ (decode code 938 = .ok (.aload_n 0, 1)) ∧ (decode code 939 = .ok (.iload_n 3, 1)) ∧ (decode code 940 = .ok (.iconst 1, 1)) ∧ (decode code 941 = .ok (.iadd, 1)) ∧ (decode code 942 = .ok (.iaload, 1)) ∧ (decode code 943 = .ok (.invokevirtual 117, 3)) ∧ (decode code 946 = .ok (.pop, 1)) ∧ (decode code 947 = .ok (.goto 427, 3)) ∧ (decode code 950 = .ok (.aload_n 1, 1)) ∧ (decode code 951 = .ok (.aload_n 0, 1)) ∧ (decode code 952 = .ok (.iload_n 3, 1)) ∧ (decode code 953 = .ok (.iconst 1, 1)) ∧ True := fd_of (cc := code) [(932, .iaload, 1), (933, .invokevirtual 114, 3), (936, .pop, 1), (937, .aload_n 2, 1), (938, .aload_n 0, 1), (939, .iload_n 3, 1), (940, .iconst 1, 1), (941, .iadd, 1), (942, .iaload, 1), (943, .invokevirtual 117, 3), (946, .pop, 1), (947, .goto 427, 3), (950, .aload_n 1, 1), (951, .aload_n 0, 1), (952, .iload_n 3, 1), (953, .iconst 1, 1)] (by decide +kernel)
theorem d_law_932 : decode code 932 = .ok (.iaload, 1) := dg_law_592.1
theorem d_law_933 : decode code 933 = .ok (.invokevirtual 114, 3) := dg_law_592.2.1
theorem d_law_936 : decode code 936 = .ok (.pop, 1) := dg_law_592.2.2.1
theorem d_law_937 : decode code 937 = .ok (.aload_n 2, 1) := dg_law_592.2.2.2.1
theorem d_law_938 : decode code 938 = .ok (.aload_n 0, 1) := dg_law_592.2.2.2.2.1
theorem d_law_939 : decode code 939 = .ok (.iload_n 3, 1) := dg_law_592.2.2.2.2.2.1
theorem d_law_940 : decode code 940 = .ok (.iconst 1, 1) := dg_law_592.2.2.2.2.2.2.1
theorem d_law_941 : decode code 941 = .ok (.iadd, 1) := dg_law_592.2.2.2.2.2.2.2.1
theorem d_law_942 : decode code 942 = .ok (.iaload, 1) := dg_law_592.2.2.2.2.2.2.2.2.1
theorem d_law_943 : decode code 943 = .ok (.invokevirtual 117, 3) := dg_law_592.2.2.2.2.2.2.2.2.2.1
theorem d_law_946 : decode code 946 = .ok (.pop, 1) := dg_law_592.2.2.2.2.2.2.2.2.2.2.1
theorem d_law_947 : decode code 947 = .ok (.goto 427, 3) := dg_law_592.2.2.2.2.2.2.2.2.2.2.2.1
theorem d_law_950 : decode code 950 = .ok (.aload_n 1, 1) := dg_law_592.2.2.2.2.2.2.2.2.2.2.2.2.1
theorem d_law_951 : decode code 951 = .ok (.aload_n 0, 1) := dg_law_592.2.2.2.2.2.2.2.2.2.2.2.2.2.1
theorem d_law_952 : decode code 952 = .ok (.iload_n 3, 1) := dg_law_592.2.2.2.2.2.2.2.2.2.2.2.2.2.2.1
theorem d_law_953 : decode code 953 = .ok (.iconst 1, 1) := dg_law_592.2.2.2.2.2.2.2.2.2.2.2.2.2.2.2.1
theorem dg_law_608 : (decode code 954 = .ok (.iadd, 1)) ∧ (decode code 955 = .ok (.iaload, 1)) ∧ (decode code 956 = .ok (.aload_n 0, 1)) ∧ (decode code 957 = .ok (.iload_n 3, 1)) ∧ (decode code 958 = .ok (.iconst 2, 1)) ∧ (decode code 959 = .ok (.iadd, 1)) ∧ (decode code 960 = .ok (.iaload, 1)) ∧ (decode code 961 = .ok (.aload_n 0, 1)) ∧ (decode code 962 = .ok (.iload_n 3, 1)) ∧ (decode code 963 = .ok (.iconst 3, 1)) ∧ (decode code 964 = .ok (.iadd, 1)) ∧ (decode code 965 = .ok (.iaload, 1)) ∧ (decode code 966 = .ok (.aload_n 0, 1)) ∧ (decode code 967 = .ok (.iload_n 3, 1)) ∧ (decode code 968 = .ok (.iconst 4, 1)) ∧ (decode code 969 = .ok (.iadd, 1)) ∧ True := fd_of (cc := code) [(954, .iadd, 1), (955, .iaload, 1), (956, .aload_n 0, 1), (957, .iload_n 3, 1), (958, .iconst 2, 1), (959, .iadd, 1), (960, .iaload, 1), (961, .aload_n 0, 1), (962, .iload_n 3, 1), (963, .iconst 3, 1), (964, .iadd, 1), (965, .iaload, 1), (966, .aload_n 0, 1), (967, .iload_n 3, 1), (968, .iconst 4, 1), (969, .iadd, 1)] (by decide +kernel)
theorem d_law_954 : decode code 954 = .ok (.iadd, 1) := dg_law_608.1
theorem d_law_955 : decode code 955 = .ok (.iaload, 1) := dg_law_608.2.1
theorem d_law_956 : decode code 956 = .ok (.aload_n 0, 1) := dg_law_608.2.2.1
theorem d_law_957 : decode code 957 = .ok (.iload_n 3, 1) := dg_law_608.2.2.2.1
theorem d_law_958 : decode code 958 = .ok (.iconst 2, 1) := dg_law_608.2.2.2.2.1
theorem d_law_959 : decode code 959 = .ok (.iadd, 1) := dg_law_608.2.2.2.2.2.1
theorem d_law_960 : decode code 960 = .ok (.iaload, 1) := dg_law_608.2.2.2.2.2.2.1
theorem d_law_961 : decode code 961 = .ok (.aload_n 0, 1) := dg_law_608.2.2.2.2.2.2.2.1
theorem d_law_962 : decode code 962 = .ok (.iload_n 3, 1) := dg_law_608.2.2.2.2.2.2.2.2.1
theorem d_law_963 : decode code 963 = .ok (.iconst 3, 1) := dg_law_608.2.2.2.2.2.2.2.2.2.1
theorem d_law_964 : decode code 964 = .ok (.iadd, 1) := dg_law_608.2.2.2.2.2.2.2.2.2.2.1
theorem d_law_965 : decode code 965 = .ok (.iaload, 1) := dg_law_608.2.2.2.2.2.2.2.2.2.2.2.1
theorem d_law_966 : decode code 966 = .ok (.aload_n 0, 1) := dg_law_608.2.2.2.2.2.2.2.2.2.2.2.2.1
theorem d_law_967 : decode code 967 = .ok (.iload_n 3, 1) := dg_law_608.2.2.2.2.2.2.2.2.2.2.2.2.2.1
theorem d_law_968 : decode code 968 = .ok (.iconst 4, 1) := dg_law_608.2.2.2.2.2.2.2.2.2.2.2.2.2.2.1
theorem d_law_969 : decode code 969 = .ok (.iadd, 1) := dg_law_608.2.2.2.2.2.2.2.2.2.2.2.2.2.2.2.1
theorem dg_law_624 : (decode code 970 = .ok (.iaload, 1)) ∧ (decode code 971 = .ok (.ifCond .eq 7, 3)) ∧ (decode code 974 = .ok (.iconst 1, 1)) ∧ (decode code 975 = .ok (.goto 4, 3)) ∧ (decode code 978 = .ok (.iconst 0, 1)) ∧ (decode code 979 = .ok (.invokevirtual 118, 3)) ∧ (decode code 982 = .ok (.pop, 1)) ∧ (decode code 983 = .ok (.aload_n 2, 1)) ∧ (decode code 984 = .ok (.aload_n 0, 1)) ∧ (decode code 985 = .ok (.iload_n 3, 1)) ∧ (decode code 986 = .ok (.iconst 1, 1)) ∧ (decode code 987 = .ok (.iadd, 1)) ∧ (decode code 988 = .ok (.iaload, 1)) ∧ (decode code 989 = .ok (.aload_n 0, 1)) ∧ (decode code 990 = .ok (.iload_n 3, 1)) ∧ (decode code 991 = .ok (.iconst 2, 1)) ∧ True := fd_of (cc := code) [(970, .iaload, 1), (971, .ifCond .eq 7, 3), (974, .iconst 1, 1), (975, .goto 4, 3), (978, .iconst 0, 1), (979, .invokevirtual 118, 3), (982, .pop, 1), (983, .aload_n 2, 1), (984, .aload_n 0, 1), (985, .iload_n 3, 1), (986, .iconst 1, 1), (987, .iadd, 1), (988, .iaload, 1), (989, .aload_n 0, 1), (990, .iload_n 3, 1), (991, .iconst 2, 1)] (by decide +kernel)
theorem d_law_970 : decode code 970 = .ok (.iaload, 1) := dg_law_624.1
theorem d_law_971 : decode code 971 = .ok (.ifCond .eq 7, 3) := dg_law_624.2.1
theorem d_law_974 : decode code 974 = .ok (.iconst 1, 1) := dg_law_624.2.2.1
theorem d_law_975 : decode code 975 = .ok (.goto 4, 3) := dg_law_624.2.2.2.1
theorem d_law_978 : decode code 978 = .ok (.iconst 0, 1) := dg_law_624.2.2.2.2.1
theorem d_law_979 : decode code 979 = .ok (.invokevirtual 118, 3) := dg_law_624.2.2.2.2.2.1
theorem d_law_982 : decode code 982 = .ok (.pop, 1) := dg_law_624.2.2.2.2.2.2.1
theorem d_law_983 : decode code 983 = .ok (.aload_n 2, 1) := dg_law_624.2.2.2.2.2.2.2.1
theorem d_law_984 : decode code 984 = .ok (.aload_n 0, 1) := dg_law_624.2.2.2.2.2.2.2.2.1
theorem d_law_985 : decode code 985 = .ok (.iload_n 3, 1) := dg_law_624.2.2.2.2.2.2.2.2.2.1
theorem d_law_986 : decode code 986 = .ok (.iconst 1, 1) := dg_law_624.2.2.2.2.2.2.2.2.2.2.1
theorem d_law_987 : decode code 987 = .ok (.iadd, 1) := dg_law_624.2.2.2.2.2.2.2.2.2.2.2.1
theorem d_law_988 : decode code 988 = .ok (.iaload, 1) := dg_law_624.2.2.2.2.2.2.2.2.2.2.2.2.1
theorem d_law_989 : decode code 989 = .ok (.aload_n 0, 1) := dg_law_624.2.2.2.2.2.2.2.2.2.2.2.2.2.1
theorem d_law_990 : decode code 990 = .ok (.iload_n 3, 1) := dg_law_624.2.2.2.2.2.2.2.2.2.2.2.2.2.2.1
theorem d_law_991 : decode code 991 = .ok (.iconst 2, 1) := dg_law_624.2.2.2.2.2.2.2.2.2.2.2.2.2.2.2.1
theorem dg_law_640 : (decode code 992 = .ok (.iadd, 1)) ∧ (decode code 993 = .ok (.iaload, 1)) ∧ (decode code 994 = .ok (.aload_n 0, 1)) ∧ (decode code 995 = .ok (.iload_n 3, 1)) ∧ (decode code 996 = .ok (.iconst 3, 1)) ∧ (decode code 997 = .ok (.iadd, 1)) ∧ (decode code 998 = .ok (.iaload, 1)) ∧ (decode code 999 = .ok (.aload_n 0, 1)) ∧ (decode code 1000 = .ok (.iload_n 3, 1)) ∧ (decode code 1001 = .ok (.iconst 4, 1)) ∧ (decode code 1002 = .ok (.iadd, 1)) ∧ (decode code 1003 = .ok (.iaload, 1)) ∧ (decode code 1004 = .ok (.ifCond .eq 7, 3)) ∧ (decode code 1007 = .ok (.iconst 1, 1)) ∧ (decode code 1008 = .ok (.goto 4, 3)) ∧ (decode code 1011 = .ok (.iconst 0, 1)) ∧ True := fd_of (cc := code) [(992, .iadd, 1), (993, .iaload, 1), (994, .aload_n 0, 1), (995, .iload_n 3, 1), (996, .iconst 3, 1), (997, .iadd, 1), (998, .iaload, 1), (999, .aload_n 0, 1), (1000, .iload_n 3, 1), (1001, .iconst 4, 1), (1002, .iadd, 1), (1003, .iaload, 1), (1004, .ifCond .eq 7, 3), (1007, .iconst 1, 1), (1008, .goto 4, 3), (1011, .iconst 0, 1)] (by decide +kernel)
theorem d_law_992 : decode code 992 = .ok (.iadd, 1) := dg_law_640.1
theorem d_law_993 : decode code 993 = .ok (.iaload, 1) := dg_law_640.2.1
theorem d_law_994 : decode code 994 = .ok (.aload_n 0, 1) := dg_law_640.2.2.1
theorem d_law_995 : decode code 995 = .ok (.iload_n 3, 1) := dg_law_640.2.2.2.1
theorem d_law_996 : decode code 996 = .ok (.iconst 3, 1) := dg_law_640.2.2.2.2.1
theorem d_law_997 : decode code 997 = .ok (.iadd, 1) := dg_law_640.2.2.2.2.2.1
theorem d_law_998 : decode code 998 = .ok (.iaload, 1) := dg_law_640.2.2.2.2.2.2.1
theorem d_law_999 : decode code 999 = .ok (.aload_n 0, 1) := dg_law_640.2.2.2.2.2.2.2.1
theorem d_law_1000 : decode code 1000 = .ok (.iload_n 3, 1) := dg_law_640.2.2.2.2.2.2.2.2.1
theorem d_law_1001 : decode code 1001 = .ok (.iconst 4, 1) := dg_law_640.2.2.2.2.2.2.2.2.2.1
theorem d_law_1002 : decode code 1002 = .ok (.iadd, 1) := dg_law_640.2.2.2.2.2.2.2.2.2.2.1
theorem d_law_1003 : decode code 1003 = .ok (.iaload, 1) := dg_law_640.2.2.2.2.2.2.2.2.2.2.2.1
theorem d_law_1004 : decode code 1004 = .ok (.ifCond .eq 7, 3) := dg_law_640.2.2.2.2.2.2.2.2.2.2.2.2.1
theorem d_law_1007 : decode code 1007 = .ok (.iconst 1, 1) := dg_law_640.2.2.2.2.2.2.2.2.2.2.2.2.2.1
theorem d_law_1008 : decode code 1008 = .ok (.goto 4, 3) := dg_law_640.2.2.2.2.2.2.2.2.2.2.2.2.2.2.1
theorem d_law_1011 : decode code 1011 = .ok (.iconst 0, 1) := dg_law_640.2.2.2.2.2.2.2.2.2.2.2.2.2.2.2.1
theorem dg_law_656 : (decode code 1012 = .ok (.invokevirtual 122, 3)) ∧ (decode code 1015 = .ok (.pop, 1)) ∧ (decode code 1016 = .ok (.goto 358, 3)) ∧ (decode code 1019 = .ok (.aload_n 1, 1)) ∧ (decode code 1020 = .ok (.aload_n 0, 1)) ∧ (decode code 1021 = .ok (.iload_n 3, 1)) ∧ (decode code 1022 = .ok (.iconst 1, 1)) ∧ (decode code 1023 = .ok (.iadd, 1)) ∧ (decode code 1024 = .ok (.iaload, 1)) ∧ (decode code 1025 = .ok (.invokevirtual 123, 3)) ∧ (decode code 1028 = .ok (.pop, 1)) ∧ (decode code 1029 = .ok (.aload_n 2, 1)) ∧ (decode code 1030 = .ok (.aload_n 0, 1)) ∧ (decode code 1031 = .ok (.iload_n 3, 1)) ∧ (decode code 1032 = .ok (.iconst 1, 1)) ∧ (decode code 1033 = .ok (.iadd, 1)) ∧ True := fd_of (cc := code) [(1012, .invokevirtual 122, 3), (1015, .pop, 1), (1016, .goto 358, 3), (1019, .aload_n 1, 1), (1020, .aload_n 0, 1), (1021, .iload_n 3, 1), (1022, .iconst 1, 1), (1023, .iadd, 1), (1024, .iaload, 1), (1025, .invokevirtual 123, 3), (1028, .pop, 1), (1029, .aload_n 2, 1), (1030, .aload_n 0, 1), (1031, .iload_n 3, 1), (1032, .iconst 1, 1), (1033, .iadd, 1)] (by decide +kernel)
theorem d_law_1012 : decode code 1012 = .ok (.invokevirtual 122, 3) := dg_law_656.1
theorem d_law_1015 : decode code 1015 = .ok (.pop, 1) := dg_law_656.2.1
theorem d_law_1016 : decode code 1016 = .ok (.goto 358, 3) := dg_law_656.2.2.1
theorem d_law_1019 : decode code 1019 = .ok (.aload_n 1, 1) := dg_law_656.2.2.2.1
theorem d_law_1020 : decode code 1020 = .ok (.aload_n 0, 1) := dg_law_656.2.2.2.2.1
theorem d_law_1021 : decode code 1021 = .ok (.iload_n 3, 1) := dg_law_656.2.2.2.2.2.1
theorem d_law_1022 : decode code 1022 = .ok (.iconst 1, 1) := dg_law_656.2.2.2.2.2.2.1
theorem d_law_1023 : decode code 1023 = .ok (.iadd, 1) := dg_law_656.2.2.2.2.2.2.2.1
theorem d_law_1024 : decode code 1024 = .ok (.iaload, 1) := dg_law_656.2.2.2.2.2.2.2.2.1
theorem d_law_1025 : decode code 1025 = .ok (.invokevirtual 123, 3) := dg_law_656.2.2.2.2.2.2.2.2.2.1
theorem d_law_1028 : decode code 1028 = .ok (.pop, 1) := dg_law_656.2.2.2.2.2.2.2.2.2.2.1
theorem d_law_1029 : decode code 1029 = .ok (.aload_n 2, 1) := dg_law_656.2.2.2.2.2.2.2.2.2.2.2.1
theorem d_law_1030 : decode code 1030 = .ok (.aload_n 0, 1) := dg_law_656.2.2.2.2.2.2.2.2.2.2.2.2.1
theorem d_law_1031 : decode code 1031 = .ok (.iload_n 3, 1) := dg_law_656.2.2.2.2.2.2.2.2.2.2.2.2.2.1
theorem d_law_1032 : decode code 1032 = .ok (.iconst 1, 1) := dg_law_656.2.2.2.2.2.2.2.2.2.2.2.2.2.2.1
theorem d_law_1033 : decode code 1033 = .ok (.iadd, 1) := dg_law_656.2.2.2.2.2.2.2.2.2.2.2.2.2.2.2.1
theorem dg_law_672 : (decode code 1034 = .ok (.iaload, 1)) ∧ (decode code 1035 = .ok (.invokevirtual 126, 3)) ∧ (decode code 1038 = .ok (.pop, 1)) ∧ (decode code 1039 = .ok (.goto 335, 3)) ∧ (decode code 1042 = .ok (.aload_n 1, 1)) ∧ (decode code 1043 = .ok (.aload_n 0, 1)) ∧ (decode code 1044 = .ok (.iload_n 3, 1)) ∧ (decode code 1045 = .ok (.iconst 1, 1)) ∧ (decode code 1046 = .ok (.iadd, 1)) ∧ (decode code 1047 = .ok (.iaload, 1)) ∧ (decode code 1048 = .ok (.aload_n 0, 1)) ∧ (decode code 1049 = .ok (.iload_n 3, 1)) ∧ (decode code 1050 = .ok (.iconst 2, 1)) ∧ (decode code 1051 = .ok (.iadd, 1)) ∧ (decode code 1052 = .ok (.iaload, 1)) ∧ (decode code 1053 = .ok (.invokevirtual 127, 3)) ∧ True := fd_of (cc := code) [(1034, .iaload, 1), (1035, .invokevirtual 126, 3), (1038, .pop, 1), (1039, .goto 335, 3), (1042, .aload_n 1, 1), (1043, .aload_n 0, 1), (1044, .iload_n 3, 1), (1045, .iconst 1, 1), (1046, .iadd, 1), (1047, .iaload, 1), (1048, .aload_n 0, 1), (1049, .iload_n 3, 1), (1050, .iconst 2, 1), (1051, .iadd, 1), (1052, .iaload, 1), (1053, .invokevirtual 127, 3)] (by decide +kernel)
theorem d_law_1034 : decode code 1034 = .ok (.iaload, 1) := dg_law_672.1
theorem d_law_1035 : decode code 1035 = .ok (.invokevirtual 126, 3) := dg_law_672.2.1
theorem d_law_1038 : decode code 1038 = .ok (.pop, 1) := dg_law_672.2.2.1
theorem d_law_1039 : decode code 1039 = .ok (.goto 335, 3) := dg_law_672.2.2.2.1
theorem d_law_1042 : decode code 1042 = .ok (.aload_n 1, 1) := dg_law_672.2.2.2.2.1
theorem d_law_1043 : decode code 1043 = .ok (.aload_n 0, 1) := dg_law_672.2.2.2.2.2.1
theorem d_law_1044 : decode code 1044 = .ok (.iload_n 3, 1) := dg_law_672.2.2.2.2.2.2.1
theorem d_law_1045 : decode code 1045 = .ok (.iconst 1, 1) := dg_law_672.2.2.2.2.2.2.2.1
theorem d_law_1046 : decode code 1046 = .ok (.iadd, 1) := dg_law_672.2.2.2.2.2.2.2.2.1
theorem d_law_1047 : decode code 1047 = .ok (.iaload, 1) := dg_law_672.2.2.2.2.2.2.2.2.2.1
theorem d_law_1048 : decode code 1048 = .ok (.aload_n 0, 1) := dg_law_672.2.2.2.2.2.2.2.2.2.2.1
theorem d_law_1049 : decode code 1049 = .ok (.iload_n 3, 1) := dg_law_672.2.2.2.2.2.2.2.2.2.2.2.1
theorem d_law_1050 : decode code 1050 = .ok (.iconst 2, 1) := dg_law_672.2.2.2.2.2.2.2.2.2.2.2.2.1
theorem d_law_1051 : decode code 1051 = .ok (.iadd, 1) := dg_law_672.2.2.2.2.2.2.2.2.2.2.2.2.2.1
theorem d_law_1052 : decode code 1052 = .ok (.iaload, 1) := dg_law_672.2.2.2.2.2.2.2.2.2.2.2.2.2.2.1
theorem d_law_1053 : decode code 1053 = .ok (.invokevirtual 127, 3) := dg_law_672.2.2.2.2.2.2.2.2.2.2.2.2.2.2.2.1
theorem dg_law_688 : (decode code 1056 = .ok (.pop, 1)) ∧ (decode code 1057 = .ok (.aload_n 2, 1)) ∧ (decode code 1058 = .ok (.aload_n 0, 1)) ∧ (decode code 1059 = .ok (.iload_n 3, 1)) ∧ (decode code 1060 = .ok (.iconst 1, 1)) ∧ (decode code 1061 = .ok (.iadd, 1)) ∧ (decode code 1062 = .ok (.iaload, 1)) ∧ (decode code 1063 = .ok (.aload_n 0, 1)) ∧ (decode code 1064 = .ok (.iload_n 3, 1)) ∧ (decode code 1065 = .ok (.iconst 2, 1)) ∧ (decode code 1066 = .ok (.iadd, 1)) ∧ (decode code 1067 = .ok (.iaload, 1)) ∧ (decode code 1068 = .ok (.invokevirtual 130, 3)) ∧ (decode code 1071 = .ok (.pop, 1)) ∧ (decode code 1072 = .ok (.goto 302, 3)) ∧ (decode code 1075 = .ok (.aload_n 1, 1)) ∧ True := fd_of (cc := code) [(1056, .pop, 1), (1057, .aload_n 2, 1), (1058, .aload_n 0, 1), (1059, .iload_n 3, 1), (1060, .iconst 1, 1), (1061, .iadd, 1), (1062, .iaload, 1), (1063, .aload_n 0, 1), (1064, .iload_n 3, 1), (1065, .iconst 2, 1), (1066, .iadd, 1), (1067, .iaload, 1), (1068, .invokevirtual 130, 3), (1071, .pop, 1), (1072, .goto 302, 3), (1075, .aload_n 1, 1)] (by decide +kernel)
theorem d_law_1056 : decode code 1056 = .ok (.pop, 1) := dg_law_688.1
theorem d_law_1057 : decode code 1057 = .ok (.aload_n 2, 1) := dg_law_688.2.1
theorem d_law_1058 : decode code 1058 = .ok (.aload_n 0, 1) := dg_law_688.2.2.1
theorem d_law_1059 : decode code 1059 = .ok (.iload_n 3, 1) := dg_law_688.2.2.2.1
theorem d_law_1060 : decode code 1060 = .ok (.iconst 1, 1) := dg_law_688.2.2.2.2.1
theorem d_law_1061 : decode code 1061 = .ok (.iadd, 1) := dg_law_688.2.2.2.2.2.1
theorem d_law_1062 : decode code 1062 = .ok (.iaload, 1) := dg_law_688.2.2.2.2.2.2.1
theorem d_law_1063 : decode code 1063 = .ok (.aload_n 0, 1) := dg_law_688.2.2.2.2.2.2.2.1
theorem d_law_1064 : decode code 1064 = .ok (.iload_n 3, 1) := dg_law_688.2.2.2.2.2.2.2.2.1
theorem d_law_1065 : decode code 1065 = .ok (.iconst 2, 1) := dg_law_688.2.2.2.2.2.2.2.2.2.1
theorem d_law_1066 : decode code 1066 = .ok (.iadd, 1) := dg_law_688.2.2.2.2.2.2.2.2.2.2.1
theorem d_law_1067 : decode code 1067 = .ok (.iaload, 1) := dg_law_688.2.2.2.2.2.2.2.2.2.2.2.1
theorem d_law_1068 : decode code 1068 = .ok (.invokevirtual 130, 3) := dg_law_688.2.2.2.2.2.2.2.2.2.2.2.2.1
theorem d_law_1071 : decode code 1071 = .ok (.pop, 1) := dg_law_688.2.2.2.2.2.2.2.2.2.2.2.2.2.1
theorem d_law_1072 : decode code 1072 = .ok (.goto 302, 3) := dg_law_688.2.2.2.2.2.2.2.2.2.2.2.2.2.2.1
theorem d_law_1075 : decode code 1075 = .ok (.aload_n 1, 1) := dg_law_688.2.2.2.2.2.2.2.2.2.2.2.2.2.2.2.1
theorem dg_law_704 : (decode code 1076 = .ok (.invokevirtual 131, 3)) ∧ (decode code 1079 = .ok (.pop, 1)) ∧ (decode code 1080 = .ok (.aload_n 2, 1)) ∧ (decode code 1081 = .ok (.invokevirtual 134, 3)) ∧ (decode code 1084 = .ok (.pop, 1)) ∧ (decode code 1085 = .ok (.goto 289, 3)) ∧ (decode code 1088 = .ok (.aload_n 1, 1)) ∧ (decode code 1089 = .ok (.invokevirtual 135, 3)) ∧ (decode code 1092 = .ok (.pop, 1)) ∧ (decode code 1093 = .ok (.aload_n 2, 1)) ∧ (decode code 1094 = .ok (.invokevirtual 138, 3)) ∧ (decode code 1097 = .ok (.pop, 1)) ∧ (decode code 1098 = .ok (.goto 276, 3)) ∧ (decode code 1101 = .ok (.aload_n 1, 1)) ∧ (decode code 1102 = .ok (.invokevirtual 139, 3)) ∧ (decode code 1105 = .ok (.pop2, 1)) ∧ True := fd_of (cc := code) [(1076, .invokevirtual 131, 3), (1079, .pop, 1), (1080, .aload_n 2, 1), (1081, .invokevirtual 134, 3), (1084, .pop, 1), (1085, .goto 289, 3), (1088, .aload_n 1, 1), (1089, .invokevirtual 135, 3), (1092, .pop, 1), (1093, .aload_n 2, 1), (1094, .invokevirtual 138, 3), (1097, .pop, 1), (1098, .goto 276, 3), (1101, .aload_n 1, 1), (1102, .invokevirtual 139, 3), (1105, .pop2, 1)] (by decide +kernel)
theorem d_law_1076 : decode code 1076 = .ok (.invokevirtual 131, 3) := dg_law_704.1
theorem d_law_1079 : decode code 1079 = .ok (.pop, 1) := dg_law_704.2.1
theorem d_law_1080 : decode code 1080 = .ok (.aload_n 2, 1) := dg_law_704.2.2.1
theorem d_law_1081 : decode code 1081 = .ok (.invokevirtual 134, 3) := dg_law_704.2.2.2.1
theorem d_law_1084 : decode code 1084 = .ok (.pop, 1) := dg_law_704.2.2.2.2.1
theorem d_law_1085 : decode code 1085 = .ok (.goto 289, 3) := dg_law_704.2.2.2.2.2.1
theorem d_law_1088 : decode code 1088 = .ok (.aload_n 1, 1) := dg_law_704.2.2.2.2.2.2.1
theorem d_law_1089 : decode code 1089 = .ok (.invokevirtual 135, 3) := dg_law_704.2.2.2.2.2.2.2.1
theorem d_law_1092 : decode code 1092 = .ok (.pop, 1) := dg_law_704.2.2.2.2.2.2.2.2.1
theorem d_law_1093 : decode code 1093 = .ok (.aload_n 2, 1) := dg_law_704.2.2.2.2.2.2.2.2.2.1
theorem d_law_1094 : decode code 1094 = .ok (.invokevirtual 138, 3) := dg_law_704.2.2.2.2.2.2.2.2.2.2.1
theorem d_law_1097 : decode code 1097 = .ok (.pop, 1) := dg_law_704.2.2.2.2.2.2.2.2.2.2.2.1
theorem d_law_1098 : decode code 1098 = .ok (.goto 276, 3) := dg_law_704.2.2.2.2.2.2.2.2.2.2.2.2.1
theorem d_law_1101 : decode code 1101 = .ok (.aload_n 1, 1) := dg_law_704.2.2.2.2.2.2.2.2.2.2.2.2.2.1
theorem d_law_1102 : decode code 1102 = .ok (.invokevirtual 139, 3) := dg_law_704.2.2.2.2.2.2.2.2.2.2.2.2.2.2.1
theorem d_law_1105 : decode code 1105 = .ok (.pop2, 1) := dg_law_704.2.2.2.2.2.2.2.2.2.2.2.2.2.2.2.1
theorem dg_law_720 : (decode code 1106 = .ok (.aload_n 2, 1)) ∧ (decode code 1107 = .ok (.invokevirtual 142, 3)) ∧ (decode code 1110 = .ok (.pop2, 1)) ∧ (decode code 1111 = .ok (.goto 263, 3)) ∧ (decode code 1114 = .ok (.aload_n 1, 1)) ∧ (decode code 1115 = .ok (.aload_n 0, 1)) ∧ (decode code 1116 = .ok (.iload_n 3, 1)) ∧ (decode code 1117 = .ok (.iconst 1, 1)) ∧ (decode code 1118 = .ok (.iadd, 1)) ∧ (decode code 1119 = .ok (.iaload, 1)) ∧ (decode code 1120 = .ok (.invokevirtual 143, 3)) ∧ (decode code 1123 = .ok (.pop, 1)) ∧ (decode code 1124 = .ok (.aload_n 2, 1)) ∧ (decode code 1125 = .ok (.aload_n 0, 1)) ∧ (decode code 1126 = .ok (.iload_n 3, 1)) ∧ (decode code 1127 = .ok (.iconst 1, 1)) ∧ True := fd_of (cc := code) [(1106, .aload_n 2, 1), (1107, .invokevirtual 142, 3), (1110, .pop2, 1), (1111, .goto 263, 3), (1114, .aload_n 1, 1), (1115, .aload_n 0, 1), (1116, .iload_n 3, 1), (1117, .iconst 1, 1), (1118, .iadd, 1), (1119, .iaload, 1), (1120, .invokevirtual 143, 3), (1123, .pop, 1), (1124, .aload_n 2, 1), (1125, .aload_n 0, 1), (1126, .iload_n 3, 1), (1127, .iconst 1, 1)] (by decide +kernel)
theorem d_law_1106 : decode code 1106 = .ok (.aload_n 2, 1) := dg_law_720.1
theorem d_law_1107 : decode code 1107 = .ok (.invokevirtual 142, 3) := dg_law_720.2.1
theorem d_law_1110 : decode code 1110 = .ok (.pop2, 1) := dg_law_720.2.2.1
theorem d_law_1111 : decode code 1111 = .ok (.goto 263, 3) := dg_law_720.2.2.2.1
theorem d_law_1114 : decode code 1114 = .ok (.aload_n 1, 1) := dg_law_720.2.2.2.2.1
theorem d_law_1115 : decode code 1115 = .ok (.aload_n 0, 1) := dg_law_720.2.2.2.2.2.1
theorem d_law_1116 : decode code 1116 = .ok (.iload_n 3, 1) := dg_law_720.2.2.2.2.2.2.1
theorem d_law_1117 : decode code 1117 = .ok (.iconst 1, 1) := dg_law_720.2.2.2.2.2.2.2.1
theorem d_law_1118 : decode code 1118 = .ok (.iadd, 1) := dg_law_720.2.2.2.2.2.2.2.2.1
theorem d_law_1119 : decode code 1119 = .ok (.iaload, 1) := dg_law_720.2.2.2.2.2.2.2.2.2.1
theorem d_law_1120 : decode code 1120 = .ok (.invokevirtual 143, 3) := dg_law_720.2.2.2.2.2.2.2.2.2.2.1
theorem d_law_1123 : decode code 1123 = .ok (.pop, 1) := dg_law_720.2.2.2.2.2.2.2.2.2.2.2.1
theorem d_law_1124 : decode code 1124 = .ok (.aload_n 2, 1) := dg_law_720.2.2.2.2.2.2.2.2.2.2.2.2.1
theorem d_law_1125 : decode code 1125 = .ok (.aload_n 0, 1) := dg_law_720.2.2.2.2.2.2.2.2.2.2.2.2.2.1
theorem d_law_1126 : decode code 1126 = .ok (.iload_n 3, 1) := dg_law_720.2.2.2.2.2.2.2.2.2.2.2.2.2.2.1
theorem d_law_1127 : decode code 1127 = .ok (.iconst 1, 1) := dg_law_720.2.2.2.2.2.2.2.2.2.2.2.2.2.2.2.1
theorem dg_law_736 : (decode code 1128 = .ok (.iadd, 1)) ∧ (decode code 1129 = .ok (.iaload, 1)) ∧ (decode code 1130 = .ok (.invokevirtual 146, 3)) ∧ (decode code 1133 = .ok (.pop, 1)) ∧ (decode code 1134 = .ok (.goto 240, 3)) ∧ (decode code 1137 = .ok (.aload_n 1, 1)) ∧ (decode code 1138 = .ok (.invokevirtual 147, 3)) ∧ (decode code 1141 = .ok (.pop, 1)) ∧ (decode code 1142 = .ok (.aload_n 2, 1)) ∧ (decode code 1143 = .ok (.invokevirtual 150, 3)) ∧ (decode code 1146 = .ok (.pop, 1)) ∧ (decode code 1147 = .ok (.goto 227, 3)) ∧ (decode code 1150 = .ok (.aload_n 1, 1)) ∧ (decode code 1151 = .ok (.aload_n 0, 1)) ∧ (decode code 1152 = .ok (.iload_n 3, 1)) ∧ (decode code 1153 = .ok (.iconst 1, 1)) ∧ True := fd_of (cc := code) [(1128, .iadd, 1), (1129, .iaload, 1), (1130, .invokevirtual 146, 3), (1133, .pop, 1), (1134, .goto 240, 3), (1137, .aload_n 1, 1), (1138, .invokevirtual 147, 3), (1141, .pop, 1), (1142, .aload_n 2, 1), (1143, .invokevirtual 150, 3), (1146, .pop, 1), (1147, .goto 227, 3), (1150, .aload_n 1, 1), (1151, .aload_n 0, 1), (1152, .iload_n 3, 1), (1153, .iconst 1, 1)] (by decide +kernel)
theorem d_law_1128 : decode code 1128 = .ok (.iadd, 1) := dg_law_736.1
theorem d_law_1129 : decode code 1129 = .ok (.iaload, 1) := dg_law_736.2.1
theorem d_law_1130 : decode code 1130 = .ok (.invokevirtual 146, 3) := dg_law_736.2.2.1
theorem d_law_1133 : decode code 1133 = .ok (.pop, 1) := dg_law_736.2.2.2.1
theorem d_law_1134 : decode code 1134 = .ok (.goto 240, 3) := dg_law_736.2.2.2.2.1
theorem d_law_1137 : decode code 1137 = .ok (.aload_n 1, 1) := dg_law_736.2.2.2.2.2.1
theorem d_law_1138 : decode code 1138 = .ok (.invokevirtual 147, 3) := dg_law_736.2.2.2.2.2.2.1
theorem d_law_1141 : decode code 1141 = .ok (.pop, 1) := dg_law_736.2.2.2.2.2.2.2.1
theorem d_law_1142 : decode code 1142 = .ok (.aload_n 2, 1) := dg_law_736.2.2.2.2.2.2.2.2.1
theorem d_law_1143 : decode code 1143 = .ok (.invokevirtual 150, 3) := dg_law_736.2.2.2.2.2.2.2.2.2.1
theorem d_law_1146 : decode code 1146 = .ok (.pop, 1) := dg_law_736.2.2.2.2.2.2.2.2.2.2.1
theorem d_law_1147 : decode code 1147 = .ok (.goto 227, 3) := dg_law_736.2.2.2.2.2.2.2.2.2.2.2.1
theorem d_law_1150 : decode code 1150 = .ok (.aload_n 1, 1) := dg_law_736.2.2.2.2.2.2.2.2.2.2.2.2.1
theorem d_law_1151 : decode code 1151 = .ok (.aload_n 0, 1) := dg_law_736.2.2.2.2.2.2.2.2.2.2.2.2.2.1
theorem d_law_1152 : decode code 1152 = .ok (.iload_n 3, 1) := dg_law_736.2.2.2.2.2.2.2.2.2.2.2.2.2.2.1
theorem d_law_1153 : decode code 1153 = .ok (.iconst 1, 1) := dg_law_736.2.2.2.2.2.2.2.2.2.2.2.2.2.2.2.1
theorem dg_law_752 : (decode code 1154 = .ok (.iadd, 1)) ∧ (decode code 1155 = .ok (.iaload, 1)) ∧ (decode code 1156 = .ok (.invokevirtual 151, 3)) ∧ (decode code 1159 = .ok (.pop, 1)) ∧ (decode code 1160 = .ok (.aload_n 2, 1)) ∧ (decode code 1161 = .ok (.aload_n 0, 1)) ∧ (decode code 1162 = .ok (.iload_n 3, 1)) ∧ (decode code 1163 = .ok (.iconst 1, 1)) ∧ (decode code 1164 = .ok (.iadd, 1)) ∧ (decode code 1165 = .ok (.iaload, 1)) ∧ (decode code 1166 = .ok (.invokevirtual 154, 3)) ∧ (decode code 1169 = .ok (.pop, 1)) ∧ (decode code 1170 = .ok (.goto 204, 3)) ∧ (decode code 1173 = .ok (.aload_n 1, 1)) ∧ (decode code 1174 = .ok (.aload_n 0, 1)) ∧ (decode code 1175 = .ok (.iload_n 3, 1)) ∧ True := fd_of (cc := code) [(1154, .iadd, 1), (1155, .iaload, 1), (1156, .invokevirtual 151, 3), (1159, .pop, 1), (1160, .aload_n 2, 1), (1161, .aload_n 0, 1), (1162, .iload_n 3, 1), (1163, .iconst 1, 1), (1164, .iadd, 1), (1165, .iaload, 1), (1166, .invokevirtual 154, 3), (1169, .pop, 1), (1170, .goto 204, 3), (1173, .aload_n 1, 1), (1174, .aload_n 0, 1), (1175, .iload_n 3, 1)] (by decide +kernel)
theorem d_law_1154 : decode code 1154 = .ok (.iadd, 1) := dg_law_752.1
theorem d_law_1155 : decode code 1155 = .ok (.iaload, 1) := dg_law_752.2.1
theorem d_law_1156 : decode code 1156 = .ok (.invokevirtual 151, 3) := dg_law_752.2.2.1
theorem d_law_1159 : decode code 1159 = .ok (.pop, 1) := dg_law_752.2.2.2.1
theorem d_law_1160 : decode code 1160 = .ok (.aload_n 2, 1) := dg_law_752.2.2.2.2.1
theorem d_law_1161 : decode code 1161 = .ok (.aload_n 0, 1) := dg_law_752.2.2.2.2.2.1
theorem d_law_1162 : decode code 1162 = .ok (.iload_n 3, 1) := dg_law_752.2.2.2.2.2.2.1
theorem d_law_1163 : decode code 1163 = .ok (.iconst 1, 1) := dg_law_752.2.2.2.2.2.2.2.1
theorem d_law_1164 : decode code 1164 = .ok (.iadd, 1) := dg_law_752.2.2.2.2.2.2.2.2.1
theorem d_law_1165 : decode code 1165 = .ok (.iaload, 1) := dg_law_752.2.2.2.2.2.2.2.2.2.1
theorem d_law_1166 : decode code 1166 = .ok (.invokevirtual 154, 3) := dg_law_752.2.2.2.2.2.2.2.2.2.2.1
theorem d_law_1169 : decode code 1169 = .ok (.pop, 1) := dg_law_752.2.2.2.2.2.2.2.2.2.2.2.1
theorem d_law_1170 : decode code 1170 = .ok (.goto 204, 3) := dg_law_752.2.2.2.2.2.2.2.2.2.2.2.2.1
theorem d_law_1173 : decode code 1173 = .ok (.aload_n 1, 1) := dg_law_752.2.2.2.2.2.2.2.2.2.2.2.2.2.1
theorem d_law_1174 : decode code 1174 = .ok (.aload_n 0, 1) := dg_law_752.2.2.2.2.2.2.2.2.2.2.2.2.2.2.1
theorem d_law_1175 : decode code 1175 = .ok (.iload_n 3, 1) := dg_law_752.2.2.2.2.2.2.2.2.2.2.2.2.2.2.2.1
theorem dg_law_768 : (decode code 1176 = .ok (.iconst 1, 1)) ∧ (decode code 1177 = .ok (.iadd, 1)) ∧ (decode code 1178 = .ok (.iaload, 1)) ∧ (decode code 1179 = .ok (.aload_n 0, 1)) ∧ (decode code 1180 = .ok (.iload_n 3, 1)) ∧ (decode code 1181 = .ok (.iconst 2, 1)) ∧ (decode code 1182 = .ok (.iadd, 1)) ∧ (decode code 1183 = .ok (.iaload, 1)) ∧ (decode code 1184 = .ok (.aload_n 0, 1)) ∧ (decode code 1185 = .ok (.iload_n 3, 1)) ∧ (decode code 1186 = .ok (.iconst 3, 1)) ∧ (decode code 1187 = .ok (.iadd, 1)) ∧ (decode code 1188 = .ok (.iaload, 1)) ∧ (decode code 1189 = .ok (.aload_n 0, 1)) ∧ (decode code 1190 = .ok (.iload_n 3, 1)) ∧ (decode code 1191 = .ok (.iconst 4, 1)) ∧ True := fd_of (cc := code) [(1176, .iconst 1, 1), (1177, .iadd, 1), (1178, .iaload, 1), (1179, .aload_n 0, 1), (1180, .iload_n 3, 1), (1181, .iconst 2, 1), (1182, .iadd, 1), (1183, .iaload, 1), (1184, .aload_n 0, 1), (1185, .iload_n 3, 1), (1186, .iconst 3, 1), (1187, .iadd, 1), (1188, .iaload, 1), (1189, .aload_n 0, 1), (1190, .iload_n 3, 1), (1191, .iconst 4, 1)] (by decide +kernel)
theorem d_law_1176 : decode code 1176 = .ok (.iconst 1, 1) := dg_law_768.1
theorem d_law_1177 : decode code 1177 = .ok (.iadd, 1) := dg_law_768.2.1
theorem d_law_1178 : decode code 1178 = .ok (.iaload, 1) := dg_law_768.2.2.1
theorem d_law_1179 : decode code 1179 = .ok (.aload_n 0, 1) := dg_law_768.2.2.2.1
theorem d_law_1180 : decode code 1180 = .ok (.iload_n 3, 1) := dg_law_768.2.2.2.2.1
theorem d_law_1181 : decode code 1181 = .ok (.iconst 2, 1) := dg_law_768.2.2.2.2.2.1
theorem d_law_1182 : decode code 1182 = .ok (.iadd, 1) := dg_law_768.2.2.2.2.2.2.1
theorem d_law_1183 : decode code 1183 = .ok (.iaload, 1) := dg_law_768.2.2.2.2.2.2.2.1
theorem d_law_1184 : decode code 1184 = .ok (.aload_n 0, 1) := dg_law_768.2.2.2.2.2.2.2.2.1
theorem d_law_1185 : decode code 1185 = .ok (.iload_n 3, 1) := dg_law_768.2.2.2.2.2.2.2.2.2.1
theorem d_law_1186 : decode code 1186 = .ok (.iconst 3, 1) := dg_law_768.2.2.2.2.2.2.2.2.2.2.1
theorem d_law_1187 : decode code 1187 = .ok (.iadd, 1) := dg_law_768.2.2.2.2.2.2.2.2.2.2.2.1
theorem d_law_1188 : decode code 1188 = .ok (.iaload, 1) := dg_law_768.2.2.2.2.2.2.2.2.2.2.2.2.1
theorem d_law_1189 : decode code 1189 = .ok (.aload_n 0, 1) := dg_law_768.2.2.2.2.2.2.2.2.2.2.2.2.2.1
theorem d_law_1190 : decode code 1190 = .ok (.iload_n 3, 1) := dg_law_768.2.2.2.2.2.2.2.2.2.2.2.2.2.2.1
theorem d_law_1191 : decode code 1191 = .ok (.iconst 4, 1) := dg_law_768.2.2.2.2.2.2.2.2.2.2.2.2.2.2.2.1
theorem dg_law_784 : (decode code 1192 = .ok (.iadd, 1)) ∧ (decode code 1193 = .ok (.iaload, 1)) ∧ (decode code 1194 = .ok (.aload_n 0, 1)) ∧ (decode code 1195 = .ok (.iload_n 3, 1)) ∧ (decode code 1196 = .ok (.iconst 5, 1)) ∧ (decode code 1197 = .ok (.iadd, 1)) ∧ (decode code 1198 = .ok (.iaload, 1)) ∧ (decode code 1199 = .ok (.invokevirtual 155, 3)) ∧ (decode code 1202 = .ok (.pop, 1)) ∧ (decode code 1203 = .ok (.aload_n 2, 1)) ∧ (decode code 1204 = .ok (.aload_n 0, 1)) ∧ (decode code 1205 = .ok (.iload_n 3, 1)) ∧ (decode code 1206 = .ok (.iconst 1, 1)) ∧ (decode code 1207 = .ok (.iadd, 1)) ∧ (decode code 1208 = .ok (.iaload, 1)) ∧ (decode code 1209 = .ok (.aload_n 0, 1)) ∧ True := fd_of (cc := code) [(1192, .iadd, 1), (1193, .iaload, 1), (1194, .aload_n 0, 1), (1195, .iload_n 3, 1), (1196, .iconst 5, 1), (1197, .iadd, 1), (1198, .iaload, 1), (1199, .invokevirtual 155, 3), (1202, .pop, 1), (1203, .aload_n 2, 1), (1204, .aload_n 0, 1), (1205, .iload_n 3, 1), (1206, .iconst 1, 1), (1207, .iadd, 1), (1208, .iaload, 1), (1209, .aload_n 0, 1)] (by decide +kernel)
theorem d_law_1192 : decode code 1192 = .ok (.iadd, 1) := dg_law_784.1
theorem d_law_1193 : decode code 1193 = .ok (.iaload, 1) := dg_law_784.2.1
theorem d_law_1194 : decode code 1194 = .ok (.aload_n 0, 1) := dg_law_784.2.2.1
theorem d_law_1195 : decode code 1195 = .ok (.iload_n 3, 1) := dg_law_784.2.2.2.1
theorem d_law_1196 : decode code 1196 = .ok (.iconst 5, 1) := dg_law_784.2.2.2.2.1
theorem d_law_1197 : decode code 1197 = .ok (.iadd, 1) := dg_law_784.2.2.2.2.2.1
theorem d_law_1198 : decode code 1198 = .ok (.iaload, 1) := dg_law_784.2.2.2.2.2.2.1
theorem d_law_1199 : decode code 1199 = .ok (.invokevirtual 155, 3) := dg_law_784.2.2.2.2.2.2.2.1
theorem d_law_1202 : decode code 1202 = .ok (.pop, 1) := dg_law_784.2.2.2.2.2.2.2.2.1
theorem d_law_1203 : decode code 1203 = .ok (.aload_n 2, 1) := dg_law_784.2.2.2.2.2.2.2.2.2.1
theorem d_law_1204 : decode code 1204 = .ok (.aload_n 0, 1) := dg_law_784.2.2.2.2.2.2.2.2.2.2.1
theorem d_law_1205 : decode code 1205 = .ok (.iload_n 3, 1) := dg_law_784.2.2.2.2.2.2.2.2.2.2.2.1
theorem d_law_1206 : decode code 1206 = .ok (.iconst 1, 1) := dg_law_784.2.2.2.2.2.2.2.2.2.2.2.2.1
theorem d_law_1207 : decode code 1207 = .ok (.iadd, 1) := dg_law_784.2.2.2.2.2.2.2.2.2.2.2.2.2.1
theorem d_law_1208 : decode code 1208 = .ok (.iaload, 1) := dg_law_784.2.2.2.2.2.2.2.2.2.2.2.2.2.2.1
theorem d_law_1209 : decode code 1209 = .ok (.aload_n 0, 1) := dg_law_784.2.2.2.2.2.2.2.2.2.2.2.2.2.2.2.1
theorem dg_law_800 : (decode code 1210 = .ok (.iload_n 3, 1)) ∧ (decode code 1211 = .ok (.iconst 2, 1)) ∧ (decode code 1212 = .ok (.iadd, 1)) ∧ (decode code 1213 = .ok (.iaload, 1)) ∧ (decode code 1214 = .ok (.aload_n 0, 1)) ∧ (decode code 1215 = .ok (.iload_n 3, 1)) ∧ (decode code 1216 = .ok (.iconst 3, 1)) ∧ (decode code 1217 = .ok (.iadd, 1)) ∧ (decode code 1218 = .ok (.iaload, 1)) ∧ (decode code 1219 = .ok (.aload_n 0, 1)) ∧ (decode code 1220 = .ok (.iload_n 3, 1)) ∧ (decode code 1221 = .ok (.iconst 4, 1)) ∧ (decode code 1222 = .ok (.iadd, 1)) ∧ (decode code 1223 = .ok (.iaload, 1)) ∧ (decode code 1224 = .ok (.aload_n 0, 1)) ∧ (decode code 1225 = .ok (.iload_n 3, 1)) ∧ True := fd_of (cc := code) [(1210, .iload_n 3, 1), (1211, .iconst 2, 1), (1212, .iadd, 1), (1213, .iaload, 1), (1214, .aload_n 0, 1), (1215, .iload_n 3, 1), (1216, .iconst 3, 1), (1217, .iadd, 1), (1218, .iaload, 1), (1219, .aload_n 0, 1), (1220, .iload_n 3, 1), (1221, .iconst 4, 1), (1222, .iadd, 1), (1223, .iaload, 1), (1224, .aload_n 0, 1), (1225, .iload_n 3, 1)] (by decide +kernel)
theorem d_law_1210 : decode code 1210 = .ok (.iload_n 3, 1) := dg_law_800.1
theorem d_law_1211 : decode code 1211 = .ok (.iconst 2, 1) := dg_law_800.2.1
theorem d_law_1212 : decode code 1212 = .ok (.iadd, 1) := dg_law_800.2.2.1
theorem d_law_1213 : decode code 1213 = .ok (.iaload, 1) := dg_law_800.2.2.2.1
theorem d_law_1214 : decode code 1214 = .ok (.aload_n 0, 1) := dg_law_800.2.2.2.2.1
theorem d_law_1215 : decode code 1215 = .ok (.iload_n 3, 1) := dg_law_800.2.2.2.2.2.1
theorem d_law_1216 : decode code 1216 = .ok (.iconst 3, 1) := dg_law_800.2.2.2.2.2.2.1
theorem d_law_1217 : decode code 1217 = .ok (.iadd, 1) := dg_law_800.2.2.2.2.2.2.2.1
theorem d_law_1218 : decode code 1218 = .ok (.iaload, 1) := dg_law_800.2.2.2.2.2.2.2.2.1
theorem d_law_1219 : decode code 1219 = .ok (.aload_n 0, 1) := dg_law_800.2.2.2.2.2.2.2.2.2.1
theorem d_law_1220 : decode code 1220 = .ok (.iload_n 3, 1) := dg_law_800.2.2.2.2.2.2.2.2.2.2.1
theorem d_law_1221 : decode code 1221 = .ok (.iconst 4, 1) := dg_law_800.2.2.2.2.2.2.2.2.2.2.2.1
theorem d_law_1222 : decode code 1222 = .ok (.iadd, 1) := dg_law_800.2.2.2.2.2.2.2.2.2.2.2.2.1
theorem d_law_1223 : decode code 1223 = .ok (.iaload, 1) := dg_law_800.2.2.2.2.2.2.2.2.2.2.2.2.2.1
theorem d_law_1224 : decode code 1224 = .ok (.aload_n 0, 1) := dg_law_800.2.2.2.2.2.2.2.2.2.2.2.2.2.2.1
theorem d_law_1225 : decode code 1225 = .ok (.iload_n 3, 1) := dg_law_800.2.2.2.2.2.2.2.2.2.2.2.2.2.2.2.1
theorem dg_law_816 : (decode code 1226 = .ok (.iconst 5, 1)) ∧ (decode code 1227 = .ok (.iadd, 1)) ∧ (decode code 1228 = .ok (.iaload, 1)) ∧ (decode code 1229 = .ok (.invokevirtual 159, 3)) ∧ (decode code 1232 = .ok (.pop, 1)) ∧ (decode code 1233 = .ok (.goto 141, 3)) ∧ (decode code 1236 = .ok (.aload_n 1, 1)) ∧ (decode code 1237 = .ok (.aload_n 0, 1)) ∧ (decode code 1238 = .ok (.iload_n 3, 1)) ∧ (decode code 1239 = .ok (.iconst 1, 1)) ∧ (decode code 1240 = .ok (.iadd, 1)) ∧ (decode code 1241 = .ok (.iaload, 1)) ∧ (decode code 1242 = .ok (.aload_n 0, 1)) ∧ (decode code 1243 = .ok (.iload_n 3, 1)) ∧ (decode code 1244 = .ok (.iconst 2, 1)) ∧ (decode code 1245 = .ok (.iadd, 1)) ∧ True := fd_of (cc := code) [(1226, .iconst 5, 1), (1227, .iadd, 1), (1228, .iaload, 1), (1229, .invokevirtual 159, 3), (1232, .pop, 1), (1233, .goto 141, 3), (1236, .aload_n 1, 1), (1237, .aload_n 0, 1), (1238, .iload_n 3, 1), (1239, .iconst 1, 1), (1240, .iadd, 1), (1241, .iaload, 1), (1242, .aload_n 0, 1), (1243, .iload_n 3, 1), (1244, .iconst 2, 1), (1245, .iadd, 1)] (by decide +kernel)
theorem d_law_1226 : decode code 1226 = .ok (.iconst 5, 1) := dg_law_816.1
theorem d_law_1227 : decode code 1227 = .ok (.iadd, 1) := dg_law_816.2.1
theorem d_law_1228 : decode code 1228 = .ok (.iaload, 1) := dg_law_816.2.2.1
theorem d_law_1229 : decode code 1229 = .ok (.invokevirtual 159, 3) := dg_law_816.2.2.2.1
theorem d_law_1232 : decode code 1232 = .ok (.pop, 1) := dg_law_816.2.2.2.2.1
theorem d_law_1233 : decode code 1233 = .ok (.goto 141, 3) := dg_law_816.2.2.2.2.2.1
theorem d_law_1236 : decode code 1236 = .ok (.aload_n 1, 1) := dg_law_816.2.2.2.2.2.2.1
theorem d_law_1237 : decode code 1237 = .ok (.aload_n 0, 1) := dg_law_816.2.2.2.2.2.2.2.1
theorem d_law_1238 : decode code 1238 = .ok (.iload_n 3, 1) := dg_law_816.2.2.2.2.2.2.2.2.1
theorem d_law_1239 : decode code 1239 = .ok (.iconst 1, 1) := dg_law_816.2.2.2.2.2.2.2.2.2.1
theorem d_law_1240 : decode code 1240 = .ok (.iadd, 1) := dg_law_816.2.2.2.2.2.2.2.2.2.2.1
theorem d_law_1241 : decode code 1241 = .ok (.iaload, 1) := dg_law_816.2.2.2.2.2.2.2.2.2.2.2.1
theorem d_law_1242 : decode code 1242 = .ok (.aload_n 0, 1) := dg_law_816.2.2.2.2.2.2.2.2.2.2.2.2.1
theorem d_law_1243 : decode code 1243 = .ok (.iload_n 3, 1) := dg_law_816.2.2.2.2.2.2.2.2.2.2.2.2.2.1
theorem d_law_1244 : decode code 1244 = .ok (.iconst 2, 1) := dg_law_816.2.2.2.2.2.2.2.2.2.2.2.2.2.2.1
theorem d_law_1245 : decode code 1245 = .ok (.iadd, 1) := dg_law_816.2.2.2.2.2.2.2.2.2.2.2.2.2.2.2.1
theorem dg_law_832 : (decode code 1246 = .ok (.iaload, 1)) ∧ (decode code 1247 = .ok (.aload_n 0, 1)) ∧ (decode code 1248 = .ok (.iload_n 3, 1)) ∧ (decode code 1249 = .ok (.iconst 3, 1)) ∧ (decode code 1250 = .ok (.iadd, 1)) ∧ (decode code 1251 = .ok (.iaload, 1)) ∧ (decode code 1252 = .ok (.ifCond .eq 7, 3)) ∧ (decode code 1255 = .ok (.iconst 1, 1)) ∧ (decode code 1256 = .ok (.goto 4, 3)) ∧ (decode code 1259 = .ok (.iconst 0, 1)) ∧ (decode code 1260 = .ok (.invokevirtual 160, 3)) ∧ (decode code 1263 = .ok (.pop, 1)) ∧ (decode code 1264 = .ok (.aload_n 2, 1)) ∧ (decode code 1265 = .ok (.aload_n 0, 1)) ∧ (decode code 1266 = .ok (.iload_n 3, 1)) ∧ (decode code 1267 = .ok (.iconst 1, 1)) ∧ True := fd_of (cc := code) [(1246, .iaload, 1), (1247, .aload_n 0, 1), (1248, .iload_n 3, 1), (1249, .iconst 3, 1), (1250, .iadd, 1), (1251, .iaload, 1), (1252, .ifCond .eq 7, 3), (1255, .iconst 1, 1), (1256, .goto 4, 3), (1259, .iconst 0, 1), (1260, .invokevirtual 160, 3), (1263, .pop, 1), (1264, .aload_n 2, 1), (1265, .aload_n 0, 1), (1266, .iload_n 3, 1), (1267, .iconst 1, 1)] (by decide +kernel)
theorem d_law_1246 : decode code 1246 = .ok (.iaload, 1) := dg_law_832.1
theorem d_law_1247 : decode code 1247 = .ok (.aload_n 0, 1) := dg_law_832.2.1
theorem d_law_1248 : decode code 1248 = .ok (.iload_n 3, 1) := dg_law_832.2.2.1
theorem d_law_1249 : decode code 1249 = .ok (.iconst 3, 1) := dg_law_832.2.2.2.1
theorem d_law_1250 : decode code 1250 = .ok (.iadd, 1) := dg_law_832.2.2.2.2.1
theorem d_law_1251 : decode code 1251 = .ok (.iaload, 1) := dg_law_832.2.2.2.2.2.1
theorem d_law_1252 : decode code 1252 = .ok (.ifCond .eq 7, 3) := dg_law_832.2.2.2.2.2.2.1
theorem d_law_1255 : decode code 1255 = .ok (.iconst 1, 1) := dg_law_832.2.2.2.2.2.2.2.1
theorem d_law_1256 : decode code 1256 = .ok (.goto 4, 3) := dg_law_832.2.2.2.2.2.2.2.2.1
theorem d_law_1259 : decode code 1259 = .ok (.iconst 0, 1) := dg_law_832.2.2.2.2.2.2.2.2.2.1
theorem d_law_1260 : decode code 1260 = .ok (.invokevirtual 160, 3) := dg_law_832.2.2.2.2.2.2.2.2.2.2.1
theorem d_law_1263 : decode code 1263 = .ok (.pop, 1) := dg_law_832.2.2.2.2.2.2.2.2.2.2.2.1
theorem d_law_1264 : decode code 1264 = .ok (.aload_n 2, 1) := dg_law_832.2.2.2.2.2.2.2.2.2.2.2.2.1
theorem d_law_1265 : decode code 1265 = .ok (.aload_n 0, 1) := dg_law_832.2.2.2.2.2.2.2.2.2.2.2.2.2.1
theorem d_law_1266 : decode code 1266 = .ok (.iload_n 3, 1) := dg_law_832.2.2.2.2.2.2.2.2.2.2.2.2.2.2.1
theorem d_law_1267 : decode code 1267 = .ok (.iconst 1, 1) := dg_law_832.2.2.2.2.2.2.2.2.2.2.2.2.2.2.2.1
theorem dg_law_848 : (decode code 1268 = .ok (.iadd, 1)) ∧ (decode code 1269 = .ok (.iaload, 1)) ∧ (decode code 1270 = .ok (.aload_n 0, 1)) ∧ (decode code 1271 = .ok (.iload_n 3, 1)) ∧ (decode code 1272 = .ok (.iconst 2, 1)) ∧ (decode code 1273 = .ok (.iadd, 1)) ∧ (decode code 1274 = .ok (.iaload, 1)) ∧ (decode code 1275 = .ok (.aload_n 0, 1)) ∧ (decode code 1276 = .ok (.iload_n 3, 1)) ∧ (decode code 1277 = .ok (.iconst 3, 1)) ∧ (decode code 1278 = .ok (.iadd, 1)) ∧ (decode code 1279 = .ok (.iaload, 1)) ∧ (decode code 1280 = .ok (.ifCond .eq 7, 3)) ∧ (decode code 1283 = .ok (.iconst 1, 1)) ∧ (decode code 1284 = .ok (.goto 4, 3)) ∧ (decode code 1287 = .ok (.iconst 0, 1)) ∧ True := fd_of (cc := code) [(1268, .iadd, 1), (1269, .iaload, 1), (1270, .aload_n 0, 1), (1271, .iload_n 3, 1), (1272, .iconst 2, 1), (1273, .iadd, 1), (1274, .iaload, 1), (1275, .aload_n 0, 1), (1276, .iload_n 3, 1), (1277, .iconst 3, 1), (1278, .iadd, 1), (1279, .iaload, 1), (1280, .ifCond .eq 7, 3), (1283, .iconst 1, 1), (1284, .goto 4, 3), (1287, .iconst 0, 1)] (by decide +kernel)
theorem d_law_1268 : decode code 1268 = .ok (.iadd, 1) := dg_law_848.1
theorem d_law_1269 : decode code 1269 = .ok (.iaload, 1) := dg_law_848.2.1
theorem d_law_1270 : decode code 1270 = .ok (.aload_n 0, 1) := dg_law_848.2.2.1
theorem d_law_1271 : decode code 1271 = .ok (.iload_n 3, 1) := dg_law_848.2.2.2.1
theorem d_law_1272 : decode code 1272 = .ok (.iconst 2, 1) := dg_law_848.2.2.2.2.1
theorem d_law_1273 : decode code 1273 = .ok (.iadd, 1) := dg_law_848.2.2.2.2.2.1
theorem d_law_1274 : decode code 1274 = .ok (.iaload, 1) := dg_law_848.2.2.2.2.2.2.1
theorem d_law_1275 : decode code 1275 = .ok (.aload_n 0, 1) := dg_law_848.2.2.2.2.2.2.2.1
theorem d_law_1276 : decode code 1276 = .ok (.iload_n 3, 1) := dg_law_848.2.2.2.2.2.2.2.2.1
theorem d_law_1277 : decode code 1277 = .ok (.iconst 3, 1) := dg_law_848.2.2.2.2.2.2.2.2.2.1
theorem d_law_1278 : decode code 1278 = .ok (.iadd, 1) := dg_law_848.2.2.2.2.2.2.2.2.2.2.1
theorem d_law_1279 : decode code 1279 = .ok (.iaload, 1) := dg_law_848.2.2.2.2.2.2.2.2.2.2.2.1
theorem d_law_1280 : decode code 1280 = .ok (.ifCond .eq 7, 3) := dg_law_848.2.2.2.2.2.2.2.2.2.2.2.2.1
theorem d_law_1283 : decode code 1283 = .ok (.iconst 1, 1) := dg_law_848.2.2.2.2.2.2.2.2.2.2.2.2.2.1
theorem d_law_1284 : decode code 1284 = .ok (.goto 4, 3) := dg_law_848.2.2.2.2.2.2.2.2.2.2.2.2.2.2.1
theorem d_law_1287 : decode code 1287 = .ok (.iconst 0, 1) := dg_law_848.2.2.2.2.2.2.2.2.2.2.2.2.2.2.2.1
theorem dg_law_864 : (decode code 1288 = .ok (.invokevirtual 164, 3)) ∧ (decode code 1291 = .ok (.pop, 1)) ∧ (decode code 1292 = .ok (.goto 82, 3)) ∧ (decode code 1295 = .ok (.aload_n 1, 1)) ∧ (decode code 1296 = .ok (.aload_n 0, 1)) ∧ (decode code 1297 = .ok (.iload_n 3, 1)) ∧ (decode code 1298 = .ok (.iconst 1, 1)) ∧ (decode code 1299 = .ok (.iadd, 1)) ∧ (decode code 1300 = .ok (.iaload, 1)) ∧ (decode code 1301 = .ok (.invokevirtual 165, 3)) ∧ (decode code 1304 = .ok (.pop, 1)) ∧ (decode code 1305 = .ok (.aload_n 2, 1)) ∧ (decode code 1306 = .ok (.aload_n 0, 1)) ∧ (decode code 1307 = .ok (.iload_n 3, 1)) ∧ (decode code 1308 = .ok (.iconst 1, 1)) ∧ (decode code 1309 = .ok (.iadd, 1)) ∧ True := fd_of (cc := code) [(1288, .invokevirtual 164, 3), (1291, .pop, 1), (1292, .goto 82, 3), (1295, .aload_n 1, 1), (1296, .aload_n 0, 1), (1297, .iload_n 3, 1), (1298, .iconst 1, 1), (1299, .iadd, 1), (1300, .iaload, 1), (1301, .invokevirtual 165, 3), (1304, .pop, 1), (1305, .aload_n 2, 1), (1306, .aload_n 0, 1), (1307, .iload_n 3, 1), (1308, .iconst 1, 1), (1309, .iadd, 1)] (by decide +kernel)
theorem d_law_1288 : decode code 1288 = .ok (.invokevirtual 164, 3) := dg_law_864.1
theorem d_law_1291 : decode code 1291 = .ok (.pop, 1) := dg_law_864.2.1
theorem d_law_1292 : decode code 1292 = .ok (.goto 82, 3) := dg_law_864.2.2.1
theorem d_law_1295 : decode code 1295 = .ok (.aload_n 1, 1) := dg_law_864.2.2.2.1
theorem d_law_1296 : decode code 1296 = .ok (.aload_n 0, 1) := dg_law_864.2.2.2.2.1
theorem d_law_1297 : decode code 1297 = .ok (.iload_n 3, 1) := dg_law_864.2.2.2.2.2.1
theorem d_law_1298 : decode code 1298 = .ok (.iconst 1, 1) := dg_law_864.2.2.2.2.2.2.1
theorem d_law_1299 : decode code 1299 = .ok (.iadd, 1) := dg_law_864.2.2.2.2.2.2.2.1
theorem d_law_1300 : decode code 1300 = .ok (.iaload, 1) := dg_law_864.2.2.2.2.2.2.2.2.1
theorem d_law_1301 : decode code 1301 = .ok (.invokevirtual 165, 3) := dg_law_864.2.2.2.2.2.2.2.2.2.1
theorem d_law_1304 : decode code 1304 = .ok (.pop, 1) := dg_law_864.2.2.2.2.2.2.2.2.2.2.1
theorem d_law_1305 : decode code 1305 = .ok (.aload_n 2, 1) := dg_law_864.2.2.2.2.2.2.2.2.2.2.2.1
theorem d_law_1306 : decode code 1306 = .ok (.aload_n 0, 1) := dg_law_864.2.2.2.2.2.2.2.2.2.2.2.2.1
theorem d_law_1307 : decode code 1307 = .ok (.iload_n 3, 1) := dg_law_864.2.2.2.2.2.2.2.2.2.2.2.2.2.1
theorem d_law_1308 : decode code 1308 = .ok (.iconst 1, 1) := dg_law_864.2.2.2.2.2.2.2.2.2.2.2.2.2.2.1
theorem d_law_1309 : decode code 1309 = .ok (.iadd, 1) := dg_law_864.2.2.2.2.2.2.2.2.2.2.2.2.2.2.2.1
theorem dg_law_880 : (decode code 1310 = .ok (.iaload, 1)) ∧ (decode code 1311 = .ok (.invokevirtual 168, 3)) ∧ (decode code 1314 = .ok (.pop, 1)) ∧ (decode code 1315 = .ok (.goto 59, 3)) ∧ (decode code 1318 = .ok (.aload_n 1, 1)) ∧ (decode code 1319 = .ok (.aload_n 0, 1)) ∧ (decode code 1320 = .ok (.iload_n 3, 1)) ∧ (decode code 1321 = .ok (.iconst 1, 1)) ∧ (decode code 1322 = .ok (.iadd, 1)) ∧ (decode code 1323 = .ok (.iaload, 1)) ∧ (decode code 1324 = .ok (.invokevirtual 169, 3)) ∧ (decode code 1327 = .ok (.pop, 1)) ∧ (decode code 1328 = .ok (.aload_n 2, 1)) ∧ (decode code 1329 = .ok (.aload_n 0, 1)) ∧ (decode code 1330 = .ok (.iload_n 3, 1)) ∧ (decode code 1331 = .ok (.iconst 1, 1)) ∧ True := fd_of (cc := code) [(1310, .iaload, 1), (1311, .invokevirtual 168, 3), (1314, .pop, 1), (1315, .goto 59, 3), (1318, .aload_n 1, 1), (1319, .aload_n 0, 1), (1320, .iload_n 3, 1), (1321, .iconst 1, 1), (1322, .iadd, 1), (1323, .iaload, 1), (1324, .invokevirtual 169, 3), (1327, .pop, 1), (1328, .aload_n 2, 1), (1329, .aload_n 0, 1), (1330, .iload_n 3, 1), (1331, .iconst 1, 1)] (by decide +kernel)
theorem d_law_1310 : decode code 1310 = .ok (.iaload, 1) := dg_law_880.1
theorem d_law_1311 : decode code 1311 = .ok (.invokevirtual 168, 3) := dg_law_880.2.1
theorem d_law_1314 : decode code 1314 = .ok (.pop, 1) := dg_law_880.2.2.1
theorem d_law_1315 : decode code 1315 = .ok (.goto 59, 3) := dg_law_880.2.2.2.1
theorem d_law_1318 : decode code 1318 = .ok (.aload_n 1, 1) := dg_law_880.2.2.2.2.1
theorem d_law_1319 : decode code 1319 = .ok (.aload_n 0, 1) := dg_law_880.2.2.2.2.2.1
theorem d_law_1320 : decode code 1320 = .ok (.iload_n 3, 1) := dg_law_880.2.2.2.2.2.2.1
theorem d_law_1321 : decode code 1321 = .ok (.iconst 1, 1) := dg_law_880.2.2.2.2.2.2.2.1
theorem d_law_1322 : decode code 1322 = .ok (.iadd, 1) := dg_law_880.2.2.2.2.2.2.2.2.1
theorem d_law_1323 : decode code 1323 = .ok (.iaload, 1) := dg_law_880.2.2.2.2.2.2.2.2.2.1
theorem d_law_1324 : decode code 1324 = .ok (.invokevirtual 169, 3) := dg_law_880.2.2.2.2.2.2.2.2.2.2.1
theorem d_law_1327 : decode code 1327 = .ok (.pop, 1) := dg_law_880.2.2.2.2.2.2.2.2.2.2.2.1
theorem d_law_1328 : decode code 1328 = .ok (.aload_n 2, 1) := dg_law_880.2.2.2.2.2.2.2.2.2.2.2.2.1
theorem d_law_1329 : decode code 1329 = .ok (.aload_n 0, 1) := dg_law_880.2.2.2.2.2.2.2.2.2.2.2.2.2.1
theorem d_law_1330 : decode code 1330 = .ok (.iload_n 3, 1) := dg_law_880.2.2.2.2.2.2.2.2.2.2.2.2.2.2.1
theorem d_law_1331 : decode code 1331 = .ok (.iconst 1, 1) := dg_law_880.2.2.2.2.2.2.2.2.2.2.2.2.2.2.2.1
theorem dg_law_896 : (decode code 1332 = .ok (.iadd, 1)) ∧ (decode code 1333 = .ok (.iaload, 1)) ∧ (decode code 1334 = .ok (.invokevirtual 172, 3)) ∧ (decode code 1337 = .ok (.pop, 1)) ∧ (decode code 1338 = .ok (.goto 36, 3)) ∧ (decode code 1341 = .ok (.aload_n 1, 1)) ∧ (decode code 1342 = .ok (.aload_n 0, 1)) ∧ (decode code 1343 = .ok (.iload_n 3, 1)) ∧ (decode code 1344 = .ok (.iconst 1, 1)) ∧ (decode code 1345 = .ok (.iadd, 1)) ∧ (decode code 1346 = .ok (.iaload, 1)) ∧ (decode code 1347 = .ok (.aload_n 0, 1)) ∧ (decode code 1348 = .ok (.iload_n 3, 1)) ∧ (decode code 1349 = .ok (.iconst 2, 1)) ∧ (decode code 1350 = .ok (.iadd, 1)) ∧ (decode code 1351 = .ok (.iaload, 1)) ∧ True := fd_of (cc := code) [(1332, .iadd, 1), (1333, .iaload, 1), (1334, .invokevirtual 172, 3), (1337, .pop, 1), (1338, .goto 36, 3), (1341, .aload_n 1, 1), (1342, .aload_n 0, 1), (1343, .iload_n 3, 1), (1344, .iconst 1, 1), (1345, .iadd, 1), (1346, .iaload, 1), (1347, .aload_n 0, 1), (1348, .iload_n 3, 1), (1349, .iconst 2, 1), (1350, .iadd, 1), (1351, .iaload, 1)] (by decide +kernel)
theorem d_law_1332 : decode code 1332 = .ok (.iadd, 1) := dg_law_896.1
theorem d_law_1333 : decode code 1333 = .ok (.iaload, 1) := dg_law_896.2.1
theorem d_law_1334 : decode code 1334 = .ok (.invokevirtual 172, 3) := dg_law_896.2.2.1
theorem d_law_1337 : decode code 1337 = .ok (.pop, 1) := dg_law_896.2.2.2.1
theorem d_law_1338 : decode code 1338 = .ok (.goto 36, 3) := dg_law_896.2.2.2.2.1
theorem d_law_1341 : decode code 1341 = .ok (.aload_n 1, 1) := dg_law_896.2.2.2.2.2.1
theorem d_law_1342 : decode code 1342 = .ok (.aload_n 0, 1) := dg_law_896.2.2.2.2.2.2.1
theorem d_law_1343 : decode code 1343 = .ok (.iload_n 3, 1) := dg_law_896.2.2.2.2.2.2.2.1
theorem d_law_1344 : decode code 1344 = .ok (.iconst 1, 1) := dg_law_896.2.2.2.2.2.2.2.2.1
theorem d_law_1345 : decode code 1345 = .ok (.iadd, 1) := dg_law_896.2.2.2.2.2.2.2.2.2.1
theorem d_law_1346 : decode code 1346 = .ok (.iaload, 1) := dg_law_896.2.2.2.2.2.2.2.2.2.2.1
theorem d_law_1347 : decode code 1347 = .ok (.aload_n 0, 1) := dg_law_896.2.2.2.2.2.2.2.2.2.2.2.1
theorem d_law_1348 : decode code 1348 = .ok (.iload_n 3, 1) := dg_law_896.2.2.2.2.2.2.2.2.2.2.2.2.1
theorem d_law_1349 : decode code 1349 = .ok (.iconst 2, 1) := dg_law_896.2.2.2.2.2.2.2.2.2.2.2.2.2.1
theorem d_law_1350 : decode code 1350 = .ok (.iadd, 1) := dg_law_896.2.2.2.2.2.2.2.2.2.2.2.2.2.2.1
theorem d_law_1351 : decode code 1351 = .ok (.iaload, 1) := dg_law_896.2.2.2.2.2.2.2.2.2.2.2.2.2.2.2.1
theorem dg_law_912 : (decode code 1352 = .ok (.invokevirtual 173, 3)) ∧ (decode code 1355 = .ok (.pop, 1)) ∧ (decode code 1356 = .ok (.aload_n 2, 1)) ∧ (decode code 1357 = .ok (.aload_n 0, 1)) ∧ (decode code 1358 = .ok (.iload_n 3, 1)) ∧ (decode code 1359 = .ok (.iconst 1, 1)) ∧ (decode code 1360 = .ok (.iadd, 1)) ∧ (decode code 1361 = .ok (.iaload, 1)) ∧ (decode code 1362 = .ok (.aload_n 0, 1)) ∧ (decode code 1363 = .ok (.iload_n 3, 1)) ∧ (decode code 1364 = .ok (.iconst 2, 1)) ∧ (decode code 1365 = .ok (.iadd, 1)) ∧ (decode code 1366 = .ok (.iaload, 1)) ∧ (decode code 1367 = .ok (.invokevirtual 176, 3)) ∧ (decode code 1370 = .ok (.pop, 1)) ∧ (decode code 1371 = .ok (.goto 3, 3)) ∧ True := fd_of (cc := code) [(1352, .invokevirtual 173, 3), (1355, .pop, 1), (1356, .aload_n 2, 1), (1357, .aload_n 0, 1), (1358, .iload_n 3, 1), (1359, .iconst 1, 1), (1360, .iadd, 1), (1361, .iaload, 1), (1362, .aload_n 0, 1), (1363, .iload_n 3, 1), (1364, .iconst 2, 1), (1365, .iadd, 1), (1366, .iaload, 1), (1367, .invokevirtual 176, 3), (1370, .pop, 1), (1371, .goto 3, 3)] (by decide +kernel)
theorem d_law_1352 : decode code 1352 = .ok (.invokevirtual 173, 3) := dg_law_912.1
theorem d_law_1355 : decode code 1355 = .ok (.pop, 1) := dg_law_912.2.1
theorem d_law_1356 : decode code 1356 = .ok (.aload_n 2, 1) := dg_law_912.2.2.1
theorem d_law_1357 : decode code 1357 = .ok (.aload_n 0, 1) := dg_law_912.2.2.2.1
theorem d_law_1358 : decode code 1358 = .ok (.iload_n 3, 1) := dg_law_912.2.2.2.2.1
theorem d_law_1359 : decode code 1359 = .ok (.iconst 1, 1) := dg_law_912.2.2.2.2.2.1
theorem d_law_1360 : decode code 1360 = .ok (.iadd, 1) := dg_law_912.2.2.2.2.2.2.1
theorem d_law_1361 : decode code 1361 = .ok (.iaload, 1) := dg_law_912.2.2.2.2.2.2.2.1
theorem d_law_1362 : decode code 1362 = .ok (.aload_n 0, 1) := dg_law_912.2.2.2.2.2.2.2.2.1
theorem d_law_1363 : decode code 1363 = .ok (.iload_n 3, 1) := dg_law_912.2.2.2.2.2.2.2.2.2.1
theorem d_law_1364 : decode code 1364 = .ok (.iconst 2, 1) := dg_law_912.2.2.2.2.2.2.2.2.2.2.1
theorem d_law_1365 : decode code 1365 = .ok (.iadd, 1) := dg_law_912.2.2.2.2.2.2.2.2.2.2.2.1
theorem d_law_1366 : decode code 1366 = .ok (.iaload, 1) := dg_law_912.2.2.2.2.2.2.2.2.2.2.2.2.1
theorem d_law_1367 : decode code 1367 = .ok (.invokevirtual 176, 3) := dg_law_912.2.2.2.2.2.2.2.2.2.2.2.2.2.1
theorem d_law_1370 : decode code 1370 = .ok (.pop, 1) := dg_law_912.2.2.2.2.2.2.2.2.2.2.2.2.2.2.1
theorem d_law_1371 : decode code 1371 = .ok (.goto 3, 3) := dg_law_912.2.2.2.2.2.2.2.2.2.2.2.2.2.2.2.1
theorem dg_law_928 : (decode code 1374 = .ok (.iinc 3 6, 3)) ∧ (decode code 1377 = .ok (.goto (-1359), 3)) ∧ (decode code 1380 = .ok (.iconst 1, 1)) ∧ (decode code 1381 = .ok (.ireturn, 1)) ∧ True := fd_of (cc := code) [(1374, .iinc 3 6, 3), (1377, .goto (-1359), 3), (1380, .iconst 1, 1), (1381, .ireturn, 1)] (by decide +kernel)
theorem d_law_1374 : decode code 1374 = .ok (.iinc 3 6, 3) := dg_law_928.1
theorem d_law_1377 : decode code 1377 = .ok (.goto (-1359), 3) := dg_law_928.2.1
theorem d_law_1380 : decode code 1380 = .ok (.iconst 1, 1) := dg_law_928.2.2.1
theorem d_law_1381 : decode code 1381 = .ok (.ireturn, 1) := dg_law_928.2.2.2.1
