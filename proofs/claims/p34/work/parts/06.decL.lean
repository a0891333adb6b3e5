def DT_L_law_0 : List (Nat × Instr × Nat) := [(0, .new 7, 3), (3, .dup, 1), (4, .invokespecial 9, 3), (7, .astore_n 1, 1), (8, .new 10, 3), (11, .dup, 1), (12, .invokespecial 12, 3), (15, .astore_n 2, 1), (16, .iconst 0, 1), (17, .istore_n 3, 1), (18, .iload_n 3, 1), (19, .aload_n 0, 1), (20, .arraylength, 1), (21, .bipush 7, 2), (23, .isub, 1), (24, .if_icmp .gt 1193, 3), (27, .aload_n 0, 1), (28, .iload_n 3, 1), (29, .iaload, 1), (30, .bipush 63, 2), (32, .iand, 1), (33, .tableswitch 1178 0 32 #[147, 190, 233, 296, 319, 342, 355, 368, 391, 434, 477, 510, 543, 556, 589, 622, 665, 708, 721, 744, 767, 790, 823, 898, 941, 984, 1007, 1030, 1053, 1086, 1119, 1142, 1165], 147), (180, .aload_n 1, 1), (181, .aload_n 0, 1), (182, .iload_n 3, 1), (183, .iconst 1, 1), (184, .iadd, 1), (185, .iaload, 1), (186, .aload_n 0, 1), (187, .iload_n 3, 1), (188, .iconst 2, 1), (189, .iadd, 1), (190, .iaload, 1), (191, .aload_n 0, 1), (192, .iload_n 3, 1), (193, .iconst 3, 1), (194, .iadd, 1), (195, .iaload, 1), (196, .invokevirtual 13, 3), (199, .pop, 1), (200, .aload_n 2, 1), (201, .aload_n 0, 1), (202, .iload_n 3, 1), (203, .iconst 1, 1), (204, .iadd, 1), (205, .iaload, 1), (206, .aload_n 0, 1), (207, .iload_n 3, 1), (208, .iconst 2, 1), (209, .iadd, 1), (210, .iaload, 1), (211, .aload_n 0, 1), (212, .iload_n 3, 1), (213, .iconst 3, 1), (214, .iadd, 1), (215, .iaload, 1), (216, .invokevirtual 17, 3), (219, .pop, 1), (220, .goto 991, 3), (223, .aload_n 1, 1), (224, .aload_n 0, 1), (225, .iload_n 3, 1), (226, .iconst 1, 1), (227, .iadd, 1), (228, .iaload, 1), (229, .aload_n 0, 1), (230, .iload_n 3, 1), (231, .iconst 2, 1), (232, .iadd, 1), (233, .iaload, 1), (234, .aload_n 0, 1), (235, .iload_n 3, 1), (236, .iconst 3, 1), (237, .iadd, 1), (238, .iaload, 1), (239, .invokevirtual 18, 3), (242, .pop, 1), (243, .aload_n 2, 1), (244, .aload_n 0, 1), (245, .iload_n 3, 1), (246, .iconst 1, 1), (247, .iadd, 1), (248, .iaload, 1), (249, .aload_n 0, 1), (250, .iload_n 3, 1), (251, .iconst 2, 1), (252, .iadd, 1), (253, .iaload, 1), (254, .aload_n 0, 1), (255, .iload_n 3, 1), (256, .iconst 3, 1), (257, .iadd, 1), (258, .iaload, 1), (259, .invokevirtual 21, 3), (262, .pop, 1), (263, .goto 948, 3), (266, .aload_n 1, 1), (267, .aload_n 0, 1), (268, .iload_n 3, 1), (269, .iconst 1, 1)]
theorem DA_L_law_0 : DT_L_law_0.all (dtf cL_law) = true := by decide +kernel
theorem dL_law_0 : decode cL_law 0 = .ok (.new 7, 3) := dt_of DA_L_law_0 0 rfl
theorem dL_law_3 : decode cL_law 3 = .ok (.dup, 1) := dt_of DA_L_law_0 1 rfl
theorem dL_law_4 : decode cL_law 4 = .ok (.invokespecial 9, 3) := dt_of DA_L_law_0 2 rfl
theorem dL_law_7 : decode cL_law 7 = .ok (.astore_n 1, 1) := dt_of DA_L_law_0 3 rfl
theorem dL_law_8 : decode cL_law 8 = .ok (.new 10, 3) := dt_of DA_L_law_0 4 rfl
theorem dL_law_11 : decode cL_law 11 = .ok (.dup, 1) := dt_of DA_L_law_0 5 rfl
theorem dL_law_12 : decode cL_law 12 = .ok (.invokespecial 12, 3) := dt_of DA_L_law_0 6 rfl
theorem dL_law_15 : decode cL_law 15 = .ok (.astore_n 2, 1) := dt_of DA_L_law_0 7 rfl
theorem dL_law_16 : decode cL_law 16 = .ok (.iconst 0, 1) := dt_of DA_L_law_0 8 rfl
theorem dL_law_17 : decode cL_law 17 = .ok (.istore_n 3, 1) := dt_of DA_L_law_0 9 rfl
theorem dL_law_18 : decode cL_law 18 = .ok (.iload_n 3, 1) := dt_of DA_L_law_0 10 rfl
theorem dL_law_19 : decode cL_law 19 = .ok (.aload_n 0, 1) := dt_of DA_L_law_0 11 rfl
theorem dL_law_20 : decode cL_law 20 = .ok (.arraylength, 1) := dt_of DA_L_law_0 12 rfl
theorem dL_law_21 : decode cL_law 21 = .ok (.bipush 7, 2) := dt_of DA_L_law_0 13 rfl
theorem dL_law_23 : decode cL_law 23 = .ok (.isub, 1) := dt_of DA_L_law_0 14 rfl
theorem dL_law_24 : decode cL_law 24 = .ok (.if_icmp .gt 1193, 3) := dt_of DA_L_law_0 15 rfl
theorem dL_law_27 : decode cL_law 27 = .ok (.aload_n 0, 1) := dt_of DA_L_law_0 16 rfl
theorem dL_law_28 : decode cL_law 28 = .ok (.iload_n 3, 1) := dt_of DA_L_law_0 17 rfl
theorem dL_law_29 : decode cL_law 29 = .ok (.iaload, 1) := dt_of DA_L_law_0 18 rfl
theorem dL_law_30 : decode cL_law 30 = .ok (.bipush 63, 2) := dt_of DA_L_law_0 19 rfl
theorem dL_law_32 : decode cL_law 32 = .ok (.iand, 1) := dt_of DA_L_law_0 20 rfl
theorem dL_law_33 : decode cL_law 33 = .ok (.tableswitch 1178 0 32 #[147, 190, 233, 296, 319, 342, 355, 368, 391, 434, 477, 510, 543, 556, 589, 622, 665, 708, 721, 744, 767, 790, 823, 898, 941, 984, 1007, 1030, 1053, 1086, 1119, 1142, 1165], 147) := dt_of DA_L_law_0 21 rfl
theorem dL_law_180 : decode cL_law 180 = .ok (.aload_n 1, 1) := dt_of DA_L_law_0 22 rfl
theorem dL_law_181 : decode cL_law 181 = .ok (.aload_n 0, 1) := dt_of DA_L_law_0 23 rfl
theorem dL_law_182 : decode cL_law 182 = .ok (.iload_n 3, 1) := dt_of DA_L_law_0 24 rfl
theorem dL_law_183 : decode cL_law 183 = .ok (.iconst 1, 1) := dt_of DA_L_law_0 25 rfl
theorem dL_law_184 : decode cL_law 184 = .ok (.iadd, 1) := dt_of DA_L_law_0 26 rfl
theorem dL_law_185 : decode cL_law 185 = .ok (.iaload, 1) := dt_of DA_L_law_0 27 rfl
theorem dL_law_186 : decode cL_law 186 = .ok (.aload_n 0, 1) := dt_of DA_L_law_0 28 rfl
theorem dL_law_187 : decode cL_law 187 = .ok (.iload_n 3, 1) := dt_of DA_L_law_0 29 rfl
theorem dL_law_188 : decode cL_law 188 = .ok (.iconst 2, 1) := dt_of DA_L_law_0 30 rfl
theorem dL_law_189 : decode cL_law 189 = .ok (.iadd, 1) := dt_of DA_L_law_0 31 rfl
theorem dL_law_190 : decode cL_law 190 = .ok (.iaload, 1) := dt_of DA_L_law_0 32 rfl
theorem dL_law_191 : decode cL_law 191 = .ok (.aload_n 0, 1) := dt_of DA_L_law_0 33 rfl
theorem dL_law_192 : decode cL_law 192 = .ok (.iload_n 3, 1) := dt_of DA_L_law_0 34 rfl
theorem dL_law_193 : decode cL_law 193 = .ok (.iconst 3, 1) := dt_of DA_L_law_0 35 rfl
theorem dL_law_194 : decode cL_law 194 = .ok (.iadd, 1) := dt_of DA_L_law_0 36 rfl
theorem dL_law_195 : decode cL_law 195 = .ok (.iaload, 1) := dt_of DA_L_law_0 37 rfl
theorem dL_law_196 : decode cL_law 196 = .ok (.invokevirtual 13, 3) := dt_of DA_L_law_0 38 rfl
theorem dL_law_199 : decode cL_law 199 = .ok (.pop, 1) := dt_of DA_L_law_0 39 rfl
theorem dL_law_200 : decode cL_law 200 = .ok (.aload_n 2, 1) := dt_of DA_L_law_0 40 rfl
theorem dL_law_201 : decode cL_law 201 = .ok (.aload_n 0, 1) := dt_of DA_L_law_0 41 rfl
theorem dL_law_202 : decode cL_law 202 = .ok (.iload_n 3, 1) := dt_of DA_L_law_0 42 rfl
theorem dL_law_203 : decode cL_law 203 = .ok (.iconst 1, 1) := dt_of DA_L_law_0 43 rfl
theorem dL_law_204 : decode cL_law 204 = .ok (.iadd, 1) := dt_of DA_L_law_0 44 rfl
theorem dL_law_205 : decode cL_law 205 = .ok (.iaload, 1) := dt_of DA_L_law_0 45 rfl
theorem dL_law_206 : decode cL_law 206 = .ok (.aload_n 0, 1) := dt_of DA_L_law_0 46 rfl
theorem dL_law_207 : decode cL_law 207 = .ok (.iload_n 3, 1) := dt_of DA_L_law_0 47 rfl
theorem dL_law_208 : decode cL_law 208 = .ok (.iconst 2, 1) := dt_of DA_L_law_0 48 rfl
theorem dL_law_209 : decode cL_law 209 = .ok (.iadd, 1) := dt_of DA_L_law_0 49 rfl
theorem dL_law_210 : decode cL_law 210 = .ok (.iaload, 1) := dt_of DA_L_law_0 50 rfl
theorem dL_law_211 : decode cL_law 211 = .ok (.aload_n 0, 1) := dt_of DA_L_law_0 51 rfl
theorem dL_law_212 : decode cL_law 212 = .ok (.iload_n 3, 1) := dt_of DA_L_law_0 52 rfl
theorem dL_law_213 : decode cL_law 213 = .ok (.iconst 3, 1) := dt_of DA_L_law_0 53 rfl
theorem dL_law_214 : decode cL_law 214 = .ok (.iadd, 1) := dt_of DA_L_law_0 54 rfl
theorem dL_law_215 : decode cL_law 215 = .ok (.iaload, 1) := dt_of DA_L_law_0 55 rfl
theorem dL_law_216 : decode cL_law 216 = .ok (.invokevirtual 17, 3) := dt_of DA_L_law_0 56 rfl
theorem dL_law_219 : decode cL_law 219 = .ok (.pop, 1) := dt_of DA_L_law_0 57 rfl
theorem dL_law_220 : decode cL_law 220 = .ok (.goto 991, 3) := dt_of DA_L_law_0 58 rfl
theorem dL_law_223 : decode cL_law 223 = .ok (.aload_n 1, 1) := dt_of DA_L_law_0 59 rfl
theorem dL_law_224 : decode cL_law 224 = .ok (.aload_n 0, 1) := dt_of DA_L_law_0 60 rfl
theorem dL_law_225 : decode cL_law 225 = .ok (.iload_n 3, 1) := dt_of DA_L_law_0 61 rfl
theorem dL_law_226 : decode cL_law 226 = .ok (.iconst 1, 1) := dt_of DA_L_law_0 62 rfl
theorem dL_law_227 : decode cL_law 227 = .ok (.iadd, 1) := dt_of DA_L_law_0 63 rfl
theorem dL_law_228 : decode cL_law 228 = .ok (.iaload, 1) := dt_of DA_L_law_0 64 rfl
theorem dL_law_229 : decode cL_law 229 = .ok (.aload_n 0, 1) := dt_of DA_L_law_0 65 rfl
theorem dL_law_230 : decode cL_law 230 = .ok (.iload_n 3, 1) := dt_of DA_L_law_0 66 rfl
theorem dL_law_231 : decode cL_law 231 = .ok (.iconst 2, 1) := dt_of DA_L_law_0 67 rfl
theorem dL_law_232 : decode cL_law 232 = .ok (.iadd, 1) := dt_of DA_L_law_0 68 rfl
theorem dL_law_233 : decode cL_law 233 = .ok (.iaload, 1) := dt_of DA_L_law_0 69 rfl
theorem dL_law_234 : decode cL_law 234 = .ok (.aload_n 0, 1) := dt_of DA_L_law_0 70 rfl
theorem dL_law_235 : decode cL_law 235 = .ok (.iload_n 3, 1) := dt_of DA_L_law_0 71 rfl
theorem dL_law_236 : decode cL_law 236 = .ok (.iconst 3, 1) := dt_of DA_L_law_0 72 rfl
theorem dL_law_237 : decode cL_law 237 = .ok (.iadd, 1) := dt_of DA_L_law_0 73 rfl
theorem dL_law_238 : decode cL_law 238 = .ok (.iaload, 1) := dt_of DA_L_law_0 74 rfl
theorem dL_law_239 : decode cL_law 239 = .ok (.invokevirtual 18, 3) := dt_of DA_L_law_0 75 rfl
theorem dL_law_242 : decode cL_law 242 = .ok (.pop, 1) := dt_of DA_L_law_0 76 rfl
theorem dL_law_243 : decode cL_law 243 = .ok (.aload_n 2, 1) := dt_of DA_L_law_0 77 rfl
theorem dL_law_244 : decode cL_law 244 = .ok (.aload_n 0, 1) := dt_of DA_L_law_0 78 rfl
theorem dL_law_245 : decode cL_law 245 = .ok (.iload_n 3, 1) := dt_of DA_L_law_0 79 rfl
theorem dL_law_246 : decode cL_law 246 = .ok (.iconst 1, 1) := dt_of DA_L_law_0 80 rfl
theorem dL_law_247 : decode cL_law 247 = .ok (.iadd, 1) := dt_of DA_L_law_0 81 rfl
theorem dL_law_248 : decode cL_law 248 = .ok (.iaload, 1) := dt_of DA_L_law_0 82 rfl
theorem dL_law_249 : decode cL_law 249 = .ok (.aload_n 0, 1) := dt_of DA_L_law_0 83 rfl
theorem dL_law_250 : decode cL_law 250 = .ok (.iload_n 3, 1) := dt_of DA_L_law_0 84 rfl
theorem dL_law_251 : decode cL_law 251 = .ok (.iconst 2, 1) := dt_of DA_L_law_0 85 rfl
theorem dL_law_252 : decode cL_law 252 = .ok (.iadd, 1) := dt_of DA_L_law_0 86 rfl
theorem dL_law_253 : decode cL_law 253 = .ok (.iaload, 1) := dt_of DA_L_law_0 87 rfl
theorem dL_law_254 : decode cL_law 254 = .ok (.aload_n 0, 1) := dt_of DA_L_law_0 88 rfl
theorem dL_law_255 : decode cL_law 255 = .ok (.iload_n 3, 1) := dt_of DA_L_law_0 89 rfl
theorem dL_law_256 : decode cL_law 256 = .ok (.iconst 3, 1) := dt_of DA_L_law_0 90 rfl
theorem dL_law_257 : decode cL_law 257 = .ok (.iadd, 1) := dt_of DA_L_law_0 91 rfl
theorem dL_law_258 : decode cL_law 258 = .ok (.iaload, 1) := dt_of DA_L_law_0 92 rfl
theorem dL_law_259 : decode cL_law 259 = .ok (.invokevirtual 21, 3) := dt_of DA_L_law_0 93 rfl
theorem dL_law_262 : decode cL_law 262 = .ok (.pop, 1) := dt_of DA_L_law_0 94 rfl
theorem dL_law_263 : decode cL_law 263 = .ok (.goto 948, 3) := dt_of DA_L_law_0 95 rfl
theorem dL_law_266 : decode cL_law 266 = .ok (.aload_n 1, 1) := dt_of DA_L_law_0 96 rfl
theorem dL_law_267 : decode cL_law 267 = .ok (.aload_n 0, 1) := dt_of DA_L_law_0 97 rfl
theorem dL_law_268 : decode cL_law 268 = .ok (.iload_n 3, 1) := dt_of DA_L_law_0 98 rfl
theorem dL_law_269 : decode cL_law 269 = .ok (.iconst 1, 1) := dt_of DA_L_law_0 99 rfl
def DT_L_law_1 : List (Nat × Instr × Nat) := [(270, .iadd, 1), (271, .iaload, 1), (272, .aload_n 0, 1), (273, .iload_n 3, 1), (274, .iconst 2, 1), (275, .iadd, 1), (276, .iaload, 1), (277, .aload_n 0, 1), (278, .iload_n 3, 1), (279, .iconst 3, 1), (280, .iadd, 1), (281, .iaload, 1), (282, .aload_n 0, 1), (283, .iload_n 3, 1), (284, .iconst 4, 1), (285, .iadd, 1), (286, .iaload, 1), (287, .aload_n 0, 1), (288, .iload_n 3, 1), (289, .iconst 5, 1), (290, .iadd, 1), (291, .iaload, 1), (292, .invokevirtual 22, 3), (295, .pop, 1), (296, .aload_n 2, 1), (297, .aload_n 0, 1), (298, .iload_n 3, 1), (299, .iconst 1, 1), (300, .iadd, 1), (301, .iaload, 1), (302, .aload_n 0, 1), (303, .iload_n 3, 1), (304, .iconst 2, 1), (305, .iadd, 1), (306, .iaload, 1), (307, .aload_n 0, 1), (308, .iload_n 3, 1), (309, .iconst 3, 1), (310, .iadd, 1), (311, .iaload, 1), (312, .aload_n 0, 1), (313, .iload_n 3, 1), (314, .iconst 4, 1), (315, .iadd, 1), (316, .iaload, 1), (317, .aload_n 0, 1), (318, .iload_n 3, 1), (319, .iconst 5, 1), (320, .iadd, 1), (321, .iaload, 1), (322, .invokevirtual 26, 3), (325, .pop, 1), (326, .goto 885, 3), (329, .aload_n 1, 1), (330, .aload_n 0, 1), (331, .iload_n 3, 1), (332, .iconst 1, 1), (333, .iadd, 1), (334, .iaload, 1), (335, .invokevirtual 27, 3), (338, .pop, 1), (339, .aload_n 2, 1), (340, .aload_n 0, 1), (341, .iload_n 3, 1), (342, .iconst 1, 1), (343, .iadd, 1), (344, .iaload, 1), (345, .invokevirtual 31, 3), (348, .pop, 1), (349, .goto 862, 3), (352, .aload_n 1, 1), (353, .aload_n 0, 1), (354, .iload_n 3, 1), (355, .iconst 1, 1), (356, .iadd, 1), (357, .iaload, 1), (358, .invokevirtual 32, 3), (361, .pop, 1), (362, .aload_n 2, 1), (363, .aload_n 0, 1), (364, .iload_n 3, 1), (365, .iconst 1, 1), (366, .iadd, 1), (367, .iaload, 1), (368, .invokevirtual 35, 3), (371, .pop, 1), (372, .goto 839, 3), (375, .aload_n 1, 1), (376, .invokevirtual 36, 3), (379, .pop, 1), (380, .aload_n 2, 1), (381, .invokevirtual 40, 3), (384, .pop, 1), (385, .goto 826, 3), (388, .aload_n 1, 1), (389, .invokevirtual 41, 3), (392, .pop, 1), (393, .aload_n 2, 1), (394, .invokevirtual 44, 3), (397, .pop, 1)]
theorem DA_L_law_1 : DT_L_law_1.all (dtf cL_law) = true := by decide +kernel
theorem dL_law_270 : decode cL_law 270 = .ok (.iadd, 1) := dt_of DA_L_law_1 0 rfl
theorem dL_law_271 : decode cL_law 271 = .ok (.iaload, 1) := dt_of DA_L_law_1 1 rfl
theorem dL_law_272 : decode cL_law 272 = .ok (.aload_n 0, 1) := dt_of DA_L_law_1 2 rfl
theorem dL_law_273 : decode cL_law 273 = .ok (.iload_n 3, 1) := dt_of DA_L_law_1 3 rfl
theorem dL_law_274 : decode cL_law 274 = .ok (.iconst 2, 1) := dt_of DA_L_law_1 4 rfl
theorem dL_law_275 : decode cL_law 275 = .ok (.iadd, 1) := dt_of DA_L_law_1 5 rfl
theorem dL_law_276 : decode cL_law 276 = .ok (.iaload, 1) := dt_of DA_L_law_1 6 rfl
theorem dL_law_277 : decode cL_law 277 = .ok (.aload_n 0, 1) := dt_of DA_L_law_1 7 rfl
theorem dL_law_278 : decode cL_law 278 = .ok (.iload_n 3, 1) := dt_of DA_L_law_1 8 rfl
theorem dL_law_279 : decode cL_law 279 = .ok (.iconst 3, 1) := dt_of DA_L_law_1 9 rfl
theorem dL_law_280 : decode cL_law 280 = .ok (.iadd, 1) := dt_of DA_L_law_1 10 rfl
theorem dL_law_281 : decode cL_law 281 = .ok (.iaload, 1) := dt_of DA_L_law_1 11 rfl
theorem dL_law_282 : decode cL_law 282 = .ok (.aload_n 0, 1) := dt_of DA_L_law_1 12 rfl
theorem dL_law_283 : decode cL_law 283 = .ok (.iload_n 3, 1) := dt_of DA_L_law_1 13 rfl
theorem dL_law_284 : decode cL_law 284 = .ok (.iconst 4, 1) := dt_of DA_L_law_1 14 rfl
theorem dL_law_285 : decode cL_law 285 = .ok (.iadd, 1) := dt_of DA_L_law_1 15 rfl
theorem dL_law_286 : decode cL_law 286 = .ok (.iaload, 1) := dt_of DA_L_law_1 16 rfl
theorem dL_law_287 : decode cL_law 287 = .ok (.aload_n 0, 1) := dt_of DA_L_law_1 17 rfl
theorem dL_law_288 : decode cL_law 288 = .ok (.iload_n 3, 1) := dt_of DA_L_law_1 18 rfl
theorem dL_law_289 : decode cL_law 289 = .ok (.iconst 5, 1) := dt_of DA_L_law_1 19 rfl
theorem dL_law_290 : decode cL_law 290 = .ok (.iadd, 1) := dt_of DA_L_law_1 20 rfl
theorem dL_law_291 : decode cL_law 291 = .ok (.iaload, 1) := dt_of DA_L_law_1 21 rfl
theorem dL_law_292 : decode cL_law 292 = .ok (.invokevirtual 22, 3) := dt_of DA_L_law_1 22 rfl
theorem dL_law_295 : decode cL_law 295 = .ok (.pop, 1) := dt_of DA_L_law_1 23 rfl
theorem dL_law_296 : decode cL_law 296 = .ok (.aload_n 2, 1) := dt_of DA_L_law_1 24 rfl
theorem dL_law_297 : decode cL_law 297 = .ok (.aload_n 0, 1) := dt_of DA_L_law_1 25 rfl
theorem dL_law_298 : decode cL_law 298 = .ok (.iload_n 3, 1) := dt_of DA_L_law_1 26 rfl
theorem dL_law_299 : decode cL_law 299 = .ok (.iconst 1, 1) := dt_of DA_L_law_1 27 rfl
theorem dL_law_300 : decode cL_law 300 = .ok (.iadd, 1) := dt_of DA_L_law_1 28 rfl
theorem dL_law_301 : decode cL_law 301 = .ok (.iaload, 1) := dt_of DA_L_law_1 29 rfl
theorem dL_law_302 : decode cL_law 302 = .ok (.aload_n 0, 1) := dt_of DA_L_law_1 30 rfl
theorem dL_law_303 : decode cL_law 303 = .ok (.iload_n 3, 1) := dt_of DA_L_law_1 31 rfl
theorem dL_law_304 : decode cL_law 304 = .ok (.iconst 2, 1) := dt_of DA_L_law_1 32 rfl
theorem dL_law_305 : decode cL_law 305 = .ok (.iadd, 1) := dt_of DA_L_law_1 33 rfl
theorem dL_law_306 : decode cL_law 306 = .ok (.iaload, 1) := dt_of DA_L_law_1 34 rfl
theorem dL_law_307 : decode cL_law 307 = .ok (.aload_n 0, 1) := dt_of DA_L_law_1 35 rfl
theorem dL_law_308 : decode cL_law 308 = .ok (.iload_n 3, 1) := dt_of DA_L_law_1 36 rfl
theorem dL_law_309 : decode cL_law 309 = .ok (.iconst 3, 1) := dt_of DA_L_law_1 37 rfl
theorem dL_law_310 : decode cL_law 310 = .ok (.iadd, 1) := dt_of DA_L_law_1 38 rfl
theorem dL_law_311 : decode cL_law 311 = .ok (.iaload, 1) := dt_of DA_L_law_1 39 rfl
theorem dL_law_312 : decode cL_law 312 = .ok (.aload_n 0, 1) := dt_of DA_L_law_1 40 rfl
theorem dL_law_313 : decode cL_law 313 = .ok (.iload_n 3, 1) := dt_of DA_L_law_1 41 rfl
theorem dL_law_314 : decode cL_law 314 = .ok (.iconst 4, 1) := dt_of DA_L_law_1 42 rfl
theorem dL_law_315 : decode cL_law 315 = .ok (.iadd, 1) := dt_of DA_L_law_1 43 rfl
theorem dL_law_316 : decode cL_law 316 = .ok (.iaload, 1) := dt_of DA_L_law_1 44 rfl
theorem dL_law_317 : decode cL_law 317 = .ok (.aload_n 0, 1) := dt_of DA_L_law_1 45 rfl
theorem dL_law_318 : decode cL_law 318 = .ok (.iload_n 3, 1) := dt_of DA_L_law_1 46 rfl
theorem dL_law_319 : decode cL_law 319 = .ok (.iconst 5, 1) := dt_of DA_L_law_1 47 rfl
theorem dL_law_320 : decode cL_law 320 = .ok (.iadd, 1) := dt_of DA_L_law_1 48 rfl
theorem dL_law_321 : decode cL_law 321 = .ok (.iaload, 1) := dt_of DA_L_law_1 49 rfl
theorem dL_law_322 : decode cL_law 322 = .ok (.invokevirtual 26, 3) := dt_of DA_L_law_1 50 rfl
theorem dL_law_325 : decode cL_law 325 = .ok (.pop, 1) := dt_of DA_L_law_1 51 rfl
theorem dL_law_326 : decode cL_law 326 = .ok (.goto 885, 3) := dt_of DA_L_law_1 52 rfl
theorem dL_law_329 : decode cL_law 329 = .ok (.aload_n 1, 1) := dt_of DA_L_law_1 53 rfl
theorem dL_law_330 : decode cL_law 330 = .ok (.aload_n 0, 1) := dt_of DA_L_law_1 54 rfl
theorem dL_law_331 : decode cL_law 331 = .ok (.iload_n 3, 1) := dt_of DA_L_law_1 55 rfl
theorem dL_law_332 : decode cL_law 332 = .ok (.iconst 1, 1) := dt_of DA_L_law_1 56 rfl
theorem dL_law_333 : decode cL_law 333 = .ok (.iadd, 1) := dt_of DA_L_law_1 57 rfl
theorem dL_law_334 : decode cL_law 334 = .ok (.iaload, 1) := dt_of DA_L_law_1 58 rfl
theorem dL_law_335 : decode cL_law 335 = .ok (.invokevirtual 27, 3) := dt_of DA_L_law_1 59 rfl
theorem dL_law_338 : decode cL_law 338 = .ok (.pop, 1) := dt_of DA_L_law_1 60 rfl
theorem dL_law_339 : decode cL_law 339 = .ok (.aload_n 2, 1) := dt_of DA_L_law_1 61 rfl
theorem dL_law_340 : decode cL_law 340 = .ok (.aload_n 0, 1) := dt_of DA_L_law_1 62 rfl
theorem dL_law_341 : decode cL_law 341 = .ok (.iload_n 3, 1) := dt_of DA_L_law_1 63 rfl
theorem dL_law_342 : decode cL_law 342 = .ok (.iconst 1, 1) := dt_of DA_L_law_1 64 rfl
theorem dL_law_343 : decode cL_law 343 = .ok (.iadd, 1) := dt_of DA_L_law_1 65 rfl
theorem dL_law_344 : decode cL_law 344 = .ok (.iaload, 1) := dt_of DA_L_law_1 66 rfl
theorem dL_law_345 : decode cL_law 345 = .ok (.invokevirtual 31, 3) := dt_of DA_L_law_1 67 rfl
theorem dL_law_348 : decode cL_law 348 = .ok (.pop, 1) := dt_of DA_L_law_1 68 rfl
theorem dL_law_349 : decode cL_law 349 = .ok (.goto 862, 3) := dt_of DA_L_law_1 69 rfl
theorem dL_law_352 : decode cL_law 352 = .ok (.aload_n 1, 1) := dt_of DA_L_law_1 70 rfl
theorem dL_law_353 : decode cL_law 353 = .ok (.aload_n 0, 1) := dt_of DA_L_law_1 71 rfl
theorem dL_law_354 : decode cL_law 354 = .ok (.iload_n 3, 1) := dt_of DA_L_law_1 72 rfl
theorem dL_law_355 : decode cL_law 355 = .ok (.iconst 1, 1) := dt_of DA_L_law_1 73 rfl
theorem dL_law_356 : decode cL_law 356 = .ok (.iadd, 1) := dt_of DA_L_law_1 74 rfl
theorem dL_law_357 : decode cL_law 357 = .ok (.iaload, 1) := dt_of DA_L_law_1 75 rfl
theorem dL_law_358 : decode cL_law 358 = .ok (.invokevirtual 32, 3) := dt_of DA_L_law_1 76 rfl
theorem dL_law_361 : decode cL_law 361 = .ok (.pop, 1) := dt_of DA_L_law_1 77 rfl
theorem dL_law_362 : decode cL_law 362 = .ok (.aload_n 2, 1) := dt_of DA_L_law_1 78 rfl
theorem dL_law_363 : decode cL_law 363 = .ok (.aload_n 0, 1) := dt_of DA_L_law_1 79 rfl
theorem dL_law_364 : decode cL_law 364 = .ok (.iload_n 3, 1) := dt_of DA_L_law_1 80 rfl
theorem dL_law_365 : decode cL_law 365 = .ok (.iconst 1, 1) := dt_of DA_L_law_1 81 rfl
theorem dL_law_366 : decode cL_law 366 = .ok (.iadd, 1) := dt_of DA_L_law_1 82 rfl
theorem dL_law_367 : decode cL_law 367 = .ok (.iaload, 1) := dt_of DA_L_law_1 83 rfl
theorem dL_law_368 : decode cL_law 368 = .ok (.invokevirtual 35, 3) := dt_of DA_L_law_1 84 rfl
theorem dL_law_371 : decode cL_law 371 = .ok (.pop, 1) := dt_of DA_L_law_1 85 rfl
theorem dL_law_372 : decode cL_law 372 = .ok (.goto 839, 3) := dt_of DA_L_law_1 86 rfl
theorem dL_law_375 : decode cL_law 375 = .ok (.aload_n 1, 1) := dt_of DA_L_law_1 87 rfl
theorem dL_law_376 : decode cL_law 376 = .ok (.invokevirtual 36, 3) := dt_of DA_L_law_1 88 rfl
theorem dL_law_379 : decode cL_law 379 = .ok (.pop, 1) := dt_of DA_L_law_1 89 rfl
theorem dL_law_380 : decode cL_law 380 = .ok (.aload_n 2, 1) := dt_of DA_L_law_1 90 rfl
theorem dL_law_381 : decode cL_law 381 = .ok (.invokevirtual 40, 3) := dt_of DA_L_law_1 91 rfl
theorem dL_law_384 : decode cL_law 384 = .ok (.pop, 1) := dt_of DA_L_law_1 92 rfl
theorem dL_law_385 : decode cL_law 385 = .ok (.goto 826, 3) := dt_of DA_L_law_1 93 rfl
theorem dL_law_388 : decode cL_law 388 = .ok (.aload_n 1, 1) := dt_of DA_L_law_1 94 rfl
theorem dL_law_389 : decode cL_law 389 = .ok (.invokevirtual 41, 3) := dt_of DA_L_law_1 95 rfl
theorem dL_law_392 : decode cL_law 392 = .ok (.pop, 1) := dt_of DA_L_law_1 96 rfl
theorem dL_law_393 : decode cL_law 393 = .ok (.aload_n 2, 1) := dt_of DA_L_law_1 97 rfl
theorem dL_law_394 : decode cL_law 394 = .ok (.invokevirtual 44, 3) := dt_of DA_L_law_1 98 rfl
theorem dL_law_397 : decode cL_law 397 = .ok (.pop, 1) := dt_of DA_L_law_1 99 rfl
def DT_L_law_2 : List (Nat × Instr × Nat) := [(398, .goto 813, 3), (401, .aload_n 1, 1), (402, .aload_n 0, 1), (403, .iload_n 3, 1), (404, .iconst 1, 1), (405, .iadd, 1), (406, .iaload, 1), (407, .invokevirtual 45, 3), (410, .pop, 1), (411, .aload_n 2, 1), (412, .aload_n 0, 1), (413, .iload_n 3, 1), (414, .iconst 1, 1), (415, .iadd, 1), (416, .iaload, 1), (417, .invokevirtual 48, 3), (420, .pop, 1), (421, .goto 790, 3), (424, .aload_n 1, 1), (425, .aload_n 0, 1), (426, .iload_n 3, 1), (427, .iconst 1, 1), (428, .iadd, 1), (429, .iaload, 1), (430, .aload_n 0, 1), (431, .iload_n 3, 1), (432, .iconst 2, 1), (433, .iadd, 1), (434, .iaload, 1), (435, .aload_n 0, 1), (436, .iload_n 3, 1), (437, .iconst 3, 1), (438, .iadd, 1), (439, .iaload, 1), (440, .invokevirtual 49, 3), (443, .pop, 1), (444, .aload_n 2, 1), (445, .aload_n 0, 1), (446, .iload_n 3, 1), (447, .iconst 1, 1), (448, .iadd, 1), (449, .iaload, 1), (450, .aload_n 0, 1), (451, .iload_n 3, 1), (452, .iconst 2, 1), (453, .iadd, 1), (454, .iaload, 1), (455, .aload_n 0, 1), (456, .iload_n 3, 1), (457, .iconst 3, 1), (458, .iadd, 1), (459, .iaload, 1), (460, .invokevirtual 52, 3), (463, .pop, 1), (464, .goto 747, 3), (467, .aload_n 1, 1), (468, .aload_n 0, 1), (469, .iload_n 3, 1), (470, .iconst 1, 1), (471, .iadd, 1), (472, .iaload, 1), (473, .aload_n 0, 1), (474, .iload_n 3, 1), (475, .iconst 2, 1), (476, .iadd, 1), (477, .iaload, 1), (478, .aload_n 0, 1), (479, .iload_n 3, 1), (480, .iconst 3, 1), (481, .iadd, 1), (482, .iaload, 1), (483, .invokevirtual 53, 3), (486, .pop, 1), (487, .aload_n 2, 1), (488, .aload_n 0, 1), (489, .iload_n 3, 1), (490, .iconst 1, 1), (491, .iadd, 1), (492, .iaload, 1), (493, .aload_n 0, 1), (494, .iload_n 3, 1), (495, .iconst 2, 1), (496, .iadd, 1), (497, .iaload, 1), (498, .aload_n 0, 1), (499, .iload_n 3, 1), (500, .iconst 3, 1), (501, .iadd, 1), (502, .iaload, 1), (503, .invokevirtual 56, 3), (506, .pop, 1), (507, .goto 704, 3), (510, .aload_n 1, 1), (511, .aload_n 0, 1), (512, .iload_n 3, 1), (513, .iconst 1, 1), (514, .iadd, 1), (515, .iaload, 1), (516, .aload_n 0, 1), (517, .iload_n 3, 1)]
theorem DA_L_law_2 : DT_L_law_2.all (dtf cL_law) = true := by decide +kernel
theorem dL_law_398 : decode cL_law 398 = .ok (.goto 813, 3) := dt_of DA_L_law_2 0 rfl
theorem dL_law_401 : decode cL_law 401 = .ok (.aload_n 1, 1) := dt_of DA_L_law_2 1 rfl
theorem dL_law_402 : decode cL_law 402 = .ok (.aload_n 0, 1) := dt_of DA_L_law_2 2 rfl
theorem dL_law_403 : decode cL_law 403 = .ok (.iload_n 3, 1) := dt_of DA_L_law_2 3 rfl
theorem dL_law_404 : decode cL_law 404 = .ok (.iconst 1, 1) := dt_of DA_L_law_2 4 rfl
theorem dL_law_405 : decode cL_law 405 = .ok (.iadd, 1) := dt_of DA_L_law_2 5 rfl
theorem dL_law_406 : decode cL_law 406 = .ok (.iaload, 1) := dt_of DA_L_law_2 6 rfl
theorem dL_law_407 : decode cL_law 407 = .ok (.invokevirtual 45, 3) := dt_of DA_L_law_2 7 rfl
theorem dL_law_410 : decode cL_law 410 = .ok (.pop, 1) := dt_of DA_L_law_2 8 rfl
theorem dL_law_411 : decode cL_law 411 = .ok (.aload_n 2, 1) := dt_of DA_L_law_2 9 rfl
theorem dL_law_412 : decode cL_law 412 = .ok (.aload_n 0, 1) := dt_of DA_L_law_2 10 rfl
theorem dL_law_413 : decode cL_law 413 = .ok (.iload_n 3, 1) := dt_of DA_L_law_2 11 rfl
theorem dL_law_414 : decode cL_law 414 = .ok (.iconst 1, 1) := dt_of DA_L_law_2 12 rfl
theorem dL_law_415 : decode cL_law 415 = .ok (.iadd, 1) := dt_of DA_L_law_2 13 rfl
theorem dL_law_416 : decode cL_law 416 = .ok (.iaload, 1) := dt_of DA_L_law_2 14 rfl
theorem dL_law_417 : decode cL_law 417 = .ok (.invokevirtual 48, 3) := dt_of DA_L_law_2 15 rfl
theorem dL_law_420 : decode cL_law 420 = .ok (.pop, 1) := dt_of DA_L_law_2 16 rfl
theorem dL_law_421 : decode cL_law 421 = .ok (.goto 790, 3) := dt_of DA_L_law_2 17 rfl
theorem dL_law_424 : decode cL_law 424 = .ok (.aload_n 1, 1) := dt_of DA_L_law_2 18 rfl
theorem dL_law_425 : decode cL_law 425 = .ok (.aload_n 0, 1) := dt_of DA_L_law_2 19 rfl
theorem dL_law_426 : decode cL_law 426 = .ok (.iload_n 3, 1) := dt_of DA_L_law_2 20 rfl
theorem dL_law_427 : decode cL_law 427 = .ok (.iconst 1, 1) := dt_of DA_L_law_2 21 rfl
theorem dL_law_428 : decode cL_law 428 = .ok (.iadd, 1) := dt_of DA_L_law_2 22 rfl
theorem dL_law_429 : decode cL_law 429 = .ok (.iaload, 1) := dt_of DA_L_law_2 23 rfl
theorem dL_law_430 : decode cL_law 430 = .ok (.aload_n 0, 1) := dt_of DA_L_law_2 24 rfl
theorem dL_law_431 : decode cL_law 431 = .ok (.iload_n 3, 1) := dt_of DA_L_law_2 25 rfl
theorem dL_law_432 : decode cL_law 432 = .ok (.iconst 2, 1) := dt_of DA_L_law_2 26 rfl
theorem dL_law_433 : decode cL_law 433 = .ok (.iadd, 1) := dt_of DA_L_law_2 27 rfl
theorem dL_law_434 : decode cL_law 434 = .ok (.iaload, 1) := dt_of DA_L_law_2 28 rfl
theorem dL_law_435 : decode cL_law 435 = .ok (.aload_n 0, 1) := dt_of DA_L_law_2 29 rfl
theorem dL_law_436 : decode cL_law 436 = .ok (.iload_n 3, 1) := dt_of DA_L_law_2 30 rfl
theorem dL_law_437 : decode cL_law 437 = .ok (.iconst 3, 1) := dt_of DA_L_law_2 31 rfl
theorem dL_law_438 : decode cL_law 438 = .ok (.iadd, 1) := dt_of DA_L_law_2 32 rfl
theorem dL_law_439 : decode cL_law 439 = .ok (.iaload, 1) := dt_of DA_L_law_2 33 rfl
theorem dL_law_440 : decode cL_law 440 = .ok (.invokevirtual 49, 3) := dt_of DA_L_law_2 34 rfl
theorem dL_law_443 : decode cL_law 443 = .ok (.pop, 1) := dt_of DA_L_law_2 35 rfl
theorem dL_law_444 : decode cL_law 444 = .ok (.aload_n 2, 1) := dt_of DA_L_law_2 36 rfl
theorem dL_law_445 : decode cL_law 445 = .ok (.aload_n 0, 1) := dt_of DA_L_law_2 37 rfl
theorem dL_law_446 : decode cL_law 446 = .ok (.iload_n 3, 1) := dt_of DA_L_law_2 38 rfl
theorem dL_law_447 : decode cL_law 447 = .ok (.iconst 1, 1) := dt_of DA_L_law_2 39 rfl
theorem dL_law_448 : decode cL_law 448 = .ok (.iadd, 1) := dt_of DA_L_law_2 40 rfl
theorem dL_law_449 : decode cL_law 449 = .ok (.iaload, 1) := dt_of DA_L_law_2 41 rfl
theorem dL_law_450 : decode cL_law 450 = .ok (.aload_n 0, 1) := dt_of DA_L_law_2 42 rfl
theorem dL_law_451 : decode cL_law 451 = .ok (.iload_n 3, 1) := dt_of DA_L_law_2 43 rfl
theorem dL_law_452 : decode cL_law 452 = .ok (.iconst 2, 1) := dt_of DA_L_law_2 44 rfl
theorem dL_law_453 : decode cL_law 453 = .ok (.iadd, 1) := dt_of DA_L_law_2 45 rfl
theorem dL_law_454 : decode cL_law 454 = .ok (.iaload, 1) := dt_of DA_L_law_2 46 rfl
theorem dL_law_455 : decode cL_law 455 = .ok (.aload_n 0, 1) := dt_of DA_L_law_2 47 rfl
theorem dL_law_456 : decode cL_law 456 = .ok (.iload_n 3, 1) := dt_of DA_L_law_2 48 rfl
theorem dL_law_457 : decode cL_law 457 = .ok (.iconst 3, 1) := dt_of DA_L_law_2 49 rfl
theorem dL_law_458 : decode cL_law 458 = .ok (.iadd, 1) := dt_of DA_L_law_2 50 rfl
theorem dL_law_459 : decode cL_law 459 = .ok (.iaload, 1) := dt_of DA_L_law_2 51 rfl
theorem dL_law_460 : decode cL_law 460 = .ok (.invokevirtual 52, 3) := dt_of DA_L_law_2 52 rfl
theorem dL_law_463 : decode cL_law 463 = .ok (.pop, 1) := dt_of DA_L_law_2 53 rfl
theorem dL_law_464 : decode cL_law 464 = .ok (.goto 747, 3) := dt_of DA_L_law_2 54 rfl
theorem dL_law_467 : decode cL_law 467 = .ok (.aload_n 1, 1) := dt_of DA_L_law_2 55 rfl
theorem dL_law_468 : decode cL_law 468 = .ok (.aload_n 0, 1) := dt_of DA_L_law_2 56 rfl
theorem dL_law_469 : decode cL_law 469 = .ok (.iload_n 3, 1) := dt_of DA_L_law_2 57 rfl
theorem dL_law_470 : decode cL_law 470 = .ok (.iconst 1, 1) := dt_of DA_L_law_2 58 rfl
theorem dL_law_471 : decode cL_law 471 = .ok (.iadd, 1) := dt_of DA_L_law_2 59 rfl
theorem dL_law_472 : decode cL_law 472 = .ok (.iaload, 1) := dt_of DA_L_law_2 60 rfl
theorem dL_law_473 : decode cL_law 473 = .ok (.aload_n 0, 1) := dt_of DA_L_law_2 61 rfl
theorem dL_law_474 : decode cL_law 474 = .ok (.iload_n 3, 1) := dt_of DA_L_law_2 62 rfl
theorem dL_law_475 : decode cL_law 475 = .ok (.iconst 2, 1) := dt_of DA_L_law_2 63 rfl
theorem dL_law_476 : decode cL_law 476 = .ok (.iadd, 1) := dt_of DA_L_law_2 64 rfl
theorem dL_law_477 : decode cL_law 477 = .ok (.iaload, 1) := dt_of DA_L_law_2 65 rfl
theorem dL_law_478 : decode cL_law 478 = .ok (.aload_n 0, 1) := dt_of DA_L_law_2 66 rfl
theorem dL_law_479 : decode cL_law 479 = .ok (.iload_n 3, 1) := dt_of DA_L_law_2 67 rfl
theorem dL_law_480 : decode cL_law 480 = .ok (.iconst 3, 1) := dt_of DA_L_law_2 68 rfl
theorem dL_law_481 : decode cL_law 481 = .ok (.iadd, 1) := dt_of DA_L_law_2 69 rfl
theorem dL_law_482 : decode cL_law 482 = .ok (.iaload, 1) := dt_of DA_L_law_2 70 rfl
theorem dL_law_483 : decode cL_law 483 = .ok (.invokevirtual 53, 3) := dt_of DA_L_law_2 71 rfl
theorem dL_law_486 : decode cL_law 486 = .ok (.pop, 1) := dt_of DA_L_law_2 72 rfl
theorem dL_law_487 : decode cL_law 487 = .ok (.aload_n 2, 1) := dt_of DA_L_law_2 73 rfl
theorem dL_law_488 : decode cL_law 488 = .ok (.aload_n 0, 1) := dt_of DA_L_law_2 74 rfl
theorem dL_law_489 : decode cL_law 489 = .ok (.iload_n 3, 1) := dt_of DA_L_law_2 75 rfl
theorem dL_law_490 : decode cL_law 490 = .ok (.iconst 1, 1) := dt_of DA_L_law_2 76 rfl
theorem dL_law_491 : decode cL_law 491 = .ok (.iadd, 1) := dt_of DA_L_law_2 77 rfl
theorem dL_law_492 : decode cL_law 492 = .ok (.iaload, 1) := dt_of DA_L_law_2 78 rfl
theorem dL_law_493 : decode cL_law 493 = .ok (.aload_n 0, 1) := dt_of DA_L_law_2 79 rfl
theorem dL_law_494 : decode cL_law 494 = .ok (.iload_n 3, 1) := dt_of DA_L_law_2 80 rfl
theorem dL_law_495 : decode cL_law 495 = .ok (.iconst 2, 1) := dt_of DA_L_law_2 81 rfl
theorem dL_law_496 : decode cL_law 496 = .ok (.iadd, 1) := dt_of DA_L_law_2 82 rfl
theorem dL_law_497 : decode cL_law 497 = .ok (.iaload, 1) := dt_of DA_L_law_2 83 rfl
theorem dL_law_498 : decode cL_law 498 = .ok (.aload_n 0, 1) := dt_of DA_L_law_2 84 rfl
theorem dL_law_499 : decode cL_law 499 = .ok (.iload_n 3, 1) := dt_of DA_L_law_2 85 rfl
theorem dL_law_500 : decode cL_law 500 = .ok (.iconst 3, 1) := dt_of DA_L_law_2 86 rfl
theorem dL_law_501 : decode cL_law 501 = .ok (.iadd, 1) := dt_of DA_L_law_2 87 rfl
theorem dL_law_502 : decode cL_law 502 = .ok (.iaload, 1) := dt_of DA_L_law_2 88 rfl
theorem dL_law_503 : decode cL_law 503 = .ok (.invokevirtual 56, 3) := dt_of DA_L_law_2 89 rfl
theorem dL_law_506 : decode cL_law 506 = .ok (.pop, 1) := dt_of DA_L_law_2 90 rfl
theorem dL_law_507 : decode cL_law 507 = .ok (.goto 704, 3) := dt_of DA_L_law_2 91 rfl
theorem dL_law_510 : decode cL_law 510 = .ok (.aload_n 1, 1) := dt_of DA_L_law_2 92 rfl
theorem dL_law_511 : decode cL_law 511 = .ok (.aload_n 0, 1) := dt_of DA_L_law_2 93 rfl
theorem dL_law_512 : decode cL_law 512 = .ok (.iload_n 3, 1) := dt_of DA_L_law_2 94 rfl
theorem dL_law_513 : decode cL_law 513 = .ok (.iconst 1, 1) := dt_of DA_L_law_2 95 rfl
theorem dL_law_514 : decode cL_law 514 = .ok (.iadd, 1) := dt_of DA_L_law_2 96 rfl
theorem dL_law_515 : decode cL_law 515 = .ok (.iaload, 1) := dt_of DA_L_law_2 97 rfl
theorem dL_law_516 : decode cL_law 516 = .ok (.aload_n 0, 1) := dt_of DA_L_law_2 98 rfl
theorem dL_law_517 : decode cL_law 517 = .ok (.iload_n 3, 1) := dt_of DA_L_law_2 99 rfl
def DT_L_law_3 : List (Nat × Instr × Nat) := [(518, .iconst 2, 1), (519, .iadd, 1), (520, .iaload, 1), (521, .invokevirtual 57, 3), (524, .pop, 1), (525, .aload_n 2, 1), (526, .aload_n 0, 1), (527, .iload_n 3, 1), (528, .iconst 1, 1), (529, .iadd, 1), (530, .iaload, 1), (531, .aload_n 0, 1), (532, .iload_n 3, 1), (533, .iconst 2, 1), (534, .iadd, 1), (535, .iaload, 1), (536, .invokevirtual 61, 3), (539, .pop, 1), (540, .goto 671, 3), (543, .aload_n 1, 1), (544, .aload_n 0, 1), (545, .iload_n 3, 1), (546, .iconst 1, 1), (547, .iadd, 1), (548, .iaload, 1), (549, .aload_n 0, 1), (550, .iload_n 3, 1), (551, .iconst 2, 1), (552, .iadd, 1), (553, .iaload, 1), (554, .invokevirtual 62, 3), (557, .pop, 1), (558, .aload_n 2, 1), (559, .aload_n 0, 1), (560, .iload_n 3, 1), (561, .iconst 1, 1), (562, .iadd, 1), (563, .iaload, 1), (564, .aload_n 0, 1), (565, .iload_n 3, 1), (566, .iconst 2, 1), (567, .iadd, 1), (568, .iaload, 1), (569, .invokevirtual 65, 3), (572, .pop, 1), (573, .goto 638, 3), (576, .aload_n 1, 1), (577, .invokevirtual 66, 3), (580, .pop, 1), (581, .aload_n 2, 1), (582, .invokevirtual 69, 3), (585, .pop, 1), (586, .goto 625, 3), (589, .aload_n 1, 1), (590, .aload_n 0, 1), (591, .iload_n 3, 1), (592, .iconst 1, 1), (593, .iadd, 1), (594, .iaload, 1), (595, .aload_n 0, 1), (596, .iload_n 3, 1), (597, .iconst 2, 1), (598, .iadd, 1), (599, .iaload, 1), (600, .invokevirtual 70, 3), (603, .pop, 1), (604, .aload_n 2, 1), (605, .aload_n 0, 1), (606, .iload_n 3, 1), (607, .iconst 1, 1), (608, .iadd, 1), (609, .iaload, 1), (610, .aload_n 0, 1), (611, .iload_n 3, 1), (612, .iconst 2, 1), (613, .iadd, 1), (614, .iaload, 1), (615, .invokevirtual 73, 3), (618, .pop, 1), (619, .goto 592, 3), (622, .aload_n 1, 1), (623, .aload_n 0, 1), (624, .iload_n 3, 1), (625, .iconst 1, 1), (626, .iadd, 1), (627, .iaload, 1), (628, .aload_n 0, 1), (629, .iload_n 3, 1), (630, .iconst 2, 1), (631, .iadd, 1), (632, .iaload, 1), (633, .invokevirtual 74, 3), (636, .pop, 1), (637, .aload_n 2, 1), (638, .aload_n 0, 1), (639, .iload_n 3, 1), (640, .iconst 1, 1), (641, .iadd, 1), (642, .iaload, 1), (643, .aload_n 0, 1)]
theorem DA_L_law_3 : DT_L_law_3.all (dtf cL_law) = true := by decide +kernel
theorem dL_law_518 : decode cL_law 518 = .ok (.iconst 2, 1) := dt_of DA_L_law_3 0 rfl
theorem dL_law_519 : decode cL_law 519 = .ok (.iadd, 1) := dt_of DA_L_law_3 1 rfl
theorem dL_law_520 : decode cL_law 520 = .ok (.iaload, 1) := dt_of DA_L_law_3 2 rfl
theorem dL_law_521 : decode cL_law 521 = .ok (.invokevirtual 57, 3) := dt_of DA_L_law_3 3 rfl
theorem dL_law_524 : decode cL_law 524 = .ok (.pop, 1) := dt_of DA_L_law_3 4 rfl
theorem dL_law_525 : decode cL_law 525 = .ok (.aload_n 2, 1) := dt_of DA_L_law_3 5 rfl
theorem dL_law_526 : decode cL_law 526 = .ok (.aload_n 0, 1) := dt_of DA_L_law_3 6 rfl
theorem dL_law_527 : decode cL_law 527 = .ok (.iload_n 3, 1) := dt_of DA_L_law_3 7 rfl
theorem dL_law_528 : decode cL_law 528 = .ok (.iconst 1, 1) := dt_of DA_L_law_3 8 rfl
theorem dL_law_529 : decode cL_law 529 = .ok (.iadd, 1) := dt_of DA_L_law_3 9 rfl
theorem dL_law_530 : decode cL_law 530 = .ok (.iaload, 1) := dt_of DA_L_law_3 10 rfl
theorem dL_law_531 : decode cL_law 531 = .ok (.aload_n 0, 1) := dt_of DA_L_law_3 11 rfl
theorem dL_law_532 : decode cL_law 532 = .ok (.iload_n 3, 1) := dt_of DA_L_law_3 12 rfl
theorem dL_law_533 : decode cL_law 533 = .ok (.iconst 2, 1) := dt_of DA_L_law_3 13 rfl
theorem dL_law_534 : decode cL_law 534 = .ok (.iadd, 1) := dt_of DA_L_law_3 14 rfl
theorem dL_law_535 : decode cL_law 535 = .ok (.iaload, 1) := dt_of DA_L_law_3 15 rfl
theorem dL_law_536 : decode cL_law 536 = .ok (.invokevirtual 61, 3) := dt_of DA_L_law_3 16 rfl
theorem dL_law_539 : decode cL_law 539 = .ok (.pop, 1) := dt_of DA_L_law_3 17 rfl
theorem dL_law_540 : decode cL_law 540 = .ok (.goto 671, 3) := dt_of DA_L_law_3 18 rfl
theorem dL_law_543 : decode cL_law 543 = .ok (.aload_n 1, 1) := dt_of DA_L_law_3 19 rfl
theorem dL_law_544 : decode cL_law 544 = .ok (.aload_n 0, 1) := dt_of DA_L_law_3 20 rfl
theorem dL_law_545 : decode cL_law 545 = .ok (.iload_n 3, 1) := dt_of DA_L_law_3 21 rfl
theorem dL_law_546 : decode cL_law 546 = .ok (.iconst 1, 1) := dt_of DA_L_law_3 22 rfl
theorem dL_law_547 : decode cL_law 547 = .ok (.iadd, 1) := dt_of DA_L_law_3 23 rfl
theorem dL_law_548 : decode cL_law 548 = .ok (.iaload, 1) := dt_of DA_L_law_3 24 rfl
theorem dL_law_549 : decode cL_law 549 = .ok (.aload_n 0, 1) := dt_of DA_L_law_3 25 rfl
theorem dL_law_550 : decode cL_law 550 = .ok (.iload_n 3, 1) := dt_of DA_L_law_3 26 rfl
theorem dL_law_551 : decode cL_law 551 = .ok (.iconst 2, 1) := dt_of DA_L_law_3 27 rfl
theorem dL_law_552 : decode cL_law 552 = .ok (.iadd, 1) := dt_of DA_L_law_3 28 rfl
theorem dL_law_553 : decode cL_law 553 = .ok (.iaload, 1) := dt_of DA_L_law_3 29 rfl
theorem dL_law_554 : decode cL_law 554 = .ok (.invokevirtual 62, 3) := dt_of DA_L_law_3 30 rfl
theorem dL_law_557 : decode cL_law 557 = .ok (.pop, 1) := dt_of DA_L_law_3 31 rfl
theorem dL_law_558 : decode cL_law 558 = .ok (.aload_n 2, 1) := dt_of DA_L_law_3 32 rfl
theorem dL_law_559 : decode cL_law 559 = .ok (.aload_n 0, 1) := dt_of DA_L_law_3 33 rfl
theorem dL_law_560 : decode cL_law 560 = .ok (.iload_n 3, 1) := dt_of DA_L_law_3 34 rfl
theorem dL_law_561 : decode cL_law 561 = .ok (.iconst 1, 1) := dt_of DA_L_law_3 35 rfl
theorem dL_law_562 : decode cL_law 562 = .ok (.iadd, 1) := dt_of DA_L_law_3 36 rfl
theorem dL_law_563 : decode cL_law 563 = .ok (.iaload, 1) := dt_of DA_L_law_3 37 rfl
theorem dL_law_564 : decode cL_law 564 = .ok (.aload_n 0, 1) := dt_of DA_L_law_3 38 rfl
theorem dL_law_565 : decode cL_law 565 = .ok (.iload_n 3, 1) := dt_of DA_L_law_3 39 rfl
theorem dL_law_566 : decode cL_law 566 = .ok (.iconst 2, 1) := dt_of DA_L_law_3 40 rfl
theorem dL_law_567 : decode cL_law 567 = .ok (.iadd, 1) := dt_of DA_L_law_3 41 rfl
theorem dL_law_568 : decode cL_law 568 = .ok (.iaload, 1) := dt_of DA_L_law_3 42 rfl
theorem dL_law_569 : decode cL_law 569 = .ok (.invokevirtual 65, 3) := dt_of DA_L_law_3 43 rfl
theorem dL_law_572 : decode cL_law 572 = .ok (.pop, 1) := dt_of DA_L_law_3 44 rfl
theorem dL_law_573 : decode cL_law 573 = .ok (.goto 638, 3) := dt_of DA_L_law_3 45 rfl
theorem dL_law_576 : decode cL_law 576 = .ok (.aload_n 1, 1) := dt_of DA_L_law_3 46 rfl
theorem dL_law_577 : decode cL_law 577 = .ok (.invokevirtual 66, 3) := dt_of DA_L_law_3 47 rfl
theorem dL_law_580 : decode cL_law 580 = .ok (.pop, 1) := dt_of DA_L_law_3 48 rfl
theorem dL_law_581 : decode cL_law 581 = .ok (.aload_n 2, 1) := dt_of DA_L_law_3 49 rfl
theorem dL_law_582 : decode cL_law 582 = .ok (.invokevirtual 69, 3) := dt_of DA_L_law_3 50 rfl
theorem dL_law_585 : decode cL_law 585 = .ok (.pop, 1) := dt_of DA_L_law_3 51 rfl
theorem dL_law_586 : decode cL_law 586 = .ok (.goto 625, 3) := dt_of DA_L_law_3 52 rfl
theorem dL_law_589 : decode cL_law 589 = .ok (.aload_n 1, 1) := dt_of DA_L_law_3 53 rfl
theorem dL_law_590 : decode cL_law 590 = .ok (.aload_n 0, 1) := dt_of DA_L_law_3 54 rfl
theorem dL_law_591 : decode cL_law 591 = .ok (.iload_n 3, 1) := dt_of DA_L_law_3 55 rfl
theorem dL_law_592 : decode cL_law 592 = .ok (.iconst 1, 1) := dt_of DA_L_law_3 56 rfl
theorem dL_law_593 : decode cL_law 593 = .ok (.iadd, 1) := dt_of DA_L_law_3 57 rfl
theorem dL_law_594 : decode cL_law 594 = .ok (.iaload, 1) := dt_of DA_L_law_3 58 rfl
theorem dL_law_595 : decode cL_law 595 = .ok (.aload_n 0, 1) := dt_of DA_L_law_3 59 rfl
theorem dL_law_596 : decode cL_law 596 = .ok (.iload_n 3, 1) := dt_of DA_L_law_3 60 rfl
theorem dL_law_597 : decode cL_law 597 = .ok (.iconst 2, 1) := dt_of DA_L_law_3 61 rfl
theorem dL_law_598 : decode cL_law 598 = .ok (.iadd, 1) := dt_of DA_L_law_3 62 rfl
theorem dL_law_599 : decode cL_law 599 = .ok (.iaload, 1) := dt_of DA_L_law_3 63 rfl
theorem dL_law_600 : decode cL_law 600 = .ok (.invokevirtual 70, 3) := dt_of DA_L_law_3 64 rfl
theorem dL_law_603 : decode cL_law 603 = .ok (.pop, 1) := dt_of DA_L_law_3 65 rfl
theorem dL_law_604 : decode cL_law 604 = .ok (.aload_n 2, 1) := dt_of DA_L_law_3 66 rfl
theorem dL_law_605 : decode cL_law 605 = .ok (.aload_n 0, 1) := dt_of DA_L_law_3 67 rfl
theorem dL_law_606 : decode cL_law 606 = .ok (.iload_n 3, 1) := dt_of DA_L_law_3 68 rfl
theorem dL_law_607 : decode cL_law 607 = .ok (.iconst 1, 1) := dt_of DA_L_law_3 69 rfl
theorem dL_law_608 : decode cL_law 608 = .ok (.iadd, 1) := dt_of DA_L_law_3 70 rfl
theorem dL_law_609 : decode cL_law 609 = .ok (.iaload, 1) := dt_of DA_L_law_3 71 rfl
theorem dL_law_610 : decode cL_law 610 = .ok (.aload_n 0, 1) := dt_of DA_L_law_3 72 rfl
theorem dL_law_611 : decode cL_law 611 = .ok (.iload_n 3, 1) := dt_of DA_L_law_3 73 rfl
theorem dL_law_612 : decode cL_law 612 = .ok (.iconst 2, 1) := dt_of DA_L_law_3 74 rfl
theorem dL_law_613 : decode cL_law 613 = .ok (.iadd, 1) := dt_of DA_L_law_3 75 rfl
theorem dL_law_614 : decode cL_law 614 = .ok (.iaload, 1) := dt_of DA_L_law_3 76 rfl
theorem dL_law_615 : decode cL_law 615 = .ok (.invokevirtual 73, 3) := dt_of DA_L_law_3 77 rfl
theorem dL_law_618 : decode cL_law 618 = .ok (.pop, 1) := dt_of DA_L_law_3 78 rfl
theorem dL_law_619 : decode cL_law 619 = .ok (.goto 592, 3) := dt_of DA_L_law_3 79 rfl
theorem dL_law_622 : decode cL_law 622 = .ok (.aload_n 1, 1) := dt_of DA_L_law_3 80 rfl
theorem dL_law_623 : decode cL_law 623 = .ok (.aload_n 0, 1) := dt_of DA_L_law_3 81 rfl
theorem dL_law_624 : decode cL_law 624 = .ok (.iload_n 3, 1) := dt_of DA_L_law_3 82 rfl
theorem dL_law_625 : decode cL_law 625 = .ok (.iconst 1, 1) := dt_of DA_L_law_3 83 rfl
theorem dL_law_626 : decode cL_law 626 = .ok (.iadd, 1) := dt_of DA_L_law_3 84 rfl
theorem dL_law_627 : decode cL_law 627 = .ok (.iaload, 1) := dt_of DA_L_law_3 85 rfl
theorem dL_law_628 : decode cL_law 628 = .ok (.aload_n 0, 1) := dt_of DA_L_law_3 86 rfl
theorem dL_law_629 : decode cL_law 629 = .ok (.iload_n 3, 1) := dt_of DA_L_law_3 87 rfl
theorem dL_law_630 : decode cL_law 630 = .ok (.iconst 2, 1) := dt_of DA_L_law_3 88 rfl
theorem dL_law_631 : decode cL_law 631 = .ok (.iadd, 1) := dt_of DA_L_law_3 89 rfl
theorem dL_law_632 : decode cL_law 632 = .ok (.iaload, 1) := dt_of DA_L_law_3 90 rfl
theorem dL_law_633 : decode cL_law 633 = .ok (.invokevirtual 74, 3) := dt_of DA_L_law_3 91 rfl
theorem dL_law_636 : decode cL_law 636 = .ok (.pop, 1) := dt_of DA_L_law_3 92 rfl
theorem dL_law_637 : decode cL_law 637 = .ok (.aload_n 2, 1) := dt_of DA_L_law_3 93 rfl
theorem dL_law_638 : decode cL_law 638 = .ok (.aload_n 0, 1) := dt_of DA_L_law_3 94 rfl
theorem dL_law_639 : decode cL_law 639 = .ok (.iload_n 3, 1) := dt_of DA_L_law_3 95 rfl
theorem dL_law_640 : decode cL_law 640 = .ok (.iconst 1, 1) := dt_of DA_L_law_3 96 rfl
theorem dL_law_641 : decode cL_law 641 = .ok (.iadd, 1) := dt_of DA_L_law_3 97 rfl
theorem dL_law_642 : decode cL_law 642 = .ok (.iaload, 1) := dt_of DA_L_law_3 98 rfl
theorem dL_law_643 : decode cL_law 643 = .ok (.aload_n 0, 1) := dt_of DA_L_law_3 99 rfl
def DT_L_law_4 : List (Nat × Instr × Nat) := [(644, .iload_n 3, 1), (645, .iconst 2, 1), (646, .iadd, 1), (647, .iaload, 1), (648, .invokevirtual 77, 3), (651, .pop, 1), (652, .goto 559, 3), (655, .aload_n 1, 1), (656, .aload_n 0, 1), (657, .iload_n 3, 1), (658, .iconst 1, 1), (659, .iadd, 1), (660, .iaload, 1), (661, .aload_n 0, 1), (662, .iload_n 3, 1), (663, .iconst 2, 1), (664, .iadd, 1), (665, .iaload, 1), (666, .aload_n 0, 1), (667, .iload_n 3, 1), (668, .iconst 3, 1), (669, .iadd, 1), (670, .iaload, 1), (671, .invokevirtual 78, 3), (674, .pop, 1), (675, .aload_n 2, 1), (676, .aload_n 0, 1), (677, .iload_n 3, 1), (678, .iconst 1, 1), (679, .iadd, 1), (680, .iaload, 1), (681, .aload_n 0, 1), (682, .iload_n 3, 1), (683, .iconst 2, 1), (684, .iadd, 1), (685, .iaload, 1), (686, .aload_n 0, 1), (687, .iload_n 3, 1), (688, .iconst 3, 1), (689, .iadd, 1), (690, .iaload, 1), (691, .invokevirtual 81, 3), (694, .pop, 1), (695, .goto 516, 3), (698, .aload_n 1, 1), (699, .aload_n 0, 1), (700, .iload_n 3, 1), (701, .iconst 1, 1), (702, .iadd, 1), (703, .iaload, 1), (704, .aload_n 0, 1), (705, .iload_n 3, 1), (706, .iconst 2, 1), (707, .iadd, 1), (708, .iaload, 1), (709, .aload_n 0, 1), (710, .iload_n 3, 1), (711, .iconst 3, 1), (712, .iadd, 1), (713, .iaload, 1), (714, .invokevirtual 82, 3), (717, .pop, 1), (718, .aload_n 2, 1), (719, .aload_n 0, 1), (720, .iload_n 3, 1), (721, .iconst 1, 1), (722, .iadd, 1), (723, .iaload, 1), (724, .aload_n 0, 1), (725, .iload_n 3, 1), (726, .iconst 2, 1), (727, .iadd, 1), (728, .iaload, 1), (729, .aload_n 0, 1), (730, .iload_n 3, 1), (731, .iconst 3, 1), (732, .iadd, 1), (733, .iaload, 1), (734, .invokevirtual 85, 3), (737, .pop, 1), (738, .goto 473, 3), (741, .aload_n 1, 1), (742, .invokevirtual 86, 3), (745, .pop, 1), (746, .aload_n 2, 1), (747, .invokevirtual 89, 3), (750, .pop, 1), (751, .goto 460, 3), (754, .aload_n 1, 1), (755, .aload_n 0, 1), (756, .iload_n 3, 1), (757, .iconst 1, 1), (758, .iadd, 1), (759, .iaload, 1), (760, .invokevirtual 90, 3), (763, .pop, 1), (764, .aload_n 2, 1), (765, .aload_n 0, 1), (766, .iload_n 3, 1), (767, .iconst 1, 1)]
theorem DA_L_law_4 : DT_L_law_4.all (dtf cL_law) = true := by decide +kernel
theorem dL_law_644 : decode cL_law 644 = .ok (.iload_n 3, 1) := dt_of DA_L_law_4 0 rfl
theorem dL_law_645 : decode cL_law 645 = .ok (.iconst 2, 1) := dt_of DA_L_law_4 1 rfl
theorem dL_law_646 : decode cL_law 646 = .ok (.iadd, 1) := dt_of DA_L_law_4 2 rfl
theorem dL_law_647 : decode cL_law 647 = .ok (.iaload, 1) := dt_of DA_L_law_4 3 rfl
theorem dL_law_648 : decode cL_law 648 = .ok (.invokevirtual 77, 3) := dt_of DA_L_law_4 4 rfl
theorem dL_law_651 : decode cL_law 651 = .ok (.pop, 1) := dt_of DA_L_law_4 5 rfl
theorem dL_law_652 : decode cL_law 652 = .ok (.goto 559, 3) := dt_of DA_L_law_4 6 rfl
theorem dL_law_655 : decode cL_law 655 = .ok (.aload_n 1, 1) := dt_of DA_L_law_4 7 rfl
theorem dL_law_656 : decode cL_law 656 = .ok (.aload_n 0, 1) := dt_of DA_L_law_4 8 rfl
theorem dL_law_657 : decode cL_law 657 = .ok (.iload_n 3, 1) := dt_of DA_L_law_4 9 rfl
theorem dL_law_658 : decode cL_law 658 = .ok (.iconst 1, 1) := dt_of DA_L_law_4 10 rfl
theorem dL_law_659 : decode cL_law 659 = .ok (.iadd, 1) := dt_of DA_L_law_4 11 rfl
theorem dL_law_660 : decode cL_law 660 = .ok (.iaload, 1) := dt_of DA_L_law_4 12 rfl
theorem dL_law_661 : decode cL_law 661 = .ok (.aload_n 0, 1) := dt_of DA_L_law_4 13 rfl
theorem dL_law_662 : decode cL_law 662 = .ok (.iload_n 3, 1) := dt_of DA_L_law_4 14 rfl
theorem dL_law_663 : decode cL_law 663 = .ok (.iconst 2, 1) := dt_of DA_L_law_4 15 rfl
theorem dL_law_664 : decode cL_law 664 = .ok (.iadd, 1) := dt_of DA_L_law_4 16 rfl
theorem dL_law_665 : decode cL_law 665 = .ok (.iaload, 1) := dt_of DA_L_law_4 17 rfl
theorem dL_law_666 : decode cL_law 666 = .ok (.aload_n 0, 1) := dt_of DA_L_law_4 18 rfl
theorem dL_law_667 : decode cL_law 667 = .ok (.iload_n 3, 1) := dt_of DA_L_law_4 19 rfl
theorem dL_law_668 : decode cL_law 668 = .ok (.iconst 3, 1) := dt_of DA_L_law_4 20 rfl
theorem dL_law_669 : decode cL_law 669 = .ok (.iadd, 1) := dt_of DA_L_law_4 21 rfl
theorem dL_law_670 : decode cL_law 670 = .ok (.iaload, 1) := dt_of DA_L_law_4 22 rfl
theorem dL_law_671 : decode cL_law 671 = .ok (.invokevirtual 78, 3) := dt_of DA_L_law_4 23 rfl
theorem dL_law_674 : decode cL_law 674 = .ok (.pop, 1) := dt_of DA_L_law_4 24 rfl
theorem dL_law_675 : decode cL_law 675 = .ok (.aload_n 2, 1) := dt_of DA_L_law_4 25 rfl
theorem dL_law_676 : decode cL_law 676 = .ok (.aload_n 0, 1) := dt_of DA_L_law_4 26 rfl
theorem dL_law_677 : decode cL_law 677 = .ok (.iload_n 3, 1) := dt_of DA_L_law_4 27 rfl
theorem dL_law_678 : decode cL_law 678 = .ok (.iconst 1, 1) := dt_of DA_L_law_4 28 rfl
theorem dL_law_679 : decode cL_law 679 = .ok (.iadd, 1) := dt_of DA_L_law_4 29 rfl
theorem dL_law_680 : decode cL_law 680 = .ok (.iaload, 1) := dt_of DA_L_law_4 30 rfl
theorem dL_law_681 : decode cL_law 681 = .ok (.aload_n 0, 1) := dt_of DA_L_law_4 31 rfl
theorem dL_law_682 : decode cL_law 682 = .ok (.iload_n 3, 1) := dt_of DA_L_law_4 32 rfl
theorem dL_law_683 : decode cL_law 683 = .ok (.iconst 2, 1) := dt_of DA_L_law_4 33 rfl
theorem dL_law_684 : decode cL_law 684 = .ok (.iadd, 1) := dt_of DA_L_law_4 34 rfl
theorem dL_law_685 : decode cL_law 685 = .ok (.iaload, 1) := dt_of DA_L_law_4 35 rfl
theorem dL_law_686 : decode cL_law 686 = .ok (.aload_n 0, 1) := dt_of DA_L_law_4 36 rfl
theorem dL_law_687 : decode cL_law 687 = .ok (.iload_n 3, 1) := dt_of DA_L_law_4 37 rfl
theorem dL_law_688 : decode cL_law 688 = .ok (.iconst 3, 1) := dt_of DA_L_law_4 38 rfl
theorem dL_law_689 : decode cL_law 689 = .ok (.iadd, 1) := dt_of DA_L_law_4 39 rfl
theorem dL_law_690 : decode cL_law 690 = .ok (.iaload, 1) := dt_of DA_L_law_4 40 rfl
theorem dL_law_691 : decode cL_law 691 = .ok (.invokevirtual 81, 3) := dt_of DA_L_law_4 41 rfl
theorem dL_law_694 : decode cL_law 694 = .ok (.pop, 1) := dt_of DA_L_law_4 42 rfl
theorem dL_law_695 : decode cL_law 695 = .ok (.goto 516, 3) := dt_of DA_L_law_4 43 rfl
theorem dL_law_698 : decode cL_law 698 = .ok (.aload_n 1, 1) := dt_of DA_L_law_4 44 rfl
theorem dL_law_699 : decode cL_law 699 = .ok (.aload_n 0, 1) := dt_of DA_L_law_4 45 rfl
theorem dL_law_700 : decode cL_law 700 = .ok (.iload_n 3, 1) := dt_of DA_L_law_4 46 rfl
theorem dL_law_701 : decode cL_law 701 = .ok (.iconst 1, 1) := dt_of DA_L_law_4 47 rfl
theorem dL_law_702 : decode cL_law 702 = .ok (.iadd, 1) := dt_of DA_L_law_4 48 rfl
theorem dL_law_703 : decode cL_law 703 = .ok (.iaload, 1) := dt_of DA_L_law_4 49 rfl
theorem dL_law_704 : decode cL_law 704 = .ok (.aload_n 0, 1) := dt_of DA_L_law_4 50 rfl
theorem dL_law_705 : decode cL_law 705 = .ok (.iload_n 3, 1) := dt_of DA_L_law_4 51 rfl
theorem dL_law_706 : decode cL_law 706 = .ok (.iconst 2, 1) := dt_of DA_L_law_4 52 rfl
theorem dL_law_707 : decode cL_law 707 = .ok (.iadd, 1) := dt_of DA_L_law_4 53 rfl
theorem dL_law_708 : decode cL_law 708 = .ok (.iaload, 1) := dt_of DA_L_law_4 54 rfl
theorem dL_law_709 : decode cL_law 709 = .ok (.aload_n 0, 1) := dt_of DA_L_law_4 55 rfl
theorem dL_law_710 : decode cL_law 710 = .ok (.iload_n 3, 1) := dt_of DA_L_law_4 56 rfl
theorem dL_law_711 : decode cL_law 711 = .ok (.iconst 3, 1) := dt_of DA_L_law_4 57 rfl
theorem dL_law_712 : decode cL_law 712 = .ok (.iadd, 1) := dt_of DA_L_law_4 58 rfl
theorem dL_law_713 : decode cL_law 713 = .ok (.iaload, 1) := dt_of DA_L_law_4 59 rfl
theorem dL_law_714 : decode cL_law 714 = .ok (.invokevirtual 82, 3) := dt_of DA_L_law_4 60 rfl
theorem dL_law_717 : decode cL_law 717 = .ok (.pop, 1) := dt_of DA_L_law_4 61 rfl
theorem dL_law_718 : decode cL_law 718 = .ok (.aload_n 2, 1) := dt_of DA_L_law_4 62 rfl
theorem dL_law_719 : decode cL_law 719 = .ok (.aload_n 0, 1) := dt_of DA_L_law_4 63 rfl
theorem dL_law_720 : decode cL_law 720 = .ok (.iload_n 3, 1) := dt_of DA_L_law_4 64 rfl
theorem dL_law_721 : decode cL_law 721 = .ok (.iconst 1, 1) := dt_of DA_L_law_4 65 rfl
theorem dL_law_722 : decode cL_law 722 = .ok (.iadd, 1) := dt_of DA_L_law_4 66 rfl
theorem dL_law_723 : decode cL_law 723 = .ok (.iaload, 1) := dt_of DA_L_law_4 67 rfl
theorem dL_law_724 : decode cL_law 724 = .ok (.aload_n 0, 1) := dt_of DA_L_law_4 68 rfl
theorem dL_law_725 : decode cL_law 725 = .ok (.iload_n 3, 1) := dt_of DA_L_law_4 69 rfl
theorem dL_law_726 : decode cL_law 726 = .ok (.iconst 2, 1) := dt_of DA_L_law_4 70 rfl
theorem dL_law_727 : decode cL_law 727 = .ok (.iadd, 1) := dt_of DA_L_law_4 71 rfl
theorem dL_law_728 : decode cL_law 728 = .ok (.iaload, 1) := dt_of DA_L_law_4 72 rfl
theorem dL_law_729 : decode cL_law 729 = .ok (.aload_n 0, 1) := dt_of DA_L_law_4 73 rfl
theorem dL_law_730 : decode cL_law 730 = .ok (.iload_n 3, 1) := dt_of DA_L_law_4 74 rfl
theorem dL_law_731 : decode cL_law 731 = .ok (.iconst 3, 1) := dt_of DA_L_law_4 75 rfl
theorem dL_law_732 : decode cL_law 732 = .ok (.iadd, 1) := dt_of DA_L_law_4 76 rfl
theorem dL_law_733 : decode cL_law 733 = .ok (.iaload, 1) := dt_of DA_L_law_4 77 rfl
theorem dL_law_734 : decode cL_law 734 = .ok (.invokevirtual 85, 3) := dt_of DA_L_law_4 78 rfl
theorem dL_law_737 : decode cL_law 737 = .ok (.pop, 1) := dt_of DA_L_law_4 79 rfl
theorem dL_law_738 : decode cL_law 738 = .ok (.goto 473, 3) := dt_of DA_L_law_4 80 rfl
theorem dL_law_741 : decode cL_law 741 = .ok (.aload_n 1, 1) := dt_of DA_L_law_4 81 rfl
theorem dL_law_742 : decode cL_law 742 = .ok (.invokevirtual 86, 3) := dt_of DA_L_law_4 82 rfl
theorem dL_law_745 : decode cL_law 745 = .ok (.pop, 1) := dt_of DA_L_law_4 83 rfl
theorem dL_law_746 : decode cL_law 746 = .ok (.aload_n 2, 1) := dt_of DA_L_law_4 84 rfl
theorem dL_law_747 : decode cL_law 747 = .ok (.invokevirtual 89, 3) := dt_of DA_L_law_4 85 rfl
theorem dL_law_750 : decode cL_law 750 = .ok (.pop, 1) := dt_of DA_L_law_4 86 rfl
theorem dL_law_751 : decode cL_law 751 = .ok (.goto 460, 3) := dt_of DA_L_law_4 87 rfl
theorem dL_law_754 : decode cL_law 754 = .ok (.aload_n 1, 1) := dt_of DA_L_law_4 88 rfl
theorem dL_law_755 : decode cL_law 755 = .ok (.aload_n 0, 1) := dt_of DA_L_law_4 89 rfl
theorem dL_law_756 : decode cL_law 756 = .ok (.iload_n 3, 1) := dt_of DA_L_law_4 90 rfl
theorem dL_law_757 : decode cL_law 757 = .ok (.iconst 1, 1) := dt_of DA_L_law_4 91 rfl
theorem dL_law_758 : decode cL_law 758 = .ok (.iadd, 1) := dt_of DA_L_law_4 92 rfl
theorem dL_law_759 : decode cL_law 759 = .ok (.iaload, 1) := dt_of DA_L_law_4 93 rfl
theorem dL_law_760 : decode cL_law 760 = .ok (.invokevirtual 90, 3) := dt_of DA_L_law_4 94 rfl
theorem dL_law_763 : decode cL_law 763 = .ok (.pop, 1) := dt_of DA_L_law_4 95 rfl
theorem dL_law_764 : decode cL_law 764 = .ok (.aload_n 2, 1) := dt_of DA_L_law_4 96 rfl
theorem dL_law_765 : decode cL_law 765 = .ok (.aload_n 0, 1) := dt_of DA_L_law_4 97 rfl
theorem dL_law_766 : decode cL_law 766 = .ok (.iload_n 3, 1) := dt_of DA_L_law_4 98 rfl
theorem dL_law_767 : decode cL_law 767 = .ok (.iconst 1, 1) := dt_of DA_L_law_4 99 rfl
def DT_L_law_5 : List (Nat × Instr × Nat) := [(768, .iadd, 1), (769, .iaload, 1), (770, .invokevirtual 93, 3), (773, .pop, 1), (774, .goto 437, 3), (777, .aload_n 1, 1), (778, .aload_n 0, 1), (779, .iload_n 3, 1), (780, .iconst 1, 1), (781, .iadd, 1), (782, .iaload, 1), (783, .invokevirtual 94, 3), (786, .pop, 1), (787, .aload_n 2, 1), (788, .aload_n 0, 1), (789, .iload_n 3, 1), (790, .iconst 1, 1), (791, .iadd, 1), (792, .iaload, 1), (793, .invokevirtual 97, 3), (796, .pop, 1), (797, .goto 414, 3), (800, .aload_n 1, 1), (801, .aload_n 0, 1), (802, .iload_n 3, 1), (803, .iconst 1, 1), (804, .iadd, 1), (805, .iaload, 1), (806, .invokevirtual 98, 3), (809, .pop, 1), (810, .aload_n 2, 1), (811, .aload_n 0, 1), (812, .iload_n 3, 1), (813, .iconst 1, 1), (814, .iadd, 1), (815, .iaload, 1), (816, .invokevirtual 101, 3), (819, .pop, 1), (820, .goto 391, 3), (823, .aload_n 1, 1), (824, .aload_n 0, 1), (825, .iload_n 3, 1), (826, .iconst 1, 1), (827, .iadd, 1), (828, .iaload, 1), (829, .aload_n 0, 1), (830, .iload_n 3, 1), (831, .iconst 2, 1), (832, .iadd, 1), (833, .iaload, 1), (834, .invokevirtual 102, 3), (837, .pop, 1), (838, .aload_n 2, 1), (839, .aload_n 0, 1), (840, .iload_n 3, 1), (841, .iconst 1, 1), (842, .iadd, 1), (843, .iaload, 1), (844, .aload_n 0, 1), (845, .iload_n 3, 1), (846, .iconst 2, 1), (847, .iadd, 1), (848, .iaload, 1), (849, .invokevirtual 105, 3), (852, .pop, 1), (853, .goto 358, 3), (856, .aload_n 1, 1), (857, .aload_n 0, 1), (858, .iload_n 3, 1), (859, .iconst 1, 1), (860, .iadd, 1), (861, .iaload, 1), (862, .aload_n 0, 1), (863, .iload_n 3, 1), (864, .iconst 2, 1), (865, .iadd, 1), (866, .iaload, 1), (867, .aload_n 0, 1), (868, .iload_n 3, 1), (869, .iconst 3, 1), (870, .iadd, 1), (871, .iaload, 1), (872, .aload_n 0, 1), (873, .iload_n 3, 1), (874, .iconst 4, 1), (875, .iadd, 1), (876, .iaload, 1), (877, .aload_n 0, 1), (878, .iload_n 3, 1), (879, .iconst 5, 1), (880, .iadd, 1), (881, .iaload, 1), (882, .aload_n 0, 1), (883, .iload_n 3, 1), (884, .bipush 6, 2), (886, .iadd, 1), (887, .iaload, 1), (888, .invokevirtual 106, 3), (891, .pop, 1), (892, .aload_n 2, 1)]
theorem DA_L_law_5 : DT_L_law_5.all (dtf cL_law) = true := by decide +kernel
theorem dL_law_768 : decode cL_law 768 = .ok (.iadd, 1) := dt_of DA_L_law_5 0 rfl
theorem dL_law_769 : decode cL_law 769 = .ok (.iaload, 1) := dt_of DA_L_law_5 1 rfl
theorem dL_law_770 : decode cL_law 770 = .ok (.invokevirtual 93, 3) := dt_of DA_L_law_5 2 rfl
theorem dL_law_773 : decode cL_law 773 = .ok (.pop, 1) := dt_of DA_L_law_5 3 rfl
theorem dL_law_774 : decode cL_law 774 = .ok (.goto 437, 3) := dt_of DA_L_law_5 4 rfl
theorem dL_law_777 : decode cL_law 777 = .ok (.aload_n 1, 1) := dt_of DA_L_law_5 5 rfl
theorem dL_law_778 : decode cL_law 778 = .ok (.aload_n 0, 1) := dt_of DA_L_law_5 6 rfl
theorem dL_law_779 : decode cL_law 779 = .ok (.iload_n 3, 1) := dt_of DA_L_law_5 7 rfl
theorem dL_law_780 : decode cL_law 780 = .ok (.iconst 1, 1) := dt_of DA_L_law_5 8 rfl
theorem dL_law_781 : decode cL_law 781 = .ok (.iadd, 1) := dt_of DA_L_law_5 9 rfl
theorem dL_law_782 : decode cL_law 782 = .ok (.iaload, 1) := dt_of DA_L_law_5 10 rfl
theorem dL_law_783 : decode cL_law 783 = .ok (.invokevirtual 94, 3) := dt_of DA_L_law_5 11 rfl
theorem dL_law_786 : decode cL_law 786 = .ok (.pop, 1) := dt_of DA_L_law_5 12 rfl
theorem dL_law_787 : decode cL_law 787 = .ok (.aload_n 2, 1) := dt_of DA_L_law_5 13 rfl
theorem dL_law_788 : decode cL_law 788 = .ok (.aload_n 0, 1) := dt_of DA_L_law_5 14 rfl
theorem dL_law_789 : decode cL_law 789 = .ok (.iload_n 3, 1) := dt_of DA_L_law_5 15 rfl
theorem dL_law_790 : decode cL_law 790 = .ok (.iconst 1, 1) := dt_of DA_L_law_5 16 rfl
theorem dL_law_791 : decode cL_law 791 = .ok (.iadd, 1) := dt_of DA_L_law_5 17 rfl
theorem dL_law_792 : decode cL_law 792 = .ok (.iaload, 1) := dt_of DA_L_law_5 18 rfl
theorem dL_law_793 : decode cL_law 793 = .ok (.invokevirtual 97, 3) := dt_of DA_L_law_5 19 rfl
theorem dL_law_796 : decode cL_law 796 = .ok (.pop, 1) := dt_of DA_L_law_5 20 rfl
theorem dL_law_797 : decode cL_law 797 = .ok (.goto 414, 3) := dt_of DA_L_law_5 21 rfl
theorem dL_law_800 : decode cL_law 800 = .ok (.aload_n 1, 1) := dt_of DA_L_law_5 22 rfl
theorem dL_law_801 : decode cL_law 801 = .ok (.aload_n 0, 1) := dt_of DA_L_law_5 23 rfl
theorem dL_law_802 : decode cL_law 802 = .ok (.iload_n 3, 1) := dt_of DA_L_law_5 24 rfl
theorem dL_law_803 : decode cL_law 803 = .ok (.iconst 1, 1) := dt_of DA_L_law_5 25 rfl
theorem dL_law_804 : decode cL_law 804 = .ok (.iadd, 1) := dt_of DA_L_law_5 26 rfl
theorem dL_law_805 : decode cL_law 805 = .ok (.iaload, 1) := dt_of DA_L_law_5 27 rfl
theorem dL_law_806 : decode cL_law 806 = .ok (.invokevirtual 98, 3) := dt_of DA_L_law_5 28 rfl
theorem dL_law_809 : decode cL_law 809 = .ok (.pop, 1) := dt_of DA_L_law_5 29 rfl
theorem dL_law_810 : decode cL_law 810 = .ok (.aload_n 2, 1) := dt_of DA_L_law_5 30 rfl
theorem dL_law_811 : decode cL_law 811 = .ok (.aload_n 0, 1) := dt_of DA_L_law_5 31 rfl
theorem dL_law_812 : decode cL_law 812 = .ok (.iload_n 3, 1) := dt_of DA_L_law_5 32 rfl
theorem dL_law_813 : decode cL_law 813 = .ok (.iconst 1, 1) := dt_of DA_L_law_5 33 rfl
theorem dL_law_814 : decode cL_law 814 = .ok (.iadd, 1) := dt_of DA_L_law_5 34 rfl
theorem dL_law_815 : decode cL_law 815 = .ok (.iaload, 1) := dt_of DA_L_law_5 35 rfl
theorem dL_law_816 : decode cL_law 816 = .ok (.invokevirtual 101, 3) := dt_of DA_L_law_5 36 rfl
theorem dL_law_819 : decode cL_law 819 = .ok (.pop, 1) := dt_of DA_L_law_5 37 rfl
theorem dL_law_820 : decode cL_law 820 = .ok (.goto 391, 3) := dt_of DA_L_law_5 38 rfl
theorem dL_law_823 : decode cL_law 823 = .ok (.aload_n 1, 1) := dt_of DA_L_law_5 39 rfl
theorem dL_law_824 : decode cL_law 824 = .ok (.aload_n 0, 1) := dt_of DA_L_law_5 40 rfl
theorem dL_law_825 : decode cL_law 825 = .ok (.iload_n 3, 1) := dt_of DA_L_law_5 41 rfl
theorem dL_law_826 : decode cL_law 826 = .ok (.iconst 1, 1) := dt_of DA_L_law_5 42 rfl
theorem dL_law_827 : decode cL_law 827 = .ok (.iadd, 1) := dt_of DA_L_law_5 43 rfl
theorem dL_law_828 : decode cL_law 828 = .ok (.iaload, 1) := dt_of DA_L_law_5 44 rfl
theorem dL_law_829 : decode cL_law 829 = .ok (.aload_n 0, 1) := dt_of DA_L_law_5 45 rfl
theorem dL_law_830 : decode cL_law 830 = .ok (.iload_n 3, 1) := dt_of DA_L_law_5 46 rfl
theorem dL_law_831 : decode cL_law 831 = .ok (.iconst 2, 1) := dt_of DA_L_law_5 47 rfl
theorem dL_law_832 : decode cL_law 832 = .ok (.iadd, 1) := dt_of DA_L_law_5 48 rfl
theorem dL_law_833 : decode cL_law 833 = .ok (.iaload, 1) := dt_of DA_L_law_5 49 rfl
theorem dL_law_834 : decode cL_law 834 = .ok (.invokevirtual 102, 3) := dt_of DA_L_law_5 50 rfl
theorem dL_law_837 : decode cL_law 837 = .ok (.pop, 1) := dt_of DA_L_law_5 51 rfl
theorem dL_law_838 : decode cL_law 838 = .ok (.aload_n 2, 1) := dt_of DA_L_law_5 52 rfl
theorem dL_law_839 : decode cL_law 839 = .ok (.aload_n 0, 1) := dt_of DA_L_law_5 53 rfl
theorem dL_law_840 : decode cL_law 840 = .ok (.iload_n 3, 1) := dt_of DA_L_law_5 54 rfl
theorem dL_law_841 : decode cL_law 841 = .ok (.iconst 1, 1) := dt_of DA_L_law_5 55 rfl
theorem dL_law_842 : decode cL_law 842 = .ok (.iadd, 1) := dt_of DA_L_law_5 56 rfl
theorem dL_law_843 : decode cL_law 843 = .ok (.iaload, 1) := dt_of DA_L_law_5 57 rfl
theorem dL_law_844 : decode cL_law 844 = .ok (.aload_n 0, 1) := dt_of DA_L_law_5 58 rfl
theorem dL_law_845 : decode cL_law 845 = .ok (.iload_n 3, 1) := dt_of DA_L_law_5 59 rfl
theorem dL_law_846 : decode cL_law 846 = .ok (.iconst 2, 1) := dt_of DA_L_law_5 60 rfl
theorem dL_law_847 : decode cL_law 847 = .ok (.iadd, 1) := dt_of DA_L_law_5 61 rfl
theorem dL_law_848 : decode cL_law 848 = .ok (.iaload, 1) := dt_of DA_L_law_5 62 rfl
theorem dL_law_849 : decode cL_law 849 = .ok (.invokevirtual 105, 3) := dt_of DA_L_law_5 63 rfl
theorem dL_law_852 : decode cL_law 852 = .ok (.pop, 1) := dt_of DA_L_law_5 64 rfl
theorem dL_law_853 : decode cL_law 853 = .ok (.goto 358, 3) := dt_of DA_L_law_5 65 rfl
theorem dL_law_856 : decode cL_law 856 = .ok (.aload_n 1, 1) := dt_of DA_L_law_5 66 rfl
theorem dL_law_857 : decode cL_law 857 = .ok (.aload_n 0, 1) := dt_of DA_L_law_5 67 rfl
theorem dL_law_858 : decode cL_law 858 = .ok (.iload_n 3, 1) := dt_of DA_L_law_5 68 rfl
theorem dL_law_859 : decode cL_law 859 = .ok (.iconst 1, 1) := dt_of DA_L_law_5 69 rfl
theorem dL_law_860 : decode cL_law 860 = .ok (.iadd, 1) := dt_of DA_L_law_5 70 rfl
theorem dL_law_861 : decode cL_law 861 = .ok (.iaload, 1) := dt_of DA_L_law_5 71 rfl
theorem dL_law_862 : decode cL_law 862 = .ok (.aload_n 0, 1) := dt_of DA_L_law_5 72 rfl
theorem dL_law_863 : decode cL_law 863 = .ok (.iload_n 3, 1) := dt_of DA_L_law_5 73 rfl
theorem dL_law_864 : decode cL_law 864 = .ok (.iconst 2, 1) := dt_of DA_L_law_5 74 rfl
theorem dL_law_865 : decode cL_law 865 = .ok (.iadd, 1) := dt_of DA_L_law_5 75 rfl
theorem dL_law_866 : decode cL_law 866 = .ok (.iaload, 1) := dt_of DA_L_law_5 76 rfl
theorem dL_law_867 : decode cL_law 867 = .ok (.aload_n 0, 1) := dt_of DA_L_law_5 77 rfl
theorem dL_law_868 : decode cL_law 868 = .ok (.iload_n 3, 1) := dt_of DA_L_law_5 78 rfl
theorem dL_law_869 : decode cL_law 869 = .ok (.iconst 3, 1) := dt_of DA_L_law_5 79 rfl
theorem dL_law_870 : decode cL_law 870 = .ok (.iadd, 1) := dt_of DA_L_law_5 80 rfl
theorem dL_law_871 : decode cL_law 871 = .ok (.iaload, 1) := dt_of DA_L_law_5 81 rfl
theorem dL_law_872 : decode cL_law 872 = .ok (.aload_n 0, 1) := dt_of DA_L_law_5 82 rfl
theorem dL_law_873 : decode cL_law 873 = .ok (.iload_n 3, 1) := dt_of DA_L_law_5 83 rfl
theorem dL_law_874 : decode cL_law 874 = .ok (.iconst 4, 1) := dt_of DA_L_law_5 84 rfl
theorem dL_law_875 : decode cL_law 875 = .ok (.iadd, 1) := dt_of DA_L_law_5 85 rfl
theorem dL_law_876 : decode cL_law 876 = .ok (.iaload, 1) := dt_of DA_L_law_5 86 rfl
theorem dL_law_877 : decode cL_law 877 = .ok (.aload_n 0, 1) := dt_of DA_L_law_5 87 rfl
theorem dL_law_878 : decode cL_law 878 = .ok (.iload_n 3, 1) := dt_of DA_L_law_5 88 rfl
theorem dL_law_879 : decode cL_law 879 = .ok (.iconst 5, 1) := dt_of DA_L_law_5 89 rfl
theorem dL_law_880 : decode cL_law 880 = .ok (.iadd, 1) := dt_of DA_L_law_5 90 rfl
theorem dL_law_881 : decode cL_law 881 = .ok (.iaload, 1) := dt_of DA_L_law_5 91 rfl
theorem dL_law_882 : decode cL_law 882 = .ok (.aload_n 0, 1) := dt_of DA_L_law_5 92 rfl
theorem dL_law_883 : decode cL_law 883 = .ok (.iload_n 3, 1) := dt_of DA_L_law_5 93 rfl
theorem dL_law_884 : decode cL_law 884 = .ok (.bipush 6, 2) := dt_of DA_L_law_5 94 rfl
theorem dL_law_886 : decode cL_law 886 = .ok (.iadd, 1) := dt_of DA_L_law_5 95 rfl
theorem dL_law_887 : decode cL_law 887 = .ok (.iaload, 1) := dt_of DA_L_law_5 96 rfl
theorem dL_law_888 : decode cL_law 888 = .ok (.invokevirtual 106, 3) := dt_of DA_L_law_5 97 rfl
theorem dL_law_891 : decode cL_law 891 = .ok (.pop, 1) := dt_of DA_L_law_5 98 rfl
theorem dL_law_892 : decode cL_law 892 = .ok (.aload_n 2, 1) := dt_of DA_L_law_5 99 rfl
def DT_L_law_6 : List (Nat × Instr × Nat) := [(893, .aload_n 0, 1), (894, .iload_n 3, 1), (895, .iconst 1, 1), (896, .iadd, 1), (897, .iaload, 1), (898, .aload_n 0, 1), (899, .iload_n 3, 1), (900, .iconst 2, 1), (901, .iadd, 1), (902, .iaload, 1), (903, .aload_n 0, 1), (904, .iload_n 3, 1), (905, .iconst 3, 1), (906, .iadd, 1), (907, .iaload, 1), (908, .aload_n 0, 1), (909, .iload_n 3, 1), (910, .iconst 4, 1), (911, .iadd, 1), (912, .iaload, 1), (913, .aload_n 0, 1), (914, .iload_n 3, 1), (915, .iconst 5, 1), (916, .iadd, 1), (917, .iaload, 1), (918, .aload_n 0, 1), (919, .iload_n 3, 1), (920, .bipush 6, 2), (922, .iadd, 1), (923, .iaload, 1), (924, .invokevirtual 110, 3), (927, .pop, 1), (928, .goto 283, 3), (931, .aload_n 1, 1), (932, .aload_n 0, 1), (933, .iload_n 3, 1), (934, .iconst 1, 1), (935, .iadd, 1), (936, .iaload, 1), (937, .aload_n 0, 1), (938, .iload_n 3, 1), (939, .iconst 2, 1), (940, .iadd, 1), (941, .iaload, 1), (942, .aload_n 0, 1), (943, .iload_n 3, 1), (944, .iconst 3, 1), (945, .iadd, 1), (946, .iaload, 1), (947, .invokevirtual 111, 3), (950, .pop, 1), (951, .aload_n 2, 1), (952, .aload_n 0, 1), (953, .iload_n 3, 1), (954, .iconst 1, 1), (955, .iadd, 1), (956, .iaload, 1), (957, .aload_n 0, 1), (958, .iload_n 3, 1), (959, .iconst 2, 1), (960, .iadd, 1), (961, .iaload, 1), (962, .aload_n 0, 1), (963, .iload_n 3, 1), (964, .iconst 3, 1), (965, .iadd, 1), (966, .iaload, 1), (967, .invokevirtual 114, 3), (970, .pop, 1), (971, .goto 240, 3), (974, .aload_n 1, 1), (975, .aload_n 0, 1), (976, .iload_n 3, 1), (977, .iconst 1, 1), (978, .iadd, 1), (979, .iaload, 1), (980, .aload_n 0, 1), (981, .iload_n 3, 1), (982, .iconst 2, 1), (983, .iadd, 1), (984, .iaload, 1), (985, .aload_n 0, 1), (986, .iload_n 3, 1), (987, .iconst 3, 1), (988, .iadd, 1), (989, .iaload, 1), (990, .invokevirtual 115, 3), (993, .pop, 1), (994, .aload_n 2, 1), (995, .aload_n 0, 1), (996, .iload_n 3, 1), (997, .iconst 1, 1), (998, .iadd, 1), (999, .iaload, 1), (1000, .aload_n 0, 1), (1001, .iload_n 3, 1), (1002, .iconst 2, 1), (1003, .iadd, 1), (1004, .iaload, 1), (1005, .aload_n 0, 1)]
theorem DA_L_law_6 : DT_L_law_6.all (dtf cL_law) = true := by decide +kernel
theorem dL_law_893 : decode cL_law 893 = .ok (.aload_n 0, 1) := dt_of DA_L_law_6 0 rfl
theorem dL_law_894 : decode cL_law 894 = .ok (.iload_n 3, 1) := dt_of DA_L_law_6 1 rfl
theorem dL_law_895 : decode cL_law 895 = .ok (.iconst 1, 1) := dt_of DA_L_law_6 2 rfl
theorem dL_law_896 : decode cL_law 896 = .ok (.iadd, 1) := dt_of DA_L_law_6 3 rfl
theorem dL_law_897 : decode cL_law 897 = .ok (.iaload, 1) := dt_of DA_L_law_6 4 rfl
theorem dL_law_898 : decode cL_law 898 = .ok (.aload_n 0, 1) := dt_of DA_L_law_6 5 rfl
theorem dL_law_899 : decode cL_law 899 = .ok (.iload_n 3, 1) := dt_of DA_L_law_6 6 rfl
theorem dL_law_900 : decode cL_law 900 = .ok (.iconst 2, 1) := dt_of DA_L_law_6 7 rfl
theorem dL_law_901 : decode cL_law 901 = .ok (.iadd, 1) := dt_of DA_L_law_6 8 rfl
theorem dL_law_902 : decode cL_law 902 = .ok (.iaload, 1) := dt_of DA_L_law_6 9 rfl
theorem dL_law_903 : decode cL_law 903 = .ok (.aload_n 0, 1) := dt_of DA_L_law_6 10 rfl
theorem dL_law_904 : decode cL_law 904 = .ok (.iload_n 3, 1) := dt_of DA_L_law_6 11 rfl
theorem dL_law_905 : decode cL_law 905 = .ok (.iconst 3, 1) := dt_of DA_L_law_6 12 rfl
theorem dL_law_906 : decode cL_law 906 = .ok (.iadd, 1) := dt_of DA_L_law_6 13 rfl
theorem dL_law_907 : decode cL_law 907 = .ok (.iaload, 1) := dt_of DA_L_law_6 14 rfl
theorem dL_law_908 : decode cL_law 908 = .ok (.aload_n 0, 1) := dt_of DA_L_law_6 15 rfl
theorem dL_law_909 : decode cL_law 909 = .ok (.iload_n 3, 1) := dt_of DA_L_law_6 16 rfl
theorem dL_law_910 : decode cL_law 910 = .ok (.iconst 4, 1) := dt_of DA_L_law_6 17 rfl
theorem dL_law_911 : decode cL_law 911 = .ok (.iadd, 1) := dt_of DA_L_law_6 18 rfl
theorem dL_law_912 : decode cL_law 912 = .ok (.iaload, 1) := dt_of DA_L_law_6 19 rfl
theorem dL_law_913 : decode cL_law 913 = .ok (.aload_n 0, 1) := dt_of DA_L_law_6 20 rfl
theorem dL_law_914 : decode cL_law 914 = .ok (.iload_n 3, 1) := dt_of DA_L_law_6 21 rfl
theorem dL_law_915 : decode cL_law 915 = .ok (.iconst 5, 1) := dt_of DA_L_law_6 22 rfl
theorem dL_law_916 : decode cL_law 916 = .ok (.iadd, 1) := dt_of DA_L_law_6 23 rfl
theorem dL_law_917 : decode cL_law 917 = .ok (.iaload, 1) := dt_of DA_L_law_6 24 rfl
theorem dL_law_918 : decode cL_law 918 = .ok (.aload_n 0, 1) := dt_of DA_L_law_6 25 rfl
theorem dL_law_919 : decode cL_law 919 = .ok (.iload_n 3, 1) := dt_of DA_L_law_6 26 rfl
theorem dL_law_920 : decode cL_law 920 = .ok (.bipush 6, 2) := dt_of DA_L_law_6 27 rfl
theorem dL_law_922 : decode cL_law 922 = .ok (.iadd, 1) := dt_of DA_L_law_6 28 rfl
theorem dL_law_923 : decode cL_law 923 = .ok (.iaload, 1) := dt_of DA_L_law_6 29 rfl
theorem dL_law_924 : decode cL_law 924 = .ok (.invokevirtual 110, 3) := dt_of DA_L_law_6 30 rfl
theorem dL_law_927 : decode cL_law 927 = .ok (.pop, 1) := dt_of DA_L_law_6 31 rfl
theorem dL_law_928 : decode cL_law 928 = .ok (.goto 283, 3) := dt_of DA_L_law_6 32 rfl
theorem dL_law_931 : decode cL_law 931 = .ok (.aload_n 1, 1) := dt_of DA_L_law_6 33 rfl
theorem dL_law_932 : decode cL_law 932 = .ok (.aload_n 0, 1) := dt_of DA_L_law_6 34 rfl
theorem dL_law_933 : decode cL_law 933 = .ok (.iload_n 3, 1) := dt_of DA_L_law_6 35 rfl
theorem dL_law_934 : decode cL_law 934 = .ok (.iconst 1, 1) := dt_of DA_L_law_6 36 rfl
theorem dL_law_935 : decode cL_law 935 = .ok (.iadd, 1) := dt_of DA_L_law_6 37 rfl
theorem dL_law_936 : decode cL_law 936 = .ok (.iaload, 1) := dt_of DA_L_law_6 38 rfl
theorem dL_law_937 : decode cL_law 937 = .ok (.aload_n 0, 1) := dt_of DA_L_law_6 39 rfl
theorem dL_law_938 : decode cL_law 938 = .ok (.iload_n 3, 1) := dt_of DA_L_law_6 40 rfl
theorem dL_law_939 : decode cL_law 939 = .ok (.iconst 2, 1) := dt_of DA_L_law_6 41 rfl
theorem dL_law_940 : decode cL_law 940 = .ok (.iadd, 1) := dt_of DA_L_law_6 42 rfl
theorem dL_law_941 : decode cL_law 941 = .ok (.iaload, 1) := dt_of DA_L_law_6 43 rfl
theorem dL_law_942 : decode cL_law 942 = .ok (.aload_n 0, 1) := dt_of DA_L_law_6 44 rfl
theorem dL_law_943 : decode cL_law 943 = .ok (.iload_n 3, 1) := dt_of DA_L_law_6 45 rfl
theorem dL_law_944 : decode cL_law 944 = .ok (.iconst 3, 1) := dt_of DA_L_law_6 46 rfl
theorem dL_law_945 : decode cL_law 945 = .ok (.iadd, 1) := dt_of DA_L_law_6 47 rfl
theorem dL_law_946 : decode cL_law 946 = .ok (.iaload, 1) := dt_of DA_L_law_6 48 rfl
theorem dL_law_947 : decode cL_law 947 = .ok (.invokevirtual 111, 3) := dt_of DA_L_law_6 49 rfl
theorem dL_law_950 : decode cL_law 950 = .ok (.pop, 1) := dt_of DA_L_law_6 50 rfl
theorem dL_law_951 : decode cL_law 951 = .ok (.aload_n 2, 1) := dt_of DA_L_law_6 51 rfl
theorem dL_law_952 : decode cL_law 952 = .ok (.aload_n 0, 1) := dt_of DA_L_law_6 52 rfl
theorem dL_law_953 : decode cL_law 953 = .ok (.iload_n 3, 1) := dt_of DA_L_law_6 53 rfl
theorem dL_law_954 : decode cL_law 954 = .ok (.iconst 1, 1) := dt_of DA_L_law_6 54 rfl
theorem dL_law_955 : decode cL_law 955 = .ok (.iadd, 1) := dt_of DA_L_law_6 55 rfl
theorem dL_law_956 : decode cL_law 956 = .ok (.iaload, 1) := dt_of DA_L_law_6 56 rfl
theorem dL_law_957 : decode cL_law 957 = .ok (.aload_n 0, 1) := dt_of DA_L_law_6 57 rfl
theorem dL_law_958 : decode cL_law 958 = .ok (.iload_n 3, 1) := dt_of DA_L_law_6 58 rfl
theorem dL_law_959 : decode cL_law 959 = .ok (.iconst 2, 1) := dt_of DA_L_law_6 59 rfl
theorem dL_law_960 : decode cL_law 960 = .ok (.iadd, 1) := dt_of DA_L_law_6 60 rfl
theorem dL_law_961 : decode cL_law 961 = .ok (.iaload, 1) := dt_of DA_L_law_6 61 rfl
theorem dL_law_962 : decode cL_law 962 = .ok (.aload_n 0, 1) := dt_of DA_L_law_6 62 rfl
theorem dL_law_963 : decode cL_law 963 = .ok (.iload_n 3, 1) := dt_of DA_L_law_6 63 rfl
theorem dL_law_964 : decode cL_law 964 = .ok (.iconst 3, 1) := dt_of DA_L_law_6 64 rfl
theorem dL_law_965 : decode cL_law 965 = .ok (.iadd, 1) := dt_of DA_L_law_6 65 rfl
theorem dL_law_966 : decode cL_law 966 = .ok (.iaload, 1) := dt_of DA_L_law_6 66 rfl
theorem dL_law_967 : decode cL_law 967 = .ok (.invokevirtual 114, 3) := dt_of DA_L_law_6 67 rfl
theorem dL_law_970 : decode cL_law 970 = .ok (.pop, 1) := dt_of DA_L_law_6 68 rfl
theorem dL_law_971 : decode cL_law 971 = .ok (.goto 240, 3) := dt_of DA_L_law_6 69 rfl
theorem dL_law_974 : decode cL_law 974 = .ok (.aload_n 1, 1) := dt_of DA_L_law_6 70 rfl
theorem dL_law_975 : decode cL_law 975 = .ok (.aload_n 0, 1) := dt_of DA_L_law_6 71 rfl
theorem dL_law_976 : decode cL_law 976 = .ok (.iload_n 3, 1) := dt_of DA_L_law_6 72 rfl
theorem dL_law_977 : decode cL_law 977 = .ok (.iconst 1, 1) := dt_of DA_L_law_6 73 rfl
theorem dL_law_978 : decode cL_law 978 = .ok (.iadd, 1) := dt_of DA_L_law_6 74 rfl
theorem dL_law_979 : decode cL_law 979 = .ok (.iaload, 1) := dt_of DA_L_law_6 75 rfl
theorem dL_law_980 : decode cL_law 980 = .ok (.aload_n 0, 1) := dt_of DA_L_law_6 76 rfl
theorem dL_law_981 : decode cL_law 981 = .ok (.iload_n 3, 1) := dt_of DA_L_law_6 77 rfl
theorem dL_law_982 : decode cL_law 982 = .ok (.iconst 2, 1) := dt_of DA_L_law_6 78 rfl
theorem dL_law_983 : decode cL_law 983 = .ok (.iadd, 1) := dt_of DA_L_law_6 79 rfl
theorem dL_law_984 : decode cL_law 984 = .ok (.iaload, 1) := dt_of DA_L_law_6 80 rfl
theorem dL_law_985 : decode cL_law 985 = .ok (.aload_n 0, 1) := dt_of DA_L_law_6 81 rfl
theorem dL_law_986 : decode cL_law 986 = .ok (.iload_n 3, 1) := dt_of DA_L_law_6 82 rfl
theorem dL_law_987 : decode cL_law 987 = .ok (.iconst 3, 1) := dt_of DA_L_law_6 83 rfl
theorem dL_law_988 : decode cL_law 988 = .ok (.iadd, 1) := dt_of DA_L_law_6 84 rfl
theorem dL_law_989 : decode cL_law 989 = .ok (.iaload, 1) := dt_of DA_L_law_6 85 rfl
theorem dL_law_990 : decode cL_law 990 = .ok (.invokevirtual 115, 3) := dt_of DA_L_law_6 86 rfl
theorem dL_law_993 : decode cL_law 993 = .ok (.pop, 1) := dt_of DA_L_law_6 87 rfl
theorem dL_law_994 : decode cL_law 994 = .ok (.aload_n 2, 1) := dt_of DA_L_law_6 88 rfl
theorem dL_law_995 : decode cL_law 995 = .ok (.aload_n 0, 1) := dt_of DA_L_law_6 89 rfl
theorem dL_law_996 : decode cL_law 996 = .ok (.iload_n 3, 1) := dt_of DA_L_law_6 90 rfl
theorem dL_law_997 : decode cL_law 997 = .ok (.iconst 1, 1) := dt_of DA_L_law_6 91 rfl
theorem dL_law_998 : decode cL_law 998 = .ok (.iadd, 1) := dt_of DA_L_law_6 92 rfl
theorem dL_law_999 : decode cL_law 999 = .ok (.iaload, 1) := dt_of DA_L_law_6 93 rfl
theorem dL_law_1000 : decode cL_law 1000 = .ok (.aload_n 0, 1) := dt_of DA_L_law_6 94 rfl
theorem dL_law_1001 : decode cL_law 1001 = .ok (.iload_n 3, 1) := dt_of DA_L_law_6 95 rfl
theorem dL_law_1002 : decode cL_law 1002 = .ok (.iconst 2, 1) := dt_of DA_L_law_6 96 rfl
theorem dL_law_1003 : decode cL_law 1003 = .ok (.iadd, 1) := dt_of DA_L_law_6 97 rfl
theorem dL_law_1004 : decode cL_law 1004 = .ok (.iaload, 1) := dt_of DA_L_law_6 98 rfl
theorem dL_law_1005 : decode cL_law 1005 = .ok (.aload_n 0, 1) := dt_of DA_L_law_6 99 rfl
def DT_L_law_7 : List (Nat × Instr × Nat) := [(1006, .iload_n 3, 1), (1007, .iconst 3, 1), (1008, .iadd, 1), (1009, .iaload, 1), (1010, .invokevirtual 118, 3), (1013, .pop, 1), (1014, .goto 197, 3), (1017, .aload_n 1, 1), (1018, .aload_n 0, 1), (1019, .iload_n 3, 1), (1020, .iconst 1, 1), (1021, .iadd, 1), (1022, .iaload, 1), (1023, .invokevirtual 119, 3), (1026, .pop, 1), (1027, .aload_n 2, 1), (1028, .aload_n 0, 1), (1029, .iload_n 3, 1), (1030, .iconst 1, 1), (1031, .iadd, 1), (1032, .iaload, 1), (1033, .invokevirtual 122, 3), (1036, .pop, 1), (1037, .goto 174, 3), (1040, .aload_n 1, 1), (1041, .aload_n 0, 1), (1042, .iload_n 3, 1), (1043, .iconst 1, 1), (1044, .iadd, 1), (1045, .iaload, 1), (1046, .invokevirtual 123, 3), (1049, .pop, 1), (1050, .aload_n 2, 1), (1051, .aload_n 0, 1), (1052, .iload_n 3, 1), (1053, .iconst 1, 1), (1054, .iadd, 1), (1055, .iaload, 1), (1056, .invokevirtual 126, 3), (1059, .pop, 1), (1060, .goto 151, 3), (1063, .aload_n 1, 1), (1064, .aload_n 0, 1), (1065, .iload_n 3, 1), (1066, .iconst 1, 1), (1067, .iadd, 1), (1068, .iaload, 1), (1069, .invokevirtual 127, 3), (1072, .pop, 1), (1073, .aload_n 2, 1), (1074, .aload_n 0, 1), (1075, .iload_n 3, 1), (1076, .iconst 1, 1), (1077, .iadd, 1), (1078, .iaload, 1), (1079, .invokevirtual 130, 3), (1082, .pop, 1), (1083, .goto 128, 3), (1086, .aload_n 1, 1), (1087, .aload_n 0, 1), (1088, .iload_n 3, 1), (1089, .iconst 1, 1), (1090, .iadd, 1), (1091, .iaload, 1), (1092, .aload_n 0, 1), (1093, .iload_n 3, 1), (1094, .iconst 2, 1), (1095, .iadd, 1), (1096, .iaload, 1), (1097, .invokevirtual 131, 3), (1100, .pop, 1), (1101, .aload_n 2, 1), (1102, .aload_n 0, 1), (1103, .iload_n 3, 1), (1104, .iconst 1, 1), (1105, .iadd, 1), (1106, .iaload, 1), (1107, .aload_n 0, 1), (1108, .iload_n 3, 1), (1109, .iconst 2, 1), (1110, .iadd, 1), (1111, .iaload, 1), (1112, .invokevirtual 134, 3), (1115, .pop, 1), (1116, .goto 95, 3), (1119, .aload_n 1, 1), (1120, .aload_n 0, 1), (1121, .iload_n 3, 1), (1122, .iconst 1, 1), (1123, .iadd, 1), (1124, .iaload, 1), (1125, .aload_n 0, 1), (1126, .iload_n 3, 1), (1127, .iconst 2, 1), (1128, .iadd, 1), (1129, .iaload, 1), (1130, .invokevirtual 135, 3), (1133, .pop, 1), (1134, .aload_n 2, 1), (1135, .aload_n 0, 1)]
theorem DA_L_law_7 : DT_L_law_7.all (dtf cL_law) = true := by decide +kernel
theorem dL_law_1006 : decode cL_law 1006 = .ok (.iload_n 3, 1) := dt_of DA_L_law_7 0 rfl
theorem dL_law_1007 : decode cL_law 1007 = .ok (.iconst 3, 1) := dt_of DA_L_law_7 1 rfl
theorem dL_law_1008 : decode cL_law 1008 = .ok (.iadd, 1) := dt_of DA_L_law_7 2 rfl
theorem dL_law_1009 : decode cL_law 1009 = .ok (.iaload, 1) := dt_of DA_L_law_7 3 rfl
theorem dL_law_1010 : decode cL_law 1010 = .ok (.invokevirtual 118, 3) := dt_of DA_L_law_7 4 rfl
theorem dL_law_1013 : decode cL_law 1013 = .ok (.pop, 1) := dt_of DA_L_law_7 5 rfl
theorem dL_law_1014 : decode cL_law 1014 = .ok (.goto 197, 3) := dt_of DA_L_law_7 6 rfl
theorem dL_law_1017 : decode cL_law 1017 = .ok (.aload_n 1, 1) := dt_of DA_L_law_7 7 rfl
theorem dL_law_1018 : decode cL_law 1018 = .ok (.aload_n 0, 1) := dt_of DA_L_law_7 8 rfl
theorem dL_law_1019 : decode cL_law 1019 = .ok (.iload_n 3, 1) := dt_of DA_L_law_7 9 rfl
theorem dL_law_1020 : decode cL_law 1020 = .ok (.iconst 1, 1) := dt_of DA_L_law_7 10 rfl
theorem dL_law_1021 : decode cL_law 1021 = .ok (.iadd, 1) := dt_of DA_L_law_7 11 rfl
theorem dL_law_1022 : decode cL_law 1022 = .ok (.iaload, 1) := dt_of DA_L_law_7 12 rfl
theorem dL_law_1023 : decode cL_law 1023 = .ok (.invokevirtual 119, 3) := dt_of DA_L_law_7 13 rfl
theorem dL_law_1026 : decode cL_law 1026 = .ok (.pop, 1) := dt_of DA_L_law_7 14 rfl
theorem dL_law_1027 : decode cL_law 1027 = .ok (.aload_n 2, 1) := dt_of DA_L_law_7 15 rfl
theorem dL_law_1028 : decode cL_law 1028 = .ok (.aload_n 0, 1) := dt_of DA_L_law_7 16 rfl
theorem dL_law_1029 : decode cL_law 1029 = .ok (.iload_n 3, 1) := dt_of DA_L_law_7 17 rfl
theorem dL_law_1030 : decode cL_law 1030 = .ok (.iconst 1, 1) := dt_of DA_L_law_7 18 rfl
theorem dL_law_1031 : decode cL_law 1031 = .ok (.iadd, 1) := dt_of DA_L_law_7 19 rfl
theorem dL_law_1032 : decode cL_law 1032 = .ok (.iaload, 1) := dt_of DA_L_law_7 20 rfl
theorem dL_law_1033 : decode cL_law 1033 = .ok (.invokevirtual 122, 3) := dt_of DA_L_law_7 21 rfl
theorem dL_law_1036 : decode cL_law 1036 = .ok (.pop, 1) := dt_of DA_L_law_7 22 rfl
theorem dL_law_1037 : decode cL_law 1037 = .ok (.goto 174, 3) := dt_of DA_L_law_7 23 rfl
theorem dL_law_1040 : decode cL_law 1040 = .ok (.aload_n 1, 1) := dt_of DA_L_law_7 24 rfl
theorem dL_law_1041 : decode cL_law 1041 = .ok (.aload_n 0, 1) := dt_of DA_L_law_7 25 rfl
theorem dL_law_1042 : decode cL_law 1042 = .ok (.iload_n 3, 1) := dt_of DA_L_law_7 26 rfl
theorem dL_law_1043 : decode cL_law 1043 = .ok (.iconst 1, 1) := dt_of DA_L_law_7 27 rfl
theorem dL_law_1044 : decode cL_law 1044 = .ok (.iadd, 1) := dt_of DA_L_law_7 28 rfl
theorem dL_law_1045 : decode cL_law 1045 = .ok (.iaload, 1) := dt_of DA_L_law_7 29 rfl
theorem dL_law_1046 : decode cL_law 1046 = .ok (.invokevirtual 123, 3) := dt_of DA_L_law_7 30 rfl
theorem dL_law_1049 : decode cL_law 1049 = .ok (.pop, 1) := dt_of DA_L_law_7 31 rfl
theorem dL_law_1050 : decode cL_law 1050 = .ok (.aload_n 2, 1) := dt_of DA_L_law_7 32 rfl
theorem dL_law_1051 : decode cL_law 1051 = .ok (.aload_n 0, 1) := dt_of DA_L_law_7 33 rfl
theorem dL_law_1052 : decode cL_law 1052 = .ok (.iload_n 3, 1) := dt_of DA_L_law_7 34 rfl
theorem dL_law_1053 : decode cL_law 1053 = .ok (.iconst 1, 1) := dt_of DA_L_law_7 35 rfl
theorem dL_law_1054 : decode cL_law 1054 = .ok (.iadd, 1) := dt_of DA_L_law_7 36 rfl
theorem dL_law_1055 : decode cL_law 1055 = .ok (.iaload, 1) := dt_of DA_L_law_7 37 rfl
theorem dL_law_1056 : decode cL_law 1056 = .ok (.invokevirtual 126, 3) := dt_of DA_L_law_7 38 rfl
theorem dL_law_1059 : decode cL_law 1059 = .ok (.pop, 1) := dt_of DA_L_law_7 39 rfl
theorem dL_law_1060 : decode cL_law 1060 = .ok (.goto 151, 3) := dt_of DA_L_law_7 40 rfl
theorem dL_law_1063 : decode cL_law 1063 = .ok (.aload_n 1, 1) := dt_of DA_L_law_7 41 rfl
theorem dL_law_1064 : decode cL_law 1064 = .ok (.aload_n 0, 1) := dt_of DA_L_law_7 42 rfl
theorem dL_law_1065 : decode cL_law 1065 = .ok (.iload_n 3, 1) := dt_of DA_L_law_7 43 rfl
theorem dL_law_1066 : decode cL_law 1066 = .ok (.iconst 1, 1) := dt_of DA_L_law_7 44 rfl
theorem dL_law_1067 : decode cL_law 1067 = .ok (.iadd, 1) := dt_of DA_L_law_7 45 rfl
theorem dL_law_1068 : decode cL_law 1068 = .ok (.iaload, 1) := dt_of DA_L_law_7 46 rfl
theorem dL_law_1069 : decode cL_law 1069 = .ok (.invokevirtual 127, 3) := dt_of DA_L_law_7 47 rfl
theorem dL_law_1072 : decode cL_law 1072 = .ok (.pop, 1) := dt_of DA_L_law_7 48 rfl
theorem dL_law_1073 : decode cL_law 1073 = .ok (.aload_n 2, 1) := dt_of DA_L_law_7 49 rfl
theorem dL_law_1074 : decode cL_law 1074 = .ok (.aload_n 0, 1) := dt_of DA_L_law_7 50 rfl
theorem dL_law_1075 : decode cL_law 1075 = .ok (.iload_n 3, 1) := dt_of DA_L_law_7 51 rfl
theorem dL_law_1076 : decode cL_law 1076 = .ok (.iconst 1, 1) := dt_of DA_L_law_7 52 rfl
theorem dL_law_1077 : decode cL_law 1077 = .ok (.iadd, 1) := dt_of DA_L_law_7 53 rfl
theorem dL_law_1078 : decode cL_law 1078 = .ok (.iaload, 1) := dt_of DA_L_law_7 54 rfl
theorem dL_law_1079 : decode cL_law 1079 = .ok (.invokevirtual 130, 3) := dt_of DA_L_law_7 55 rfl
theorem dL_law_1082 : decode cL_law 1082 = .ok (.pop, 1) := dt_of DA_L_law_7 56 rfl
theorem dL_law_1083 : decode cL_law 1083 = .ok (.goto 128, 3) := dt_of DA_L_law_7 57 rfl
theorem dL_law_1086 : decode cL_law 1086 = .ok (.aload_n 1, 1) := dt_of DA_L_law_7 58 rfl
theorem dL_law_1087 : decode cL_law 1087 = .ok (.aload_n 0, 1) := dt_of DA_L_law_7 59 rfl
theorem dL_law_1088 : decode cL_law 1088 = .ok (.iload_n 3, 1) := dt_of DA_L_law_7 60 rfl
theorem dL_law_1089 : decode cL_law 1089 = .ok (.iconst 1, 1) := dt_of DA_L_law_7 61 rfl
theorem dL_law_1090 : decode cL_law 1090 = .ok (.iadd, 1) := dt_of DA_L_law_7 62 rfl
theorem dL_law_1091 : decode cL_law 1091 = .ok (.iaload, 1) := dt_of DA_L_law_7 63 rfl
theorem dL_law_1092 : decode cL_law 1092 = .ok (.aload_n 0, 1) := dt_of DA_L_law_7 64 rfl
theorem dL_law_1093 : decode cL_law 1093 = .ok (.iload_n 3, 1) := dt_of DA_L_law_7 65 rfl
theorem dL_law_1094 : decode cL_law 1094 = .ok (.iconst 2, 1) := dt_of DA_L_law_7 66 rfl
theorem dL_law_1095 : decode cL_law 1095 = .ok (.iadd, 1) := dt_of DA_L_law_7 67 rfl
theorem dL_law_1096 : decode cL_law 1096 = .ok (.iaload, 1) := dt_of DA_L_law_7 68 rfl
theorem dL_law_1097 : decode cL_law 1097 = .ok (.invokevirtual 131, 3) := dt_of DA_L_law_7 69 rfl
theorem dL_law_1100 : decode cL_law 1100 = .ok (.pop, 1) := dt_of DA_L_law_7 70 rfl
theorem dL_law_1101 : decode cL_law 1101 = .ok (.aload_n 2, 1) := dt_of DA_L_law_7 71 rfl
theorem dL_law_1102 : decode cL_law 1102 = .ok (.aload_n 0, 1) := dt_of DA_L_law_7 72 rfl
theorem dL_law_1103 : decode cL_law 1103 = .ok (.iload_n 3, 1) := dt_of DA_L_law_7 73 rfl
theorem dL_law_1104 : decode cL_law 1104 = .ok (.iconst 1, 1) := dt_of DA_L_law_7 74 rfl
theorem dL_law_1105 : decode cL_law 1105 = .ok (.iadd, 1) := dt_of DA_L_law_7 75 rfl
theorem dL_law_1106 : decode cL_law 1106 = .ok (.iaload, 1) := dt_of DA_L_law_7 76 rfl
theorem dL_law_1107 : decode cL_law 1107 = .ok (.aload_n 0, 1) := dt_of DA_L_law_7 77 rfl
theorem dL_law_1108 : decode cL_law 1108 = .ok (.iload_n 3, 1) := dt_of DA_L_law_7 78 rfl
theorem dL_law_1109 : decode cL_law 1109 = .ok (.iconst 2, 1) := dt_of DA_L_law_7 79 rfl
theorem dL_law_1110 : decode cL_law 1110 = .ok (.iadd, 1) := dt_of DA_L_law_7 80 rfl
theorem dL_law_1111 : decode cL_law 1111 = .ok (.iaload, 1) := dt_of DA_L_law_7 81 rfl
theorem dL_law_1112 : decode cL_law 1112 = .ok (.invokevirtual 134, 3) := dt_of DA_L_law_7 82 rfl
theorem dL_law_1115 : decode cL_law 1115 = .ok (.pop, 1) := dt_of DA_L_law_7 83 rfl
theorem dL_law_1116 : decode cL_law 1116 = .ok (.goto 95, 3) := dt_of DA_L_law_7 84 rfl
theorem dL_law_1119 : decode cL_law 1119 = .ok (.aload_n 1, 1) := dt_of DA_L_law_7 85 rfl
theorem dL_law_1120 : decode cL_law 1120 = .ok (.aload_n 0, 1) := dt_of DA_L_law_7 86 rfl
theorem dL_law_1121 : decode cL_law 1121 = .ok (.iload_n 3, 1) := dt_of DA_L_law_7 87 rfl
theorem dL_law_1122 : decode cL_law 1122 = .ok (.iconst 1, 1) := dt_of DA_L_law_7 88 rfl
theorem dL_law_1123 : decode cL_law 1123 = .ok (.iadd, 1) := dt_of DA_L_law_7 89 rfl
theorem dL_law_1124 : decode cL_law 1124 = .ok (.iaload, 1) := dt_of DA_L_law_7 90 rfl
theorem dL_law_1125 : decode cL_law 1125 = .ok (.aload_n 0, 1) := dt_of DA_L_law_7 91 rfl
theorem dL_law_1126 : decode cL_law 1126 = .ok (.iload_n 3, 1) := dt_of DA_L_law_7 92 rfl
theorem dL_law_1127 : decode cL_law 1127 = .ok (.iconst 2, 1) := dt_of DA_L_law_7 93 rfl
theorem dL_law_1128 : decode cL_law 1128 = .ok (.iadd, 1) := dt_of DA_L_law_7 94 rfl
theorem dL_law_1129 : decode cL_law 1129 = .ok (.iaload, 1) := dt_of DA_L_law_7 95 rfl
theorem dL_law_1130 : decode cL_law 1130 = .ok (.invokevirtual 135, 3) := dt_of DA_L_law_7 96 rfl
theorem dL_law_1133 : decode cL_law 1133 = .ok (.pop, 1) := dt_of DA_L_law_7 97 rfl
theorem dL_law_1134 : decode cL_law 1134 = .ok (.aload_n 2, 1) := dt_of DA_L_law_7 98 rfl
theorem dL_law_1135 : decode cL_law 1135 = .ok (.aload_n 0, 1) := dt_of DA_L_law_7 99 rfl
def DT_L_law_8 : List (Nat × Instr × Nat) := [(1136, .iload_n 3, 1), (1137, .iconst 1, 1), (1138, .iadd, 1), (1139, .iaload, 1), (1140, .aload_n 0, 1), (1141, .iload_n 3, 1), (1142, .iconst 2, 1), (1143, .iadd, 1), (1144, .iaload, 1), (1145, .invokevirtual 138, 3), (1148, .pop, 1), (1149, .goto 62, 3), (1152, .aload_n 1, 1), (1153, .aload_n 0, 1), (1154, .iload_n 3, 1), (1155, .iconst 1, 1), (1156, .iadd, 1), (1157, .iaload, 1), (1158, .invokevirtual 139, 3), (1161, .pop, 1), (1162, .aload_n 2, 1), (1163, .aload_n 0, 1), (1164, .iload_n 3, 1), (1165, .iconst 1, 1), (1166, .iadd, 1), (1167, .iaload, 1), (1168, .invokevirtual 142, 3), (1171, .pop, 1), (1172, .goto 39, 3), (1175, .aload_n 1, 1), (1176, .aload_n 0, 1), (1177, .iload_n 3, 1), (1178, .iconst 1, 1), (1179, .iadd, 1), (1180, .iaload, 1), (1181, .invokevirtual 143, 3), (1184, .pop, 1), (1185, .aload_n 2, 1), (1186, .aload_n 0, 1), (1187, .iload_n 3, 1), (1188, .iconst 1, 1), (1189, .iadd, 1), (1190, .iaload, 1), (1191, .invokevirtual 146, 3), (1194, .pop, 1), (1195, .goto 16, 3), (1198, .aload_n 1, 1), (1199, .invokevirtual 147, 3), (1202, .aload_n 2, 1), (1203, .invokevirtual 150, 3), (1206, .if_icmp .eq 5, 3), (1209, .iconst 0, 1), (1210, .ireturn, 1), (1211, .iinc 3 7, 3), (1214, .goto (-1196), 3), (1217, .iconst 1, 1), (1218, .ireturn, 1)]
theorem DA_L_law_8 : DT_L_law_8.all (dtf cL_law) = true := by decide +kernel
theorem dL_law_1136 : decode cL_law 1136 = .ok (.iload_n 3, 1) := dt_of DA_L_law_8 0 rfl
theorem dL_law_1137 : decode cL_law 1137 = .ok (.iconst 1, 1) := dt_of DA_L_law_8 1 rfl
theorem dL_law_1138 : decode cL_law 1138 = .ok (.iadd, 1) := dt_of DA_L_law_8 2 rfl
theorem dL_law_1139 : decode cL_law 1139 = .ok (.iaload, 1) := dt_of DA_L_law_8 3 rfl
theorem dL_law_1140 : decode cL_law 1140 = .ok (.aload_n 0, 1) := dt_of DA_L_law_8 4 rfl
theorem dL_law_1141 : decode cL_law 1141 = .ok (.iload_n 3, 1) := dt_of DA_L_law_8 5 rfl
theorem dL_law_1142 : decode cL_law 1142 = .ok (.iconst 2, 1) := dt_of DA_L_law_8 6 rfl
theorem dL_law_1143 : decode cL_law 1143 = .ok (.iadd, 1) := dt_of DA_L_law_8 7 rfl
theorem dL_law_1144 : decode cL_law 1144 = .ok (.iaload, 1) := dt_of DA_L_law_8 8 rfl
theorem dL_law_1145 : decode cL_law 1145 = .ok (.invokevirtual 138, 3) := dt_of DA_L_law_8 9 rfl
theorem dL_law_1148 : decode cL_law 1148 = .ok (.pop, 1) := dt_of DA_L_law_8 10 rfl
theorem dL_law_1149 : decode cL_law 1149 = .ok (.goto 62, 3) := dt_of DA_L_law_8 11 rfl
theorem dL_law_1152 : decode cL_law 1152 = .ok (.aload_n 1, 1) := dt_of DA_L_law_8 12 rfl
theorem dL_law_1153 : decode cL_law 1153 = .ok (.aload_n 0, 1) := dt_of DA_L_law_8 13 rfl
theorem dL_law_1154 : decode cL_law 1154 = .ok (.iload_n 3, 1) := dt_of DA_L_law_8 14 rfl
theorem dL_law_1155 : decode cL_law 1155 = .ok (.iconst 1, 1) := dt_of DA_L_law_8 15 rfl
theorem dL_law_1156 : decode cL_law 1156 = .ok (.iadd, 1) := dt_of DA_L_law_8 16 rfl
theorem dL_law_1157 : decode cL_law 1157 = .ok (.iaload, 1) := dt_of DA_L_law_8 17 rfl
theorem dL_law_1158 : decode cL_law 1158 = .ok (.invokevirtual 139, 3) := dt_of DA_L_law_8 18 rfl
theorem dL_law_1161 : decode cL_law 1161 = .ok (.pop, 1) := dt_of DA_L_law_8 19 rfl
theorem dL_law_1162 : decode cL_law 1162 = .ok (.aload_n 2, 1) := dt_of DA_L_law_8 20 rfl
theorem dL_law_1163 : decode cL_law 1163 = .ok (.aload_n 0, 1) := dt_of DA_L_law_8 21 rfl
theorem dL_law_1164 : decode cL_law 1164 = .ok (.iload_n 3, 1) := dt_of DA_L_law_8 22 rfl
theorem dL_law_1165 : decode cL_law 1165 = .ok (.iconst 1, 1) := dt_of DA_L_law_8 23 rfl
theorem dL_law_1166 : decode cL_law 1166 = .ok (.iadd, 1) := dt_of DA_L_law_8 24 rfl
theorem dL_law_1167 : decode cL_law 1167 = .ok (.iaload, 1) := dt_of DA_L_law_8 25 rfl
theorem dL_law_1168 : decode cL_law 1168 = .ok (.invokevirtual 142, 3) := dt_of DA_L_law_8 26 rfl
theorem dL_law_1171 : decode cL_law 1171 = .ok (.pop, 1) := dt_of DA_L_law_8 27 rfl
theorem dL_law_1172 : decode cL_law 1172 = .ok (.goto 39, 3) := dt_of DA_L_law_8 28 rfl
theorem dL_law_1175 : decode cL_law 1175 = .ok (.aload_n 1, 1) := dt_of DA_L_law_8 29 rfl
theorem dL_law_1176 : decode cL_law 1176 = .ok (.aload_n 0, 1) := dt_of DA_L_law_8 30 rfl
theorem dL_law_1177 : decode cL_law 1177 = .ok (.iload_n 3, 1) := dt_of DA_L_law_8 31 rfl
theorem dL_law_1178 : decode cL_law 1178 = .ok (.iconst 1, 1) := dt_of DA_L_law_8 32 rfl
theorem dL_law_1179 : decode cL_law 1179 = .ok (.iadd, 1) := dt_of DA_L_law_8 33 rfl
theorem dL_law_1180 : decode cL_law 1180 = .ok (.iaload, 1) := dt_of DA_L_law_8 34 rfl
theorem dL_law_1181 : decode cL_law 1181 = .ok (.invokevirtual 143, 3) := dt_of DA_L_law_8 35 rfl
theorem dL_law_1184 : decode cL_law 1184 = .ok (.pop, 1) := dt_of DA_L_law_8 36 rfl
theorem dL_law_1185 : decode cL_law 1185 = .ok (.aload_n 2, 1) := dt_of DA_L_law_8 37 rfl
theorem dL_law_1186 : decode cL_law 1186 = .ok (.aload_n 0, 1) := dt_of DA_L_law_8 38 rfl
theorem dL_law_1187 : decode cL_law 1187 = .ok (.iload_n 3, 1) := dt_of DA_L_law_8 39 rfl
theorem dL_law_1188 : decode cL_law 1188 = .ok (.iconst 1, 1) := dt_of DA_L_law_8 40 rfl
theorem dL_law_1189 : decode cL_law 1189 = .ok (.iadd, 1) := dt_of DA_L_law_8 41 rfl
theorem dL_law_1190 : decode cL_law 1190 = .ok (.iaload, 1) := dt_of DA_L_law_8 42 rfl
theorem dL_law_1191 : decode cL_law 1191 = .ok (.invokevirtual 146, 3) := dt_of DA_L_law_8 43 rfl
theorem dL_law_1194 : decode cL_law 1194 = .ok (.pop, 1) := dt_of DA_L_law_8 44 rfl
theorem dL_law_1195 : decode cL_law 1195 = .ok (.goto 16, 3) := dt_of DA_L_law_8 45 rfl
theorem dL_law_1198 : decode cL_law 1198 = .ok (.aload_n 1, 1) := dt_of DA_L_law_8 46 rfl
theorem dL_law_1199 : decode cL_law 1199 = .ok (.invokevirtual 147, 3) := dt_of DA_L_law_8 47 rfl
theorem dL_law_1202 : decode cL_law 1202 = .ok (.aload_n 2, 1) := dt_of DA_L_law_8 48 rfl
theorem dL_law_1203 : decode cL_law 1203 = .ok (.invokevirtual 150, 3) := dt_of DA_L_law_8 49 rfl
theorem dL_law_1206 : decode cL_law 1206 = .ok (.if_icmp .eq 5, 3) := dt_of DA_L_law_8 50 rfl
theorem dL_law_1209 : decode cL_law 1209 = .ok (.iconst 0, 1) := dt_of DA_L_law_8 51 rfl
theorem dL_law_1210 : decode cL_law 1210 = .ok (.ireturn, 1) := dt_of DA_L_law_8 52 rfl
theorem dL_law_1211 : decode cL_law 1211 = .ok (.iinc 3 7, 3) := dt_of DA_L_law_8 53 rfl
theorem dL_law_1214 : decode cL_law 1214 = .ok (.goto (-1196), 3) := dt_of DA_L_law_8 54 rfl
theorem dL_law_1217 : decode cL_law 1217 = .ok (.iconst 1, 1) := dt_of DA_L_law_8 55 rfl
theorem dL_law_1218 : decode cL_law 1218 = .ok (.ireturn, 1) := dt_of DA_L_law_8 56 rfl
