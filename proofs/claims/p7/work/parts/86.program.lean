section
/-! WHAT THE PROGRAM'S WORDS SAY, all of it: ea_pr -/
theorem tmc_0 {Y : Option (List AI)} : ∀ m ∈ ([0, 1, 2, 3, 4, 5, 6, 7, 8, 9, 10, 11, 12, 13, 14, 15, 16, 17, 18, 19, 20, 21, 22, 23, 24, 25, 26, 27, 28, 29, 30, 31] : List Nat), ea_mo (tb_P Y) tb_N m := List.forall_mem_cons.mpr ⟨tm_0, List.forall_mem_cons.mpr ⟨tm_1, List.forall_mem_cons.mpr ⟨tm_2, List.forall_mem_cons.mpr ⟨tm_3, List.forall_mem_cons.mpr ⟨tm_4, List.forall_mem_cons.mpr ⟨tm_5, List.forall_mem_cons.mpr ⟨tm_6, List.forall_mem_cons.mpr ⟨tm_7, List.forall_mem_cons.mpr ⟨tm_8, List.forall_mem_cons.mpr ⟨tm_9, List.forall_mem_cons.mpr ⟨tm_10, List.forall_mem_cons.mpr ⟨tm_11, List.forall_mem_cons.mpr ⟨tm_12, List.forall_mem_cons.mpr ⟨tm_13, List.forall_mem_cons.mpr ⟨tm_14, List.forall_mem_cons.mpr ⟨tm_15, List.forall_mem_cons.mpr ⟨tm_16, List.forall_mem_cons.mpr ⟨tm_17, List.forall_mem_cons.mpr ⟨tm_18, List.forall_mem_cons.mpr ⟨tm_19, List.forall_mem_cons.mpr ⟨tm_20, List.forall_mem_cons.mpr ⟨tm_21, List.forall_mem_cons.mpr ⟨tm_22, List.forall_mem_cons.mpr ⟨tm_23, List.forall_mem_cons.mpr ⟨tm_24, List.forall_mem_cons.mpr ⟨tm_25, List.forall_mem_cons.mpr ⟨tm_26, List.forall_mem_cons.mpr ⟨tm_27, List.forall_mem_cons.mpr ⟨tm_28, List.forall_mem_cons.mpr ⟨tm_29, List.forall_mem_cons.mpr ⟨tm_30, List.forall_mem_cons.mpr ⟨tm_31, fun _ h => absurd h List.not_mem_nil⟩⟩⟩⟩⟩⟩⟩⟩⟩⟩⟩⟩⟩⟩⟩⟩⟩⟩⟩⟩⟩⟩⟩⟩⟩⟩⟩⟩⟩⟩⟩⟩
theorem tmc_32 {Y : Option (List AI)} : ∀ m ∈ ([32, 33, 34, 35, 36, 37, 38, 39, 40, 41, 42, 43, 44, 45, 46, 47, 48, 49, 50, 51, 52, 53, 54, 55, 56, 57, 58, 59, 60, 61, 62, 63] : List Nat), ea_mo (tb_P Y) tb_N m := List.forall_mem_cons.mpr ⟨tm_32, List.forall_mem_cons.mpr ⟨tm_33, List.forall_mem_cons.mpr ⟨tm_34, List.forall_mem_cons.mpr ⟨tm_35, List.forall_mem_cons.mpr ⟨tm_36, List.forall_mem_cons.mpr ⟨tm_37, List.forall_mem_cons.mpr ⟨tm_38, List.forall_mem_cons.mpr ⟨tm_39, List.forall_mem_cons.mpr ⟨tm_40, List.forall_mem_cons.mpr ⟨tm_41, List.forall_mem_cons.mpr ⟨tm_42, List.forall_mem_cons.mpr ⟨tm_43, List.forall_mem_cons.mpr ⟨tm_44, List.forall_mem_cons.mpr ⟨tm_45, List.forall_mem_cons.mpr ⟨tm_46, List.forall_mem_cons.mpr ⟨tm_47, List.forall_mem_cons.mpr ⟨tm_48, List.forall_mem_cons.mpr ⟨tm_49, List.forall_mem_cons.mpr ⟨tm_50, List.forall_mem_cons.mpr ⟨tm_51, List.forall_mem_cons.mpr ⟨tm_52, List.forall_mem_cons.mpr ⟨tm_53, List.forall_mem_cons.mpr ⟨tm_54, List.forall_mem_cons.mpr ⟨tm_55, List.forall_mem_cons.mpr ⟨tm_56, List.forall_mem_cons.mpr ⟨tm_57, List.forall_mem_cons.mpr ⟨tm_58, List.forall_mem_cons.mpr ⟨tm_59, List.forall_mem_cons.mpr ⟨tm_60, List.forall_mem_cons.mpr ⟨tm_61, List.forall_mem_cons.mpr ⟨tm_62, List.forall_mem_cons.mpr ⟨tm_63, fun _ h => absurd h List.not_mem_nil⟩⟩⟩⟩⟩⟩⟩⟩⟩⟩⟩⟩⟩⟩⟩⟩⟩⟩⟩⟩⟩⟩⟩⟩⟩⟩⟩⟩⟩⟩⟩⟩
theorem tmc_64 {Y : Option (List AI)} : ∀ m ∈ ([64, 65, 66, 67, 68, 69, 70, 71, 72, 73, 74, 75, 76, 77, 78, 79, 80, 81, 82, 83, 84, 85, 86, 87, 88, 89, 90, 91, 92, 93, 94, 95] : List Nat), ea_mo (tb_P Y) tb_N m := List.forall_mem_cons.mpr ⟨tm_64, List.forall_mem_cons.mpr ⟨tm_65, List.forall_mem_cons.mpr ⟨tm_66, List.forall_mem_cons.mpr ⟨tm_67, List.forall_mem_cons.mpr ⟨tm_68, List.forall_mem_cons.mpr ⟨tm_69, List.forall_mem_cons.mpr ⟨tm_70, List.forall_mem_cons.mpr ⟨tm_71, List.forall_mem_cons.mpr ⟨tm_72, List.forall_mem_cons.mpr ⟨tm_73, List.forall_mem_cons.mpr ⟨tm_74, List.forall_mem_cons.mpr ⟨tm_75, List.forall_mem_cons.mpr ⟨tm_76, List.forall_mem_cons.mpr ⟨tm_77, List.forall_mem_cons.mpr ⟨tm_78, List.forall_mem_cons.mpr ⟨tm_79, List.forall_mem_cons.mpr ⟨tm_80, List.forall_mem_cons.mpr ⟨tm_81, List.forall_mem_cons.mpr ⟨tm_82, List.forall_mem_cons.mpr ⟨tm_83, List.forall_mem_cons.mpr ⟨tm_84, List.forall_mem_cons.mpr ⟨tm_85, List.forall_mem_cons.mpr ⟨tm_86, List.forall_mem_cons.mpr ⟨tm_87, List.forall_mem_cons.mpr ⟨tm_88, List.forall_mem_cons.mpr ⟨tm_89, List.forall_mem_cons.mpr ⟨tm_90, List.forall_mem_cons.mpr ⟨tm_91, List.forall_mem_cons.mpr ⟨tm_92, List.forall_mem_cons.mpr ⟨tm_93, List.forall_mem_cons.mpr ⟨tm_94, List.forall_mem_cons.mpr ⟨tm_95, fun _ h => absurd h List.not_mem_nil⟩⟩⟩⟩⟩⟩⟩⟩⟩⟩⟩⟩⟩⟩⟩⟩⟩⟩⟩⟩⟩⟩⟩⟩⟩⟩⟩⟩⟩⟩⟩⟩
theorem tmc_96 {Y : Option (List AI)} : ∀ m ∈ ([96, 97, 98, 99, 100, 101, 102, 103, 104, 105, 106, 107, 108, 109, 110, 111, 112, 113, 114, 115, 116, 117, 118, 119, 120, 121, 122, 123, 124, 125, 126, 127] : List Nat), ea_mo (tb_P Y) tb_N m := List.forall_mem_cons.mpr ⟨tm_96, List.forall_mem_cons.mpr ⟨tm_97, List.forall_mem_cons.mpr ⟨tm_98, List.forall_mem_cons.mpr ⟨tm_99, List.forall_mem_cons.mpr ⟨tm_100, List.forall_mem_cons.mpr ⟨tm_101, List.forall_mem_cons.mpr ⟨tm_102, List.forall_mem_cons.mpr ⟨tm_103, List.forall_mem_cons.mpr ⟨tm_104, List.forall_mem_cons.mpr ⟨tm_105, List.forall_mem_cons.mpr ⟨tm_106, List.forall_mem_cons.mpr ⟨tm_107, List.forall_mem_cons.mpr ⟨tm_108, List.forall_mem_cons.mpr ⟨tm_109, List.forall_mem_cons.mpr ⟨tm_110, List.forall_mem_cons.mpr ⟨tm_111, List.forall_mem_cons.mpr ⟨tm_112, List.forall_mem_cons.mpr ⟨tm_113, List.forall_mem_cons.mpr ⟨tm_114, List.forall_mem_cons.mpr ⟨tm_115, List.forall_mem_cons.mpr ⟨tm_116, List.forall_mem_cons.mpr ⟨tm_117, List.forall_mem_cons.mpr ⟨tm_118, List.forall_mem_cons.mpr ⟨tm_119, List.forall_mem_cons.mpr ⟨tm_120, List.forall_mem_cons.mpr ⟨tm_121, List.forall_mem_cons.mpr ⟨tm_122, List.forall_mem_cons.mpr ⟨tm_123, List.forall_mem_cons.mpr ⟨tm_124, List.forall_mem_cons.mpr ⟨tm_125, List.forall_mem_cons.mpr ⟨tm_126, List.forall_mem_cons.mpr ⟨tm_127, fun _ h => absurd h List.not_mem_nil⟩⟩⟩⟩⟩⟩⟩⟩⟩⟩⟩⟩⟩⟩⟩⟩⟩⟩⟩⟩⟩⟩⟩⟩⟩⟩⟩⟩⟩⟩⟩⟩
theorem tmc_128 {Y : Option (List AI)} : ∀ m ∈ ([128, 129, 130, 131, 132, 133, 134, 135, 136, 137, 138, 139, 140, 141, 142, 143, 144, 145, 146, 147, 148, 149, 150, 151, 152, 153, 154, 155, 156, 157, 158, 159] : List Nat), ea_mo (tb_P Y) tb_N m := List.forall_mem_cons.mpr ⟨tm_128, List.forall_mem_cons.mpr ⟨tm_129, List.forall_mem_cons.mpr ⟨tm_130, List.forall_mem_cons.mpr ⟨tm_131, List.forall_mem_cons.mpr ⟨tm_132, List.forall_mem_cons.mpr ⟨tm_133, List.forall_mem_cons.mpr ⟨tm_134, List.forall_mem_cons.mpr ⟨tm_135, List.forall_mem_cons.mpr ⟨tm_136, List.forall_mem_cons.mpr ⟨tm_137, List.forall_mem_cons.mpr ⟨tm_138, List.forall_mem_cons.mpr ⟨tm_139, List.forall_mem_cons.mpr ⟨tm_140, List.forall_mem_cons.mpr ⟨tm_141, List.forall_mem_cons.mpr ⟨tm_142, List.forall_mem_cons.mpr ⟨tm_143, List.forall_mem_cons.mpr ⟨tm_144, List.forall_mem_cons.mpr ⟨tm_145, List.forall_mem_cons.mpr ⟨tm_146, List.forall_mem_cons.mpr ⟨tm_147, List.forall_mem_cons.mpr ⟨tm_148, List.forall_mem_cons.mpr ⟨tm_149, List.forall_mem_cons.mpr ⟨tm_150, List.forall_mem_cons.mpr ⟨tm_151, List.forall_mem_cons.mpr ⟨tm_152, List.forall_mem_cons.mpr ⟨tm_153, List.forall_mem_cons.mpr ⟨tm_154, List.forall_mem_cons.mpr ⟨tm_155, List.forall_mem_cons.mpr ⟨tm_156, List.forall_mem_cons.mpr ⟨tm_157, List.forall_mem_cons.mpr ⟨tm_158, List.forall_mem_cons.mpr ⟨tm_159, fun _ h => absurd h List.not_mem_nil⟩⟩⟩⟩⟩⟩⟩⟩⟩⟩⟩⟩⟩⟩⟩⟩⟩⟩⟩⟩⟩⟩⟩⟩⟩⟩⟩⟩⟩⟩⟩⟩
theorem tmc_160 {Y : Option (List AI)} : ∀ m ∈ ([160, 161, 162, 163, 164, 165, 166, 167, 168, 169, 170, 171, 172, 173, 174, 175, 176, 177, 178, 179, 180, 181, 182, 183, 184, 185, 186, 187, 188, 189, 190, 191] : List Nat), ea_mo (tb_P Y) tb_N m := List.forall_mem_cons.mpr ⟨tm_160, List.forall_mem_cons.mpr ⟨tm_161, List.forall_mem_cons.mpr ⟨tm_162, List.forall_mem_cons.mpr ⟨tm_163, List.forall_mem_cons.mpr ⟨tm_164, List.forall_mem_cons.mpr ⟨tm_165, List.forall_mem_cons.mpr ⟨tm_166, List.forall_mem_cons.mpr ⟨tm_167, List.forall_mem_cons.mpr ⟨tm_168, List.forall_mem_cons.mpr ⟨tm_169, List.forall_mem_cons.mpr ⟨tm_170, List.forall_mem_cons.mpr ⟨tm_171, List.forall_mem_cons.mpr ⟨tm_172, List.forall_mem_cons.mpr ⟨tm_173, List.forall_mem_cons.mpr ⟨tm_174, List.forall_mem_cons.mpr ⟨tm_175, List.forall_mem_cons.mpr ⟨tm_176, List.forall_mem_cons.mpr ⟨tm_177, List.forall_mem_cons.mpr ⟨tm_178, List.forall_mem_cons.mpr ⟨tm_179, List.forall_mem_cons.mpr ⟨tm_180, List.forall_mem_cons.mpr ⟨tm_181, List.forall_mem_cons.mpr ⟨tm_182, List.forall_mem_cons.mpr ⟨tm_183, List.forall_mem_cons.mpr ⟨tm_184, List.forall_mem_cons.mpr ⟨tm_185, List.forall_mem_cons.mpr ⟨tm_186, List.forall_mem_cons.mpr ⟨tm_187, List.forall_mem_cons.mpr ⟨tm_188, List.forall_mem_cons.mpr ⟨tm_189, List.forall_mem_cons.mpr ⟨tm_190, List.forall_mem_cons.mpr ⟨tm_191, fun _ h => absurd h List.not_mem_nil⟩⟩⟩⟩⟩⟩⟩⟩⟩⟩⟩⟩⟩⟩⟩⟩⟩⟩⟩⟩⟩⟩⟩⟩⟩⟩⟩⟩⟩⟩⟩⟩
theorem tmc_192 {Y : Option (List AI)} : ∀ m ∈ ([192, 193, 194, 195, 196, 197, 198, 199, 200, 201, 202, 203, 204, 205, 206, 207, 208, 209, 210, 211, 212, 213, 214, 215, 216, 217, 218, 219, 220, 221, 222, 223] : List Nat), ea_mo (tb_P Y) tb_N m := List.forall_mem_cons.mpr ⟨tm_192, List.forall_mem_cons.mpr ⟨tm_193, List.forall_mem_cons.mpr ⟨tm_194, List.forall_mem_cons.mpr ⟨tm_195, List.forall_mem_cons.mpr ⟨tm_196, List.forall_mem_cons.mpr ⟨tm_197, List.forall_mem_cons.mpr ⟨tm_198, List.forall_mem_cons.mpr ⟨tm_199, List.forall_mem_cons.mpr ⟨tm_200, List.forall_mem_cons.mpr ⟨tm_201, List.forall_mem_cons.mpr ⟨tm_202, List.forall_mem_cons.mpr ⟨tm_203, List.forall_mem_cons.mpr ⟨tm_204, List.forall_mem_cons.mpr ⟨tm_205, List.forall_mem_cons.mpr ⟨tm_206, List.forall_mem_cons.mpr ⟨tm_207, List.forall_mem_cons.mpr ⟨tm_208, List.forall_mem_cons.mpr ⟨tm_209, List.forall_mem_cons.mpr ⟨tm_210, List.forall_mem_cons.mpr ⟨tm_211, List.forall_mem_cons.mpr ⟨tm_212, List.forall_mem_cons.mpr ⟨tm_213, List.forall_mem_cons.mpr ⟨tm_214, List.forall_mem_cons.mpr ⟨tm_215, List.forall_mem_cons.mpr ⟨tm_216, List.forall_mem_cons.mpr ⟨tm_217, List.forall_mem_cons.mpr ⟨tm_218, List.forall_mem_cons.mpr ⟨tm_219, List.forall_mem_cons.mpr ⟨tm_220, List.forall_mem_cons.mpr ⟨tm_221, List.forall_mem_cons.mpr ⟨tm_222, List.forall_mem_cons.mpr ⟨tm_223, fun _ h => absurd h List.not_mem_nil⟩⟩⟩⟩⟩⟩⟩⟩⟩⟩⟩⟩⟩⟩⟩⟩⟩⟩⟩⟩⟩⟩⟩⟩⟩⟩⟩⟩⟩⟩⟩⟩
theorem tmc_224 {Y : Option (List AI)} : ∀ m ∈ ([224, 225, 226, 227, 228, 229, 230, 231, 232, 233, 234, 235, 236, 237, 238, 239, 240, 241, 242, 243, 244, 245, 246, 247, 248, 249, 250, 251, 252, 253, 254, 255] : List Nat), ea_mo (tb_P Y) tb_N m := List.forall_mem_cons.mpr ⟨tm_224, List.forall_mem_cons.mpr ⟨tm_225, List.forall_mem_cons.mpr ⟨tm_226, List.forall_mem_cons.mpr ⟨tm_227, List.forall_mem_cons.mpr ⟨tm_228, List.forall_mem_cons.mpr ⟨tm_229, List.forall_mem_cons.mpr ⟨tm_230, List.forall_mem_cons.mpr ⟨tm_231, List.forall_mem_cons.mpr ⟨tm_232, List.forall_mem_cons.mpr ⟨tm_233, List.forall_mem_cons.mpr ⟨tm_234, List.forall_mem_cons.mpr ⟨tm_235, List.forall_mem_cons.mpr ⟨tm_236, List.forall_mem_cons.mpr ⟨tm_237, List.forall_mem_cons.mpr ⟨tm_238, List.forall_mem_cons.mpr ⟨tm_239, List.forall_mem_cons.mpr ⟨tm_240, List.forall_mem_cons.mpr ⟨tm_241, List.forall_mem_cons.mpr ⟨tm_242, List.forall_mem_cons.mpr ⟨tm_243, List.forall_mem_cons.mpr ⟨tm_244, List.forall_mem_cons.mpr ⟨tm_245, List.forall_mem_cons.mpr ⟨tm_246, List.forall_mem_cons.mpr ⟨tm_247, List.forall_mem_cons.mpr ⟨tm_248, List.forall_mem_cons.mpr ⟨tm_249, List.forall_mem_cons.mpr ⟨tm_250, List.forall_mem_cons.mpr ⟨tm_251, List.forall_mem_cons.mpr ⟨tm_252, List.forall_mem_cons.mpr ⟨tm_253, List.forall_mem_cons.mpr ⟨tm_254, List.forall_mem_cons.mpr ⟨tm_255, fun _ h => absurd h List.not_mem_nil⟩⟩⟩⟩⟩⟩⟩⟩⟩⟩⟩⟩⟩⟩⟩⟩⟩⟩⟩⟩⟩⟩⟩⟩⟩⟩⟩⟩⟩⟩⟩⟩
theorem tmc_256 {Y : Option (List AI)} : ∀ m ∈ ([256, 257, 258, 259, 260, 261, 262, 263, 264, 265, 266, 267, 268, 269, 270, 271, 272, 273, 274, 275, 276, 277, 278, 279, 280, 281, 282, 283, 284, 285, 286, 287] : List Nat), ea_mo (tb_P Y) tb_N m := List.forall_mem_cons.mpr ⟨tm_256, List.forall_mem_cons.mpr ⟨tm_257, List.forall_mem_cons.mpr ⟨tm_258, List.forall_mem_cons.mpr ⟨tm_259, List.forall_mem_cons.mpr ⟨tm_260, List.forall_mem_cons.mpr ⟨tm_261, List.forall_mem_cons.mpr ⟨tm_262, List.forall_mem_cons.mpr ⟨tm_263, List.forall_mem_cons.mpr ⟨tm_264, List.forall_mem_cons.mpr ⟨tm_265, List.forall_mem_cons.mpr ⟨tm_266, List.forall_mem_cons.mpr ⟨tm_267, List.forall_mem_cons.mpr ⟨tm_268, List.forall_mem_cons.mpr ⟨tm_269, List.forall_mem_cons.mpr ⟨tm_270, List.forall_mem_cons.mpr ⟨tm_271, List.forall_mem_cons.mpr ⟨tm_272, List.forall_mem_cons.mpr ⟨tm_273, List.forall_mem_cons.mpr ⟨tm_274, List.forall_mem_cons.mpr ⟨tm_275, List.forall_mem_cons.mpr ⟨tm_276, List.forall_mem_cons.mpr ⟨tm_277, List.forall_mem_cons.mpr ⟨tm_278, List.forall_mem_cons.mpr ⟨tm_279, List.forall_mem_cons.mpr ⟨tm_280, List.forall_mem_cons.mpr ⟨tm_281, List.forall_mem_cons.mpr ⟨tm_282, List.forall_mem_cons.mpr ⟨tm_283, List.forall_mem_cons.mpr ⟨tm_284, List.forall_mem_cons.mpr ⟨tm_285, List.forall_mem_cons.mpr ⟨tm_286, List.forall_mem_cons.mpr ⟨tm_287, fun _ h => absurd h List.not_mem_nil⟩⟩⟩⟩⟩⟩⟩⟩⟩⟩⟩⟩⟩⟩⟩⟩⟩⟩⟩⟩⟩⟩⟩⟩⟩⟩⟩⟩⟩⟩⟩⟩
theorem tmc_288 {Y : Option (List AI)} : ∀ m ∈ ([288, 289, 290, 291, 292, 293, 294, 295, 296, 297, 298, 299, 300, 301, 302, 303, 304, 305, 306, 307, 308, 309, 310, 311, 312, 313, 314, 315, 316, 317, 318, 319] : List Nat), ea_mo (tb_P Y) tb_N m := List.forall_mem_cons.mpr ⟨tm_288, List.forall_mem_cons.mpr ⟨tm_289, List.forall_mem_cons.mpr ⟨tm_290, List.forall_mem_cons.mpr ⟨tm_291, List.forall_mem_cons.mpr ⟨tm_292, List.forall_mem_cons.mpr ⟨tm_293, List.forall_mem_cons.mpr ⟨tm_294, List.forall_mem_cons.mpr ⟨tm_295, List.forall_mem_cons.mpr ⟨tm_296, List.forall_mem_cons.mpr ⟨tm_297, List.forall_mem_cons.mpr ⟨tm_298, List.forall_mem_cons.mpr ⟨tm_299, List.forall_mem_cons.mpr ⟨tm_300, List.forall_mem_cons.mpr ⟨tm_301, List.forall_mem_cons.mpr ⟨tm_302, List.forall_mem_cons.mpr ⟨tm_303, List.forall_mem_cons.mpr ⟨tm_304, List.forall_mem_cons.mpr ⟨tm_305, List.forall_mem_cons.mpr ⟨tm_306, List.forall_mem_cons.mpr ⟨tm_307, List.forall_mem_cons.mpr ⟨tm_308, List.forall_mem_cons.mpr ⟨tm_309, List.forall_mem_cons.mpr ⟨tm_310, List.forall_mem_cons.mpr ⟨tm_311, List.forall_mem_cons.mpr ⟨tm_312, List.forall_mem_cons.mpr ⟨tm_313, List.forall_mem_cons.mpr ⟨tm_314, List.forall_mem_cons.mpr ⟨tm_315, List.forall_mem_cons.mpr ⟨tm_316, List.forall_mem_cons.mpr ⟨tm_317, List.forall_mem_cons.mpr ⟨tm_318, List.forall_mem_cons.mpr ⟨tm_319, fun _ h => absurd h List.not_mem_nil⟩⟩⟩⟩⟩⟩⟩⟩⟩⟩⟩⟩⟩⟩⟩⟩⟩⟩⟩⟩⟩⟩⟩⟩⟩⟩⟩⟩⟩⟩⟩⟩
theorem tmc_320 {Y : Option (List AI)} : ∀ m ∈ ([320, 321, 322, 323, 324, 325, 326, 327, 328, 329, 330, 331, 332, 333, 334, 335, 336, 337, 338, 339, 340, 341, 342, 343, 344, 345, 346, 347, 348, 349, 350, 351] : List Nat), ea_mo (tb_P Y) tb_N m := List.forall_mem_cons.mpr ⟨tm_320, List.forall_mem_cons.mpr ⟨tm_321, List.forall_mem_cons.mpr ⟨tm_322, List.forall_mem_cons.mpr ⟨tm_323, List.forall_mem_cons.mpr ⟨tm_324, List.forall_mem_cons.mpr ⟨tm_325, List.forall_mem_cons.mpr ⟨tm_326, List.forall_mem_cons.mpr ⟨tm_327, List.forall_mem_cons.mpr ⟨tm_328, List.forall_mem_cons.mpr ⟨tm_329, List.forall_mem_cons.mpr ⟨tm_330, List.forall_mem_cons.mpr ⟨tm_331, List.forall_mem_cons.mpr ⟨tm_332, List.forall_mem_cons.mpr ⟨tm_333, List.forall_mem_cons.mpr ⟨tm_334, List.forall_mem_cons.mpr ⟨tm_335, List.forall_mem_cons.mpr ⟨tm_336, List.forall_mem_cons.mpr ⟨tm_337, List.forall_mem_cons.mpr ⟨tm_338, List.forall_mem_cons.mpr ⟨tm_339, List.forall_mem_cons.mpr ⟨tm_340, List.forall_mem_cons.mpr ⟨tm_341, List.forall_mem_cons.mpr ⟨tm_342, List.forall_mem_cons.mpr ⟨tm_343, List.forall_mem_cons.mpr ⟨tm_344, List.forall_mem_cons.mpr ⟨tm_345, List.forall_mem_cons.mpr ⟨tm_346, List.forall_mem_cons.mpr ⟨tm_347, List.forall_mem_cons.mpr ⟨tm_348, List.forall_mem_cons.mpr ⟨tm_349, List.forall_mem_cons.mpr ⟨tm_350, List.forall_mem_cons.mpr ⟨tm_351, fun _ h => absurd h List.not_mem_nil⟩⟩⟩⟩⟩⟩⟩⟩⟩⟩⟩⟩⟩⟩⟩⟩⟩⟩⟩⟩⟩⟩⟩⟩⟩⟩⟩⟩⟩⟩⟩⟩
theorem tmc_352 {Y : Option (List AI)} : ∀ m ∈ ([352, 353, 354, 355, 356, 357, 358, 359, 360, 361, 362, 363, 364, 365, 366, 367, 368, 369, 370, 371, 372, 373, 374, 375, 376, 377, 378, 379, 380, 381, 382, 383] : List Nat), ea_mo (tb_P Y) tb_N m := List.forall_mem_cons.mpr ⟨tm_352, List.forall_mem_cons.mpr ⟨tm_353, List.forall_mem_cons.mpr ⟨tm_354, List.forall_mem_cons.mpr ⟨tm_355, List.forall_mem_cons.mpr ⟨tm_356, List.forall_mem_cons.mpr ⟨tm_357, List.forall_mem_cons.mpr ⟨tm_358, List.forall_mem_cons.mpr ⟨tm_359, List.forall_mem_cons.mpr ⟨tm_360, List.forall_mem_cons.mpr ⟨tm_361, List.forall_mem_cons.mpr ⟨tm_362, List.forall_mem_cons.mpr ⟨tm_363, List.forall_mem_cons.mpr ⟨tm_364, List.forall_mem_cons.mpr ⟨tm_365, List.forall_mem_cons.mpr ⟨tm_366, List.forall_mem_cons.mpr ⟨tm_367, List.forall_mem_cons.mpr ⟨tm_368, List.forall_mem_cons.mpr ⟨tm_369, List.forall_mem_cons.mpr ⟨tm_370, List.forall_mem_cons.mpr ⟨tm_371, List.forall_mem_cons.mpr ⟨tm_372, List.forall_mem_cons.mpr ⟨tm_373, List.forall_mem_cons.mpr ⟨tm_374, List.forall_mem_cons.mpr ⟨tm_375, List.forall_mem_cons.mpr ⟨tm_376, List.forall_mem_cons.mpr ⟨tm_377, List.forall_mem_cons.mpr ⟨tm_378, List.forall_mem_cons.mpr ⟨tm_379, List.forall_mem_cons.mpr ⟨tm_380, List.forall_mem_cons.mpr ⟨tm_381, List.forall_mem_cons.mpr ⟨tm_382, List.forall_mem_cons.mpr ⟨tm_383, fun _ h => absurd h List.not_mem_nil⟩⟩⟩⟩⟩⟩⟩⟩⟩⟩⟩⟩⟩⟩⟩⟩⟩⟩⟩⟩⟩⟩⟩⟩⟩⟩⟩⟩⟩⟩⟩⟩
theorem tmc_384 {Y : Option (List AI)} : ∀ m ∈ ([384, 385, 386, 387, 388] : List Nat), ea_mo (tb_P Y) tb_N m := List.forall_mem_cons.mpr ⟨tm_384, List.forall_mem_cons.mpr ⟨tm_385, List.forall_mem_cons.mpr ⟨tm_386, List.forall_mem_cons.mpr ⟨tm_387, List.forall_mem_cons.mpr ⟨tm_388, fun _ h => absurd h List.not_mem_nil⟩⟩⟩⟩⟩
theorem tm_all {Y : Option (List AI)} (m : Nat) (h : m < 389) : ea_mo (tb_P Y) tb_N m := by
  by_cases h0 : m < 32
  · exact tmc_0 m (by simp only [List.mem_cons, List.not_mem_nil, or_false]; omega)
  by_cases h32 : m < 64
  · exact tmc_32 m (by simp only [List.mem_cons, List.not_mem_nil, or_false]; omega)
  by_cases h64 : m < 96
  · exact tmc_64 m (by simp only [List.mem_cons, List.not_mem_nil, or_false]; omega)
  by_cases h96 : m < 128
  · exact tmc_96 m (by simp only [List.mem_cons, List.not_mem_nil, or_false]; omega)
  by_cases h128 : m < 160
  · exact tmc_128 m (by simp only [List.mem_cons, List.not_mem_nil, or_false]; omega)
  by_cases h160 : m < 192
  · exact tmc_160 m (by simp only [List.mem_cons, List.not_mem_nil, or_false]; omega)
  by_cases h192 : m < 224
  · exact tmc_192 m (by simp only [List.mem_cons, List.not_mem_nil, or_false]; omega)
  by_cases h224 : m < 256
  · exact tmc_224 m (by simp only [List.mem_cons, List.not_mem_nil, or_false]; omega)
  by_cases h256 : m < 288
  · exact tmc_256 m (by simp only [List.mem_cons, List.not_mem_nil, or_false]; omega)
  by_cases h288 : m < 320
  · exact tmc_288 m (by simp only [List.mem_cons, List.not_mem_nil, or_false]; omega)
  by_cases h320 : m < 352
  · exact tmc_320 m (by simp only [List.mem_cons, List.not_mem_nil, or_false]; omega)
  by_cases h352 : m < 384
  · exact tmc_352 m (by simp only [List.mem_cons, List.not_mem_nil, or_false]; omega)
  exact tmc_384 m (by simp only [List.mem_cons, List.not_mem_nil, or_false]; omega)
def tg_b (t : Nat) (ty : FieldType) : Bool := match t, ty with
  | 0, .int => true
  | 1, .long => true
  | 2, .boolean => true
  | 3, .object _ => true
  | 3, .array _ => true
  | _, _ => false
theorem tg_b_ok {t : Nat} {ty : FieldType} (h : tg_b t ty = true) : ea_tg t ty := by
  unfold tg_b at h
  split at h
  · rfl
  · rfl
  · rfl
  · exact .inl ⟨_, rfl⟩
  · exact .inr ⟨_, rfl⟩
  · cases h
theorem tg_all {ty : Nat → FieldType} {f : Nat → Nat} {n : Nat} (h : (List.range n).all (fun k => tg_b (f k) (ty k)) = true) : ∀ k, k < n → ea_tg (f k) (ty k) := fun k hk => tg_b_ok (List.all_eq_true.mp h k (List.mem_range.mpr hk))
theorem tcw_0 : ∀ w ∈ u_ws RX0 TX0 3, w ∈ tb_T := List.forall_mem_cons.mpr ⟨tw_mem (c := 2) (i := 127) rfl rfl, List.forall_mem_cons.mpr ⟨tw_mem (c := 2) (i := 129) rfl rfl, List.forall_mem_cons.mpr ⟨tw_mem (c := 2) (i := 131) rfl rfl, fun _ h => absurd h List.not_mem_nil⟩⟩⟩
theorem tcw_1 : ∀ w ∈ u_ws RX1 TX1 9, w ∈ tb_T := List.forall_mem_cons.mpr ⟨tw_mem (c := 1) (i := 108) rfl rfl, List.forall_mem_cons.mpr ⟨tw_mem (c := 1) (i := 110) rfl rfl, List.forall_mem_cons.mpr ⟨tw_mem (c := 1) (i := 112) rfl rfl, List.forall_mem_cons.mpr ⟨tw_mem (c := 1) (i := 114) rfl rfl, List.forall_mem_cons.mpr ⟨tw_mem (c := 1) (i := 116) rfl rfl, List.forall_mem_cons.mpr ⟨tw_mem (c := 1) (i := 118) rfl rfl, List.forall_mem_cons.mpr ⟨tw_mem (c := 1) (i := 120) rfl rfl, List.forall_mem_cons.mpr ⟨tw_mem (c := 1) (i := 122) rfl rfl, List.forall_mem_cons.mpr ⟨tw_mem (c := 1) (i := 124) rfl rfl, fun _ h => absurd h List.not_mem_nil⟩⟩⟩⟩⟩⟩⟩⟩⟩
theorem tcw_2 : ∀ w ∈ u_ws RX2 TX2 2, w ∈ tb_T := List.forall_mem_cons.mpr ⟨tw_mem (c := 2) (i := 16) rfl rfl, List.forall_mem_cons.mpr ⟨tw_mem (c := 2) (i := 18) rfl rfl, fun _ h => absurd h List.not_mem_nil⟩⟩
theorem tcw_3 : ∀ w ∈ u_ws RX3 TX3 3, w ∈ tb_T := List.forall_mem_cons.mpr ⟨tw_mem (c := 1) (i := 143) rfl rfl, List.forall_mem_cons.mpr ⟨tw_mem (c := 1) (i := 145) rfl rfl, List.forall_mem_cons.mpr ⟨tw_mem (c := 1) (i := 147) rfl rfl, fun _ h => absurd h List.not_mem_nil⟩⟩⟩
theorem tcw_4 : ∀ w ∈ u_ws RX4 TX4 3, w ∈ tb_T := List.forall_mem_cons.mpr ⟨tw_mem (c := 2) (i := 50) rfl rfl, List.forall_mem_cons.mpr ⟨tw_mem (c := 2) (i := 52) rfl rfl, List.forall_mem_cons.mpr ⟨tw_mem (c := 2) (i := 54) rfl rfl, fun _ h => absurd h List.not_mem_nil⟩⟩⟩
theorem tcw_5 : ∀ w ∈ u_ws RX5 TX5 5, w ∈ tb_T := List.forall_mem_cons.mpr ⟨tw_mem (c := 2) (i := 107) rfl rfl, List.forall_mem_cons.mpr ⟨tw_mem (c := 2) (i := 109) rfl rfl, List.forall_mem_cons.mpr ⟨tw_mem (c := 2) (i := 111) rfl rfl, List.forall_mem_cons.mpr ⟨tw_mem (c := 2) (i := 113) rfl rfl, List.forall_mem_cons.mpr ⟨tw_mem (c := 2) (i := 115) rfl rfl, fun _ h => absurd h List.not_mem_nil⟩⟩⟩⟩⟩
theorem tcw_6 : ∀ w ∈ u_ws RX6 TX6 9, w ∈ tb_T := List.forall_mem_cons.mpr ⟨tw_mem (c := 2) (i := 75) rfl rfl, List.forall_mem_cons.mpr ⟨tw_mem (c := 2) (i := 77) rfl rfl, List.forall_mem_cons.mpr ⟨tw_mem (c := 2) (i := 79) rfl rfl, List.forall_mem_cons.mpr ⟨tw_mem (c := 2) (i := 81) rfl rfl, List.forall_mem_cons.mpr ⟨tw_mem (c := 2) (i := 83) rfl rfl, List.forall_mem_cons.mpr ⟨tw_mem (c := 2) (i := 85) rfl rfl, List.forall_mem_cons.mpr ⟨tw_mem (c := 2) (i := 87) rfl rfl, List.forall_mem_cons.mpr ⟨tw_mem (c := 2) (i := 89) rfl rfl, List.forall_mem_cons.mpr ⟨tw_mem (c := 2) (i := 91) rfl rfl, fun _ h => absurd h List.not_mem_nil⟩⟩⟩⟩⟩⟩⟩⟩⟩
theorem tcw_7 : ∀ w ∈ u_ws RX7 TX7 3, w ∈ tb_T := List.forall_mem_cons.mpr ⟨tw_mem (c := 2) (i := 30) rfl rfl, List.forall_mem_cons.mpr ⟨tw_mem (c := 2) (i := 32) rfl rfl, List.forall_mem_cons.mpr ⟨tw_mem (c := 2) (i := 34) rfl rfl, fun _ h => absurd h List.not_mem_nil⟩⟩⟩
theorem tcw_8 : ∀ w ∈ u_ws RX8 TX8 2, w ∈ tb_T := List.forall_mem_cons.mpr ⟨tw_mem (c := 1) (i := 51) rfl rfl, List.forall_mem_cons.mpr ⟨tw_mem (c := 1) (i := 53) rfl rfl, fun _ h => absurd h List.not_mem_nil⟩⟩
theorem tcw_9 : ∀ w ∈ u_ws RX9 TX9 6, w ∈ tb_T := List.forall_mem_cons.mpr ⟨tw_mem (c := 1) (i := 69) rfl rfl, List.forall_mem_cons.mpr ⟨tw_mem (c := 1) (i := 71) rfl rfl, List.forall_mem_cons.mpr ⟨tw_mem (c := 1) (i := 73) rfl rfl, List.forall_mem_cons.mpr ⟨tw_mem (c := 1) (i := 75) rfl rfl, List.forall_mem_cons.mpr ⟨tw_mem (c := 1) (i := 77) rfl rfl, List.forall_mem_cons.mpr ⟨tw_mem (c := 1) (i := 79) rfl rfl, fun _ h => absurd h List.not_mem_nil⟩⟩⟩⟩⟩⟩
theorem tcw_10 : ∀ w ∈ u_ws RX10 TX10 20, w ∈ tb_T := List.forall_mem_cons.mpr ⟨tw_mem (c := 1) (i := 207) rfl rfl, List.forall_mem_cons.mpr ⟨tw_mem (c := 1) (i := 209) rfl rfl, List.forall_mem_cons.mpr ⟨tw_mem (c := 1) (i := 211) rfl rfl, List.forall_mem_cons.mpr ⟨tw_mem (c := 1) (i := 213) rfl rfl, List.forall_mem_cons.mpr ⟨tw_mem (c := 1) (i := 215) rfl rfl, List.forall_mem_cons.mpr ⟨tw_mem (c := 1) (i := 217) rfl rfl, List.forall_mem_cons.mpr ⟨tw_mem (c := 1) (i := 219) rfl rfl, List.forall_mem_cons.mpr ⟨tw_mem (c := 1) (i := 221) rfl rfl, List.forall_mem_cons.mpr ⟨tw_mem (c := 1) (i := 223) rfl rfl, List.forall_mem_cons.mpr ⟨tw_mem (c := 1) (i := 225) rfl rfl, List.forall_mem_cons.mpr ⟨tw_mem (c := 1) (i := 227) rfl rfl, List.forall_mem_cons.mpr ⟨tw_mem (c := 1) (i := 229) rfl rfl, List.forall_mem_cons.mpr ⟨tw_mem (c := 1) (i := 231) rfl rfl, List.forall_mem_cons.mpr ⟨tw_mem (c := 1) (i := 233) rfl rfl, List.forall_mem_cons.mpr ⟨tw_mem (c := 1) (i := 235) rfl rfl, List.forall_mem_cons.mpr ⟨tw_mem (c := 1) (i := 237) rfl rfl, List.forall_mem_cons.mpr ⟨tw_mem (c := 1) (i := 239) rfl rfl, List.forall_mem_cons.mpr ⟨tw_mem (c := 2) (i := 1) rfl rfl, List.forall_mem_cons.mpr ⟨tw_mem (c := 2) (i := 3) rfl rfl, List.forall_mem_cons.mpr ⟨tw_mem (c := 2) (i := 5) rfl rfl, fun _ h => absurd h List.not_mem_nil⟩⟩⟩⟩⟩⟩⟩⟩⟩⟩⟩⟩⟩⟩⟩⟩⟩⟩⟩⟩
theorem tcw_11 : ∀ w ∈ u_ws RX11 TX11 16, w ∈ tb_T := List.forall_mem_cons.mpr ⟨tw_mem (c := 2) (i := 150) rfl rfl, List.forall_mem_cons.mpr ⟨tw_mem (c := 2) (i := 152) rfl rfl, List.forall_mem_cons.mpr ⟨tw_mem (c := 2) (i := 154) rfl rfl, List.forall_mem_cons.mpr ⟨tw_mem (c := 2) (i := 156) rfl rfl, List.forall_mem_cons.mpr ⟨tw_mem (c := 2) (i := 158) rfl rfl, List.forall_mem_cons.mpr ⟨tw_mem (c := 2) (i := 160) rfl rfl, List.forall_mem_cons.mpr ⟨tw_mem (c := 2) (i := 162) rfl rfl, List.forall_mem_cons.mpr ⟨tw_mem (c := 2) (i := 164) rfl rfl, List.forall_mem_cons.mpr ⟨tw_mem (c := 2) (i := 166) rfl rfl, List.forall_mem_cons.mpr ⟨tw_mem (c := 2) (i := 168) rfl rfl, List.forall_mem_cons.mpr ⟨tw_mem (c := 2) (i := 170) rfl rfl, List.forall_mem_cons.mpr ⟨tw_mem (c := 2) (i := 172) rfl rfl, List.forall_mem_cons.mpr ⟨tw_mem (c := 2) (i := 174) rfl rfl, List.forall_mem_cons.mpr ⟨tw_mem (c := 2) (i := 176) rfl rfl, List.forall_mem_cons.mpr ⟨tw_mem (c := 2) (i := 178) rfl rfl, List.forall_mem_cons.mpr ⟨tw_mem (c := 2) (i := 180) rfl rfl, fun _ h => absurd h List.not_mem_nil⟩⟩⟩⟩⟩⟩⟩⟩⟩⟩⟩⟩⟩⟩⟩⟩
theorem tcw_12 : ∀ w ∈ u_ws RX12 TX12 38, w ∈ tb_T := List.forall_mem_cons.mpr ⟨tw_mem (c := 7) (i := 82) rfl rfl, List.forall_mem_cons.mpr ⟨tw_mem (c := 7) (i := 84) rfl rfl, List.forall_mem_cons.mpr ⟨tw_mem (c := 7) (i := 86) rfl rfl, List.forall_mem_cons.mpr ⟨tw_mem (c := 7) (i := 88) rfl rfl, List.forall_mem_cons.mpr ⟨tw_mem (c := 7) (i := 90) rfl rfl, List.forall_mem_cons.mpr ⟨tw_mem (c := 7) (i := 92) rfl rfl, List.forall_mem_cons.mpr ⟨tw_mem (c := 7) (i := 94) rfl rfl, List.forall_mem_cons.mpr ⟨tw_mem (c := 7) (i := 96) rfl rfl, List.forall_mem_cons.mpr ⟨tw_mem (c := 7) (i := 98) rfl rfl, List.forall_mem_cons.mpr ⟨tw_mem (c := 7) (i := 100) rfl rfl, List.forall_mem_cons.mpr ⟨tw_mem (c := 7) (i := 102) rfl rfl, List.forall_mem_cons.mpr ⟨tw_mem (c := 7) (i := 104) rfl rfl, List.forall_mem_cons.mpr ⟨tw_mem (c := 7) (i := 106) rfl rfl, List.forall_mem_cons.mpr ⟨tw_mem (c := 7) (i := 108) rfl rfl, List.forall_mem_cons.mpr ⟨tw_mem (c := 7) (i := 110) rfl rfl, List.forall_mem_cons.mpr ⟨tw_mem (c := 7) (i := 112) rfl rfl, List.forall_mem_cons.mpr ⟨tw_mem (c := 7) (i := 114) rfl rfl, List.forall_mem_cons.mpr ⟨tw_mem (c := 7) (i := 116) rfl rfl, List.forall_mem_cons.mpr ⟨tw_mem (c := 7) (i := 118) rfl rfl, List.forall_mem_cons.mpr ⟨tw_mem (c := 7) (i := 120) rfl rfl, List.forall_mem_cons.mpr ⟨tw_mem (c := 7) (i := 122) rfl rfl, List.forall_mem_cons.mpr ⟨tw_mem (c := 7) (i := 124) rfl rfl, List.forall_mem_cons.mpr ⟨tw_mem (c := 7) (i := 126) rfl rfl, List.forall_mem_cons.mpr ⟨tw_mem (c := 7) (i := 128) rfl rfl, List.forall_mem_cons.mpr ⟨tw_mem (c := 7) (i := 130) rfl rfl, List.forall_mem_cons.mpr ⟨tw_mem (c := 7) (i := 132) rfl rfl, List.forall_mem_cons.mpr ⟨tw_mem (c := 7) (i := 134) rfl rfl, List.forall_mem_cons.mpr ⟨tw_mem (c := 7) (i := 136) rfl rfl, List.forall_mem_cons.mpr ⟨tw_mem (c := 7) (i := 138) rfl rfl, List.forall_mem_cons.mpr ⟨tw_mem (c := 7) (i := 140) rfl rfl, List.forall_mem_cons.mpr ⟨tw_mem (c := 7) (i := 142) rfl rfl, List.forall_mem_cons.mpr ⟨tw_mem (c := 7) (i := 144) rfl rfl, List.forall_mem_cons.mpr ⟨tw_mem (c := 7) (i := 146) rfl rfl, List.forall_mem_cons.mpr ⟨tw_mem (c := 7) (i := 148) rfl rfl, List.forall_mem_cons.mpr ⟨tw_mem (c := 7) (i := 150) rfl rfl, List.forall_mem_cons.mpr ⟨tw_mem (c := 7) (i := 152) rfl rfl, List.forall_mem_cons.mpr ⟨tw_mem (c := 7) (i := 154) rfl rfl, List.forall_mem_cons.mpr ⟨tw_mem (c := 7) (i := 156) rfl rfl, fun _ h => absurd h List.not_mem_nil⟩⟩⟩⟩⟩⟩⟩⟩⟩⟩⟩⟩⟩⟩⟩⟩⟩⟩⟩⟩⟩⟩⟩⟩⟩⟩⟩⟩⟩⟩⟩⟩⟩⟩⟩⟩⟩⟩
theorem tb_cw {Y : Option (List AI)} : ea_cw tb_T tb_cl (ep_fty (tb_P Y)) := by
  intro ci q h
  match ci, h with
  | 0, h => cases h; exact ⟨tcw_0, nmX0, tyX0, tyX0_ok, tg_all (f := ep_fty (tb_P none) 0) (by decide +kernel)⟩
  | 1, h => cases h; exact ⟨tcw_1, nmX1, tyX1, tyX1_ok, tg_all (f := ep_fty (tb_P none) 1) (by decide +kernel)⟩
  | 2, h => cases h; exact ⟨tcw_2, nmX2, tyX2, tyX2_ok, tg_all (f := ep_fty (tb_P none) 2) (by decide +kernel)⟩
  | 3, h => cases h; exact ⟨tcw_3, nmX3, tyX3, tyX3_ok, tg_all (f := ep_fty (tb_P none) 3) (by decide +kernel)⟩
  | 4, h => cases h; exact ⟨tcw_4, nmX4, tyX4, tyX4_ok, tg_all (f := ep_fty (tb_P none) 4) (by decide +kernel)⟩
  | 5, h => cases h; exact ⟨tcw_5, nmX5, tyX5, tyX5_ok, tg_all (f := ep_fty (tb_P none) 5) (by decide +kernel)⟩
  | 6, h => cases h; exact ⟨tcw_6, nmX6, tyX6, tyX6_ok, tg_all (f := ep_fty (tb_P none) 6) (by decide +kernel)⟩
  | 7, h => cases h; exact ⟨tcw_7, nmX7, tyX7, tyX7_ok, tg_all (f := ep_fty (tb_P none) 7) (by decide +kernel)⟩
  | 8, h => cases h; exact ⟨tcw_8, nmX8, tyX8, tyX8_ok, tg_all (f := ep_fty (tb_P none) 8) (by decide +kernel)⟩
  | 9, h => cases h; exact ⟨tcw_9, nmX9, tyX9, tyX9_ok, tg_all (f := ep_fty (tb_P none) 9) (by decide +kernel)⟩
  | 10, h => cases h; exact ⟨tcw_10, nmX10, tyX10, tyX10_ok, tg_all (f := ep_fty (tb_P none) 10) (by decide +kernel)⟩
  | 11, h => cases h; exact ⟨tcw_11, nmX11, tyX11, tyX11_ok, tg_all (f := ep_fty (tb_P none) 11) (by decide +kernel)⟩
  | 12, h => cases h; exact ⟨tcw_12, nmX12, tyX12, tyX12_ok, tg_all (f := ep_fty (tb_P none) 12) (by decide +kernel)⟩
  | _ + 13, h => cases h
theorem tb_gw : ∀ w ∈ tb_T, goodWord w = true := by
  intro w hw
  rcases List.mem_cons.mp hw with rfl | hw
  · rfl
  · exact (List.mem_filter.mp hw).2
theorem tb_nk : ∀ w ∈ tb_n, (∃ a b, w = .castable a b) ∨ (∃ a i x h, w = .methodLinkNest a i x h) ∨ ∃ x, w = .declares x := List.forall_mem_cons.mpr ⟨.inl ⟨_, _, rfl⟩, List.forall_mem_cons.mpr ⟨.inl ⟨_, _, rfl⟩, List.forall_mem_cons.mpr ⟨.inl ⟨_, _, rfl⟩, List.forall_mem_cons.mpr ⟨.inl ⟨_, _, rfl⟩, List.forall_mem_cons.mpr ⟨.inl ⟨_, _, rfl⟩, List.forall_mem_cons.mpr ⟨.inr (.inl ⟨_, _, _, _, rfl⟩), List.forall_mem_cons.mpr ⟨.inr (.inl ⟨_, _, _, _, rfl⟩), List.forall_mem_cons.mpr ⟨.inr (.inl ⟨_, _, _, _, rfl⟩), List.forall_mem_cons.mpr ⟨.inr (.inl ⟨_, _, _, _, rfl⟩), List.forall_mem_cons.mpr ⟨.inr (.inl ⟨_, _, _, _, rfl⟩), List.forall_mem_cons.mpr ⟨.inr (.inl ⟨_, _, _, _, rfl⟩), List.forall_mem_cons.mpr ⟨.inr (.inl ⟨_, _, _, _, rfl⟩), List.forall_mem_cons.mpr ⟨.inr (.inl ⟨_, _, _, _, rfl⟩), List.forall_mem_cons.mpr ⟨.inr (.inl ⟨_, _, _, _, rfl⟩), List.forall_mem_cons.mpr ⟨.inr (.inl ⟨_, _, _, _, rfl⟩), List.forall_mem_cons.mpr ⟨.inr (.inr ⟨_, rfl⟩), List.forall_mem_cons.mpr ⟨.inr (.inr ⟨_, rfl⟩), List.forall_mem_cons.mpr ⟨.inr (.inr ⟨_, rfl⟩), fun _ h => absurd h List.not_mem_nil⟩⟩⟩⟩⟩⟩⟩⟩⟩⟩⟩⟩⟩⟩⟩⟩⟩⟩
theorem tb_ac : ∀ t, t = FieldType.int ∨ t = FieldType.long ∨ t = FieldType.byte → Jvm.Cond.arrayClass t ∈ tb_T := by
  intro t h
  rcases h with rfl | rfl | rfl
  · exact tw_mem (c := 1) (i := 56) rfl rfl
  · exact tw_mem (c := 1) (i := 150) rfl rfl
  · exact tw_mem (c := 4) (i := 177) rfl rfl
theorem tb_sb {Y : Option (List AI)} : ∀ a b, ep_sub (tb_P Y) a b = true → Jvm.Cond.castable (tb_x a) (tb_x b) ∈ tb_n := by
  intro a b h
  have e : a % 5 = b % 5 := Nat.eq_of_beq_eq_true h
  show Jvm.Cond.castable (tb_x0 (a % 5)) (tb_x0 (b % 5)) ∈ tb_n
  rw [← e]
  have h5 : a % 5 < 5 := Nat.mod_lt _ (by decide)
  generalize a % 5 = r at h5
  rcases (show r = 0 ∨ r = 1 ∨ r = 2 ∨ r = 3 ∨ r = 4 by omega) with rfl | rfl | rfl | rfl | rfl
  · exact List.mem_of_getElem? (i := 0) rfl
  · exact List.mem_of_getElem? (i := 1) rfl
  · exact List.mem_of_getElem? (i := 2) rfl
  · exact List.mem_of_getElem? (i := 3) rfl
  · exact List.mem_of_getElem? (i := 4) rfl
theorem tb_pr {Y : Option (List AI)} : ea_pr (tb_P Y) tb_N := ⟨tm_all, tb_cw, tb_gw, tb_nk, by decide +kernel, by decide, tb_ac, tb_sb, fun m hm => by
  obtain ⟨n, rfl⟩ : ∃ n, m = n + 1 := ⟨m - 1, by omega⟩
  rfl⟩
end
section
/-! what holds at the law's entry -/
theorem tb_in {c : Nat} {q : vw_C} (h : tb_cl[c]? = some q) : Jvm.Cond.instantiable q.1 q.2.2 ∈ lw_tbl := by
  match c, h with
  | 0, h => cases h; exact (tw_l (c := 2) (i := 119) rfl)
  | 1, h => cases h; exact (tw_l (c := 1) (i := 83) rfl)
  | 2, h => cases h; exact (tw_l (c := 2) (i := 9) rfl)
  | 3, h => cases h; exact (tw_l (c := 1) (i := 134) rfl)
  | 4, h => cases h; exact (tw_l (c := 2) (i := 38) rfl)
  | 5, h => cases h; exact (tw_l (c := 2) (i := 95) rfl)
  | 6, h => cases h; exact (tw_l (c := 2) (i := 58) rfl)
  | 7, h => cases h; exact (tw_l (c := 2) (i := 22) rfl)
  | 8, h => cases h; exact (tw_l (c := 1) (i := 39) rfl)
  | 9, h => cases h; exact (tw_l (c := 1) (i := 58) rfl)
  | 10, h => cases h; exact (tw_l (c := 1) (i := 128) rfl)
  | 11, h => cases h; exact (tw_l (c := 1) (i := 31) rfl)
  | 12, h => cases h; exact (tw_l (c := 7) (i := 39) rfl)
  | _ + 13, h => cases h
theorem tb_nw {args : Array Value} {s : State} (hts : ∀ w ∈ lw_tbl, w.before args s = true) : ∀ w ∈ tb_n, va_Nw w s := List.forall_mem_cons.mpr ⟨va_Nw.of rfl (hts _ (tw_l (c := 4) (i := 110) rfl)), List.forall_mem_cons.mpr ⟨va_Nw.of rfl (hts _ (tw_l (c := 4) (i := 180) rfl)), List.forall_mem_cons.mpr ⟨va_Nw.of rfl (hts _ (tw_l (c := 5) (i := 66) rfl)), List.forall_mem_cons.mpr ⟨va_Nw.of rfl (hts _ (tw_l (c := 5) (i := 34) rfl)), List.forall_mem_cons.mpr ⟨va_Nw.of rfl (hts _ (tw_l (c := 5) (i := 91) rfl)), List.forall_mem_cons.mpr ⟨va_Nw.of rfl (hts _ (tw_l (c := 1) (i := 40) rfl)), List.forall_mem_cons.mpr ⟨va_Nw.of rfl (hts _ (tw_l (c := 1) (i := 59) rfl)), List.forall_mem_cons.mpr ⟨va_Nw.of rfl (hts _ (tw_l (c := 1) (i := 84) rfl)), List.forall_mem_cons.mpr ⟨va_Nw.of rfl (hts _ (tw_l (c := 1) (i := 129) rfl)), List.forall_mem_cons.mpr ⟨va_Nw.of rfl (hts _ (tw_l (c := 1) (i := 135) rfl)), List.forall_mem_cons.mpr ⟨va_Nw.of rfl (hts _ (tw_l (c := 2) (i := 45) rfl)), List.forall_mem_cons.mpr ⟨va_Nw.of rfl (hts _ (tw_l (c := 2) (i := 215) rfl)), List.forall_mem_cons.mpr ⟨va_Nw.of rfl (hts _ (tw_l (c := 3) (i := 1) rfl)), List.forall_mem_cons.mpr ⟨va_Nw.of rfl (hts _ (tw_l (c := 3) (i := 30) rfl)), List.forall_mem_cons.mpr ⟨va_Nw.of rfl (hts _ (tw_l (c := 6) (i := 140) rfl)), List.forall_mem_cons.mpr ⟨va_Nw.of rfl (hts _ (tw_l (c := 4) (i := 112) rfl)), List.forall_mem_cons.mpr ⟨va_Nw.of rfl (hts _ (tw_l (c := 4) (i := 114) rfl)), List.forall_mem_cons.mpr ⟨va_Nw.of rfl (hts _ (tw_l (c := 4) (i := 116) rfl)), fun _ h => absurd h List.not_mem_nil⟩⟩⟩⟩⟩⟩⟩⟩⟩⟩⟩⟩⟩⟩⟩⟩⟩⟩
def tb_ex : List Jvm.Cond := [.exactly (.string "EarCode" 122) "java/lang/String", .exactly (.string "EarCode" 135) "java/lang/String", .exactly (.string "EarCode" 157) "java/lang/String", .exactly (.string "EarCode" 186) "java/lang/String", .exactly (.string "EarCode" 249) "java/lang/String", .exactly (.string "EarCode" 263) "java/lang/String", .exactly (.string "EarCode" 268) "java/lang/String", .exactly (.string "EarCode" 273) "java/lang/String", .exactly (.string "EarCode" 295) "java/lang/String", .exactly (.string "EarCode" 428) "java/lang/String", .exactly (.string "EarCode" 435) "java/lang/String", .exactly (.string "EarCode" 437) "java/lang/String", .exactly (.string "EarCode" 439) "java/lang/String"]
theorem tb_exm : ∀ w ∈ tb_ex, w ∈ flatC (Jvm.Cond.and given_1 narrow_1) := by decide +kernel
theorem tb_sr {args : Array Value} {s : State} {own tx : String} {k : Nat} (h1 : (Jvm.Cond.stringRef own k tx).before args s = true) (h2 : (Jvm.Cond.exactly (.string own k) "java/lang/String").before args s = true) : ∃ a, vk_R own k tx a s := by
  obtain ⟨a, c, cell, kk, q1, -⟩ := Cond.exactly_spec (args := args) (first := s) (o := none) (s := s) (idx := []) (t := .string own k) (cls := "java/lang/String") h2
  exact ⟨a, vk_R.of h1 q1⟩
theorem tb_st0 {args : Array Value} {s : State} (hts : ∀ w ∈ lw_tbl, w.before args s = true) (hf : ∀ w ∈ flatC (Jvm.Cond.and given_1 narrow_1), w.before args s = true) : ∀ q ∈ tb_s, ∃ a, vk_R q.1 q.2.1 q.2.2 a s := List.forall_mem_cons.mpr ⟨tb_sr (hts _ (tw_l (c := 4) (i := 151) rfl)) (hf _ (tb_exm _ (List.mem_of_getElem? (i := 0) rfl))), List.forall_mem_cons.mpr ⟨tb_sr (hts _ (tw_l (c := 4) (i := 187) rfl)) (hf _ (tb_exm _ (List.mem_of_getElem? (i := 1) rfl))), List.forall_mem_cons.mpr ⟨tb_sr (hts _ (tw_l (c := 5) (i := 41) rfl)) (hf _ (tb_exm _ (List.mem_of_getElem? (i := 2) rfl))), List.forall_mem_cons.mpr ⟨tb_sr (hts _ (tw_l (c := 5) (i := 98) rfl)) (hf _ (tb_exm _ (List.mem_of_getElem? (i := 3) rfl))), List.forall_mem_cons.mpr ⟨tb_sr (hts _ (tw_l (c := 5) (i := 179) rfl)) (hf _ (tb_exm _ (List.mem_of_getElem? (i := 4) rfl))), List.forall_mem_cons.mpr ⟨tb_sr (hts _ (tw_l (c := 5) (i := 208) rfl)) (hf _ (tb_exm _ (List.mem_of_getElem? (i := 5) rfl))), List.forall_mem_cons.mpr ⟨tb_sr (hts _ (tw_l (c := 5) (i := 217) rfl)) (hf _ (tb_exm _ (List.mem_of_getElem? (i := 6) rfl))), List.forall_mem_cons.mpr ⟨tb_sr (hts _ (tw_l (c := 5) (i := 231) rfl)) (hf _ (tb_exm _ (List.mem_of_getElem? (i := 7) rfl))), List.forall_mem_cons.mpr ⟨tb_sr (hts _ (tw_l (c := 6) (i := 25) rfl)) (hf _ (tb_exm _ (List.mem_of_getElem? (i := 8) rfl))), List.forall_mem_cons.mpr ⟨tb_sr (hts _ (tw_l (c := 5) (i := 73) rfl)) (hf _ (tb_exm _ (List.mem_of_getElem? (i := 9) rfl))), List.forall_mem_cons.mpr ⟨tb_sr (hts _ (tw_l (c := 5) (i := 158) rfl)) (hf _ (tb_exm _ (List.mem_of_getElem? (i := 10) rfl))), List.forall_mem_cons.mpr ⟨tb_sr (hts _ (tw_l (c := 6) (i := 2) rfl)) (hf _ (tb_exm _ (List.mem_of_getElem? (i := 11) rfl))), List.forall_mem_cons.mpr ⟨tb_sr (hts _ (tw_l (c := 5) (i := 207) rfl)) (hf _ (tb_exm _ (List.mem_of_getElem? (i := 12) rfl))), fun _ h => absurd h List.not_mem_nil⟩⟩⟩⟩⟩⟩⟩⟩⟩⟩⟩⟩⟩
/-- the premises on one of the Strings that are looked at -/
def tb_ws (t : String × Nat × String × Nat) : List Jvm.Cond := .exactly (.string t.1 t.2.1) "java/lang/String" :: .eq (.field (.string t.1 t.2.1) "java/lang/String" "coder" "B") (.int 0) :: .arrayOf (.field (.string t.1 t.2.1) "java/lang/String" "value" "[B") .byte :: .eq (.length (.field (.string t.1 t.2.1) "java/lang/String" "value" "[B")) (.int (Int32.ofNat (sx_len (t.2.2.2 / 64)))) :: (List.range (sx_len (t.2.2.2 / 64))).map fun j => .eq (.elem (.field (.string t.1 t.2.1) "java/lang/String" "value" "[B") (.int (Int32.ofNat j))) (.int (Int32.ofNat (sx_ch (t.2.2.2 / 64) j)))
theorem tb_Sr : ∀ t ∈ tb_S, Jvm.Cond.stringRef t.1 t.2.1 t.2.2.1 ∈ lw_tbl := List.forall_mem_cons.mpr ⟨(tw_l (c := 3) (i := 220) rfl), List.forall_mem_cons.mpr ⟨(tw_l (c := 8) (i := 28) rfl), List.forall_mem_cons.mpr ⟨(tw_l (c := 8) (i := 29) rfl), List.forall_mem_cons.mpr ⟨(tw_l (c := 8) (i := 30) rfl), List.forall_mem_cons.mpr ⟨(tw_l (c := 8) (i := 31) rfl), List.forall_mem_cons.mpr ⟨(tw_l (c := 8) (i := 14) rfl), List.forall_mem_cons.mpr ⟨(tw_l (c := 8) (i := 19) rfl), List.forall_mem_cons.mpr ⟨(tw_l (c := 8) (i := 32) rfl), List.forall_mem_cons.mpr ⟨(tw_l (c := 8) (i := 33) rfl), List.forall_mem_cons.mpr ⟨(tw_l (c := 7) (i := 221) rfl), List.forall_mem_cons.mpr ⟨(tw_l (c := 7) (i := 228) rfl), List.forall_mem_cons.mpr ⟨(tw_l (c := 7) (i := 233) rfl), List.forall_mem_cons.mpr ⟨(tw_l (c := 8) (i := 51) rfl), List.forall_mem_cons.mpr ⟨(tw_l (c := 8) (i := 56) rfl), List.forall_mem_cons.mpr ⟨(tw_l (c := 8) (i := 69) rfl), List.forall_mem_cons.mpr ⟨(tw_l (c := 8) (i := 38) rfl), List.forall_mem_cons.mpr ⟨(tw_l (c := 8) (i := 79) rfl), List.forall_mem_cons.mpr ⟨(tw_l (c := 8) (i := 84) rfl), List.forall_mem_cons.mpr ⟨(tw_l (c := 8) (i := 85) rfl), List.forall_mem_cons.mpr ⟨(tw_l (c := 8) (i := 106) rfl), List.forall_mem_cons.mpr ⟨(tw_l (c := 8) (i := 111) rfl), fun _ h => absurd h List.not_mem_nil⟩⟩⟩⟩⟩⟩⟩⟩⟩⟩⟩⟩⟩⟩⟩⟩⟩⟩⟩⟩⟩
/-- a list stands in another one as a run -/
def ws_pre : List Jvm.Cond → List Jvm.Cond → Bool
  | [], _ => true
  | _ :: _, [] => false
  | a :: as, b :: bs => decide (a = b) && ws_pre as bs
def ws_sub (ws : List Jvm.Cond) : List Jvm.Cond → Bool
  | [] => false
  | b :: bs => ws_pre ws (b :: bs) || ws_sub ws bs
theorem ws_pre_ok : ∀ {as bs : List Jvm.Cond}, ws_pre as bs = true → ∀ w ∈ as, w ∈ bs
  | [], _, _ => fun _ h => absurd h List.not_mem_nil
  | _ :: _, [], h => by cases h
  | a :: as, b :: bs, h => by
    unfold ws_pre at h
    simp only [Bool.and_eq_true, decide_eq_true_eq] at h
    intro w hw
    rcases List.mem_cons.mp hw with rfl | hw
    · exact h.1 ▸ List.mem_cons_self
    · exact List.mem_cons_of_mem _ (ws_pre_ok h.2 w hw)
theorem ws_sub_ok {ws : List Jvm.Cond} : ∀ {bs : List Jvm.Cond}, ws_sub ws bs = true → ∀ w ∈ ws, w ∈ bs
  | [], h => by cases h
  | b :: bs, h => by
    unfold ws_sub at h
    rw [Bool.or_eq_true] at h
    rcases h with h | h
    · exact ws_pre_ok h
    · exact fun w hw => List.mem_cons_of_mem _ (ws_sub_ok h w hw)
def ws_ok (l L : List Jvm.Cond) : Bool := match l with
  | a :: b :: c :: r => (decide (a ∈ L) && (decide (b ∈ L) && decide (c ∈ L))) && ws_sub r L
  | _ => false
theorem ws_in {l L : List Jvm.Cond} (h : ws_ok l L = true) : ∀ w ∈ l, w ∈ L := by
  match l, h with
  | a :: b :: c :: r, h =>
    simp only [ws_ok, Bool.and_eq_true, decide_eq_true_eq] at h
    obtain ⟨⟨h1, h2, h3⟩, h4⟩ := h
    intro w hw
    rcases List.mem_cons.mp hw with rfl | hw
    · exact h1
    · rcases List.mem_cons.mp hw with rfl | hw
      · exact h2
      · rcases List.mem_cons.mp hw with rfl | hw
        · exact h3
        · exact ws_sub_ok h4 w hw
theorem tb_Sm0 : ∀ w ∈ tb_ws (tb_S[0]), w ∈ flatC (Jvm.Cond.and given_1 narrow_1) := ws_in (by decide +kernel)
theorem tb_Sm1 : ∀ w ∈ tb_ws (tb_S[1]), w ∈ flatC (Jvm.Cond.and given_1 narrow_1) := ws_in (by decide +kernel)
theorem tb_Sm2 : ∀ w ∈ tb_ws (tb_S[2]), w ∈ flatC (Jvm.Cond.and given_1 narrow_1) := ws_in (by decide +kernel)
theorem tb_Sm3 : ∀ w ∈ tb_ws (tb_S[3]), w ∈ flatC (Jvm.Cond.and given_1 narrow_1) := ws_in (by decide +kernel)
theorem tb_Sm4 : ∀ w ∈ tb_ws (tb_S[4]), w ∈ flatC (Jvm.Cond.and given_1 narrow_1) := ws_in (by decide +kernel)
theorem tb_Sm5 : ∀ w ∈ tb_ws (tb_S[5]), w ∈ flatC (Jvm.Cond.and given_1 narrow_1) := ws_in (by decide +kernel)
theorem tb_Sm6 : ∀ w ∈ tb_ws (tb_S[6]), w ∈ flatC (Jvm.Cond.and given_1 narrow_1) := ws_in (by decide +kernel)
theorem tb_Sm7 : ∀ w ∈ tb_ws (tb_S[7]), w ∈ flatC (Jvm.Cond.and given_1 narrow_1) := ws_in (by decide +kernel)
theorem tb_Sm8 : ∀ w ∈ tb_ws (tb_S[8]), w ∈ flatC (Jvm.Cond.and given_1 narrow_1) := ws_in (by decide +kernel)
theorem tb_Sm9 : ∀ w ∈ tb_ws (tb_S[9]), w ∈ flatC (Jvm.Cond.and given_1 narrow_1) := ws_in (by decide +kernel)
theorem tb_Sm10 : ∀ w ∈ tb_ws (tb_S[10]), w ∈ flatC (Jvm.Cond.and given_1 narrow_1) := ws_in (by decide +kernel)
theorem tb_Sm11 : ∀ w ∈ tb_ws (tb_S[11]), w ∈ flatC (Jvm.Cond.and given_1 narrow_1) := ws_in (by decide +kernel)
theorem tb_Sm12 : ∀ w ∈ tb_ws (tb_S[12]), w ∈ flatC (Jvm.Cond.and given_1 narrow_1) := ws_in (by decide +kernel)
theorem tb_Sm13 : ∀ w ∈ tb_ws (tb_S[13]), w ∈ flatC (Jvm.Cond.and given_1 narrow_1) := ws_in (by decide +kernel)
theorem tb_Sm14 : ∀ w ∈ tb_ws (tb_S[14]), w ∈ flatC (Jvm.Cond.and given_1 narrow_1) := ws_in (by decide +kernel)
theorem tb_Sm15 : ∀ w ∈ tb_ws (tb_S[15]), w ∈ flatC (Jvm.Cond.and given_1 narrow_1) := ws_in (by decide +kernel)
theorem tb_Sm16 : ∀ w ∈ tb_ws (tb_S[16]), w ∈ flatC (Jvm.Cond.and given_1 narrow_1) := ws_in (by decide +kernel)
theorem tb_Sm17 : ∀ w ∈ tb_ws (tb_S[17]), w ∈ flatC (Jvm.Cond.and given_1 narrow_1) := ws_in (by decide +kernel)
theorem tb_Sm18 : ∀ w ∈ tb_ws (tb_S[18]), w ∈ flatC (Jvm.Cond.and given_1 narrow_1) := ws_in (by decide +kernel)
theorem tb_Sm19 : ∀ w ∈ tb_ws (tb_S[19]), w ∈ flatC (Jvm.Cond.and given_1 narrow_1) := ws_in (by decide +kernel)
theorem tb_Sm20 : ∀ w ∈ tb_ws (tb_S[20]), w ∈ flatC (Jvm.Cond.and given_1 narrow_1) := ws_in (by decide +kernel)
theorem tb_Sm : ∀ t ∈ tb_S, ∀ w ∈ tb_ws t, w ∈ flatC (Jvm.Cond.and given_1 narrow_1) := List.forall_mem_cons.mpr ⟨tb_Sm0, List.forall_mem_cons.mpr ⟨tb_Sm1, List.forall_mem_cons.mpr ⟨tb_Sm2, List.forall_mem_cons.mpr ⟨tb_Sm3, List.forall_mem_cons.mpr ⟨tb_Sm4, List.forall_mem_cons.mpr ⟨tb_Sm5, List.forall_mem_cons.mpr ⟨tb_Sm6, List.forall_mem_cons.mpr ⟨tb_Sm7, List.forall_mem_cons.mpr ⟨tb_Sm8, List.forall_mem_cons.mpr ⟨tb_Sm9, List.forall_mem_cons.mpr ⟨tb_Sm10, List.forall_mem_cons.mpr ⟨tb_Sm11, List.forall_mem_cons.mpr ⟨tb_Sm12, List.forall_mem_cons.mpr ⟨tb_Sm13, List.forall_mem_cons.mpr ⟨tb_Sm14, List.forall_mem_cons.mpr ⟨tb_Sm15, List.forall_mem_cons.mpr ⟨tb_Sm16, List.forall_mem_cons.mpr ⟨tb_Sm17, List.forall_mem_cons.mpr ⟨tb_Sm18, List.forall_mem_cons.mpr ⟨tb_Sm19, List.forall_mem_cons.mpr ⟨tb_Sm20, fun _ h => absurd h List.not_mem_nil⟩⟩⟩⟩⟩⟩⟩⟩⟩⟩⟩⟩⟩⟩⟩⟩⟩⟩⟩⟩⟩
theorem tb_Sl : ∀ t ∈ tb_S, sx_len (t.2.2.2 / 64) < 2 ^ 31 := by decide +kernel
theorem tb_Sx : tb_S.map (fun t => t.2.2.2 % 64) = List.range 21 := by decide +kernel
theorem tb_Sn {n : Nat} {t : String × Nat × String × Nat} (h : tb_S[n]? = some t) : t.2.2.2 % 64 = n := by
  have e : (tb_S.map (fun t => t.2.2.2 % 64))[n]? = some (t.2.2.2 % 64) := by rw [List.getElem?_map, h]; rfl
  rw [tb_Sx] at e
  obtain ⟨h1, h2⟩ := List.getElem?_eq_some_iff.mp e
  rw [← h2, List.getElem_range]
def tb_Sf (A : Nat → Prop) (s : State) (t : String × Nat × String × Nat) (q : Nat × Nat) : Prop := vk_R t.1 t.2.1 t.2.2.1 q.1 s ∧ va_O "java/lang/String" q.1 A s s.heap ∧ va_OF "java/lang/String" "coder" "B" (.int 0) q.1 A s s.heap ∧ va_OF "java/lang/String" "value" "[B" (.ref q.2) q.1 A s s.heap ∧ va_T .byte q.2 (sx_len (t.2.2.2 / 64)) (fun j => .int (Int32.ofNat (sx_ch (t.2.2.2 / 64) j))) A s s.heap
theorem tb_Sq {args : Array Value} {s : State} {A : Nat → Prop} (hts : ∀ w ∈ lw_tbl, w.before args s = true) (hf : ∀ w ∈ flatC (Jvm.Cond.and given_1 narrow_1), w.before args s = true) (hA : ∀ a : Nat, a < s.heap.size → ¬ A a) : ∀ t ∈ tb_S, ∃ q : Nat × Nat, tb_Sf A s t q := by
  intro t ht
  have hw : ∀ w ∈ tb_ws t, w.before args s = true := fun w hw => hf w (tb_Sm t ht w hw)
  have hex := hw _ List.mem_cons_self
  have hco := hw _ (List.mem_cons_of_mem _ List.mem_cons_self)
  have har := hw _ (List.mem_cons_of_mem _ (List.mem_cons_of_mem _ List.mem_cons_self))
  have hle := hw _ (List.mem_cons_of_mem _ (List.mem_cons_of_mem _ (List.mem_cons_of_mem _ List.mem_cons_self)))
  have hel : ∀ j : Nat, j < sx_len (t.2.2.2 / 64) → (Jvm.Cond.eq (.elem (.field (.string t.1 t.2.1) "java/lang/String" "value" "[B") (.int (Int32.ofNat j))) (.int (Int32.ofNat (sx_ch (t.2.2.2 / 64) j)))).before args s = true := fun j hj =>
    hw _ (List.mem_cons_of_mem _ (List.mem_cons_of_mem _ (List.mem_cons_of_mem _ (List.mem_cons_of_mem _ (List.mem_map.mpr ⟨j, List.mem_range.mpr hj, rfl⟩)))))
  obtain ⟨a, c, cA, kA, q1, q2, q3, q4, q5, q6, -⟩ := Cond.exactly_spec (args := args) (first := s) (o := none) (s := s) (idx := []) (t := .string t.1 t.2.1) (cls := "java/lang/String") hex
  obtain ⟨v, hv, hT⟩ := va_Tof (f := fun j => .int (Int32.ofNat (sx_ch (t.2.2.2 / 64) j))) (A := A) (tb_Sl t ht) har (va_eqt hle) (fun j hj => va_eqt (hel j hj)) hA
  exact ⟨(a, v), vk_R.of (hts _ (tb_Sr t ht)) q1, ⟨cA, q3, q5, by rw [q6]; exact q2, hA a (Array.getElem?_eq_some_iff.mp q3).1⟩, vk_OFof q1 (va_eqt hco) hA, vk_OFof q1 hv hA, hT⟩
theorem tb_ncm : ∀ r1, r1 < 5 → ∀ r2, r2 < 5 → r1 ≠ r2 → Jvm.Cond.not (.castable (tb_x0 r1) (tb_x0 r2)) ∈ flatC (Jvm.Cond.and given_1 narrow_1) := by decide +kernel
theorem tb_rfm : ∀ w ∈ [Jvm.Cond.isRef (.static Bundle.tN "UNASSIGNED_STACK" Bundle.steD), Jvm.Cond.isRef (.static Bundle.tN "SUPPRESSED_SENTINEL" Bundle.listD), .eq (.static "java/lang/String" "COMPACT_STRINGS" "Z") (.int 1), .isRef (.static "jdk/internal/util/Preconditions" "SIOOBE_FORMATTER" "Ljava/util/function/BiFunction;")], w ∈ flatC (Jvm.Cond.and given_1 narrow_1) := by decide +kernel
theorem tb_En {Y : Option (List AI)} {args : Array Value} {s : State} (b : Nat) (hc : (Jvm.Cond.code x code maxLocals ret).before args s = true) (hts : ∀ w ∈ lw_tbl, w.before args s = true) (hgv : (Jvm.Cond.and given_1 narrow_1).before args s = true) : ∃ (D : va_G) (sb : SB), sb.1 = b ∧ (∀ w ∈ tb_T, w.before args s = true) ∧ ea_G tb_N (tb_P Y) D (fun q => s.heap.size ≤ q) sb s s.heap := by
  have hf := flat_of_before _ hgv
  have hT : ∀ w ∈ tb_T, w.before args s = true := by
    intro w hw
    rcases List.mem_cons.mp hw with rfl | hw
    · exact hc
    · exact hts _ (List.mem_filter.mp hw).1
  have h : ∀ c : Nat, ∃ p : ClassId × (Nat → Nat), ∀ q, tb_cl[c]? = some q → u_Kn s q.1 q.2.1 q.2.2 p.1 p.2 := by
    intro c
    cases hq : tb_cl[c]? with
    | none => exact ⟨(0, fun _ => 0), fun q h => by cases h⟩
    | some q =>
      obtain ⟨cC, iS, hK⟩ := u_known (C := q.1) (T := q.2.1) (N := q.2.2) (n := q.2.2) hT (tb_cw (Y := Y) c q hq).1 (hts _ (tb_in hq))
      exact ⟨(cC, iS), fun q' h => by cases h; exact hK⟩
  have hA : ∀ a : Nat, a < s.heap.size → ¬ s.heap.size ≤ a := fun a h1 h2 => by omega
  have hS : ∀ n : Nat, ∃ q : Nat × Nat, ∀ t, tb_S[n]? = some t → tb_Sf (fun q => s.heap.size ≤ q) s t q := by
    intro n
    cases hq : tb_S[n]? with
    | none => exact ⟨(0, 0), fun t h => by cases h⟩
    | some t =>
      obtain ⟨q, hq'⟩ := tb_Sq (A := fun q => s.heap.size ≤ q) hts hf hA t (List.mem_of_getElem? hq)
      exact ⟨q, fun t' h => by cases h; exact hq'⟩
  obtain ⟨ad, had⟩ := Classical.axiomOfChoice hS
  have had' : ∀ t ∈ tb_S, tb_Sf (fun q => s.heap.size ≤ q) s t (ad (t.2.2.2 % 64)) := by
    intro t ht
    obtain ⟨n, hn⟩ := List.getElem?_of_mem ht
    rw [tb_Sn hn]
    exact had n t hn
  have hfm : ∃ v : Value, va_Z "jdk/internal/util/Preconditions" "SIOOBE_FORMATTER" "Ljava/util/function/BiFunction;" v (fun q => s.heap.size ≤ q) s s.heap ∧ v.category = 1 := by
    rcases va_Zqof (hts _ (tw_l (c := 4) (i := 6) rfl)) (hts _ (tw_l (c := 1) (i := 16) rfl)) (hf _ (tb_rfm _ (List.mem_of_getElem? (i := 3) rfl))) hA with h | ⟨t, h⟩
    · exact ⟨.null, h, rfl⟩
    · exact ⟨.ref t, h, rfl⟩
  obtain ⟨v, hv1, hv2⟩ := hfm
  refine ⟨(fun c => (Classical.choose (h c)).1, fun c => (Classical.choose (h c)).2), (b, fun n => (ad n).1, fun n => (ad n).2, tb_S.map (fun t => t.2.2.2), v), rfl, hT, ⟨fun c q hq => Classical.choose_spec (h c) q hq, fun k q hq => by cases hq⟩, tb_nw hts, tb_st0 hts hf, fun C hC => ?_, fun a b hab => ?_, ?_, ?_, fun q hq => hq, ⟨⟨va_Zof (hts _ (tw_l (c := 3) (i := 230) rfl)) (hts _ (tw_l (c := 1) (i := 14) rfl)) (va_eqt (hf _ (tb_rfm _ (List.mem_of_getElem? (i := 2) rfl)))) hA, hv1, hv2⟩, fun z hz => ?_⟩, fun t ht => ⟨List.mem_map.mpr ⟨t, ht, rfl⟩, (had' t ht).1⟩⟩
  · rcases List.mem_cons.mp hC with rfl | hC
    · exact va_AO.of (hts _ (tw_l (c := 2) (i := 44) rfl))
    · cases hC
  · have hne : a % 5 ≠ b % 5 := Nat.ne_of_beq_eq_false hab
    exact va_Nc.of (hf _ (tb_ncm (a % 5) (Nat.mod_lt _ (by decide)) (b % 5) (Nat.mod_lt _ (by decide)) hne))
  · exact vx_Zqof (hts _ (tw_l (c := 4) (i := 135) rfl)) (hts _ (tw_l (c := 1) (i := 19) rfl)) (hf _ (tb_rfm _ (List.mem_of_getElem? (i := 0) rfl))) hA
  · exact vx_Zqof (hts _ (tw_l (c := 4) (i := 137) rfl)) (hts _ (tw_l (c := 1) (i := 19) rfl)) (hf _ (tb_rfm _ (List.mem_of_getElem? (i := 1) rfl))) hA
  · obtain ⟨t, ht, rfl⟩ := List.mem_map.mp hz
    exact (had' t ht).2
end
section
/-! states compared -/
def aiq (a b : AI) : Bool := match a, b with
  | .inl x, .inl y => Nat.beq x.toUInt32.toNat y.toUInt32.toNat
  | .inr p, .inr q => decide (p.1 = q.1) && decide (p.2 = q.2)
  | _, _ => false
theorem aiq_ok {a b : AI} (h : aiq a b = true) : a = b := by
  match a, b, h with
  | .inl x, .inl y, h =>
    have e : x.toUInt32.toNat = y.toUInt32.toNat := Nat.eq_of_beq_eq_true h
    have e1 : x.toUInt32 = y.toUInt32 := UInt32.toNat_inj.mp e
    have e2 : x = y := by rw [← Int32.toInt32_toUInt32 x, e1, Int32.toInt32_toUInt32]
    rw [e2]
  | .inr (p1, p2), .inr (q1, q2), h =>
    have h' : (decide (p1 = q1) && decide (p2 = q2)) = true := h
    simp only [Bool.and_eq_true, decide_eq_true_eq] at h'
    rw [h'.1, h'.2]
def avq (a b : AV) : Bool := match a, b with
  | .inl a, .inl b => aiq a b
  | .inr (.inl none), .inr (.inl none) => true
  | .inr (.inl (some k)), .inr (.inl (some j)) => Nat.beq k j
  | .inr (.inr (.inl none)), .inr (.inr (.inl none)) => true
  | .inr (.inr (.inl (some x))), .inr (.inr (.inl (some y))) => Nat.beq x.toUInt64.toNat y.toUInt64.toNat
  | .inr (.inr (.inr (.inl true))), .inr (.inr (.inr (.inl true))) => true
  | .inr (.inr (.inr (.inl false))), .inr (.inr (.inr (.inl false))) => true
  | .inr (.inr (.inr (.inr p))), .inr (.inr (.inr (.inr q))) => Nat.beq p q
  | _, _ => false
theorem avq_ok {a b : AV} (h : avq a b = true) : a = b := by
  unfold avq at h
  split at h
  · rw [aiq_ok h]
  · rfl
  · rw [Nat.eq_of_beq_eq_true h]
  · rfl
  · rename_i x y
    have e : x.toUInt64.toNat = y.toUInt64.toNat := Nat.eq_of_beq_eq_true h
    have e2 : x.toUInt64 = y.toUInt64 := UInt64.toNat_inj.mp e
    have e3 : x = y := by rw [← Int64.toInt64_toUInt64 x, e2, Int64.toInt64_toUInt64]
    rw [e3]
  · rfl
  · rfl
  · rw [Nat.eq_of_beq_eq_true h]
  · cases h
def lsq {α : Type} (f : α → α → Bool) (l m : List α) : Bool := match l, m with
  | [], [] => true
  | a :: l, b :: m => f a b && lsq f l m
  | _, _ => false
theorem lsq_ok {α : Type} {f : α → α → Bool} (hf : ∀ a b, f a b = true → a = b) : ∀ {l m : List α}, lsq f l m = true → l = m
  | [], [], _ => rfl
  | a :: l, b :: m, h => by
    have h' : (f a b && lsq f l m) = true := h
    simp only [Bool.and_eq_true] at h'
    rw [hf a b h'.1, lsq_ok hf h'.2]
  | [], _ :: _, h => by cases h
  | _ :: _, [], h => by cases h
def npq (a b : Nat × AV) : Bool := Nat.beq a.1 b.1 && avq a.2 b.2
theorem npq_ok (a b : Nat × AV) (h : npq a b = true) : a = b := by
  obtain ⟨a1, a2⟩ := a
  obtain ⟨b1, b2⟩ := b
  have h' : (Nat.beq a1 b1 && avq a2 b2) = true := h
  simp only [Bool.and_eq_true] at h'
  rw [Nat.eq_of_beq_eq_true h'.1, avq_ok h'.2]
def acq (a b : AC) : Bool := match a, b with
  | .inl p, .inl q => Nat.beq p.1 q.1 && (Nat.beq p.2.1 q.2.1 && (avq p.2.2.1 q.2.2.1 && lsq npq p.2.2.2 q.2.2.2))
  | .inr p, .inr q => Nat.beq p.1 q.1 && lsq avq p.2 q.2
  | _, _ => false
theorem acq_ok (a b : AC) (h : acq a b = true) : a = b := by
  match a, b, h with
  | .inl (p1, p2, p3, p4), .inl (q1, q2, q3, q4), h =>
    have h' : (Nat.beq p1 q1 && (Nat.beq p2 q2 && (avq p3 q3 && lsq npq p4 q4))) = true := h
    simp only [Bool.and_eq_true] at h'
    rw [Nat.eq_of_beq_eq_true h'.1, Nat.eq_of_beq_eq_true h'.2.1, avq_ok h'.2.2.1, lsq_ok npq_ok h'.2.2.2]
  | .inr (p1, p2), .inr (q1, q2), h =>
    have h' : (Nat.beq p1 q1 && lsq avq p2 q2) = true := h
    simp only [Bool.and_eq_true] at h'
    rw [Nat.eq_of_beq_eq_true h'.1, lsq_ok (fun _ _ => avq_ok) h'.2]
def afq (a : Option AF) (b : AF) : Bool := match a with
  | some a => Nat.beq a.1 b.1 && (lsq npq a.2.1 b.2.1 && (lsq avq a.2.2.1 b.2.2.1 && (lsq acq a.2.2.2.1 b.2.2.2.1 && (Nat.beq a.2.2.2.2.1 b.2.2.2.2.1 && Nat.beq a.2.2.2.2.2 b.2.2.2.2.2))))
  | none => false
theorem afq_ok {a : Option AF} {b : AF} (h : afq a b = true) : a = some b := by
  match a, b, h with
  | some (a1, a2, a3, a4, a5, a6), (b1, b2, b3, b4, b5, b6), h =>
    have h' : (Nat.beq a1 b1 && (lsq npq a2 b2 && (lsq avq a3 b3 && (lsq acq a4 b4 && (Nat.beq a5 b5 && Nat.beq a6 b6))))) = true := h
    simp only [Bool.and_eq_true] at h'
    obtain ⟨h1, h2, h3, h4, h5, h6⟩ := h'
    rw [Nat.eq_of_beq_eq_true h1, lsq_ok npq_ok h2, lsq_ok (fun _ _ => avq_ok) h3, lsq_ok acq_ok h4, Nat.eq_of_beq_eq_true h5, Nat.eq_of_beq_eq_true h6]
def atq (a : Option (Nat × List (Nat × AV) × List AV)) (b : Nat × List (Nat × AV) × List AV) : Bool := match a with
  | some a => Nat.beq a.1 b.1 && (lsq npq a.2.1 b.2.1 && lsq avq a.2.2 b.2.2)
  | none => false
theorem atq_ok {a : Option (Nat × List (Nat × AV) × List AV)} {b : Nat × List (Nat × AV) × List AV} (h : atq a b = true) : a = some b := by
  match a, b, h with
  | some (a1, a2, a3), (b1, b2, b3), h =>
    have h' : (Nat.beq a1 b1 && (lsq npq a2 b2 && lsq avq a3 b3)) = true := h
    simp only [Bool.and_eq_true] at h'
    obtain ⟨h1, h2, h3⟩ := h'
    rw [Nat.eq_of_beq_eq_true h1, lsq_ok npq_ok h2, lsq_ok (fun _ _ => avq_ok) h3]
/-! the law up to its loop -/
def tz_L0 : List (Nat × AV) := [(0, .inr (.inr (.inr (.inl true))))]
set_option maxRecDepth 100000 in
theorem tz_pre0 : afq (ea_y (tb_P none) 100000 0 23 1000 0 tz_L0 [] [] 0 0) (23, tb_L, [], tb_C, 216, 22951) = true := by decide +kernel
theorem tz_pre : ea_y (tb_P none) 100000 0 23 1000 0 tz_L0 [] [] 0 0 = some (23, tb_L, [], tb_C, 216, 22951) := afq_ok tz_pre0
end
