/-! all methods together -/
def mj_TT : List mj_C := [mt_0, mt_1, mt_2, mt_3, mt_4, mt_5, mt_6, mt_7, mt_8, mt_9, mt_10, mt_11, mt_12, mt_13, mt_14, mt_15, mt_16, mt_17, mt_18, mt_19, mt_20, mt_21, mt_22, mt_23, mt_24, mt_25, mt_26, mt_27, mt_28, mt_29, mt_30, mt_31, mt_32, mt_33, mt_34, mt_35, mt_36, mt_37, mt_38, mt_39, mt_40, mt_41, mt_42, mt_43, mt_44, mt_45, mt_46, mt_47, mt_48, mt_49, mt_50, mt_51, mt_52, mt_53, mt_54, mt_55, mt_56, mt_57, mt_58, mt_59, mt_60, mt_61, mt_62, mt_63, mt_64, mt_65, mt_66, mt_67, mt_68, mt_69, mt_70, mt_71, mt_72, mt_73, mt_74, mt_75, mt_76, mt_77, mt_78, mt_79, mt_80, mt_81, mt_82, mt_83, mt_84, mt_85, mt_86, mt_87, mt_88, mt_89, mt_90, mt_91, mt_92, mt_93, mt_94, mt_95, mt_96, mt_97, mt_98, mt_99, mt_100, mt_101, mt_102, mt_103, mt_104, mt_105, mt_106, mt_107, mt_108, mt_109, mt_110, mt_111, mt_112, mt_113, mt_114, mt_115, mt_116, mt_117, mt_118, mt_119, mt_120, mt_121, mt_122, mt_123, mt_124, mt_125, mt_126, mt_127, mt_128, mt_129, mt_130, mt_131, mt_132, mt_133, mt_134, mt_135, mt_136, mt_137, mt_138, mt_139, mt_140, mt_141, mt_142, mt_143, mt_144, mt_145, mt_146, mt_147, mt_148, mt_149, mt_150, mt_151, mt_152, mt_153, mt_154, mt_155, mt_156, mt_157, mt_158, mt_159, mt_160, mt_161, mt_162, mt_163, mt_164, mt_165, mt_166, mt_167, mt_168, mt_169, mt_170, mt_171, mt_172, mt_173, mt_174, mt_175, mt_176, mt_177, mt_178, mt_179, mt_180, mt_181, mt_182, mt_183, mt_184, mt_185, mt_186, mt_187, mt_188, mt_189, mt_190, mt_191, mt_192, mt_193, mt_194, mt_195, mt_196, mt_197, mt_198, mt_199, mt_200, mt_201, mt_202, mt_203, mt_204, mt_205, mt_206, mt_207, mt_208, mt_209, mt_210, mt_211, mt_212, mt_213, mt_214, mt_215, mt_216, mt_217, mt_218, mt_219, mt_220, mt_221, mt_222, mt_223, mt_224, mt_225, mt_226, mt_227, mt_228, mt_229, mt_230, mt_231, mt_232, mt_233, mt_234, mt_235, mt_236, mt_237, mt_238, mt_239, mt_240, mt_241, mt_242, mt_243, mt_244, mt_245, mt_246, mt_247, mt_248, mt_249, mt_250, mt_251, mt_252, mt_253, mt_254, mt_255, mt_256, mt_257, mt_258, mt_259, mt_260, mt_261, mt_262, mt_263, mt_264, mt_265, mt_266, mt_267, mt_268, mt_269, mt_270, mt_271, mt_272, mt_273, mt_274, mt_275, mt_276, mt_277, mt_278, mt_279, mt_280, mt_281, mt_282, mt_283, mt_284, mt_285, mt_286, mt_287, mt_288, mt_289, mt_290, mt_291]
def mj_CD (z : Nat) : mj_C := mj_TT.getD z ([], [], 0)
theorem mo_0 : mj_okM lw_tbl mj_CL mj_TY mj_MS mm_0 mt_0 := mj_ckM_ok mpq_13 my_0 mk_0
theorem mo_1 : mj_okM lw_tbl mj_CL mj_TY mj_MS mm_1 mt_1 := mj_ckM_ok mpq_13 my_1 mk_1
theorem mo_2 : mj_okM lw_tbl mj_CL mj_TY mj_MS mm_2 mt_2 := mj_ckM_ok mpq_15 my_2 mk_2
theorem mo_3 : mj_okM lw_tbl mj_CL mj_TY mj_MS mm_3 mt_3 := mj_ckM_ok mpq_14 my_3 mk_3
theorem mo_4 : mj_okM lw_tbl mj_CL mj_TY mj_MS mm_4 mt_4 := mj_ckM_ok mpq_13 my_4 mk_4
theorem mo_5 : mj_okM lw_tbl mj_CL mj_TY mj_MS mm_5 mt_5 := mj_ckM_ok mpq_13 my_5 mk_5
theorem mo_6 : mj_okM lw_tbl mj_CL mj_TY mj_MS mm_6 mt_6 := mj_ckM_ok mpq_13 my_6 mk_6
theorem mo_7 : mj_okM lw_tbl mj_CL mj_TY mj_MS mm_7 mt_7 := mj_ckM_ok mpq_15 my_7 mk_7
theorem mo_8 : mj_okM lw_tbl mj_CL mj_TY mj_MS mm_8 mt_8 := mj_ckM_ok mpq_14 my_8 mk_8
theorem mo_9 : mj_okM lw_tbl mj_CL mj_TY mj_MS mm_9 mt_9 := mj_ckM_ok mpq_0 my_9 mk_9
theorem mo_10 : mj_okM lw_tbl mj_CL mj_TY mj_MS mm_10 mt_10 := mj_ckM_ok mpq_0 my_10 mk_10
theorem mo_11 : mj_okM lw_tbl mj_CL mj_TY mj_MS mm_11 mt_11 := mj_ckM_ok mpq_0 my_11 mk_11
theorem mo_12 : mj_okM lw_tbl mj_CL mj_TY mj_MS mm_12 mt_12 := mj_ckM_ok mpq_0 my_12 mk_12
theorem mo_13 : mj_okM lw_tbl mj_CL mj_TY mj_MS mm_13 mt_13 := mj_ckM_ok mpq_0 my_13 mk_13
theorem mo_14 : mj_okM lw_tbl mj_CL mj_TY mj_MS mm_14 mt_14 := mj_ckM_ok mpq_0 my_14 mk_14
theorem mo_15 : mj_okM lw_tbl mj_CL mj_TY mj_MS mm_15 mt_15 := mj_ckM_ok mpq_0 my_15 mk_15
theorem mo_16 : mj_okM lw_tbl mj_CL mj_TY mj_MS mm_16 mt_16 := mj_ckM_ok mpq_0 my_16 mk_16
theorem mo_17 : mj_okM lw_tbl mj_CL mj_TY mj_MS mm_17 mt_17 := mj_ckM_ok mpq_0 my_17 mk_17
theorem mo_18 : mj_okM lw_tbl mj_CL mj_TY mj_MS mm_18 mt_18 := mj_ckM_ok mpq_0 my_18 mk_18
theorem mo_19 : mj_okM lw_tbl mj_CL mj_TY mj_MS mm_19 mt_19 := mj_ckM_ok mpq_0 my_19 mk_19
theorem mo_20 : mj_okM lw_tbl mj_CL mj_TY mj_MS mm_20 mt_20 := mj_ckM_ok mpq_0 my_20 mk_20
theorem mo_21 : mj_okM lw_tbl mj_CL mj_TY mj_MS mm_21 mt_21 := mj_ckM_ok mpq_0 my_21 mk_21
theorem mo_22 : mj_okM lw_tbl mj_CL mj_TY mj_MS mm_22 mt_22 := mj_ckM_ok mpq_0 my_22 mk_22
theorem mo_23 : mj_okM lw_tbl mj_CL mj_TY mj_MS mm_23 mt_23 := mj_ckM_ok mpq_0 my_23 mk_23
theorem mo_24 : mj_okM lw_tbl mj_CL mj_TY mj_MS mm_24 mt_24 := mj_ckM_ok mpq_0 my_24 mk_24
theorem mo_25 : mj_okM lw_tbl mj_CL mj_TY mj_MS mm_25 mt_25 := mj_ckM_ok mpq_0 my_25 mk_25
theorem mo_26 : mj_okM lw_tbl mj_CL mj_TY mj_MS mm_26 mt_26 := mj_ckM_ok mpq_0 my_26 mk_26
theorem mo_27 : mj_okM lw_tbl mj_CL mj_TY mj_MS mm_27 mt_27 := mj_ckM_ok mpq_0 my_27 mk_27
theorem mo_28 : mj_okM lw_tbl mj_CL mj_TY mj_MS mm_28 mt_28 := mj_ckM_ok mpq_0 my_28 mk_28
theorem mo_29 : mj_okM lw_tbl mj_CL mj_TY mj_MS mm_29 mt_29 := mj_ckM_ok mpq_0 my_29 mk_29
theorem mo_30 : mj_okM lw_tbl mj_CL mj_TY mj_MS mm_30 mt_30 := mj_ckM_ok mpq_0 my_30 mk_30
theorem mo_31 : mj_okM lw_tbl mj_CL mj_TY mj_MS mm_31 mt_31 := mj_ckM_ok mpq_0 my_31 mk_31
theorem mo_32 : mj_okM lw_tbl mj_CL mj_TY mj_MS mm_32 mt_32 := mj_ckM_ok mpq_0 my_32 mk_32
theorem mo_33 : mj_okM lw_tbl mj_CL mj_TY mj_MS mm_33 mt_33 := mj_ckM_ok mpq_0 my_33 mk_33
theorem mo_34 : mj_okM lw_tbl mj_CL mj_TY mj_MS mm_34 mt_34 := mj_ckM_ok mpq_0 my_34 mk_34
theorem mo_35 : mj_okM lw_tbl mj_CL mj_TY mj_MS mm_35 mt_35 := mj_ckM_ok mpq_0 my_35 mk_35
theorem mo_36 : mj_okM lw_tbl mj_CL mj_TY mj_MS mm_36 mt_36 := mj_ckM_ok mpq_0 my_36 mk_36
theorem mo_37 : mj_okM lw_tbl mj_CL mj_TY mj_MS mm_37 mt_37 := mj_ckM_ok mpq_0 my_37 mk_37
theorem mo_38 : mj_okM lw_tbl mj_CL mj_TY mj_MS mm_38 mt_38 := mj_ckM_ok mpq_0 my_38 mk_38
theorem mo_39 : mj_okM lw_tbl mj_CL mj_TY mj_MS mm_39 mt_39 := mj_ckM_ok mpq_0 my_39 mk_39
theorem mo_40 : mj_okM lw_tbl mj_CL mj_TY mj_MS mm_40 mt_40 := mj_ckM_ok mpq_0 my_40 mk_40
theorem mo_41 : mj_okM lw_tbl mj_CL mj_TY mj_MS mm_41 mt_41 := mj_ckM_ok mpq_0 my_41 mk_41
theorem mo_42 : mj_okM lw_tbl mj_CL mj_TY mj_MS mm_42 mt_42 := mj_ckM_ok mpq_0 my_42 mk_42
theorem mo_43 : mj_okM lw_tbl mj_CL mj_TY mj_MS mm_43 mt_43 := mj_ckM_ok mpq_0 my_43 mk_43
theorem mo_44 : mj_okM lw_tbl mj_CL mj_TY mj_MS mm_44 mt_44 := mj_ckM_ok mpq_0 my_44 mk_44
theorem mo_45 : mj_okM lw_tbl mj_CL mj_TY mj_MS mm_45 mt_45 := mj_ckM_ok mpq_0 my_45 mk_45
theorem mo_46 : mj_okM lw_tbl mj_CL mj_TY mj_MS mm_46 mt_46 := mj_ckM_ok mpq_0 my_46 mk_46
theorem mo_47 : mj_okM lw_tbl mj_CL mj_TY mj_MS mm_47 mt_47 := mj_ckM_ok mpq_0 my_47 mk_47
theorem mo_48 : mj_okM lw_tbl mj_CL mj_TY mj_MS mm_48 mt_48 := mj_ckM_ok mpq_0 my_48 mk_48
theorem mo_49 : mj_okM lw_tbl mj_CL mj_TY mj_MS mm_49 mt_49 := mj_ckM_ok mpq_0 my_49 mk_49
theorem mo_50 : mj_okM lw_tbl mj_CL mj_TY mj_MS mm_50 mt_50 := mj_ckM_ok mpq_0 my_50 mk_50
theorem mo_51 : mj_okM lw_tbl mj_CL mj_TY mj_MS mm_51 mt_51 := mj_ckM_ok mpq_0 my_51 mk_51
theorem mo_52 : mj_okM lw_tbl mj_CL mj_TY mj_MS mm_52 mt_52 := mj_ckM_ok mpq_0 my_52 mk_52
theorem mo_53 : mj_okM lw_tbl mj_CL mj_TY mj_MS mm_53 mt_53 := mj_ckM_ok mpq_0 my_53 mk_53
theorem mo_54 : mj_okM lw_tbl mj_CL mj_TY mj_MS mm_54 mt_54 := mj_ckM_ok mpq_0 my_54 mk_54
theorem mo_55 : mj_okM lw_tbl mj_CL mj_TY mj_MS mm_55 mt_55 := mj_ckM_ok mpq_0 my_55 mk_55
theorem mo_56 : mj_okM lw_tbl mj_CL mj_TY mj_MS mm_56 mt_56 := mj_ckM_ok mpq_0 my_56 mk_56
theorem mo_57 : mj_okM lw_tbl mj_CL mj_TY mj_MS mm_57 mt_57 := mj_ckM_ok mpq_0 my_57 mk_57
theorem mo_58 : mj_okM lw_tbl mj_CL mj_TY mj_MS mm_58 mt_58 := mj_ckM_ok mpq_0 my_58 mk_58
theorem mo_59 : mj_okM lw_tbl mj_CL mj_TY mj_MS mm_59 mt_59 := mj_ckM_ok mpq_0 my_59 mk_59
theorem mo_60 : mj_okM lw_tbl mj_CL mj_TY mj_MS mm_60 mt_60 := mj_ckM_ok mpq_0 my_60 mk_60
theorem mo_61 : mj_okM lw_tbl mj_CL mj_TY mj_MS mm_61 mt_61 := mj_ckM_ok mpq_0 my_61 mk_61
theorem mo_62 : mj_okM lw_tbl mj_CL mj_TY mj_MS mm_62 mt_62 := mj_ckM_ok mpq_0 my_62 mk_62
theorem mo_63 : mj_okM lw_tbl mj_CL mj_TY mj_MS mm_63 mt_63 := mj_ckM_ok mpq_0 my_63 mk_63
theorem mo_64 : mj_okM lw_tbl mj_CL mj_TY mj_MS mm_64 mt_64 := mj_ckM_ok mpq_0 my_64 mk_64
theorem mo_65 : mj_okM lw_tbl mj_CL mj_TY mj_MS mm_65 mt_65 := mj_ckM_ok mpq_0 my_65 mk_65
theorem mo_66 : mj_okM lw_tbl mj_CL mj_TY mj_MS mm_66 mt_66 := mj_ckM_ok mpq_0 my_66 mk_66
theorem mo_67 : mj_okM lw_tbl mj_CL mj_TY mj_MS mm_67 mt_67 := mj_ckM_ok mpq_0 my_67 mk_67
theorem mo_68 : mj_okM lw_tbl mj_CL mj_TY mj_MS mm_68 mt_68 := mj_ckM_ok mpq_0 my_68 mk_68
theorem mo_69 : mj_okM lw_tbl mj_CL mj_TY mj_MS mm_69 mt_69 := mj_ckM_ok mpq_0 my_69 mk_69
theorem mo_70 : mj_okM lw_tbl mj_CL mj_TY mj_MS mm_70 mt_70 := mj_ckM_ok mpq_0 my_70 mk_70
theorem mo_71 : mj_okM lw_tbl mj_CL mj_TY mj_MS mm_71 mt_71 := mj_ckM_ok mpq_0 my_71 mk_71
theorem mo_72 : mj_okM lw_tbl mj_CL mj_TY mj_MS mm_72 mt_72 := mj_ckM_ok mpq_0 my_72 mk_72
theorem mo_73 : mj_okM lw_tbl mj_CL mj_TY mj_MS mm_73 mt_73 := mj_ckM_ok mpq_0 my_73 mk_73
theorem mo_74 : mj_okM lw_tbl mj_CL mj_TY mj_MS mm_74 mt_74 := mj_ckM_ok mpq_0 my_74 mk_74
theorem mo_75 : mj_okM lw_tbl mj_CL mj_TY mj_MS mm_75 mt_75 := mj_ckM_ok mpq_0 my_75 mk_75
theorem mo_76 : mj_okM lw_tbl mj_CL mj_TY mj_MS mm_76 mt_76 := mj_ckM_ok mpq_0 my_76 mk_76
theorem mo_77 : mj_okM lw_tbl mj_CL mj_TY mj_MS mm_77 mt_77 := mj_ckM_ok mpq_0 my_77 mk_77
theorem mo_78 : mj_okM lw_tbl mj_CL mj_TY mj_MS mm_78 mt_78 := mj_ckM_ok mpq_0 my_78 mk_78
theorem mo_79 : mj_okM lw_tbl mj_CL mj_TY mj_MS mm_79 mt_79 := mj_ckM_ok mpq_0 my_79 mk_79
theorem mo_80 : mj_okM lw_tbl mj_CL mj_TY mj_MS mm_80 mt_80 := mj_ckM_ok mpq_0 my_80 mk_80
theorem mo_81 : mj_okM lw_tbl mj_CL mj_TY mj_MS mm_81 mt_81 := mj_ckM_ok mpq_0 my_81 mk_81
theorem mo_82 : mj_okM lw_tbl mj_CL mj_TY mj_MS mm_82 mt_82 := mj_ckM_ok mpq_0 my_82 mk_82
theorem mo_83 : mj_okM lw_tbl mj_CL mj_TY mj_MS mm_83 mt_83 := mj_ckM_ok mpq_0 my_83 mk_83
theorem mo_84 : mj_okM lw_tbl mj_CL mj_TY mj_MS mm_84 mt_84 := mj_ckM_ok mpq_0 my_84 mk_84
theorem mo_85 : mj_okM lw_tbl mj_CL mj_TY mj_MS mm_85 mt_85 := mj_ckM_ok mpq_0 my_85 mk_85
theorem mo_86 : mj_okM lw_tbl mj_CL mj_TY mj_MS mm_86 mt_86 := mj_ckM_ok mpq_0 my_86 mk_86
theorem mo_87 : mj_okM lw_tbl mj_CL mj_TY mj_MS mm_87 mt_87 := mj_ckM_ok mpq_0 my_87 mk_87
theorem mo_88 : mj_okM lw_tbl mj_CL mj_TY mj_MS mm_88 mt_88 := mj_ckM_ok mpq_0 my_88 mk_88
theorem mo_89 : mj_okM lw_tbl mj_CL mj_TY mj_MS mm_89 mt_89 := mj_ckM_ok mpq_0 my_89 mk_89
theorem mo_90 : mj_okM lw_tbl mj_CL mj_TY mj_MS mm_90 mt_90 := mj_ckM_ok mpq_0 my_90 mk_90
theorem mo_91 : mj_okM lw_tbl mj_CL mj_TY mj_MS mm_91 mt_91 := mj_ckM_ok mpq_0 my_91 mk_91
theorem mo_92 : mj_okM lw_tbl mj_CL mj_TY mj_MS mm_92 mt_92 := mj_ckM_ok mpq_0 my_92 mk_92
theorem mo_93 : mj_okM lw_tbl mj_CL mj_TY mj_MS mm_93 mt_93 := mj_ckM_ok mpq_0 my_93 mk_93
theorem mo_94 : mj_okM lw_tbl mj_CL mj_TY mj_MS mm_94 mt_94 := mj_ckM_ok mpq_0 my_94 mk_94
theorem mo_95 : mj_okM lw_tbl mj_CL mj_TY mj_MS mm_95 mt_95 := mj_ckM_ok mpq_0 my_95 mk_95
theorem mo_96 : mj_okM lw_tbl mj_CL mj_TY mj_MS mm_96 mt_96 := mj_ckM_ok mpq_0 my_96 mk_96
theorem mo_97 : mj_okM lw_tbl mj_CL mj_TY mj_MS mm_97 mt_97 := mj_ckM_ok mpq_0 my_97 mk_97
theorem mo_98 : mj_okM lw_tbl mj_CL mj_TY mj_MS mm_98 mt_98 := mj_ckM_ok mpq_0 my_98 mk_98
theorem mo_99 : mj_okM lw_tbl mj_CL mj_TY mj_MS mm_99 mt_99 := mj_ckM_ok mpq_0 my_99 mk_99
theorem mo_100 : mj_okM lw_tbl mj_CL mj_TY mj_MS mm_100 mt_100 := mj_ckM_ok mpq_0 my_100 mk_100
theorem mo_101 : mj_okM lw_tbl mj_CL mj_TY mj_MS mm_101 mt_101 := mj_ckM_ok mpq_0 my_101 mk_101
theorem mo_102 : mj_okM lw_tbl mj_CL mj_TY mj_MS mm_102 mt_102 := mj_ckM_ok mpq_0 my_102 mk_102
theorem mo_103 : mj_okM lw_tbl mj_CL mj_TY mj_MS mm_103 mt_103 := mj_ckM_ok mpq_0 my_103 mk_103
theorem mo_104 : mj_okM lw_tbl mj_CL mj_TY mj_MS mm_104 mt_104 := mj_ckM_ok mpq_0 my_104 mk_104
theorem mo_105 : mj_okM lw_tbl mj_CL mj_TY mj_MS mm_105 mt_105 := mj_ckM_ok mpq_0 my_105 mk_105
theorem mo_106 : mj_okM lw_tbl mj_CL mj_TY mj_MS mm_106 mt_106 := mj_ckM_ok mpq_0 my_106 mk_106
theorem mo_107 : mj_okM lw_tbl mj_CL mj_TY mj_MS mm_107 mt_107 := mj_ckM_ok mpq_0 my_107 mk_107
theorem mo_108 : mj_okM lw_tbl mj_CL mj_TY mj_MS mm_108 mt_108 := mj_ckM_ok mpq_0 my_108 mk_108
theorem mo_109 : mj_okM lw_tbl mj_CL mj_TY mj_MS mm_109 mt_109 := mj_ckM_ok mpq_0 my_109 mk_109
theorem mo_110 : mj_okM lw_tbl mj_CL mj_TY mj_MS mm_110 mt_110 := mj_ckM_ok mpq_0 my_110 mk_110
theorem mo_111 : mj_okM lw_tbl mj_CL mj_TY mj_MS mm_111 mt_111 := mj_ckM_ok mpq_0 my_111 mk_111
theorem mo_112 : mj_okM lw_tbl mj_CL mj_TY mj_MS mm_112 mt_112 := mj_ckM_ok mpq_0 my_112 mk_112
theorem mo_113 : mj_okM lw_tbl mj_CL mj_TY mj_MS mm_113 mt_113 := mj_ckM_ok mpq_0 my_113 mk_113
theorem mo_114 : mj_okM lw_tbl mj_CL mj_TY mj_MS mm_114 mt_114 := mj_ckM_ok mpq_0 my_114 mk_114
theorem mo_115 : mj_okM lw_tbl mj_CL mj_TY mj_MS mm_115 mt_115 := mj_ckM_ok mpq_0 my_115 mk_115
theorem mo_116 : mj_okM lw_tbl mj_CL mj_TY mj_MS mm_116 mt_116 := mj_ckM_ok mpq_0 my_116 mk_116
theorem mo_117 : mj_okM lw_tbl mj_CL mj_TY mj_MS mm_117 mt_117 := mj_ckM_ok mpq_0 my_117 mk_117
theorem mo_118 : mj_okM lw_tbl mj_CL mj_TY mj_MS mm_118 mt_118 := mj_ckM_ok mpq_0 my_118 mk_118
theorem mo_119 : mj_okM lw_tbl mj_CL mj_TY mj_MS mm_119 mt_119 := mj_ckM_ok mpq_0 my_119 mk_119
theorem mo_120 : mj_okM lw_tbl mj_CL mj_TY mj_MS mm_120 mt_120 := mj_ckM_ok mpq_0 my_120 mk_120
theorem mo_121 : mj_okM lw_tbl mj_CL mj_TY mj_MS mm_121 mt_121 := mj_ckM_ok mpq_0 my_121 mk_121
theorem mo_122 : mj_okM lw_tbl mj_CL mj_TY mj_MS mm_122 mt_122 := mj_ckM_ok mpq_0 my_122 mk_122
theorem mo_123 : mj_okM lw_tbl mj_CL mj_TY mj_MS mm_123 mt_123 := mj_ckM_ok mpq_0 my_123 mk_123
theorem mo_124 : mj_okM lw_tbl mj_CL mj_TY mj_MS mm_124 mt_124 := mj_ckM_ok mpq_0 my_124 mk_124
theorem mo_125 : mj_okM lw_tbl mj_CL mj_TY mj_MS mm_125 mt_125 := mj_ckM_ok mpq_0 my_125 mk_125
theorem mo_126 : mj_okM lw_tbl mj_CL mj_TY mj_MS mm_126 mt_126 := mj_ckM_ok mpq_0 my_126 mk_126
theorem mo_127 : mj_okM lw_tbl mj_CL mj_TY mj_MS mm_127 mt_127 := mj_ckM_ok mpq_0 my_127 mk_127
theorem mo_128 : mj_okM lw_tbl mj_CL mj_TY mj_MS mm_128 mt_128 := mj_ckM_ok mpq_0 my_128 mk_128
theorem mo_129 : mj_okM lw_tbl mj_CL mj_TY mj_MS mm_129 mt_129 := mj_ckM_ok mpq_0 my_129 mk_129
theorem mo_130 : mj_okM lw_tbl mj_CL mj_TY mj_MS mm_130 mt_130 := mj_ckM_ok mpq_0 my_130 mk_130
theorem mo_131 : mj_okM lw_tbl mj_CL mj_TY mj_MS mm_131 mt_131 := mj_ckM_ok mpq_0 my_131 mk_131
theorem mo_132 : mj_okM lw_tbl mj_CL mj_TY mj_MS mm_132 mt_132 := mj_ckM_ok mpq_0 my_132 mk_132
theorem mo_133 : mj_okM lw_tbl mj_CL mj_TY mj_MS mm_133 mt_133 := mj_ckM_ok mpq_1 my_133 mk_133
theorem mo_134 : mj_okM lw_tbl mj_CL mj_TY mj_MS mm_134 mt_134 := mj_ckM_ok mpq_1 my_134 mk_134
theorem mo_135 : mj_okM lw_tbl mj_CL mj_TY mj_MS mm_135 mt_135 := mj_ckM_ok mpq_1 my_135 mk_135
theorem mo_136 : mj_okM lw_tbl mj_CL mj_TY mj_MS mm_136 mt_136 := mj_ckM_ok mpq_1 my_136 mk_136
theorem mo_137 : mj_okM lw_tbl mj_CL mj_TY mj_MS mm_137 mt_137 := mj_ckM_ok mpq_8 my_137 mk_137
theorem mo_138 : mj_okM lw_tbl mj_CL mj_TY mj_MS mm_138 mt_138 := mj_ckM_ok mpq_11 my_138 mk_138
theorem mo_139 : mj_okM lw_tbl mj_CL mj_TY mj_MS mm_139 mt_139 := mj_ckM_ok mpq_8 my_139 mk_139
theorem mo_140 : mj_okM lw_tbl mj_CL mj_TY mj_MS mm_140 mt_140 := mj_ckM_ok mpq_8 my_140 mk_140
theorem mo_141 : mj_okM lw_tbl mj_CL mj_TY mj_MS mm_141 mt_141 := mj_ckM_ok mpq_8 my_141 mk_141
theorem mo_142 : mj_okM lw_tbl mj_CL mj_TY mj_MS mm_142 mt_142 := mj_ckM_ok mpq_8 my_142 mk_142
theorem mo_143 : mj_okM lw_tbl mj_CL mj_TY mj_MS mm_143 mt_143 := mj_ckM_ok mpq_8 my_143 mk_143
theorem mo_144 : mj_okM lw_tbl mj_CL mj_TY mj_MS mm_144 mt_144 := mj_ckM_ok mpq_8 my_144 mk_144
theorem mo_145 : mj_okM lw_tbl mj_CL mj_TY mj_MS mm_145 mt_145 := mj_ckM_ok mpq_8 my_145 mk_145
theorem mo_146 : mj_okM lw_tbl mj_CL mj_TY mj_MS mm_146 mt_146 := mj_ckM_ok mpq_8 my_146 mk_146
theorem mo_147 : mj_okM lw_tbl mj_CL mj_TY mj_MS mm_147 mt_147 := mj_ckM_ok mpq_8 my_147 mk_147
theorem mo_148 : mj_okM lw_tbl mj_CL mj_TY mj_MS mm_148 mt_148 := mj_ckM_ok mpq_11 my_148 mk_148
theorem mo_149 : mj_okM lw_tbl mj_CL mj_TY mj_MS mm_149 mt_149 := mj_ckM_ok mpq_11 my_149 mk_149
theorem mo_150 : mj_okM lw_tbl mj_CL mj_TY mj_MS mm_150 mt_150 := mj_ckM_ok mpq_11 my_150 mk_150
theorem mo_151 : mj_okM lw_tbl mj_CL mj_TY mj_MS mm_151 mt_151 := mj_ckM_ok mpq_8 my_151 mk_151
theorem mo_152 : mj_okM lw_tbl mj_CL mj_TY mj_MS mm_152 mt_152 := mj_ckM_ok mpq_8 my_152 mk_152
theorem mo_153 : mj_okM lw_tbl mj_CL mj_TY mj_MS mm_153 mt_153 := mj_ckM_ok mpq_8 my_153 mk_153
theorem mo_154 : mj_okM lw_tbl mj_CL mj_TY mj_MS mm_154 mt_154 := mj_ckM_ok mpq_11 my_154 mk_154
theorem mo_155 : mj_okM lw_tbl mj_CL mj_TY mj_MS mm_155 mt_155 := mj_ckM_ok mpq_8 my_155 mk_155
theorem mo_156 : mj_okM lw_tbl mj_CL mj_TY mj_MS mm_156 mt_156 := mj_ckM_ok mpq_8 my_156 mk_156
theorem mo_157 : mj_okM lw_tbl mj_CL mj_TY mj_MS mm_157 mt_157 := mj_ckM_ok mpq_8 my_157 mk_157
theorem mo_158 : mj_okM lw_tbl mj_CL mj_TY mj_MS mm_158 mt_158 := mj_ckM_ok mpq_8 my_158 mk_158
theorem mo_159 : mj_okM lw_tbl mj_CL mj_TY mj_MS mm_159 mt_159 := mj_ckM_ok mpq_8 my_159 mk_159
theorem mo_160 : mj_okM lw_tbl mj_CL mj_TY mj_MS mm_160 mt_160 := mj_ckM_ok mpq_8 my_160 mk_160
theorem mo_161 : mj_okM lw_tbl mj_CL mj_TY mj_MS mm_161 mt_161 := mj_ckM_ok mpq_8 my_161 mk_161
theorem mo_162 : mj_okM lw_tbl mj_CL mj_TY mj_MS mm_162 mt_162 := mj_ckM_ok mpq_8 my_162 mk_162
theorem mo_163 : mj_okM lw_tbl mj_CL mj_TY mj_MS mm_163 mt_163 := mj_ckM_ok mpq_8 my_163 mk_163
theorem mo_164 : mj_okM lw_tbl mj_CL mj_TY mj_MS mm_164 mt_164 := mj_ckM_ok mpq_11 my_164 mk_164
theorem mo_165 : mj_okM lw_tbl mj_CL mj_TY mj_MS mm_165 mt_165 := mj_ckM_ok mpq_8 my_165 mk_165
theorem mo_166 : mj_okM lw_tbl mj_CL mj_TY mj_MS mm_166 mt_166 := mj_ckM_ok mpq_8 my_166 mk_166
theorem mo_167 : mj_okM lw_tbl mj_CL mj_TY mj_MS mm_167 mt_167 := mj_ckM_ok mpq_8 my_167 mk_167
theorem mo_168 : mj_okM lw_tbl mj_CL mj_TY mj_MS mm_168 mt_168 := mj_ckM_ok mpq_8 my_168 mk_168
theorem mo_169 : mj_okM lw_tbl mj_CL mj_TY mj_MS mm_169 mt_169 := mj_ckM_ok mpq_8 my_169 mk_169
theorem mo_170 : mj_okM lw_tbl mj_CL mj_TY mj_MS mm_170 mt_170 := mj_ckM_ok mpq_8 my_170 mk_170
theorem mo_171 : mj_okM lw_tbl mj_CL mj_TY mj_MS mm_171 mt_171 := mj_ckM_ok mpq_8 my_171 mk_171
theorem mo_172 : mj_okM lw_tbl mj_CL mj_TY mj_MS mm_172 mt_172 := mj_ckM_ok mpq_8 my_172 mk_172
theorem mo_173 : mj_okM lw_tbl mj_CL mj_TY mj_MS mm_173 mt_173 := mj_ckM_ok mpq_9 my_173 mk_173
theorem mo_174 : mj_okM lw_tbl mj_CL mj_TY mj_MS mm_174 mt_174 := mj_ckM_ok mpq_9 my_174 mk_174
theorem mo_175 : mj_okM lw_tbl mj_CL mj_TY mj_MS mm_175 mt_175 := mj_ckM_ok mpq_11 my_175 mk_175
theorem mo_176 : mj_okM lw_tbl mj_CL mj_TY mj_MS mm_176 mt_176 := mj_ckM_ok mpq_9 my_176 mk_176
theorem mo_177 : mj_okM lw_tbl mj_CL mj_TY mj_MS mm_177 mt_177 := mj_ckM_ok mpq_9 my_177 mk_177
theorem mo_178 : mj_okM lw_tbl mj_CL mj_TY mj_MS mm_178 mt_178 := mj_ckM_ok mpq_1 my_178 mk_178
theorem mo_179 : mj_okM lw_tbl mj_CL mj_TY mj_MS mm_179 mt_179 := mj_ckM_ok mpq_9 my_179 mk_179
theorem mo_180 : mj_okM lw_tbl mj_CL mj_TY mj_MS mm_180 mt_180 := mj_ckM_ok mpq_1 my_180 mk_180
theorem mo_181 : mj_okM lw_tbl mj_CL mj_TY mj_MS mm_181 mt_181 := mj_ckM_ok mpq_2 my_181 mk_181
theorem mo_182 : mj_okM lw_tbl mj_CL mj_TY mj_MS mm_182 mt_182 := mj_ckM_ok mpq_2 my_182 mk_182
theorem mo_183 : mj_okM lw_tbl mj_CL mj_TY mj_MS mm_183 mt_183 := mj_ckM_ok mpq_6 my_183 mk_183
theorem mo_184 : mj_okM lw_tbl mj_CL mj_TY mj_MS mm_184 mt_184 := mj_ckM_ok mpq_10 my_184 mk_184
theorem mo_185 : mj_okM lw_tbl mj_CL mj_TY mj_MS mm_185 mt_185 := mj_ckM_ok mpq_5 my_185 mk_185
theorem mo_186 : mj_okM lw_tbl mj_CL mj_TY mj_MS mm_186 mt_186 := mj_ckM_ok mpq_12 my_186 mk_186
theorem mo_187 : mj_okM lw_tbl mj_CL mj_TY mj_MS mm_187 mt_187 := mj_ckM_ok mpq_12 my_187 mk_187
theorem mo_188 : mj_okM lw_tbl mj_CL mj_TY mj_MS mm_188 mt_188 := mj_ckM_ok mpq_12 my_188 mk_188
theorem mo_189 : mj_okM lw_tbl mj_CL mj_TY mj_MS mm_189 mt_189 := mj_ckM_ok mpq_1 my_189 mk_189
theorem mo_190 : mj_okM lw_tbl mj_CL mj_TY mj_MS mm_190 mt_190 := mj_ckM_ok mpq_1 my_190 mk_190
theorem mo_191 : mj_okM lw_tbl mj_CL mj_TY mj_MS mm_191 mt_191 := mj_ckM_ok mpq_1 my_191 mk_191
theorem mo_192 : mj_okM lw_tbl mj_CL mj_TY mj_MS mm_192 mt_192 := mj_ckM_ok mpq_11 my_192 mk_192
theorem mo_193 : mj_okM lw_tbl mj_CL mj_TY mj_MS mm_193 mt_193 := mj_ckM_ok mpq_1 my_193 mk_193
theorem mo_194 : mj_okM lw_tbl mj_CL mj_TY mj_MS mm_194 mt_194 := mj_ckM_ok mpq_1 my_194 mk_194
theorem mo_195 : mj_okM lw_tbl mj_CL mj_TY mj_MS mm_195 mt_195 := mj_ckM_ok mpq_1 my_195 mk_195
theorem mo_196 : mj_okM lw_tbl mj_CL mj_TY mj_MS mm_196 mt_196 := mj_ckM_ok mpq_9 my_196 mk_196
theorem mo_197 : mj_okM lw_tbl mj_CL mj_TY mj_MS mm_197 mt_197 := mj_ckM_ok mpq_1 my_197 mk_197
theorem mo_198 : mj_okM lw_tbl mj_CL mj_TY mj_MS mm_198 mt_198 := mj_ckM_ok mpq_1 my_198 mk_198
theorem mo_199 : mj_okM lw_tbl mj_CL mj_TY mj_MS mm_199 mt_199 := mj_ckM_ok mpq_1 my_199 mk_199
theorem mo_200 : mj_okM lw_tbl mj_CL mj_TY mj_MS mm_200 mt_200 := mj_ckM_ok mpq_1 my_200 mk_200
theorem mo_201 : mj_okM lw_tbl mj_CL mj_TY mj_MS mm_201 mt_201 := mj_ckM_ok mpq_1 my_201 mk_201
theorem mo_202 : mj_okM lw_tbl mj_CL mj_TY mj_MS mm_202 mt_202 := mj_ckM_ok mpq_1 my_202 mk_202
theorem mo_203 : mj_okM lw_tbl mj_CL mj_TY mj_MS mm_203 mt_203 := mj_ckM_ok mpq_1 my_203 mk_203
theorem mo_204 : mj_okM lw_tbl mj_CL mj_TY mj_MS mm_204 mt_204 := mj_ckM_ok mpq_9 my_204 mk_204
theorem mo_205 : mj_okM lw_tbl mj_CL mj_TY mj_MS mm_205 mt_205 := mj_ckM_ok mpq_2 my_205 mk_205
theorem mo_206 : mj_okM lw_tbl mj_CL mj_TY mj_MS mm_206 mt_206 := mj_ckM_ok mpq_1 my_206 mk_206
theorem mo_207 : mj_okM lw_tbl mj_CL mj_TY mj_MS mm_207 mt_207 := mj_ckM_ok mpq_3 my_207 mk_207
theorem mo_208 : mj_okM lw_tbl mj_CL mj_TY mj_MS mm_208 mt_208 := mj_ckM_ok mpq_7 my_208 mk_208
theorem mo_209 : mj_okM lw_tbl mj_CL mj_TY mj_MS mm_209 mt_209 := mj_ckM_ok mpq_3 my_209 mk_209
theorem mo_210 : mj_okM lw_tbl mj_CL mj_TY mj_MS mm_210 mt_210 := mj_ckM_ok mpq_3 my_210 mk_210
theorem mo_211 : mj_okM lw_tbl mj_CL mj_TY mj_MS mm_211 mt_211 := mj_ckM_ok mpq_7 my_211 mk_211
theorem mo_212 : mj_okM lw_tbl mj_CL mj_TY mj_MS mm_212 mt_212 := mj_ckM_ok mpq_3 my_212 mk_212
theorem mo_213 : mj_okM lw_tbl mj_CL mj_TY mj_MS mm_213 mt_213 := mj_ckM_ok mpq_7 my_213 mk_213
theorem mo_214 : mj_okM lw_tbl mj_CL mj_TY mj_MS mm_214 mt_214 := mj_ckM_ok mpq_7 my_214 mk_214
theorem mo_215 : mj_okM lw_tbl mj_CL mj_TY mj_MS mm_215 mt_215 := mj_ckM_ok mpq_7 my_215 mk_215
theorem mo_216 : mj_okM lw_tbl mj_CL mj_TY mj_MS mm_216 mt_216 := mj_ckM_ok mpq_7 my_216 mk_216
theorem mo_217 : mj_okM lw_tbl mj_CL mj_TY mj_MS mm_217 mt_217 := mj_ckM_ok mpq_7 my_217 mk_217
theorem mo_218 : mj_okM lw_tbl mj_CL mj_TY mj_MS mm_218 mt_218 := mj_ckM_ok mpq_2 my_218 mk_218
theorem mo_219 : mj_okM lw_tbl mj_CL mj_TY mj_MS mm_219 mt_219 := mj_ckM_ok mpq_2 my_219 mk_219
theorem mo_220 : mj_okM lw_tbl mj_CL mj_TY mj_MS mm_220 mt_220 := mj_ckM_ok mpq_1 my_220 mk_220
theorem mo_221 : mj_okM lw_tbl mj_CL mj_TY mj_MS mm_221 mt_221 := mj_ckM_ok mpq_3 my_221 mk_221
theorem mo_222 : mj_okM lw_tbl mj_CL mj_TY mj_MS mm_222 mt_222 := mj_ckM_ok mpq_3 my_222 mk_222
theorem mo_223 : mj_okM lw_tbl mj_CL mj_TY mj_MS mm_223 mt_223 := mj_ckM_ok mpq_4 my_223 mk_223
theorem mo_224 : mj_okM lw_tbl mj_CL mj_TY mj_MS mm_224 mt_224 := mj_ckM_ok mpq_4 my_224 mk_224
theorem mo_225 : mj_okM lw_tbl mj_CL mj_TY mj_MS mm_225 mt_225 := mj_ckM_ok mpq_4 my_225 mk_225
theorem mo_226 : mj_okM lw_tbl mj_CL mj_TY mj_MS mm_226 mt_226 := mj_ckM_ok mpq_4 my_226 mk_226
theorem mo_227 : mj_okM lw_tbl mj_CL mj_TY mj_MS mm_227 mt_227 := mj_ckM_ok mpq_4 my_227 mk_227
theorem mo_228 : mj_okM lw_tbl mj_CL mj_TY mj_MS mm_228 mt_228 := mj_ckM_ok mpq_4 my_228 mk_228
theorem mo_229 : mj_okM lw_tbl mj_CL mj_TY mj_MS mm_229 mt_229 := mj_ckM_ok mpq_4 my_229 mk_229
theorem mo_230 : mj_okM lw_tbl mj_CL mj_TY mj_MS mm_230 mt_230 := mj_ckM_ok mpq_1 my_230 mk_230
theorem mo_231 : mj_okM lw_tbl mj_CL mj_TY mj_MS mm_231 mt_231 := mj_ckM_ok mpq_2 my_231 mk_231
theorem mo_232 : mj_okM lw_tbl mj_CL mj_TY mj_MS mm_232 mt_232 := mj_ckM_ok mpq_1 my_232 mk_232
theorem mo_233 : mj_okM lw_tbl mj_CL mj_TY mj_MS mm_233 mt_233 := mj_ckM_ok mpq_2 my_233 mk_233
theorem mo_234 : mj_okM lw_tbl mj_CL mj_TY mj_MS mm_234 mt_234 := mj_ckM_ok mpq_1 my_234 mk_234
theorem mo_235 : mj_okM lw_tbl mj_CL mj_TY mj_MS mm_235 mt_235 := mj_ckM_ok mpq_2 my_235 mk_235
theorem mo_236 : mj_okM lw_tbl mj_CL mj_TY mj_MS mm_236 mt_236 := mj_ckM_ok mpq_1 my_236 mk_236
theorem mo_237 : mj_okM lw_tbl mj_CL mj_TY mj_MS mm_237 mt_237 := mj_ckM_ok mpq_1 my_237 mk_237
theorem mo_238 : mj_okM lw_tbl mj_CL mj_TY mj_MS mm_238 mt_238 := mj_ckM_ok mpq_12 my_238 mk_238
theorem mo_239 : mj_okM lw_tbl mj_CL mj_TY mj_MS mm_239 mt_239 := mj_ckM_ok mpq_12 my_239 mk_239
theorem mo_240 : mj_okM lw_tbl mj_CL mj_TY mj_MS mm_240 mt_240 := mj_ckM_ok mpq_1 my_240 mk_240
theorem mo_241 : mj_okM lw_tbl mj_CL mj_TY mj_MS mm_241 mt_241 := mj_ckM_ok mpq_1 my_241 mk_241
theorem mo_242 : mj_okM lw_tbl mj_CL mj_TY mj_MS mm_242 mt_242 := mj_ckM_ok mpq_2 my_242 mk_242
theorem mo_243 : mj_okM lw_tbl mj_CL mj_TY mj_MS mm_243 mt_243 := mj_ckM_ok mpq_6 my_243 mk_243
theorem mo_244 : mj_okM lw_tbl mj_CL mj_TY mj_MS mm_244 mt_244 := mj_ckM_ok mpq_6 my_244 mk_244
theorem mo_245 : mj_okM lw_tbl mj_CL mj_TY mj_MS mm_245 mt_245 := mj_ckM_ok mpq_2 my_245 mk_245
theorem mo_246 : mj_okM lw_tbl mj_CL mj_TY mj_MS mm_246 mt_246 := mj_ckM_ok mpq_6 my_246 mk_246
theorem mo_247 : mj_okM lw_tbl mj_CL mj_TY mj_MS mm_247 mt_247 := mj_ckM_ok mpq_6 my_247 mk_247
theorem mo_248 : mj_okM lw_tbl mj_CL mj_TY mj_MS mm_248 mt_248 := mj_ckM_ok mpq_6 my_248 mk_248
theorem mo_249 : mj_okM lw_tbl mj_CL mj_TY mj_MS mm_249 mt_249 := mj_ckM_ok mpq_1 my_249 mk_249
theorem mo_250 : mj_okM lw_tbl mj_CL mj_TY mj_MS mm_250 mt_250 := mj_ckM_ok mpq_6 my_250 mk_250
theorem mo_251 : mj_okM lw_tbl mj_CL mj_TY mj_MS mm_251 mt_251 := mj_ckM_ok mpq_1 my_251 mk_251
theorem mo_252 : mj_okM lw_tbl mj_CL mj_TY mj_MS mm_252 mt_252 := mj_ckM_ok mpq_1 my_252 mk_252
theorem mo_253 : mj_okM lw_tbl mj_CL mj_TY mj_MS mm_253 mt_253 := mj_ckM_ok mpq_1 my_253 mk_253
theorem mo_254 : mj_okM lw_tbl mj_CL mj_TY mj_MS mm_254 mt_254 := mj_ckM_ok mpq_1 my_254 mk_254
theorem mo_255 : mj_okM lw_tbl mj_CL mj_TY mj_MS mm_255 mt_255 := mj_ckM_ok mpq_2 my_255 mk_255
theorem mo_256 : mj_okM lw_tbl mj_CL mj_TY mj_MS mm_256 mt_256 := mj_ckM_ok mpq_1 my_256 mk_256
theorem mo_257 : mj_okM lw_tbl mj_CL mj_TY mj_MS mm_257 mt_257 := mj_ckM_ok mpq_10 my_257 mk_257
theorem mo_258 : mj_okM lw_tbl mj_CL mj_TY mj_MS mm_258 mt_258 := mj_ckM_ok mpq_1 my_258 mk_258
theorem mo_259 : mj_okM lw_tbl mj_CL mj_TY mj_MS mm_259 mt_259 := mj_ckM_ok mpq_1 my_259 mk_259
theorem mo_260 : mj_okM lw_tbl mj_CL mj_TY mj_MS mm_260 mt_260 := mj_ckM_ok mpq_10 my_260 mk_260
theorem mo_261 : mj_okM lw_tbl mj_CL mj_TY mj_MS mm_261 mt_261 := mj_ckM_ok mpq_10 my_261 mk_261
theorem mo_262 : mj_okM lw_tbl mj_CL mj_TY mj_MS mm_262 mt_262 := mj_ckM_ok mpq_1 my_262 mk_262
theorem mo_263 : mj_okM lw_tbl mj_CL mj_TY mj_MS mm_263 mt_263 := mj_ckM_ok mpq_9 my_263 mk_263
theorem mo_264 : mj_okM lw_tbl mj_CL mj_TY mj_MS mm_264 mt_264 := mj_ckM_ok mpq_1 my_264 mk_264
theorem mo_265 : mj_okM lw_tbl mj_CL mj_TY mj_MS mm_265 mt_265 := mj_ckM_ok mpq_10 my_265 mk_265
theorem mo_266 : mj_okM lw_tbl mj_CL mj_TY mj_MS mm_266 mt_266 := mj_ckM_ok mpq_10 my_266 mk_266
theorem mo_267 : mj_okM lw_tbl mj_CL mj_TY mj_MS mm_267 mt_267 := mj_ckM_ok mpq_10 my_267 mk_267
theorem mo_268 : mj_okM lw_tbl mj_CL mj_TY mj_MS mm_268 mt_268 := mj_ckM_ok mpq_1 my_268 mk_268
theorem mo_269 : mj_okM lw_tbl mj_CL mj_TY mj_MS mm_269 mt_269 := mj_ckM_ok mpq_10 my_269 mk_269
theorem mo_270 : mj_okM lw_tbl mj_CL mj_TY mj_MS mm_270 mt_270 := mj_ckM_ok mpq_10 my_270 mk_270
theorem mo_271 : mj_okM lw_tbl mj_CL mj_TY mj_MS mm_271 mt_271 := mj_ckM_ok mpq_10 my_271 mk_271
theorem mo_272 : mj_okM lw_tbl mj_CL mj_TY mj_MS mm_272 mt_272 := mj_ckM_ok mpq_10 my_272 mk_272
theorem mo_273 : mj_okM lw_tbl mj_CL mj_TY mj_MS mm_273 mt_273 := mj_ckM_ok mpq_1 my_273 mk_273
theorem mo_274 : mj_okM lw_tbl mj_CL mj_TY mj_MS mm_274 mt_274 := mj_ckM_ok mpq_1 my_274 mk_274
theorem mo_275 : mj_okM lw_tbl mj_CL mj_TY mj_MS mm_275 mt_275 := mj_ckM_ok mpq_5 my_275 mk_275
theorem mo_276 : mj_okM lw_tbl mj_CL mj_TY mj_MS mm_276 mt_276 := mj_ckM_ok mpq_1 my_276 mk_276
theorem mo_277 : mj_okM lw_tbl mj_CL mj_TY mj_MS mm_277 mt_277 := mj_ckM_ok mpq_1 my_277 mk_277
theorem mo_278 : mj_okM lw_tbl mj_CL mj_TY mj_MS mm_278 mt_278 := mj_ckM_ok mpq_1 my_278 mk_278
theorem mo_279 : mj_okM lw_tbl mj_CL mj_TY mj_MS mm_279 mt_279 := mj_ckM_ok mpq_5 my_279 mk_279
theorem mo_280 : mj_okM lw_tbl mj_CL mj_TY mj_MS mm_280 mt_280 := mj_ckM_ok mpq_5 my_280 mk_280
theorem mo_281 : mj_okM lw_tbl mj_CL mj_TY mj_MS mm_281 mt_281 := mj_ckM_ok mpq_5 my_281 mk_281
theorem mo_282 : mj_okM lw_tbl mj_CL mj_TY mj_MS mm_282 mt_282 := mj_ckM_ok mpq_5 my_282 mk_282
theorem mo_283 : mj_okM lw_tbl mj_CL mj_TY mj_MS mm_283 mt_283 := mj_ckM_ok mpq_5 my_283 mk_283
theorem mo_284 : mj_okM lw_tbl mj_CL mj_TY mj_MS mm_284 mt_284 := mj_ckM_ok mpq_5 my_284 mk_284
theorem mo_285 : mj_okM lw_tbl mj_CL mj_TY mj_MS mm_285 mt_285 := mj_ckM_ok mpq_5 my_285 mk_285
theorem mo_286 : mj_okM lw_tbl mj_CL mj_TY mj_MS mm_286 mt_286 := mj_ckM_ok mpq_5 my_286 mk_286
theorem mo_287 : mj_okM lw_tbl mj_CL mj_TY mj_MS mm_287 mt_287 := mj_ckM_ok mpq_1 my_287 mk_287
theorem mo_288 : mj_okM lw_tbl mj_CL mj_TY mj_MS mm_288 mt_288 := mj_ckM_ok mpq_5 my_288 mk_288
theorem mo_289 : mj_okM lw_tbl mj_CL mj_TY mj_MS mm_289 mt_289 := mj_ckM_ok mpq_5 my_289 mk_289
theorem mo_290 : mj_okM lw_tbl mj_CL mj_TY mj_MS mm_290 mt_290 := mj_ckM_ok mpq_5 my_290 mk_290
theorem mo_291 : mj_okM lw_tbl mj_CL mj_TY mj_MS mm_291 mt_291 := mj_ckM_ok mpq_1 my_291 mk_291
theorem mj_all : ∀ q ∈ mj_ML.zip mj_TT, mj_okM lw_tbl mj_CL mj_TY mj_MS q.1 q.2 := by
  show ∀ q ∈ [(mm_0, mt_0), (mm_1, mt_1), (mm_2, mt_2), (mm_3, mt_3), (mm_4, mt_4), (mm_5, mt_5), (mm_6, mt_6), (mm_7, mt_7), (mm_8, mt_8), (mm_9, mt_9), (mm_10, mt_10), (mm_11, mt_11), (mm_12, mt_12), (mm_13, mt_13), (mm_14, mt_14), (mm_15, mt_15), (mm_16, mt_16), (mm_17, mt_17), (mm_18, mt_18), (mm_19, mt_19), (mm_20, mt_20), (mm_21, mt_21), (mm_22, mt_22), (mm_23, mt_23), (mm_24, mt_24), (mm_25, mt_25), (mm_26, mt_26), (mm_27, mt_27), (mm_28, mt_28), (mm_29, mt_29), (mm_30, mt_30), (mm_31, mt_31), (mm_32, mt_32), (mm_33, mt_33), (mm_34, mt_34), (mm_35, mt_35), (mm_36, mt_36), (mm_37, mt_37), (mm_38, mt_38), (mm_39, mt_39), (mm_40, mt_40), (mm_41, mt_41), (mm_42, mt_42), (mm_43, mt_43), (mm_44, mt_44), (mm_45, mt_45), (mm_46, mt_46), (mm_47, mt_47), (mm_48, mt_48), (mm_49, mt_49), (mm_50, mt_50), (mm_51, mt_51), (mm_52, mt_52), (mm_53, mt_53), (mm_54, mt_54), (mm_55, mt_55), (mm_56, mt_56), (mm_57, mt_57), (mm_58, mt_58), (mm_59, mt_59), (mm_60, mt_60), (mm_61, mt_61), (mm_62, mt_62), (mm_63, mt_63), (mm_64, mt_64), (mm_65, mt_65), (mm_66, mt_66), (mm_67, mt_67), (mm_68, mt_68), (mm_69, mt_69), (mm_70, mt_70), (mm_71, mt_71), (mm_72, mt_72), (mm_73, mt_73), (mm_74, mt_74), (mm_75, mt_75), (mm_76, mt_76), (mm_77, mt_77), (mm_78, mt_78), (mm_79, mt_79), (mm_80, mt_80), (mm_81, mt_81), (mm_82, mt_82), (mm_83, mt_83), (mm_84, mt_84), (mm_85, mt_85), (mm_86, mt_86), (mm_87, mt_87), (mm_88, mt_88), (mm_89, mt_89), (mm_90, mt_90), (mm_91, mt_91), (mm_92, mt_92), (mm_93, mt_93), (mm_94, mt_94), (mm_95, mt_95), (mm_96, mt_96), (mm_97, mt_97), (mm_98, mt_98), (mm_99, mt_99), (mm_100, mt_100), (mm_101, mt_101), (mm_102, mt_102), (mm_103, mt_103), (mm_104, mt_104), (mm_105, mt_105), (mm_106, mt_106), (mm_107, mt_107), (mm_108, mt_108), (mm_109, mt_109), (mm_110, mt_110), (mm_111, mt_111), (mm_112, mt_112), (mm_113, mt_113), (mm_114, mt_114), (mm_115, mt_115), (mm_116, mt_116), (mm_117, mt_117), (mm_118, mt_118), (mm_119, mt_119), (mm_120, mt_120), (mm_121, mt_121), (mm_122, mt_122), (mm_123, mt_123), (mm_124, mt_124), (mm_125, mt_125), (mm_126, mt_126), (mm_127, mt_127), (mm_128, mt_128), (mm_129, mt_129), (mm_130, mt_130), (mm_131, mt_131), (mm_132, mt_132), (mm_133, mt_133), (mm_134, mt_134), (mm_135, mt_135), (mm_136, mt_136), (mm_137, mt_137), (mm_138, mt_138), (mm_139, mt_139), (mm_140, mt_140), (mm_141, mt_141), (mm_142, mt_142), (mm_143, mt_143), (mm_144, mt_144), (mm_145, mt_145), (mm_146, mt_146), (mm_147, mt_147), (mm_148, mt_148), (mm_149, mt_149), (mm_150, mt_150), (mm_151, mt_151), (mm_152, mt_152), (mm_153, mt_153), (mm_154, mt_154), (mm_155, mt_155), (mm_156, mt_156), (mm_157, mt_157), (mm_158, mt_158), (mm_159, mt_159), (mm_160, mt_160), (mm_161, mt_161), (mm_162, mt_162), (mm_163, mt_163), (mm_164, mt_164), (mm_165, mt_165), (mm_166, mt_166), (mm_167, mt_167), (mm_168, mt_168), (mm_169, mt_169), (mm_170, mt_170), (mm_171, mt_171), (mm_172, mt_172), (mm_173, mt_173), (mm_174, mt_174), (mm_175, mt_175), (mm_176, mt_176), (mm_177, mt_177), (mm_178, mt_178), (mm_179, mt_179), (mm_180, mt_180), (mm_181, mt_181), (mm_182, mt_182), (mm_183, mt_183), (mm_184, mt_184), (mm_185, mt_185), (mm_186, mt_186), (mm_187, mt_187), (mm_188, mt_188), (mm_189, mt_189), (mm_190, mt_190), (mm_191, mt_191), (mm_192, mt_192), (mm_193, mt_193), (mm_194, mt_194), (mm_195, mt_195), (mm_196, mt_196), (mm_197, mt_197), (mm_198, mt_198), (mm_199, mt_199), (mm_200, mt_200), (mm_201, mt_201), (mm_202, mt_202), (mm_203, mt_203), (mm_204, mt_204), (mm_205, mt_205), (mm_206, mt_206), (mm_207, mt_207), (mm_208, mt_208), (mm_209, mt_209), (mm_210, mt_210), (mm_211, mt_211), (mm_212, mt_212), (mm_213, mt_213), (mm_214, mt_214), (mm_215, mt_215), (mm_216, mt_216), (mm_217, mt_217), (mm_218, mt_218), (mm_219, mt_219), (mm_220, mt_220), (mm_221, mt_221), (mm_222, mt_222), (mm_223, mt_223), (mm_224, mt_224), (mm_225, mt_225), (mm_226, mt_226), (mm_227, mt_227), (mm_228, mt_228), (mm_229, mt_229), (mm_230, mt_230), (mm_231, mt_231), (mm_232, mt_232), (mm_233, mt_233), (mm_234, mt_234), (mm_235, mt_235), (mm_236, mt_236), (mm_237, mt_237), (mm_238, mt_238), (mm_239, mt_239), (mm_240, mt_240), (mm_241, mt_241), (mm_242, mt_242), (mm_243, mt_243), (mm_244, mt_244), (mm_245, mt_245), (mm_246, mt_246), (mm_247, mt_247), (mm_248, mt_248), (mm_249, mt_249), (mm_250, mt_250), (mm_251, mt_251), (mm_252, mt_252), (mm_253, mt_253), (mm_254, mt_254), (mm_255, mt_255), (mm_256, mt_256), (mm_257, mt_257), (mm_258, mt_258), (mm_259, mt_259), (mm_260, mt_260), (mm_261, mt_261), (mm_262, mt_262), (mm_263, mt_263), (mm_264, mt_264), (mm_265, mt_265), (mm_266, mt_266), (mm_267, mt_267), (mm_268, mt_268), (mm_269, mt_269), (mm_270, mt_270), (mm_271, mt_271), (mm_272, mt_272), (mm_273, mt_273), (mm_274, mt_274), (mm_275, mt_275), (mm_276, mt_276), (mm_277, mt_277), (mm_278, mt_278), (mm_279, mt_279), (mm_280, mt_280), (mm_281, mt_281), (mm_282, mt_282), (mm_283, mt_283), (mm_284, mt_284), (mm_285, mt_285), (mm_286, mt_286), (mm_287, mt_287), (mm_288, mt_288), (mm_289, mt_289), (mm_290, mt_290), (mm_291, mt_291)], mj_okM lw_tbl mj_CL mj_TY mj_MS q.1 q.2
  intro q hq
  simp only [List.mem_cons, List.not_mem_nil, or_false] at hq
  rcases hq with rfl | rfl | rfl | rfl | rfl | rfl | rfl | rfl | rfl | rfl | rfl | rfl | rfl | rfl | rfl | rfl | rfl | rfl | rfl | rfl | rfl | rfl | rfl | rfl | rfl | rfl | rfl | rfl | rfl | rfl | rfl | rfl | rfl | rfl | rfl | rfl | rfl | rfl | rfl | rfl | rfl | rfl | rfl | rfl | rfl | rfl | rfl | rfl | rfl | rfl | rfl | rfl | rfl | rfl | rfl | rfl | rfl | rfl | rfl | rfl | rfl | rfl | rfl | rfl | rfl | rfl | rfl | rfl | rfl | rfl | rfl | rfl | rfl | rfl | rfl | rfl | rfl | rfl | rfl | rfl | rfl | rfl | rfl | rfl | rfl | rfl | rfl | rfl | rfl | rfl | rfl | rfl | rfl | rfl | rfl | rfl | rfl | rfl | rfl | rfl | rfl | rfl | rfl | rfl | rfl | rfl | rfl | rfl | rfl | rfl | rfl | rfl | rfl | rfl | rfl | rfl | rfl | rfl | rfl | rfl | rfl | rfl | rfl | rfl | rfl | rfl | rfl | rfl | rfl | rfl | rfl | rfl | rfl | rfl | rfl | rfl | rfl | rfl | rfl | rfl | rfl | rfl | rfl | rfl | rfl | rfl | rfl | rfl | rfl | rfl | rfl | rfl | rfl | rfl | rfl | rfl | rfl | rfl | rfl | rfl | rfl | rfl | rfl | rfl | rfl | rfl | rfl | rfl | rfl | rfl | rfl | rfl | rfl | rfl | rfl | rfl | rfl | rfl | rfl | rfl | rfl | rfl | rfl | rfl | rfl | rfl | rfl | rfl | rfl | rfl | rfl | rfl | rfl | rfl | rfl | rfl | rfl | rfl | rfl | rfl | rfl | rfl | rfl | rfl | rfl | rfl | rfl | rfl | rfl | rfl | rfl | rfl | rfl | rfl | rfl | rfl | rfl | rfl | rfl | rfl | rfl | rfl | rfl | rfl | rfl | rfl | rfl | rfl | rfl | rfl | rfl | rfl | rfl | rfl | rfl | rfl | rfl | rfl | rfl | rfl | rfl | rfl | rfl | rfl | rfl | rfl | rfl | rfl | rfl | rfl | rfl | rfl | rfl | rfl | rfl | rfl | rfl | rfl | rfl | rfl | rfl | rfl | rfl | rfl | rfl | rfl | rfl | rfl | rfl | rfl | rfl | rfl | rfl | rfl | rfl | rfl | rfl | rfl | rfl | rfl | rfl | rfl | rfl | rfl | rfl | rfl | rfl | rfl | rfl | rfl | rfl | rfl
  · exact mo_0
  · exact mo_1
  · exact mo_2
  · exact mo_3
  · exact mo_4
  · exact mo_5
  · exact mo_6
  · exact mo_7
  · exact mo_8
  · exact mo_9
  · exact mo_10
  · exact mo_11
  · exact mo_12
  · exact mo_13
  · exact mo_14
  · exact mo_15
  · exact mo_16
  · exact mo_17
  · exact mo_18
  · exact mo_19
  · exact mo_20
  · exact mo_21
  · exact mo_22
  · exact mo_23
  · exact mo_24
  · exact mo_25
  · exact mo_26
  · exact mo_27
  · exact mo_28
  · exact mo_29
  · exact mo_30
  · exact mo_31
  · exact mo_32
  · exact mo_33
  · exact mo_34
  · exact mo_35
  · exact mo_36
  · exact mo_37
  · exact mo_38
  · exact mo_39
  · exact mo_40
  · exact mo_41
  · exact mo_42
  · exact mo_43
  · exact mo_44
  · exact mo_45
  · exact mo_46
  · exact mo_47
  · exact mo_48
  · exact mo_49
  · exact mo_50
  · exact mo_51
  · exact mo_52
  · exact mo_53
  · exact mo_54
  · exact mo_55
  · exact mo_56
  · exact mo_57
  · exact mo_58
  · exact mo_59
  · exact mo_60
  · exact mo_61
  · exact mo_62
  · exact mo_63
  · exact mo_64
  · exact mo_65
  · exact mo_66
  · exact mo_67
  · exact mo_68
  · exact mo_69
  · exact mo_70
  · exact mo_71
  · exact mo_72
  · exact mo_73
  · exact mo_74
  · exact mo_75
  · exact mo_76
  · exact mo_77
  · exact mo_78
  · exact mo_79
  · exact mo_80
  · exact mo_81
  · exact mo_82
  · exact mo_83
  · exact mo_84
  · exact mo_85
  · exact mo_86
  · exact mo_87
  · exact mo_88
  · exact mo_89
  · exact mo_90
  · exact mo_91
  · exact mo_92
  · exact mo_93
  · exact mo_94
  · exact mo_95
  · exact mo_96
  · exact mo_97
  · exact mo_98
  · exact mo_99
  · exact mo_100
  · exact mo_101
  · exact mo_102
  · exact mo_103
  · exact mo_104
  · exact mo_105
  · exact mo_106
  · exact mo_107
  · exact mo_108
  · exact mo_109
  · exact mo_110
  · exact mo_111
  · exact mo_112
  · exact mo_113
  · exact mo_114
  · exact mo_115
  · exact mo_116
  · exact mo_117
  · exact mo_118
  · exact mo_119
  · exact mo_120
  · exact mo_121
  · exact mo_122
  · exact mo_123
  · exact mo_124
  · exact mo_125
  · exact mo_126
  · exact mo_127
  · exact mo_128
  · exact mo_129
  · exact mo_130
  · exact mo_131
  · exact mo_132
  · exact mo_133
  · exact mo_134
  · exact mo_135
  · exact mo_136
  · exact mo_137
  · exact mo_138
  · exact mo_139
  · exact mo_140
  · exact mo_141
  · exact mo_142
  · exact mo_143
  · exact mo_144
  · exact mo_145
  · exact mo_146
  · exact mo_147
  · exact mo_148
  · exact mo_149
  · exact mo_150
  · exact mo_151
  · exact mo_152
  · exact mo_153
  · exact mo_154
  · exact mo_155
  · exact mo_156
  · exact mo_157
  · exact mo_158
  · exact mo_159
  · exact mo_160
  · exact mo_161
  · exact mo_162
  · exact mo_163
  · exact mo_164
  · exact mo_165
  · exact mo_166
  · exact mo_167
  · exact mo_168
  · exact mo_169
  · exact mo_170
  · exact mo_171
  · exact mo_172
  · exact mo_173
  · exact mo_174
  · exact mo_175
  · exact mo_176
  · exact mo_177
  · exact mo_178
  · exact mo_179
  · exact mo_180
  · exact mo_181
  · exact mo_182
  · exact mo_183
  · exact mo_184
  · exact mo_185
  · exact mo_186
  · exact mo_187
  · exact mo_188
  · exact mo_189
  · exact mo_190
  · exact mo_191
  · exact mo_192
  · exact mo_193
  · exact mo_194
  · exact mo_195
  · exact mo_196
  · exact mo_197
  · exact mo_198
  · exact mo_199
  · exact mo_200
  · exact mo_201
  · exact mo_202
  · exact mo_203
  · exact mo_204
  · exact mo_205
  · exact mo_206
  · exact mo_207
  · exact mo_208
  · exact mo_209
  · exact mo_210
  · exact mo_211
  · exact mo_212
  · exact mo_213
  · exact mo_214
  · exact mo_215
  · exact mo_216
  · exact mo_217
  · exact mo_218
  · exact mo_219
  · exact mo_220
  · exact mo_221
  · exact mo_222
  · exact mo_223
  · exact mo_224
  · exact mo_225
  · exact mo_226
  · exact mo_227
  · exact mo_228
  · exact mo_229
  · exact mo_230
  · exact mo_231
  · exact mo_232
  · exact mo_233
  · exact mo_234
  · exact mo_235
  · exact mo_236
  · exact mo_237
  · exact mo_238
  · exact mo_239
  · exact mo_240
  · exact mo_241
  · exact mo_242
  · exact mo_243
  · exact mo_244
  · exact mo_245
  · exact mo_246
  · exact mo_247
  · exact mo_248
  · exact mo_249
  · exact mo_250
  · exact mo_251
  · exact mo_252
  · exact mo_253
  · exact mo_254
  · exact mo_255
  · exact mo_256
  · exact mo_257
  · exact mo_258
  · exact mo_259
  · exact mo_260
  · exact mo_261
  · exact mo_262
  · exact mo_263
  · exact mo_264
  · exact mo_265
  · exact mo_266
  · exact mo_267
  · exact mo_268
  · exact mo_269
  · exact mo_270
  · exact mo_271
  · exact mo_272
  · exact mo_273
  · exact mo_274
  · exact mo_275
  · exact mo_276
  · exact mo_277
  · exact mo_278
  · exact mo_279
  · exact mo_280
  · exact mo_281
  · exact mo_282
  · exact mo_283
  · exact mo_284
  · exact mo_285
  · exact mo_286
  · exact mo_287
  · exact mo_288
  · exact mo_289
  · exact mo_290
  · exact mo_291
theorem mj_hM (z : Nat) : mj_okM lw_tbl mj_CL mj_TY mj_MS (mj_MS z) (mj_CD z) ∨ mj_CD z = ([], [], 0) := by
  by_cases h : z < 292
  · refine Or.inl (mj_all (mj_MS z, mj_CD z) ?_)
    have h1 : mj_ML[z]? = some (mj_MS z) := by
      have hl : z < mj_ML.length := h
      unfold mj_MS
      rw [List.getD_eq_getElem?_getD, List.getElem?_eq_getElem hl]
      rfl
    have h2 : mj_TT[z]? = some (mj_CD z) := by
      have hl : z < mj_TT.length := h
      unfold mj_CD
      rw [List.getD_eq_getElem?_getD, List.getElem?_eq_getElem hl]
      rfl
    refine List.mem_of_getElem? (i := z) ?_
    rw [List.getElem?_zip_eq_some]
    exact ⟨h1, h2⟩
  · refine Or.inr ?_
    unfold mj_CD
    rw [List.getD_eq_getElem?_getD, List.getElem?_eq_none (Nat.le_of_not_lt h)]
    rfl
