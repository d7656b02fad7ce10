set_option maxRecDepth 100000 in
theorem ck_88_0 : am_cok am_T0 me_88 cd_88_0 0 := ⟨rfl, .inr ⟨dX5_areBends_0, rfl⟩, rfl, .inr ⟨dX5_areBends_1, rfl⟩, rfl, .inr ⟨dX5_areBends_4, rfl⟩, rfl, .inr ⟨dX5_areBends_7, rfl⟩, rfl, .inr ⟨dX5_areBends_8, rfl⟩, rfl, .inr ⟨dX5_areBends_9, rfl⟩, rfl, .inr ⟨dX5_areBends_10, rfl⟩, rfl, .inr ⟨dX5_areBends_13, rfl⟩, rfl, .inr ⟨dX5_areBends_14, rfl⟩, rfl, .inr ⟨dX5_areBends_15, rfl⟩, rfl, .inr ⟨dX5_areBends_16, rfl⟩, rfl, .inr ⟨dX5_areBends_17, rfl⟩, rfl, .inr ⟨dX5_areBends_18, rfl⟩, rfl, .inr ⟨dX5_areBends_19, rfl⟩, rfl, .inr ⟨dX5_areBends_22, rfl⟩, rfl, .inr ⟨dX5_areBends_23, rfl⟩, trivial⟩
set_option maxRecDepth 100000 in
theorem ck_88_26 : am_cok am_T0 me_88 cd_88_26 26 := ⟨rfl, .inr ⟨dX5_areBends_26, rfl⟩, rfl, .inl ⟨rfl, rfl⟩, trivial⟩
set_option maxRecDepth 100000 in
theorem ck_88_27 : am_cok am_T0 me_88 cd_88_27 27 := ⟨rfl, .inr ⟨dX5_areBends_27, rfl⟩, trivial⟩
set_option maxRecDepth 100000 in
theorem ck_88 : ∀ p ∈ bl_88, am_cok am_T0 me_88 p.2 p.1 := List.forall_mem_cons.mpr ⟨ck_88_0, List.forall_mem_cons.mpr ⟨ck_88_26, List.forall_mem_cons.mpr ⟨ck_88_27, fun _ h => absurd h List.not_mem_nil⟩⟩⟩
set_option maxRecDepth 100000 in
theorem ck_89_0 : am_cok am_T0 me_89 cd_89_0 0 := ⟨rfl, .inr ⟨dX5_turn_0, rfl⟩, rfl, .inr ⟨dX5_turn_1, rfl⟩, rfl, .inr ⟨dX5_turn_2, rfl⟩, rfl, .inr ⟨dX5_turn_5, rfl⟩, rfl, .inr ⟨dX5_turn_6, rfl⟩, rfl, .inr ⟨dX5_turn_7, rfl⟩, rfl, .inr ⟨dX5_turn_8, rfl⟩, rfl, .inr ⟨dX5_turn_9, rfl⟩, rfl, .inr ⟨dX5_turn_10, rfl⟩, rfl, .inr ⟨dX5_turn_13, rfl⟩, rfl, .inr ⟨dX5_turn_14, rfl⟩, rfl, .inr ⟨dX5_turn_15, rfl⟩, rfl, .inr ⟨dX5_turn_16, rfl⟩, rfl, .inr ⟨dX5_turn_17, rfl⟩, rfl, .inr ⟨dX5_turn_20, rfl⟩, rfl, .inr ⟨dX5_turn_21, rfl⟩, trivial⟩
set_option maxRecDepth 100000 in
theorem ck_89_24 : am_cok am_T0 me_89 cd_89_24 24 := ⟨rfl, .inr ⟨dX5_turn_24, rfl⟩, rfl, .inl ⟨rfl, rfl⟩, trivial⟩
set_option maxRecDepth 100000 in
theorem ck_89_25 : am_cok am_T0 me_89 cd_89_25 25 := ⟨rfl, .inr ⟨dX5_turn_25, rfl⟩, rfl, .inr ⟨dX5_turn_27, rfl⟩, rfl, .inr ⟨dX5_turn_28, rfl⟩, rfl, .inr ⟨dX5_turn_31, rfl⟩, rfl, .inr ⟨dX5_turn_32, rfl⟩, rfl, .inr ⟨dX5_turn_33, rfl⟩, rfl, .inr ⟨dX5_turn_34, rfl⟩, rfl, .inr ⟨dX5_turn_37, rfl⟩, rfl, .inr ⟨dX5_turn_38, rfl⟩, trivial⟩
set_option maxRecDepth 100000 in
theorem ck_89_41 : am_cok am_T0 me_89 cd_89_41 41 := ⟨rfl, .inr ⟨dX5_turn_41, rfl⟩, rfl, .inl ⟨rfl, rfl⟩, trivial⟩
set_option maxRecDepth 100000 in
theorem ck_89_42 : am_cok am_T0 me_89 cd_89_42 42 := ⟨rfl, .inr ⟨dX5_turn_42, rfl⟩, rfl, .inr ⟨dX5_turn_44, rfl⟩, rfl, .inr ⟨dX5_turn_45, rfl⟩, rfl, .inr ⟨dX5_turn_48, rfl⟩, rfl, .inr ⟨dX5_turn_49, rfl⟩, rfl, .inr ⟨dX5_turn_50, rfl⟩, rfl, .inr ⟨dX5_turn_53, rfl⟩, rfl, .inr ⟨dX5_turn_54, rfl⟩, trivial⟩
set_option maxRecDepth 100000 in
theorem ck_89_57 : am_cok am_T0 me_89 cd_89_57 57 := ⟨rfl, .inr ⟨dX5_turn_57, rfl⟩, rfl, .inl ⟨rfl, rfl⟩, trivial⟩
set_option maxRecDepth 100000 in
theorem ck_89_58 : am_cok am_T0 me_89 cd_89_58 58 := ⟨rfl, .inr ⟨dX5_turn_58, rfl⟩, rfl, .inr ⟨dX5_turn_60, rfl⟩, rfl, .inr ⟨dX5_turn_62, rfl⟩, rfl, .inr ⟨dX5_turn_65, rfl⟩, rfl, .inr ⟨dX5_turn_66, rfl⟩, rfl, .inr ⟨dX5_turn_69, rfl⟩, rfl, .inr ⟨dX5_turn_70, rfl⟩, rfl, .inr ⟨dX5_turn_71, rfl⟩, rfl, .inr ⟨dX5_turn_74, rfl⟩, rfl, .inr ⟨dX5_turn_75, rfl⟩, rfl, .inr ⟨dX5_turn_76, rfl⟩, rfl, .inr ⟨dX5_turn_77, rfl⟩, rfl, .inr ⟨dX5_turn_78, rfl⟩, rfl, .inr ⟨dX5_turn_81, rfl⟩, rfl, .inr ⟨dX5_turn_82, rfl⟩, rfl, .inr ⟨dX5_turn_83, rfl⟩, rfl, .inr ⟨dX5_turn_86, rfl⟩, rfl, .inr ⟨dX5_turn_87, rfl⟩, trivial⟩
set_option maxRecDepth 100000 in
theorem ck_89_90 : am_cok am_T0 me_89 cd_89_90 90 := ⟨rfl, .inr ⟨dX5_turn_90, rfl⟩, rfl, .inl ⟨rfl, rfl⟩, trivial⟩
set_option maxRecDepth 100000 in
theorem ck_89_91 : am_cok am_T0 me_89 cd_89_91 91 := ⟨rfl, .inr ⟨dX5_turn_91, rfl⟩, rfl, .inr ⟨dX5_turn_92, rfl⟩, rfl, .inr ⟨dX5_turn_93, rfl⟩, trivial⟩
set_option maxRecDepth 100000 in
theorem ck_89_96 : am_cok am_T0 me_89 cd_89_96 96 := ⟨rfl, .inr ⟨dX5_turn_96, rfl⟩, rfl, .inr ⟨dX5_turn_97, rfl⟩, rfl, .inr ⟨dX5_turn_100, rfl⟩, rfl, .inr ⟨dX5_turn_101, rfl⟩, rfl, .inr ⟨dX5_turn_102, rfl⟩, rfl, .inr ⟨dX5_turn_105, rfl⟩, rfl, .inr ⟨dX5_turn_106, rfl⟩, rfl, .inr ⟨dX5_turn_107, rfl⟩, rfl, .inr ⟨dX5_turn_108, rfl⟩, rfl, .inr ⟨dX5_turn_109, rfl⟩, rfl, .inr ⟨dX5_turn_112, rfl⟩, rfl, .inr ⟨dX5_turn_113, rfl⟩, rfl, .inr ⟨dX5_turn_114, rfl⟩, rfl, .inr ⟨dX5_turn_115, rfl⟩, rfl, .inr ⟨dX5_turn_118, rfl⟩, rfl, .inr ⟨dX5_turn_119, rfl⟩, trivial⟩
set_option maxRecDepth 100000 in
theorem ck_89_122 : am_cok am_T0 me_89 cd_89_122 122 := ⟨rfl, .inr ⟨dX5_turn_122, rfl⟩, rfl, .inl ⟨rfl, rfl⟩, trivial⟩
set_option maxRecDepth 100000 in
theorem ck_89_123 : am_cok am_T0 me_89 cd_89_123 123 := ⟨rfl, .inr ⟨dX5_turn_123, rfl⟩, rfl, .inr ⟨dX5_turn_124, rfl⟩, rfl, .inl ⟨rfl, rfl⟩, trivial⟩
set_option maxRecDepth 100000 in
theorem ck_89_125 : am_cok am_T0 me_89 cd_89_125 125 := ⟨rfl, .inr ⟨dX5_turn_125, rfl⟩, rfl, .inr ⟨dX5_turn_127, rfl⟩, rfl, .inr ⟨dX5_turn_128, rfl⟩, rfl, .inl ⟨rfl, rfl⟩, trivial⟩
set_option maxRecDepth 100000 in
theorem ck_89_130 : am_cok am_T0 me_89 cd_89_130 130 := ⟨rfl, .inr ⟨dX5_turn_130, rfl⟩, rfl, .inr ⟨dX5_turn_132, rfl⟩, rfl, .inr ⟨dX5_turn_133, rfl⟩, rfl, .inr ⟨dX5_turn_136, rfl⟩, rfl, .inr ⟨dX5_turn_138, rfl⟩, rfl, .inr ⟨dX5_turn_141, rfl⟩, rfl, .inr ⟨dX5_turn_142, rfl⟩, rfl, .inr ⟨dX5_turn_145, rfl⟩, rfl, .inr ⟨dX5_turn_146, rfl⟩, rfl, .inr ⟨dX5_turn_148, rfl⟩, rfl, .inr ⟨dX5_turn_149, rfl⟩, rfl, .inr ⟨dX5_turn_150, rfl⟩, trivial⟩
set_option maxRecDepth 100000 in
theorem ck_89_153 : am_cok am_T0 me_89 cd_89_153 153 := ⟨rfl, .inr ⟨dX5_turn_153, rfl⟩, rfl, .inr ⟨dX5_turn_154, rfl⟩, rfl, .inr ⟨dX5_turn_157, rfl⟩, rfl, .inr ⟨dX5_turn_158, rfl⟩, rfl, .inr ⟨dX5_turn_160, rfl⟩, rfl, .inr ⟨dX5_turn_161, rfl⟩, rfl, .inl ⟨rfl, rfl⟩, trivial⟩
set_option maxRecDepth 100000 in
theorem ck_89_162 : am_cok am_T0 me_89 cd_89_162 162 := ⟨rfl, .inr ⟨dX5_turn_162, rfl⟩, rfl, .inr ⟨dX5_turn_164, rfl⟩, rfl, .inr ⟨dX5_turn_165, rfl⟩, rfl, .inr ⟨dX5_turn_168, rfl⟩, rfl, .inr ⟨dX5_turn_170, rfl⟩, rfl, .inr ⟨dX5_turn_172, rfl⟩, rfl, .inr ⟨dX5_turn_173, rfl⟩, rfl, .inr ⟨dX5_turn_174, rfl⟩, rfl, .inr ⟨dX5_turn_177, rfl⟩, rfl, .inr ⟨dX5_turn_178, rfl⟩, rfl, .inr ⟨dX5_turn_180, rfl⟩, rfl, .inr ⟨dX5_turn_181, rfl⟩, rfl, .inr ⟨dX5_turn_182, rfl⟩, rfl, .inr ⟨dX5_turn_183, rfl⟩, trivial⟩
set_option maxRecDepth 100000 in
theorem ck_89_186 : am_cok am_T0 me_89 cd_89_186 186 := ⟨rfl, .inr ⟨dX5_turn_186, rfl⟩, rfl, .inl ⟨rfl, rfl⟩, trivial⟩
set_option maxRecDepth 100000 in
theorem ck_89_188 : am_cok am_T0 me_89 cd_89_188 188 := ⟨rfl, .inr ⟨dX5_turn_188, rfl⟩, rfl, .inr ⟨dX5_turn_190, rfl⟩, rfl, .inr ⟨dX5_turn_191, rfl⟩, rfl, .inr ⟨dX5_turn_194, rfl⟩, rfl, .inr ⟨dX5_turn_195, rfl⟩, rfl, .inr ⟨dX5_turn_196, rfl⟩, rfl, .inr ⟨dX5_turn_197, rfl⟩, rfl, .inr ⟨dX5_turn_199, rfl⟩, rfl, .inr ⟨dX5_turn_200, rfl⟩, rfl, .inr ⟨dX5_turn_202, rfl⟩, rfl, .inr ⟨dX5_turn_205, rfl⟩, rfl, .inr ⟨dX5_turn_207, rfl⟩, trivial⟩
set_option maxRecDepth 100000 in
theorem ck_89_210 : am_cok am_T0 me_89 cd_89_210 210 := ⟨rfl, .inr ⟨dX5_turn_210, rfl⟩, rfl, .inr ⟨dX5_turn_211, rfl⟩, rfl, .inr ⟨dX5_turn_214, rfl⟩, rfl, .inr ⟨dX5_turn_215, rfl⟩, rfl, .inr ⟨dX5_turn_217, rfl⟩, rfl, .inr ⟨dX5_turn_218, rfl⟩, rfl, .inl ⟨rfl, rfl⟩, trivial⟩
set_option maxRecDepth 100000 in
theorem ck_89_219 : am_cok am_T0 me_89 cd_89_219 219 := ⟨rfl, .inr ⟨dX5_turn_219, rfl⟩, rfl, .inr ⟨dX5_turn_220, rfl⟩, rfl, .inr ⟨dX5_turn_221, rfl⟩, rfl, .inr ⟨dX5_turn_224, rfl⟩, rfl, .inr ⟨dX5_turn_225, rfl⟩, rfl, .inr ⟨dX5_turn_226, rfl⟩, rfl, .inr ⟨dX5_turn_227, rfl⟩, rfl, .inr ⟨dX5_turn_229, rfl⟩, rfl, .inr ⟨dX5_turn_230, rfl⟩, rfl, .inr ⟨dX5_turn_232, rfl⟩, rfl, .inr ⟨dX5_turn_235, rfl⟩, rfl, .inr ⟨dX5_turn_236, rfl⟩, rfl, .inr ⟨dX5_turn_239, rfl⟩, rfl, .inr ⟨dX5_turn_240, rfl⟩, rfl, .inr ⟨dX5_turn_242, rfl⟩, rfl, .inr ⟨dX5_turn_243, rfl⟩, rfl, .inr ⟨dX5_turn_244, rfl⟩, trivial⟩
set_option maxRecDepth 100000 in
theorem ck_89_247 : am_cok am_T0 me_89 cd_89_247 247 := ⟨rfl, .inr ⟨dX5_turn_247, rfl⟩, rfl, .inl ⟨rfl, rfl⟩, trivial⟩
set_option maxRecDepth 100000 in
theorem ck_89_249 : am_cok am_T0 me_89 cd_89_249 249 := ⟨rfl, .inr ⟨dX5_turn_249, rfl⟩, rfl, .inr ⟨dX5_turn_250, rfl⟩, rfl, .inr ⟨dX5_turn_251, rfl⟩, rfl, .inr ⟨dX5_turn_254, rfl⟩, rfl, .inr ⟨dX5_turn_255, rfl⟩, rfl, .inr ⟨dX5_turn_256, rfl⟩, rfl, .inr ⟨dX5_turn_257, rfl⟩, rfl, .inr ⟨dX5_turn_259, rfl⟩, rfl, .inr ⟨dX5_turn_260, rfl⟩, rfl, .inr ⟨dX5_turn_261, rfl⟩, rfl, .inr ⟨dX5_turn_264, rfl⟩, rfl, .inr ⟨dX5_turn_266, rfl⟩, rfl, .inr ⟨dX5_turn_267, rfl⟩, rfl, .inr ⟨dX5_turn_269, rfl⟩, rfl, .inr ⟨dX5_turn_270, rfl⟩, rfl, .inr ⟨dX5_turn_272, rfl⟩, rfl, .inr ⟨dX5_turn_273, rfl⟩, trivial⟩
set_option maxRecDepth 100000 in
theorem ck_89_276 : am_cok am_T0 me_89 cd_89_276 276 := ⟨rfl, .inr ⟨dX5_turn_276, rfl⟩, rfl, .inr ⟨dX5_turn_277, rfl⟩, rfl, .inr ⟨dX5_turn_280, rfl⟩, rfl, .inr ⟨dX5_turn_281, rfl⟩, rfl, .inr ⟨dX5_turn_283, rfl⟩, rfl, .inr ⟨dX5_turn_284, rfl⟩, rfl, .inl ⟨rfl, rfl⟩, trivial⟩
set_option maxRecDepth 100000 in
theorem ck_89_285 : am_cok am_T0 me_89 cd_89_285 285 := ⟨rfl, .inr ⟨dX5_turn_285, rfl⟩, rfl, .inr ⟨dX5_turn_286, rfl⟩, rfl, .inr ⟨dX5_turn_287, rfl⟩, rfl, .inr ⟨dX5_turn_290, rfl⟩, rfl, .inr ⟨dX5_turn_291, rfl⟩, rfl, .inr ⟨dX5_turn_292, rfl⟩, rfl, .inr ⟨dX5_turn_293, rfl⟩, rfl, .inr ⟨dX5_turn_295, rfl⟩, rfl, .inr ⟨dX5_turn_296, rfl⟩, rfl, .inr ⟨dX5_turn_297, rfl⟩, rfl, .inr ⟨dX5_turn_300, rfl⟩, rfl, .inr ⟨dX5_turn_301, rfl⟩, rfl, .inr ⟨dX5_turn_303, rfl⟩, rfl, .inr ⟨dX5_turn_304, rfl⟩, rfl, .inr ⟨dX5_turn_305, rfl⟩, rfl, .inr ⟨dX5_turn_307, rfl⟩, rfl, .inr ⟨dX5_turn_309, rfl⟩, rfl, .inr ⟨dX5_turn_311, rfl⟩, rfl, .inr ⟨dX5_turn_312, rfl⟩, rfl, .inr ⟨dX5_turn_313, rfl⟩, rfl, .inr ⟨dX5_turn_314, rfl⟩, rfl, .inl ⟨rfl, rfl⟩, trivial⟩
set_option maxRecDepth 100000 in
theorem ck_89_315 : am_cok am_T0 me_89 cd_89_315 315 := ⟨rfl, .inr ⟨dX5_turn_315, rfl⟩, rfl, .inr ⟨dX5_turn_318, rfl⟩, trivial⟩
set_option maxRecDepth 100000 in
theorem ck_89_321 : am_cok am_T0 me_89 cd_89_321 321 := ⟨rfl, .inr ⟨dX5_turn_321, rfl⟩, trivial⟩
set_option maxRecDepth 100000 in
theorem ck_89 : ∀ p ∈ bl_89, am_cok am_T0 me_89 p.2 p.1 := List.forall_mem_cons.mpr ⟨ck_89_0, List.forall_mem_cons.mpr ⟨ck_89_24, List.forall_mem_cons.mpr ⟨ck_89_25, List.forall_mem_cons.mpr ⟨ck_89_41, List.forall_mem_cons.mpr ⟨ck_89_42, List.forall_mem_cons.mpr ⟨ck_89_57, List.forall_mem_cons.mpr ⟨ck_89_58, List.forall_mem_cons.mpr ⟨ck_89_90, List.forall_mem_cons.mpr ⟨ck_89_91, List.forall_mem_cons.mpr ⟨ck_89_96, List.forall_mem_cons.mpr ⟨ck_89_122, List.forall_mem_cons.mpr ⟨ck_89_123, List.forall_mem_cons.mpr ⟨ck_89_125, List.forall_mem_cons.mpr ⟨ck_89_130, List.forall_mem_cons.mpr ⟨ck_89_153, List.forall_mem_cons.mpr ⟨ck_89_162, List.forall_mem_cons.mpr ⟨ck_89_186, List.forall_mem_cons.mpr ⟨ck_89_188, List.forall_mem_cons.mpr ⟨ck_89_210, List.forall_mem_cons.mpr ⟨ck_89_219, List.forall_mem_cons.mpr ⟨ck_89_247, List.forall_mem_cons.mpr ⟨ck_89_249, List.forall_mem_cons.mpr ⟨ck_89_276, List.forall_mem_cons.mpr ⟨ck_89_285, List.forall_mem_cons.mpr ⟨ck_89_315, List.forall_mem_cons.mpr ⟨ck_89_321, fun _ h => absurd h List.not_mem_nil⟩⟩⟩⟩⟩⟩⟩⟩⟩⟩⟩⟩⟩⟩⟩⟩⟩⟩⟩⟩⟩⟩⟩⟩⟩⟩
set_option maxRecDepth 100000 in
theorem ck_90_0 : am_cok am_T0 me_90 cd_90_0 0 := ⟨rfl, .inr ⟨dX5_fold_0, rfl⟩, rfl, .inr ⟨dX5_fold_1, rfl⟩, rfl, .inl ⟨rfl, rfl⟩, trivial⟩
set_option maxRecDepth 100000 in
theorem ck_90_2 : am_cok am_T0 me_90 cd_90_2 2 := ⟨rfl, .inr ⟨dX5_fold_2, rfl⟩, rfl, .inr ⟨dX5_fold_3, rfl⟩, rfl, .inr ⟨dX5_fold_4, rfl⟩, rfl, .inr ⟨dX5_fold_7, rfl⟩, rfl, .inr ⟨dX5_fold_8, rfl⟩, rfl, .inr ⟨dX5_fold_11, rfl⟩, rfl, .inr ⟨dX5_fold_12, rfl⟩, rfl, .inr ⟨dX5_fold_13, rfl⟩, rfl, .inr ⟨dX5_fold_14, rfl⟩, rfl, .inr ⟨dX5_fold_15, rfl⟩, rfl, .inr ⟨dX5_fold_18, rfl⟩, rfl, .inr ⟨dX5_fold_19, rfl⟩, rfl, .inr ⟨dX5_fold_20, rfl⟩, rfl, .inr ⟨dX5_fold_23, rfl⟩, rfl, .inr ⟨dX5_fold_24, rfl⟩, trivial⟩
set_option maxRecDepth 100000 in
theorem ck_90_27 : am_cok am_T0 me_90 cd_90_27 27 := ⟨rfl, .inr ⟨dX5_fold_27, rfl⟩, rfl, .inl ⟨rfl, rfl⟩, trivial⟩
set_option maxRecDepth 100000 in
theorem ck_90_28 : am_cok am_T0 me_90 cd_90_28 28 := ⟨rfl, .inr ⟨dX5_fold_28, rfl⟩, rfl, .inr ⟨dX5_fold_29, rfl⟩, rfl, .inr ⟨dX5_fold_30, rfl⟩, rfl, .inr ⟨dX5_fold_33, rfl⟩, rfl, .inr ⟨dX5_fold_34, rfl⟩, rfl, .inr ⟨dX5_fold_35, rfl⟩, rfl, .inr ⟨dX5_fold_36, rfl⟩, rfl, .inr ⟨dX5_fold_39, rfl⟩, rfl, .inr ⟨dX5_fold_40, rfl⟩, trivial⟩
set_option maxRecDepth 100000 in
theorem ck_90_43 : am_cok am_T0 me_90 cd_90_43 43 := ⟨rfl, .inr ⟨dX5_fold_43, rfl⟩, rfl, .inl ⟨rfl, rfl⟩, trivial⟩
set_option maxRecDepth 100000 in
theorem ck_90_44 : am_cok am_T0 me_90 cd_90_44 44 := ⟨rfl, .inr ⟨dX5_fold_44, rfl⟩, rfl, .inr ⟨dX5_fold_45, rfl⟩, rfl, .inr ⟨dX5_fold_46, rfl⟩, rfl, .inr ⟨dX5_fold_49, rfl⟩, rfl, .inr ⟨dX5_fold_50, rfl⟩, rfl, .inr ⟨dX5_fold_51, rfl⟩, rfl, .inr ⟨dX5_fold_52, rfl⟩, rfl, .inr ⟨dX5_fold_55, rfl⟩, rfl, .inr ⟨dX5_fold_56, rfl⟩, trivial⟩
set_option maxRecDepth 100000 in
theorem ck_90_59 : am_cok am_T0 me_90 cd_90_59 59 := ⟨rfl, .inr ⟨dX5_fold_59, rfl⟩, rfl, .inl ⟨rfl, rfl⟩, trivial⟩
set_option maxRecDepth 100000 in
theorem ck_90_60 : am_cok am_T0 me_90 cd_90_60 60 := ⟨rfl, .inr ⟨dX5_fold_60, rfl⟩, rfl, .inr ⟨dX5_fold_61, rfl⟩, rfl, .inr ⟨dX5_fold_64, rfl⟩, trivial⟩
set_option maxRecDepth 100000 in
theorem ck_90_67 : am_cok am_T0 me_90 cd_90_67 67 := ⟨rfl, .inr ⟨dX5_fold_67, rfl⟩, rfl, .inr ⟨dX5_fold_68, rfl⟩, rfl, .inl ⟨rfl, rfl⟩, trivial⟩
set_option maxRecDepth 100000 in
theorem ck_90_69 : am_cok am_T0 me_90 cd_90_69 69 := ⟨rfl, .inr ⟨dX5_fold_69, rfl⟩, rfl, .inr ⟨dX5_fold_70, rfl⟩, rfl, .inr ⟨dX5_fold_71, rfl⟩, rfl, .inr ⟨dX5_fold_74, rfl⟩, rfl, .inr ⟨dX5_fold_77, rfl⟩, rfl, .inr ⟨dX5_fold_78, rfl⟩, rfl, .inr ⟨dX5_fold_81, rfl⟩, rfl, .inr ⟨dX5_fold_82, rfl⟩, rfl, .inr ⟨dX5_fold_83, rfl⟩, rfl, .inr ⟨dX5_fold_84, rfl⟩, rfl, .inr ⟨dX5_fold_85, rfl⟩, rfl, .inr ⟨dX5_fold_86, rfl⟩, rfl, .inr ⟨dX5_fold_87, rfl⟩, rfl, .inr ⟨dX5_fold_88, rfl⟩, rfl, .inr ⟨dX5_fold_89, rfl⟩, rfl, .inr ⟨dX5_fold_92, rfl⟩, rfl, .inr ⟨dX5_fold_93, rfl⟩, trivial⟩
set_option maxRecDepth 100000 in
theorem ck_90_96 : am_cok am_T0 me_90 cd_90_96 96 := ⟨rfl, .inr ⟨dX5_fold_96, rfl⟩, rfl, .inl ⟨rfl, rfl⟩, trivial⟩
set_option maxRecDepth 100000 in
theorem ck_90_97 : am_cok am_T0 me_90 cd_90_97 97 := ⟨rfl, .inr ⟨dX5_fold_97, rfl⟩, rfl, .inl ⟨rfl, rfl⟩, trivial⟩
set_option maxRecDepth 100000 in
theorem ck_90_100 : am_cok am_T0 me_90 cd_90_100 100 := ⟨rfl, .inr ⟨dX5_fold_100, rfl⟩, rfl, .inr ⟨dX5_fold_101, rfl⟩, rfl, .inl ⟨rfl, rfl⟩, trivial⟩
set_option maxRecDepth 100000 in
theorem ck_90_102 : am_cok am_T0 me_90 cd_90_102 102 := ⟨rfl, .inr ⟨dX5_fold_102, rfl⟩, rfl, .inr ⟨dX5_fold_103, rfl⟩, rfl, .inr ⟨dX5_fold_104, rfl⟩, rfl, .inr ⟨dX5_fold_107, rfl⟩, rfl, .inr ⟨dX5_fold_108, rfl⟩, rfl, .inr ⟨dX5_fold_111, rfl⟩, rfl, .inr ⟨dX5_fold_112, rfl⟩, rfl, .inr ⟨dX5_fold_113, rfl⟩, rfl, .inr ⟨dX5_fold_114, rfl⟩, rfl, .inr ⟨dX5_fold_115, rfl⟩, rfl, .inr ⟨dX5_fold_116, rfl⟩, rfl, .inr ⟨dX5_fold_117, rfl⟩, rfl, .inr ⟨dX5_fold_118, rfl⟩, rfl, .inr ⟨dX5_fold_121, rfl⟩, rfl, .inr ⟨dX5_fold_122, rfl⟩, rfl, .inr ⟨dX5_fold_123, rfl⟩, rfl, .inr ⟨dX5_fold_124, rfl⟩, rfl, .inr ⟨dX5_fold_125, rfl⟩, rfl, .inr ⟨dX5_fold_126, rfl⟩, rfl, .inr ⟨dX5_fold_129, rfl⟩, rfl, .inr ⟨dX5_fold_130, rfl⟩, rfl, .inl ⟨rfl, rfl⟩, trivial⟩
set_option maxRecDepth 100000 in
theorem ck_90_131 : am_cok am_T0 me_90 cd_90_131 131 := ⟨rfl, .inr ⟨dX5_fold_131, rfl⟩, rfl, .inr ⟨dX5_fold_132, rfl⟩, rfl, .inr ⟨dX5_fold_133, rfl⟩, rfl, .inr ⟨dX5_fold_134, rfl⟩, rfl, .inr ⟨dX5_fold_135, rfl⟩, rfl, .inr ⟨dX5_fold_136, rfl⟩, rfl, .inr ⟨dX5_fold_137, rfl⟩, rfl, .inr ⟨dX5_fold_138, rfl⟩, rfl, .inr ⟨dX5_fold_141, rfl⟩, rfl, .inr ⟨dX5_fold_142, rfl⟩, rfl, .inr ⟨dX5_fold_143, rfl⟩, rfl, .inr ⟨dX5_fold_144, rfl⟩, rfl, .inr ⟨dX5_fold_145, rfl⟩, rfl, .inr ⟨dX5_fold_146, rfl⟩, rfl, .inr ⟨dX5_fold_147, rfl⟩, rfl, .inr ⟨dX5_fold_148, rfl⟩, rfl, .inr ⟨dX5_fold_151, rfl⟩, rfl, .inr ⟨dX5_fold_152, rfl⟩, rfl, .inr ⟨dX5_fold_153, rfl⟩, rfl, .inr ⟨dX5_fold_154, rfl⟩, rfl, .inr ⟨dX5_fold_155, rfl⟩, rfl, .inl ⟨rfl, rfl⟩, trivial⟩
set_option maxRecDepth 100000 in
theorem ck_90_156 : am_cok am_T0 me_90 cd_90_156 156 := ⟨rfl, .inr ⟨dX5_fold_156, rfl⟩, rfl, .inr ⟨dX5_fold_157, rfl⟩, rfl, .inr ⟨dX5_fold_158, rfl⟩, rfl, .inr ⟨dX5_fold_159, rfl⟩, rfl, .inr ⟨dX5_fold_161, rfl⟩, rfl, .inr ⟨dX5_fold_162, rfl⟩, rfl, .inr ⟨dX5_fold_165, rfl⟩, rfl, .inr ⟨dX5_fold_166, rfl⟩, rfl, .inr ⟨dX5_fold_167, rfl⟩, rfl, .inr ⟨dX5_fold_168, rfl⟩, rfl, .inr ⟨dX5_fold_169, rfl⟩, rfl, .inr ⟨dX5_fold_170, rfl⟩, rfl, .inr ⟨dX5_fold_171, rfl⟩, rfl, .inr ⟨dX5_fold_172, rfl⟩, rfl, .inr ⟨dX5_fold_175, rfl⟩, rfl, .inr ⟨dX5_fold_176, rfl⟩, rfl, .inr ⟨dX5_fold_177, rfl⟩, rfl, .inr ⟨dX5_fold_178, rfl⟩, rfl, .inr ⟨dX5_fold_179, rfl⟩, rfl, .inr ⟨dX5_fold_180, rfl⟩, rfl, .inl ⟨rfl, rfl⟩, trivial⟩
set_option maxRecDepth 100000 in
theorem ck_90_181 : am_cok am_T0 me_90 cd_90_181 181 := ⟨rfl, .inr ⟨dX5_fold_181, rfl⟩, rfl, .inr ⟨dX5_fold_182, rfl⟩, rfl, .inr ⟨dX5_fold_185, rfl⟩, rfl, .inr ⟨dX5_fold_186, rfl⟩, rfl, .inr ⟨dX5_fold_187, rfl⟩, rfl, .inr ⟨dX5_fold_188, rfl⟩, rfl, .inr ⟨dX5_fold_189, rfl⟩, rfl, .inr ⟨dX5_fold_190, rfl⟩, rfl, .inr ⟨dX5_fold_191, rfl⟩, rfl, .inr ⟨dX5_fold_192, rfl⟩, rfl, .inr ⟨dX5_fold_193, rfl⟩, rfl, .inr ⟨dX5_fold_194, rfl⟩, rfl, .inr ⟨dX5_fold_197, rfl⟩, rfl, .inr ⟨dX5_fold_198, rfl⟩, rfl, .inr ⟨dX5_fold_199, rfl⟩, rfl, .inr ⟨dX5_fold_200, rfl⟩, rfl, .inr ⟨dX5_fold_201, rfl⟩, rfl, .inr ⟨dX5_fold_202, rfl⟩, rfl, .inr ⟨dX5_fold_203, rfl⟩, rfl, .inr ⟨dX5_fold_204, rfl⟩, rfl, .inr ⟨dX5_fold_207, rfl⟩, rfl, .inl ⟨rfl, rfl⟩, trivial⟩
set_option maxRecDepth 100000 in
theorem ck_90_208 : am_cok am_T0 me_90 cd_90_208 208 := ⟨rfl, .inr ⟨dX5_fold_208, rfl⟩, rfl, .inr ⟨dX5_fold_209, rfl⟩, rfl, .inr ⟨dX5_fold_210, rfl⟩, rfl, .inr ⟨dX5_fold_211, rfl⟩, rfl, .inr ⟨dX5_fold_212, rfl⟩, rfl, .inr ⟨dX5_fold_213, rfl⟩, rfl, .inr ⟨dX5_fold_214, rfl⟩, rfl, .inr ⟨dX5_fold_215, rfl⟩, rfl, .inr ⟨dX5_fold_217, rfl⟩, rfl, .inr ⟨dX5_fold_218, rfl⟩, rfl, .inr ⟨dX5_fold_221, rfl⟩, rfl, .inr ⟨dX5_fold_223, rfl⟩, rfl, .inr ⟨dX5_fold_224, rfl⟩, rfl, .inr ⟨dX5_fold_225, rfl⟩, rfl, .inr ⟨dX5_fold_226, rfl⟩, rfl, .inr ⟨dX5_fold_227, rfl⟩, rfl, .inr ⟨dX5_fold_229, rfl⟩, rfl, .inr ⟨dX5_fold_231, rfl⟩, rfl, .inr ⟨dX5_fold_234, rfl⟩, rfl, .inr ⟨dX5_fold_236, rfl⟩, trivial⟩
set_option maxRecDepth 100000 in
theorem ck_90_239 : am_cok am_T0 me_90 cd_90_239 239 := ⟨rfl, .inr ⟨dX5_fold_239, rfl⟩, rfl, .inl ⟨rfl, rfl⟩, trivial⟩
set_option maxRecDepth 100000 in
theorem ck_90_241 : am_cok am_T0 me_90 cd_90_241 241 := ⟨rfl, .inr ⟨dX5_fold_241, rfl⟩, rfl, .inr ⟨dX5_fold_242, rfl⟩, rfl, .inr ⟨dX5_fold_243, rfl⟩, rfl, .inr ⟨dX5_fold_246, rfl⟩, rfl, .inr ⟨dX5_fold_248, rfl⟩, rfl, .inr ⟨dX5_fold_249, rfl⟩, rfl, .inr ⟨dX5_fold_250, rfl⟩, rfl, .inr ⟨dX5_fold_251, rfl⟩, rfl, .inr ⟨dX5_fold_252, rfl⟩, rfl, .inr ⟨dX5_fold_253, rfl⟩, rfl, .inr ⟨dX5_fold_254, rfl⟩, rfl, .inr ⟨dX5_fold_256, rfl⟩, rfl, .inr ⟨dX5_fold_258, rfl⟩, rfl, .inr ⟨dX5_fold_261, rfl⟩, rfl, .inr ⟨dX5_fold_263, rfl⟩, trivial⟩
set_option maxRecDepth 100000 in
theorem ck_90_266 : am_cok am_T0 me_90 cd_90_266 266 := ⟨rfl, .inr ⟨dX5_fold_266, rfl⟩, rfl, .inl ⟨rfl, rfl⟩, trivial⟩
set_option maxRecDepth 100000 in
theorem ck_90_268 : am_cok am_T0 me_90 cd_90_268 268 := ⟨rfl, .inr ⟨dX5_fold_268, rfl⟩, rfl, .inr ⟨dX5_fold_269, rfl⟩, rfl, .inr ⟨dX5_fold_272, rfl⟩, trivial⟩
set_option maxRecDepth 100000 in
theorem ck_90_275 : am_cok am_T0 me_90 cd_90_275 275 := ⟨rfl, .inr ⟨dX5_fold_275, rfl⟩, rfl, .inr ⟨dX5_fold_278, rfl⟩, trivial⟩
set_option maxRecDepth 100000 in
theorem ck_90_281 : am_cok am_T0 me_90 cd_90_281 281 := ⟨rfl, .inr ⟨dX5_fold_281, rfl⟩, trivial⟩
set_option maxRecDepth 100000 in
theorem ck_90 : ∀ p ∈ bl_90, am_cok am_T0 me_90 p.2 p.1 := List.forall_mem_cons.mpr ⟨ck_90_0, List.forall_mem_cons.mpr ⟨ck_90_2, List.forall_mem_cons.mpr ⟨ck_90_27, List.forall_mem_cons.mpr ⟨ck_90_28, List.forall_mem_cons.mpr ⟨ck_90_43, List.forall_mem_cons.mpr ⟨ck_90_44, List.forall_mem_cons.mpr ⟨ck_90_59, List.forall_mem_cons.mpr ⟨ck_90_60, List.forall_mem_cons.mpr ⟨ck_90_67, List.forall_mem_cons.mpr ⟨ck_90_69, List.forall_mem_cons.mpr ⟨ck_90_96, List.forall_mem_cons.mpr ⟨ck_90_97, List.forall_mem_cons.mpr ⟨ck_90_100, List.forall_mem_cons.mpr ⟨ck_90_102, List.forall_mem_cons.mpr ⟨ck_90_131, List.forall_mem_cons.mpr ⟨ck_90_156, List.forall_mem_cons.mpr ⟨ck_90_181, List.forall_mem_cons.mpr ⟨ck_90_208, List.forall_mem_cons.mpr ⟨ck_90_239, List.forall_mem_cons.mpr ⟨ck_90_241, List.forall_mem_cons.mpr ⟨ck_90_266, List.forall_mem_cons.mpr ⟨ck_90_268, List.forall_mem_cons.mpr ⟨ck_90_275, List.forall_mem_cons.mpr ⟨ck_90_281, fun _ h => absurd h List.not_mem_nil⟩⟩⟩⟩⟩⟩⟩⟩⟩⟩⟩⟩⟩⟩⟩⟩⟩⟩⟩⟩⟩⟩⟩⟩
set_option maxRecDepth 100000 in
theorem ck_91_0 : am_cok am_T0 me_91 cd_91_0 0 := ⟨rfl, .inr ⟨dX5_place_0, rfl⟩, rfl, .inr ⟨dX5_place_1, rfl⟩, rfl, .inr ⟨dX5_place_2, rfl⟩, rfl, .inr ⟨dX5_place_5, rfl⟩, rfl, .inr ⟨dX5_place_6, rfl⟩, rfl, .inr ⟨dX5_place_7, rfl⟩, rfl, .inl ⟨rfl, rfl⟩, trivial⟩
set_option maxRecDepth 100000 in
theorem ck_91_10 : am_cok am_T0 me_91 cd_91_10 10 := ⟨rfl, .inr ⟨dX5_place_10, rfl⟩, rfl, .inr ⟨dX5_place_13, rfl⟩, rfl, .inr ⟨dX5_place_14, rfl⟩, rfl, .inr ⟨dX5_place_15, rfl⟩, rfl, .inr ⟨dX5_place_16, rfl⟩, rfl, .inr ⟨dX5_place_17, rfl⟩, rfl, .inr ⟨dX5_place_20, rfl⟩, rfl, .inr ⟨dX5_place_21, rfl⟩, rfl, .inr ⟨dX5_place_22, rfl⟩, rfl, .inr ⟨dX5_place_23, rfl⟩, rfl, .inl ⟨rfl, rfl⟩, trivial⟩
set_option maxRecDepth 100000 in
theorem ck_91_26 : am_cok am_T0 me_91 cd_91_26 26 := ⟨rfl, .inr ⟨dX5_place_26, rfl⟩, rfl, .inr ⟨dX5_place_29, rfl⟩, rfl, .inr ⟨dX5_place_30, rfl⟩, rfl, .inr ⟨dX5_place_31, rfl⟩, rfl, .inr ⟨dX5_place_32, rfl⟩, rfl, .inr ⟨dX5_place_35, rfl⟩, rfl, .inl ⟨rfl, rfl⟩, trivial⟩
set_option maxRecDepth 100000 in
theorem ck_91_38 : am_cok am_T0 me_91 cd_91_38 38 := ⟨rfl, .inr ⟨dX5_place_38, rfl⟩, rfl, .inl ⟨rfl, rfl⟩, trivial⟩
set_option maxRecDepth 100000 in
theorem ck_91_41 : am_cok am_T0 me_91 cd_91_41 41 := ⟨rfl, .inr ⟨dX5_place_41, rfl⟩, rfl, .inr ⟨dX5_place_43, rfl⟩, trivial⟩
set_option maxRecDepth 100000 in
theorem ck_91_44 : am_cok am_T0 me_91 cd_91_44 44 := ⟨rfl, .inr ⟨dX5_place_44, rfl⟩, rfl, .inr ⟨dX5_place_45, rfl⟩, rfl, .inr ⟨dX5_place_46, rfl⟩, rfl, .inl ⟨rfl, rfl⟩, trivial⟩
set_option maxRecDepth 100000 in
theorem ck_91_49 : am_cok am_T0 me_91 cd_91_49 49 := ⟨rfl, .inr ⟨dX5_place_49, rfl⟩, rfl, .inr ⟨dX5_place_50, rfl⟩, rfl, .inr ⟨dX5_place_53, rfl⟩, rfl, .inr ⟨dX5_place_55, rfl⟩, rfl, .inr ⟨dX5_place_56, rfl⟩, rfl, .inr ⟨dX5_place_57, rfl⟩, rfl, .inr ⟨dX5_place_58, rfl⟩, rfl, .inr ⟨dX5_place_59, rfl⟩, rfl, .inr ⟨dX5_place_60, rfl⟩, trivial⟩
set_option maxRecDepth 100000 in
theorem ck_91 : ∀ p ∈ bl_91, am_cok am_T0 me_91 p.2 p.1 := List.forall_mem_cons.mpr ⟨ck_91_0, List.forall_mem_cons.mpr ⟨ck_91_10, List.forall_mem_cons.mpr ⟨ck_91_26, List.forall_mem_cons.mpr ⟨ck_91_38, List.forall_mem_cons.mpr ⟨ck_91_41, List.forall_mem_cons.mpr ⟨ck_91_44, List.forall_mem_cons.mpr ⟨ck_91_49, fun _ h => absurd h List.not_mem_nil⟩⟩⟩⟩⟩⟩⟩
set_option maxRecDepth 100000 in
theorem ck_92_0 : am_cok am_T0 me_92 cd_92_0 0 := ⟨rfl, .inr ⟨dX5_isInner_0, rfl⟩, rfl, .inr ⟨dX5_isInner_1, rfl⟩, rfl, .inr ⟨dX5_isInner_2, rfl⟩, rfl, .inr ⟨dX5_isInner_3, rfl⟩, rfl, .inl ⟨rfl, rfl⟩, trivial⟩
set_option maxRecDepth 100000 in
theorem ck_92_5 : am_cok am_T0 me_92 cd_92_5 5 := ⟨rfl, .inr ⟨dX5_isInner_5, rfl⟩, rfl, .inr ⟨dX5_isInner_7, rfl⟩, rfl, .inr ⟨dX5_isInner_8, rfl⟩, rfl, .inr ⟨dX5_isInner_11, rfl⟩, rfl, .inr ⟨dX5_isInner_12, rfl⟩, rfl, .inr ⟨dX5_isInner_15, rfl⟩, rfl, .inr ⟨dX5_isInner_17, rfl⟩, rfl, .inr ⟨dX5_isInner_18, rfl⟩, rfl, .inr ⟨dX5_isInner_19, rfl⟩, rfl, .inr ⟨dX5_isInner_21, rfl⟩, rfl, .inr ⟨dX5_isInner_22, rfl⟩, rfl, .inr ⟨dX5_isInner_23, rfl⟩, rfl, .inr ⟨dX5_isInner_25, rfl⟩, rfl, .inr ⟨dX5_isInner_26, rfl⟩, rfl, .inr ⟨dX5_isInner_29, rfl⟩, rfl, .inr ⟨dX5_isInner_31, rfl⟩, rfl, .inr ⟨dX5_isInner_32, rfl⟩, rfl, .inr ⟨dX5_isInner_33, rfl⟩, rfl, .inr ⟨dX5_isInner_34, rfl⟩, rfl, .inr ⟨dX5_isInner_35, rfl⟩, rfl, .inr ⟨dX5_isInner_37, rfl⟩, rfl, .inr ⟨dX5_isInner_38, rfl⟩, rfl, .inl ⟨rfl, rfl⟩, trivial⟩
set_option maxRecDepth 100000 in
theorem ck_92_39 : am_cok am_T0 me_92 cd_92_39 39 := ⟨rfl, .inr ⟨dX5_isInner_39, rfl⟩, rfl, .inr ⟨dX5_isInner_41, rfl⟩, rfl, .inr ⟨dX5_isInner_42, rfl⟩, rfl, .inr ⟨dX5_isInner_45, rfl⟩, rfl, .inr ⟨dX5_isInner_47, rfl⟩, rfl, .inr ⟨dX5_isInner_48, rfl⟩, rfl, .inr ⟨dX5_isInner_49, rfl⟩, rfl, .inr ⟨dX5_isInner_51, rfl⟩, rfl, .inr ⟨dX5_isInner_52, rfl⟩, rfl, .inr ⟨dX5_isInner_53, rfl⟩, rfl, .inr ⟨dX5_isInner_55, rfl⟩, rfl, .inr ⟨dX5_isInner_56, rfl⟩, rfl, .inr ⟨dX5_isInner_59, rfl⟩, rfl, .inr ⟨dX5_isInner_61, rfl⟩, rfl, .inr ⟨dX5_isInner_62, rfl⟩, rfl, .inr ⟨dX5_isInner_63, rfl⟩, rfl, .inr ⟨dX5_isInner_64, rfl⟩, rfl, .inr ⟨dX5_isInner_65, rfl⟩, rfl, .inr ⟨dX5_isInner_67, rfl⟩, rfl, .inr ⟨dX5_isInner_68, rfl⟩, rfl, .inr ⟨dX5_isInner_69, rfl⟩, rfl, .inl ⟨rfl, rfl⟩, trivial⟩
set_option maxRecDepth 100000 in
theorem ck_92_71 : am_cok am_T0 me_92 cd_92_71 71 := ⟨rfl, .inr ⟨dX5_isInner_71, rfl⟩, rfl, .inr ⟨dX5_isInner_72, rfl⟩, rfl, .inr ⟨dX5_isInner_75, rfl⟩, rfl, .inr ⟨dX5_isInner_77, rfl⟩, rfl, .inr ⟨dX5_isInner_79, rfl⟩, rfl, .inr ⟨dX5_isInner_82, rfl⟩, rfl, .inr ⟨dX5_isInner_84, rfl⟩, rfl, .inr ⟨dX5_isInner_86, rfl⟩, rfl, .inr ⟨dX5_isInner_89, rfl⟩, rfl, .inr ⟨dX5_isInner_91, rfl⟩, rfl, .inr ⟨dX5_isInner_93, rfl⟩, rfl, .inr ⟨dX5_isInner_96, rfl⟩, trivial⟩
set_option maxRecDepth 100000 in
theorem ck_92_99 : am_cok am_T0 me_92 cd_92_99 99 := ⟨rfl, .inr ⟨dX5_isInner_99, rfl⟩, rfl, .inr ⟨dX5_isInner_101, rfl⟩, rfl, .inr ⟨dX5_isInner_103, rfl⟩, rfl, .inr ⟨dX5_isInner_106, rfl⟩, rfl, .inr ⟨dX5_isInner_108, rfl⟩, rfl, .inr ⟨dX5_isInner_110, rfl⟩, rfl, .inl ⟨rfl, rfl⟩, trivial⟩
set_option maxRecDepth 100000 in
theorem ck_92_113 : am_cok am_T0 me_92 cd_92_113 113 := ⟨rfl, .inr ⟨dX5_isInner_113, rfl⟩, rfl, .inr ⟨dX5_isInner_114, rfl⟩, trivial⟩
set_option maxRecDepth 100000 in
theorem ck_92_117 : am_cok am_T0 me_92 cd_92_117 117 := ⟨rfl, .inr ⟨dX5_isInner_117, rfl⟩, rfl, .inl ⟨rfl, rfl⟩, trivial⟩
set_option maxRecDepth 100000 in
theorem ck_92_118 : am_cok am_T0 me_92 cd_92_118 118 := ⟨rfl, .inr ⟨dX5_isInner_118, rfl⟩, rfl, .inr ⟨dX5_isInner_119, rfl⟩, rfl, .inr ⟨dX5_isInner_122, rfl⟩, trivial⟩
set_option maxRecDepth 100000 in
theorem ck_92_125 : am_cok am_T0 me_92 cd_92_125 125 := ⟨rfl, .inr ⟨dX5_isInner_125, rfl⟩, rfl, .inl ⟨rfl, rfl⟩, trivial⟩
set_option maxRecDepth 100000 in
theorem ck_92_126 : am_cok am_T0 me_92 cd_92_126 126 := ⟨rfl, .inr ⟨dX5_isInner_126, rfl⟩, trivial⟩
set_option maxRecDepth 100000 in
theorem ck_92 : ∀ p ∈ bl_92, am_cok am_T0 me_92 p.2 p.1 := List.forall_mem_cons.mpr ⟨ck_92_0, List.forall_mem_cons.mpr ⟨ck_92_5, List.forall_mem_cons.mpr ⟨ck_92_39, List.forall_mem_cons.mpr ⟨ck_92_71, List.forall_mem_cons.mpr ⟨ck_92_99, List.forall_mem_cons.mpr ⟨ck_92_113, List.forall_mem_cons.mpr ⟨ck_92_117, List.forall_mem_cons.mpr ⟨ck_92_118, List.forall_mem_cons.mpr ⟨ck_92_125, List.forall_mem_cons.mpr ⟨ck_92_126, fun _ h => absurd h List.not_mem_nil⟩⟩⟩⟩⟩⟩⟩⟩⟩⟩
set_option maxRecDepth 100000 in
theorem ck_93_0 : am_cok am_T0 me_93 cd_93_0 0 := ⟨rfl, .inr ⟨dX5_meets_0, rfl⟩, rfl, .inr ⟨dX5_meets_1, rfl⟩, rfl, .inr ⟨dX5_meets_2, rfl⟩, rfl, .inr ⟨dX5_meets_5, rfl⟩, rfl, .inr ⟨dX5_meets_6, rfl⟩, rfl, .inr ⟨dX5_meets_7, rfl⟩, rfl, .inl ⟨rfl, rfl⟩, trivial⟩
set_option maxRecDepth 100000 in
theorem ck_93_10 : am_cok am_T0 me_93 cd_93_10 10 := ⟨rfl, .inr ⟨dX5_meets_10, rfl⟩, rfl, .inr ⟨dX5_meets_13, rfl⟩, rfl, .inr ⟨dX5_meets_14, rfl⟩, trivial⟩
set_option maxRecDepth 100000 in
theorem ck_93_15 : am_cok am_T0 me_93 cd_93_15 15 := ⟨rfl, .inr ⟨dX5_meets_15, rfl⟩, rfl, .inr ⟨dX5_meets_16, rfl⟩, rfl, .inr ⟨dX5_meets_17, rfl⟩, rfl, .inl ⟨rfl, rfl⟩, trivial⟩
set_option maxRecDepth 100000 in
theorem ck_93_20 : am_cok am_T0 me_93 cd_93_20 20 := ⟨rfl, .inr ⟨dX5_meets_20, rfl⟩, rfl, .inr ⟨dX5_meets_21, rfl⟩, rfl, .inr ⟨dX5_meets_22, rfl⟩, rfl, .inr ⟨dX5_meets_23, rfl⟩, rfl, .inl ⟨rfl, rfl⟩, trivial⟩
set_option maxRecDepth 100000 in
theorem ck_93_24 : am_cok am_T0 me_93 cd_93_24 24 := ⟨rfl, .inr ⟨dX5_meets_24, rfl⟩, rfl, .inr ⟨dX5_meets_25, rfl⟩, rfl, .inr ⟨dX5_meets_26, rfl⟩, rfl, .inr ⟨dX5_meets_29, rfl⟩, rfl, .inr ⟨dX5_meets_32, rfl⟩, rfl, .inr ⟨dX5_meets_33, rfl⟩, rfl, .inr ⟨dX5_meets_34, rfl⟩, rfl, .inr ⟨dX5_meets_35, rfl⟩, rfl, .inl ⟨rfl, rfl⟩, trivial⟩
set_option maxRecDepth 100000 in
theorem ck_93_37 : am_cok am_T0 me_93 cd_93_37 37 := ⟨rfl, .inr ⟨dX5_meets_37, rfl⟩, rfl, .inr ⟨dX5_meets_39, rfl⟩, rfl, .inr ⟨dX5_meets_40, rfl⟩, rfl, .inr ⟨dX5_meets_43, rfl⟩, rfl, .inr ⟨dX5_meets_46, rfl⟩, rfl, .inr ⟨dX5_meets_47, rfl⟩, rfl, .inr ⟨dX5_meets_48, rfl⟩, rfl, .inr ⟨dX5_meets_51, rfl⟩, rfl, .inr ⟨dX5_meets_53, rfl⟩, rfl, .inr ⟨dX5_meets_54, rfl⟩, rfl, .inr ⟨dX5_meets_55, rfl⟩, rfl, .inr ⟨dX5_meets_58, rfl⟩, rfl, .inr ⟨dX5_meets_59, rfl⟩, rfl, .inr ⟨dX5_meets_60, rfl⟩, rfl, .inr ⟨dX5_meets_62, rfl⟩, rfl, .inl ⟨rfl, rfl⟩, trivial⟩
set_option maxRecDepth 100000 in
theorem ck_93_65 : am_cok am_T0 me_93 cd_93_65 65 := ⟨rfl, .inr ⟨dX5_meets_65, rfl⟩, rfl, .inr ⟨dX5_meets_68, rfl⟩, rfl, .inr ⟨dX5_meets_69, rfl⟩, rfl, .inr ⟨dX5_meets_71, rfl⟩, rfl, .inr ⟨dX5_meets_72, rfl⟩, rfl, .inl ⟨rfl, rfl⟩, trivial⟩
set_option maxRecDepth 100000 in
theorem ck_93_75 : am_cok am_T0 me_93 cd_93_75 75 := ⟨rfl, .inr ⟨dX5_meets_75, rfl⟩, rfl, .inl ⟨rfl, rfl⟩, trivial⟩
set_option maxRecDepth 100000 in
theorem ck_93_78 : am_cok am_T0 me_93 cd_93_78 78 := ⟨rfl, .inr ⟨dX5_meets_78, rfl⟩, rfl, .inr ⟨dX5_meets_79, rfl⟩, trivial⟩
set_option maxRecDepth 100000 in
theorem ck_93_82 : am_cok am_T0 me_93 cd_93_82 82 := ⟨rfl, .inr ⟨dX5_meets_82, rfl⟩, rfl, .inl ⟨rfl, rfl⟩, trivial⟩
set_option maxRecDepth 100000 in
theorem ck_93_83 : am_cok am_T0 me_93 cd_93_83 83 := ⟨rfl, .inr ⟨dX5_meets_83, rfl⟩, rfl, .inr ⟨dX5_meets_84, rfl⟩, rfl, .inr ⟨dX5_meets_85, rfl⟩, rfl, .inr ⟨dX5_meets_88, rfl⟩, trivial⟩
set_option maxRecDepth 100000 in
theorem ck_93_91 : am_cok am_T0 me_93 cd_93_91 91 := ⟨rfl, .inr ⟨dX5_meets_91, rfl⟩, rfl, .inr ⟨dX5_meets_94, rfl⟩, trivial⟩
set_option maxRecDepth 100000 in
theorem ck_93_97 : am_cok am_T0 me_93 cd_93_97 97 := ⟨rfl, .inr ⟨dX5_meets_97, rfl⟩, rfl, .inr ⟨dX5_meets_98, rfl⟩, trivial⟩
set_option maxRecDepth 100000 in
theorem ck_93 : ∀ p ∈ bl_93, am_cok am_T0 me_93 p.2 p.1 := List.forall_mem_cons.mpr ⟨ck_93_0, List.forall_mem_cons.mpr ⟨ck_93_10, List.forall_mem_cons.mpr ⟨ck_93_15, List.forall_mem_cons.mpr ⟨ck_93_20, List.forall_mem_cons.mpr ⟨ck_93_24, List.forall_mem_cons.mpr ⟨ck_93_37, List.forall_mem_cons.mpr ⟨ck_93_65, List.forall_mem_cons.mpr ⟨ck_93_75, List.forall_mem_cons.mpr ⟨ck_93_78, List.forall_mem_cons.mpr ⟨ck_93_82, List.forall_mem_cons.mpr ⟨ck_93_83, List.forall_mem_cons.mpr ⟨ck_93_91, List.forall_mem_cons.mpr ⟨ck_93_97, fun _ h => absurd h List.not_mem_nil⟩⟩⟩⟩⟩⟩⟩⟩⟩⟩⟩⟩⟩
set_option maxRecDepth 100000 in
theorem ck_94_0 : am_cok am_T0 me_94 cd_94_0 0 := ⟨rfl, .inr ⟨dX5_isBend_0, rfl⟩, rfl, .inr ⟨dX5_isBend_1, rfl⟩, rfl, .inr ⟨dX5_isBend_2, rfl⟩, rfl, .inr ⟨dX5_isBend_3, rfl⟩, rfl, .inr ⟨dX5_isBend_4, rfl⟩, rfl, .inr ⟨dX5_isBend_7, rfl⟩, rfl, .inr ⟨dX5_isBend_8, rfl⟩, rfl, .inr ⟨dX5_isBend_9, rfl⟩, rfl, .inr ⟨dX5_isBend_10, rfl⟩, rfl, .inl ⟨rfl, rfl⟩, trivial⟩
set_option maxRecDepth 100000 in
theorem ck_94_13 : am_cok am_T0 me_94 cd_94_13 13 := ⟨rfl, .inr ⟨dX5_isBend_13, rfl⟩, trivial⟩
set_option maxRecDepth 100000 in
theorem ck_94 : ∀ p ∈ bl_94, am_cok am_T0 me_94 p.2 p.1 := List.forall_mem_cons.mpr ⟨ck_94_0, List.forall_mem_cons.mpr ⟨ck_94_13, fun _ h => absurd h List.not_mem_nil⟩⟩
set_option maxRecDepth 100000 in
theorem ck_95_0 : am_cok am_T0 me_95 cd_95_0 0 := ⟨rfl, .inr ⟨dX5_behind_0, rfl⟩, rfl, .inr ⟨dX5_behind_1, rfl⟩, rfl, .inr ⟨dX5_behind_2, rfl⟩, rfl, .inr ⟨dX5_behind_3, rfl⟩, rfl, .inr ⟨dX5_behind_4, rfl⟩, rfl, .inr ⟨dX5_behind_5, rfl⟩, rfl, .inr ⟨dX5_behind_6, rfl⟩, rfl, .inr ⟨dX5_behind_7, rfl⟩, rfl, .inl ⟨rfl, rfl⟩, trivial⟩
set_option maxRecDepth 100000 in
theorem ck_95_8 : am_cok am_T0 me_95 cd_95_8 8 := ⟨rfl, .inr ⟨dX5_behind_8, rfl⟩, rfl, .inr ⟨dX5_behind_9, rfl⟩, rfl, .inr ⟨dX5_behind_10, rfl⟩, rfl, .inr ⟨dX5_behind_13, rfl⟩, rfl, .inr ⟨dX5_behind_16, rfl⟩, rfl, .inr ⟨dX5_behind_17, rfl⟩, rfl, .inr ⟨dX5_behind_18, rfl⟩, rfl, .inr ⟨dX5_behind_19, rfl⟩, rfl, .inr ⟨dX5_behind_22, rfl⟩, rfl, .inr ⟨dX5_behind_23, rfl⟩, rfl, .inr ⟨dX5_behind_24, rfl⟩, rfl, .inr ⟨dX5_behind_25, rfl⟩, rfl, .inr ⟨dX5_behind_26, rfl⟩, rfl, .inr ⟨dX5_behind_27, rfl⟩, rfl, .inr ⟨dX5_behind_28, rfl⟩, rfl, .inr ⟨dX5_behind_29, rfl⟩, rfl, .inr ⟨dX5_behind_30, rfl⟩, rfl, .inr ⟨dX5_behind_31, rfl⟩, rfl, .inr ⟨dX5_behind_34, rfl⟩, trivial⟩
set_option maxRecDepth 100000 in
theorem ck_95_37 : am_cok am_T0 me_95 cd_95_37 37 := ⟨rfl, .inr ⟨dX5_behind_37, rfl⟩, rfl, .inr ⟨dX5_behind_38, rfl⟩, trivial⟩
set_option maxRecDepth 100000 in
theorem ck_95 : ∀ p ∈ bl_95, am_cok am_T0 me_95 p.2 p.1 := List.forall_mem_cons.mpr ⟨ck_95_0, List.forall_mem_cons.mpr ⟨ck_95_8, List.forall_mem_cons.mpr ⟨ck_95_37, fun _ h => absurd h List.not_mem_nil⟩⟩⟩
set_option maxRecDepth 100000 in
theorem ck_96_0 : am_cok am_T0 me_96 cd_96_0 0 := ⟨rfl, .inr ⟨dX5_many_0, rfl⟩, rfl, .inr ⟨dX5_many_1, rfl⟩, rfl, .inr ⟨dX5_many_2, rfl⟩, rfl, .inr ⟨dX5_many_3, rfl⟩, rfl, .inl ⟨rfl, rfl⟩, trivial⟩
set_option maxRecDepth 100000 in
theorem ck_96_4 : am_cok am_T0 me_96 cd_96_4 4 := ⟨rfl, .inr ⟨dX5_many_4, rfl⟩, rfl, .inr ⟨dX5_many_5, rfl⟩, rfl, .inr ⟨dX5_many_7, rfl⟩, rfl, .inr ⟨dX5_many_10, rfl⟩, rfl, .inr ⟨dX5_many_11, rfl⟩, rfl, .inr ⟨dX5_many_12, rfl⟩, rfl, .inr ⟨dX5_many_13, rfl⟩, rfl, .inr ⟨dX5_many_14, rfl⟩, rfl, .inr ⟨dX5_many_15, rfl⟩, rfl, .inr ⟨dX5_many_16, rfl⟩, rfl, .inr ⟨dX5_many_17, rfl⟩, rfl, .inr ⟨dX5_many_18, rfl⟩, rfl, .inr ⟨dX5_many_21, rfl⟩, trivial⟩
set_option maxRecDepth 100000 in
theorem ck_96_24 : am_cok am_T0 me_96 cd_96_24 24 := ⟨rfl, .inr ⟨dX5_many_24, rfl⟩, rfl, .inr ⟨dX5_many_25, rfl⟩, trivial⟩
set_option maxRecDepth 100000 in
theorem ck_96 : ∀ p ∈ bl_96, am_cok am_T0 me_96 p.2 p.1 := List.forall_mem_cons.mpr ⟨ck_96_0, List.forall_mem_cons.mpr ⟨ck_96_4, List.forall_mem_cons.mpr ⟨ck_96_24, fun _ h => absurd h List.not_mem_nil⟩⟩⟩
set_option maxRecDepth 100000 in
theorem ck_97_0 : am_cok am_T0 me_97 cd_97_0 0 := ⟨rfl, .inr ⟨dX5_moving_0, rfl⟩, rfl, .inr ⟨dX5_moving_1, rfl⟩, rfl, .inr ⟨dX5_moving_2, rfl⟩, rfl, .inl ⟨rfl, rfl⟩, trivial⟩
set_option maxRecDepth 100000 in
theorem ck_97_5 : am_cok am_T0 me_97 cd_97_5 5 := ⟨rfl, .inr ⟨dX5_moving_5, rfl⟩, rfl, .inr ⟨dX5_moving_6, rfl⟩, rfl, .inr ⟨dX5_moving_7, rfl⟩, rfl, .inr ⟨dX5_moving_8, rfl⟩, rfl, .inr ⟨dX5_moving_11, rfl⟩, rfl, .inr ⟨dX5_moving_12, rfl⟩, rfl, .inr ⟨dX5_moving_13, rfl⟩, rfl, .inr ⟨dX5_moving_14, rfl⟩, rfl, .inr ⟨dX5_moving_15, rfl⟩, rfl, .inr ⟨dX5_moving_16, rfl⟩, rfl, .inl ⟨rfl, rfl⟩, trivial⟩
set_option maxRecDepth 100000 in
theorem ck_97_19 : am_cok am_T0 me_97 cd_97_19 19 := ⟨rfl, .inr ⟨dX5_moving_19, rfl⟩, rfl, .inr ⟨dX5_moving_20, rfl⟩, rfl, .inr ⟨dX5_moving_23, rfl⟩, rfl, .inr ⟨dX5_moving_24, rfl⟩, rfl, .inl ⟨rfl, rfl⟩, trivial⟩
set_option maxRecDepth 100000 in
theorem ck_97_27 : am_cok am_T0 me_97 cd_97_27 27 := ⟨rfl, .inr ⟨dX5_moving_27, rfl⟩, rfl, .inr ⟨dX5_moving_28, rfl⟩, rfl, .inr ⟨dX5_moving_31, rfl⟩, rfl, .inr ⟨dX5_moving_32, rfl⟩, trivial⟩
set_option maxRecDepth 100000 in
theorem ck_97_35 : am_cok am_T0 me_97 cd_97_35 35 := ⟨rfl, .inr ⟨dX5_moving_35, rfl⟩, rfl, .inr ⟨dX5_moving_36, rfl⟩, rfl, .inr ⟨dX5_moving_37, rfl⟩, rfl, .inr ⟨dX5_moving_38, rfl⟩, rfl, .inr ⟨dX5_moving_39, rfl⟩, rfl, .inl ⟨rfl, rfl⟩, trivial⟩
set_option maxRecDepth 100000 in
theorem ck_97_40 : am_cok am_T0 me_97 cd_97_40 40 := ⟨rfl, .inr ⟨dX5_moving_40, rfl⟩, trivial⟩
set_option maxRecDepth 100000 in
theorem ck_97 : ∀ p ∈ bl_97, am_cok am_T0 me_97 p.2 p.1 := List.forall_mem_cons.mpr ⟨ck_97_0, List.forall_mem_cons.mpr ⟨ck_97_5, List.forall_mem_cons.mpr ⟨ck_97_19, List.forall_mem_cons.mpr ⟨ck_97_27, List.forall_mem_cons.mpr ⟨ck_97_35, List.forall_mem_cons.mpr ⟨ck_97_40, fun _ h => absurd h List.not_mem_nil⟩⟩⟩⟩⟩⟩
set_option maxRecDepth 100000 in
theorem ck_98_0 : am_cok am_T0 me_98 cd_98_0 0 := ⟨rfl, .inr ⟨dX5_moves_0, rfl⟩, rfl, .inr ⟨dX5_moves_1, rfl⟩, rfl, .inr ⟨dX5_moves_2, rfl⟩, rfl, .inr ⟨dX5_moves_5, rfl⟩, rfl, .inr ⟨dX5_moves_6, rfl⟩, rfl, .inr ⟨dX5_moves_7, rfl⟩, rfl, .inl ⟨rfl, rfl⟩, trivial⟩
set_option maxRecDepth 100000 in
theorem ck_98_10 : am_cok am_T0 me_98 cd_98_10 10 := ⟨rfl, .inr ⟨dX5_moves_10, rfl⟩, rfl, .inr ⟨dX5_moves_13, rfl⟩, rfl, .inr ⟨dX5_moves_14, rfl⟩, rfl, .inr ⟨dX5_moves_15, rfl⟩, rfl, .inl ⟨rfl, rfl⟩, trivial⟩
set_option maxRecDepth 100000 in
theorem ck_98_18 : am_cok am_T0 me_98 cd_98_18 18 := ⟨rfl, .inr ⟨dX5_moves_18, rfl⟩, trivial⟩
set_option maxRecDepth 100000 in
theorem ck_98_21 : am_cok am_T0 me_98 cd_98_21 21 := ⟨rfl, .inr ⟨dX5_moves_21, rfl⟩, rfl, .inl ⟨rfl, rfl⟩, trivial⟩
set_option maxRecDepth 100000 in
theorem ck_98_22 : am_cok am_T0 me_98 cd_98_22 22 := ⟨rfl, .inr ⟨dX5_moves_22, rfl⟩, trivial⟩
set_option maxRecDepth 100000 in
theorem ck_98 : ∀ p ∈ bl_98, am_cok am_T0 me_98 p.2 p.1 := List.forall_mem_cons.mpr ⟨ck_98_0, List.forall_mem_cons.mpr ⟨ck_98_10, List.forall_mem_cons.mpr ⟨ck_98_18, List.forall_mem_cons.mpr ⟨ck_98_21, List.forall_mem_cons.mpr ⟨ck_98_22, fun _ h => absurd h List.not_mem_nil⟩⟩⟩⟩⟩
set_option maxRecDepth 100000 in
theorem ck_99_0 : am_cok am_T0 me_99 cd_99_0 0 := ⟨rfl, .inr ⟨dX5_square_0, rfl⟩, rfl, .inr ⟨dX5_square_1, rfl⟩, rfl, .inr ⟨dX5_square_2, rfl⟩, rfl, .inr ⟨dX5_square_3, rfl⟩, trivial⟩
set_option maxRecDepth 100000 in
theorem ck_99 : ∀ p ∈ bl_99, am_cok am_T0 me_99 p.2 p.1 := List.forall_mem_cons.mpr ⟨ck_99_0, fun _ h => absurd h List.not_mem_nil⟩
set_option maxRecDepth 100000 in
theorem ck_100_0 : am_cok am_T0 me_100 cd_100_0 0 := ⟨rfl, .inr ⟨dX5_along_0, rfl⟩, rfl, .inr ⟨dX5_along_1, rfl⟩, rfl, .inr ⟨dX5_along_3, rfl⟩, rfl, .inr ⟨dX5_along_4, rfl⟩, rfl, .inr ⟨dX5_along_6, rfl⟩, rfl, .inr ⟨dX5_along_7, rfl⟩, rfl, .inl ⟨rfl, rfl⟩, trivial⟩
set_option maxRecDepth 100000 in
theorem ck_100_9 : am_cok am_T0 me_100 cd_100_9 9 := ⟨rfl, .inr ⟨dX5_along_9, rfl⟩, rfl, .inr ⟨dX5_along_11, rfl⟩, rfl, .inr ⟨dX5_along_12, rfl⟩, rfl, .inr ⟨dX5_along_15, rfl⟩, rfl, .inr ⟨dX5_along_17, rfl⟩, rfl, .inr ⟨dX5_along_18, rfl⟩, rfl, .inr ⟨dX5_along_19, rfl⟩, rfl, .inr ⟨dX5_along_21, rfl⟩, rfl, .inr ⟨dX5_along_22, rfl⟩, rfl, .inr ⟨dX5_along_23, rfl⟩, rfl, .inr ⟨dX5_along_24, rfl⟩, rfl, .inr ⟨dX5_along_26, rfl⟩, rfl, .inr ⟨dX5_along_28, rfl⟩, rfl, .inr ⟨dX5_along_31, rfl⟩, rfl, .inr ⟨dX5_along_33, rfl⟩, rfl, .inr ⟨dX5_along_34, rfl⟩, rfl, .inr ⟨dX5_along_37, rfl⟩, rfl, .inr ⟨dX5_along_39, rfl⟩, rfl, .inr ⟨dX5_along_40, rfl⟩, rfl, .inr ⟨dX5_along_41, rfl⟩, rfl, .inr ⟨dX5_along_43, rfl⟩, rfl, .inr ⟨dX5_along_44, rfl⟩, rfl, .inl ⟨rfl, rfl⟩, trivial⟩
set_option maxRecDepth 100000 in
theorem ck_100_45 : am_cok am_T0 me_100 cd_100_45 45 := ⟨rfl, .inr ⟨dX5_along_45, rfl⟩, rfl, .inr ⟨dX5_along_46, rfl⟩, rfl, .inr ⟨dX5_along_48, rfl⟩, rfl, .inr ⟨dX5_along_50, rfl⟩, rfl, .inr ⟨dX5_along_51, rfl⟩, rfl, .inr ⟨dX5_along_54, rfl⟩, rfl, .inr ⟨dX5_along_56, rfl⟩, rfl, .inr ⟨dX5_along_57, rfl⟩, rfl, .inr ⟨dX5_along_58, rfl⟩, rfl, .inr ⟨dX5_along_59, rfl⟩, rfl, .inr ⟨dX5_along_60, rfl⟩, rfl, .inr ⟨dX5_along_62, rfl⟩, rfl, .inr ⟨dX5_along_63, rfl⟩, rfl, .inr ⟨dX5_along_64, rfl⟩, rfl, .inr ⟨dX5_along_65, rfl⟩, rfl, .inr ⟨dX5_along_67, rfl⟩, rfl, .inr ⟨dX5_along_69, rfl⟩, rfl, .inr ⟨dX5_along_71, rfl⟩, rfl, .inr ⟨dX5_along_74, rfl⟩, rfl, .inr ⟨dX5_along_76, rfl⟩, trivial⟩
set_option maxRecDepth 100000 in
theorem ck_100_79 : am_cok am_T0 me_100 cd_100_79 79 := ⟨rfl, .inr ⟨dX5_along_79, rfl⟩, rfl, .inl ⟨rfl, rfl⟩, trivial⟩
set_option maxRecDepth 100000 in
theorem ck_100_81 : am_cok am_T0 me_100 cd_100_81 81 := ⟨rfl, .inr ⟨dX5_along_81, rfl⟩, rfl, .inr ⟨dX5_along_83, rfl⟩, rfl, .inr ⟨dX5_along_85, rfl⟩, rfl, .inr ⟨dX5_along_87, rfl⟩, rfl, .inr ⟨dX5_along_90, rfl⟩, rfl, .inr ⟨dX5_along_92, rfl⟩, trivial⟩
set_option maxRecDepth 100000 in
theorem ck_100_95 : am_cok am_T0 me_100 cd_100_95 95 := ⟨rfl, .inr ⟨dX5_along_95, rfl⟩, rfl, .inl ⟨rfl, rfl⟩, trivial⟩
set_option maxRecDepth 100000 in
theorem ck_100_97 : am_cok am_T0 me_100 cd_100_97 97 := ⟨rfl, .inr ⟨dX5_along_97, rfl⟩, rfl, .inl ⟨rfl, rfl⟩, trivial⟩
set_option maxRecDepth 100000 in
theorem ck_100_99 : am_cok am_T0 me_100 cd_100_99 99 := ⟨rfl, .inr ⟨dX5_along_99, rfl⟩, rfl, .inr ⟨dX5_along_102, rfl⟩, trivial⟩
set_option maxRecDepth 100000 in
theorem ck_100_105 : am_cok am_T0 me_100 cd_100_105 105 := ⟨rfl, .inr ⟨dX5_along_105, rfl⟩, rfl, .inr ⟨dX5_along_107, rfl⟩, rfl, .inr ⟨dX5_along_110, rfl⟩, rfl, .inr ⟨dX5_along_112, rfl⟩, trivial⟩
set_option maxRecDepth 100000 in
theorem ck_100_115 : am_cok am_T0 me_100 cd_100_115 115 := ⟨rfl, .inr ⟨dX5_along_115, rfl⟩, rfl, .inl ⟨rfl, rfl⟩, trivial⟩
set_option maxRecDepth 100000 in
theorem ck_100_117 : am_cok am_T0 me_100 cd_100_117 117 := ⟨rfl, .inr ⟨dX5_along_117, rfl⟩, rfl, .inr ⟨dX5_along_119, rfl⟩, rfl, .inr ⟨dX5_along_120, rfl⟩, trivial⟩
set_option maxRecDepth 100000 in
theorem ck_100 : ∀ p ∈ bl_100, am_cok am_T0 me_100 p.2 p.1 := List.forall_mem_cons.mpr ⟨ck_100_0, List.forall_mem_cons.mpr ⟨ck_100_9, List.forall_mem_cons.mpr ⟨ck_100_45, List.forall_mem_cons.mpr ⟨ck_100_79, List.forall_mem_cons.mpr ⟨ck_100_81, List.forall_mem_cons.mpr ⟨ck_100_95, List.forall_mem_cons.mpr ⟨ck_100_97, List.forall_mem_cons.mpr ⟨ck_100_99, List.forall_mem_cons.mpr ⟨ck_100_105, List.forall_mem_cons.mpr ⟨ck_100_115, List.forall_mem_cons.mpr ⟨ck_100_117, fun _ h => absurd h List.not_mem_nil⟩⟩⟩⟩⟩⟩⟩⟩⟩⟩⟩
set_option maxRecDepth 100000 in
theorem ck_101_0 : am_cok am_T0 me_101 cd_101_0 0 := ⟨rfl, .inr ⟨dX5_lineAt_0, rfl⟩, rfl, .inr ⟨dX5_lineAt_1, rfl⟩, rfl, .inr ⟨dX5_lineAt_4, rfl⟩, rfl, .inr ⟨dX5_lineAt_5, rfl⟩, rfl, .inr ⟨dX5_lineAt_6, rfl⟩, rfl, .inr ⟨dX5_lineAt_8, rfl⟩, rfl, .inr ⟨dX5_lineAt_9, rfl⟩, rfl, .inr ⟨dX5_lineAt_12, rfl⟩, rfl, .inr ⟨dX5_lineAt_13, rfl⟩, rfl, .inr ⟨dX5_lineAt_14, rfl⟩, rfl, .inr ⟨dX5_lineAt_15, rfl⟩, rfl, .inr ⟨dX5_lineAt_16, rfl⟩, rfl, .inr ⟨dX5_lineAt_19, rfl⟩, rfl, .inr ⟨dX5_lineAt_20, rfl⟩, trivial⟩
set_option maxRecDepth 100000 in
theorem ck_101_23 : am_cok am_T0 me_101 cd_101_23 23 := ⟨rfl, .inr ⟨dX5_lineAt_23, rfl⟩, rfl, .inl ⟨rfl, rfl⟩, trivial⟩
set_option maxRecDepth 100000 in
theorem ck_101_24 : am_cok am_T0 me_101 cd_101_24 24 := ⟨rfl, .inr ⟨dX5_lineAt_24, rfl⟩, rfl, .inr ⟨dX5_lineAt_26, rfl⟩, rfl, .inr ⟨dX5_lineAt_28, rfl⟩, rfl, .inr ⟨dX5_lineAt_31, rfl⟩, rfl, .inr ⟨dX5_lineAt_32, rfl⟩, rfl, .inr ⟨dX5_lineAt_35, rfl⟩, rfl, .inr ⟨dX5_lineAt_36, rfl⟩, rfl, .inr ⟨dX5_lineAt_38, rfl⟩, rfl, .inr ⟨dX5_lineAt_39, rfl⟩, rfl, .inr ⟨dX5_lineAt_40, rfl⟩, rfl, .inr ⟨dX5_lineAt_43, rfl⟩, rfl, .inr ⟨dX5_lineAt_44, rfl⟩, rfl, .inr ⟨dX5_lineAt_45, rfl⟩, rfl, .inr ⟨dX5_lineAt_48, rfl⟩, rfl, .inr ⟨dX5_lineAt_49, rfl⟩, trivial⟩
set_option maxRecDepth 100000 in
theorem ck_101_52 : am_cok am_T0 me_101 cd_101_52 52 := ⟨rfl, .inr ⟨dX5_lineAt_52, rfl⟩, rfl, .inl ⟨rfl, rfl⟩, trivial⟩
set_option maxRecDepth 100000 in
theorem ck_101_53 : am_cok am_T0 me_101 cd_101_53 53 := ⟨rfl, .inr ⟨dX5_lineAt_53, rfl⟩, rfl, .inr ⟨dX5_lineAt_54, rfl⟩, rfl, .inr ⟨dX5_lineAt_55, rfl⟩, trivial⟩
set_option maxRecDepth 100000 in
theorem ck_101_58 : am_cok am_T0 me_101 cd_101_58 58 := ⟨rfl, .inr ⟨dX5_lineAt_58, rfl⟩, rfl, .inl ⟨rfl, rfl⟩, trivial⟩
set_option maxRecDepth 100000 in
theorem ck_101_59 : am_cok am_T0 me_101 cd_101_59 59 := ⟨rfl, .inr ⟨dX5_lineAt_59, rfl⟩, rfl, .inr ⟨dX5_lineAt_61, rfl⟩, rfl, .inr ⟨dX5_lineAt_63, rfl⟩, rfl, .inr ⟨dX5_lineAt_66, rfl⟩, rfl, .inr ⟨dX5_lineAt_67, rfl⟩, trivial⟩
set_option maxRecDepth 100000 in
theorem ck_101_70 : am_cok am_T0 me_101 cd_101_70 70 := ⟨rfl, .inr ⟨dX5_lineAt_70, rfl⟩, rfl, .inr ⟨dX5_lineAt_71, rfl⟩, rfl, .inr ⟨dX5_lineAt_74, rfl⟩, rfl, .inr ⟨dX5_lineAt_75, rfl⟩, rfl, .inr ⟨dX5_lineAt_77, rfl⟩, rfl, .inr ⟨dX5_lineAt_78, rfl⟩, rfl, .inr ⟨dX5_lineAt_79, rfl⟩, rfl, .inr ⟨dX5_lineAt_82, rfl⟩, rfl, .inr ⟨dX5_lineAt_83, rfl⟩, rfl, .inr ⟨dX5_lineAt_84, rfl⟩, rfl, .inr ⟨dX5_lineAt_85, rfl⟩, rfl, .inr ⟨dX5_lineAt_88, rfl⟩, rfl, .inr ⟨dX5_lineAt_89, rfl⟩, trivial⟩
set_option maxRecDepth 100000 in
theorem ck_101_92 : am_cok am_T0 me_101 cd_101_92 92 := ⟨rfl, .inr ⟨dX5_lineAt_92, rfl⟩, rfl, .inl ⟨rfl, rfl⟩, trivial⟩
set_option maxRecDepth 100000 in
theorem ck_101_93 : am_cok am_T0 me_101 cd_101_93 93 := ⟨rfl, .inr ⟨dX5_lineAt_93, rfl⟩, rfl, .inr ⟨dX5_lineAt_94, rfl⟩, rfl, .inl ⟨rfl, rfl⟩, trivial⟩
set_option maxRecDepth 100000 in
theorem ck_101_95 : am_cok am_T0 me_101 cd_101_95 95 := ⟨rfl, .inr ⟨dX5_lineAt_95, rfl⟩, rfl, .inr ⟨dX5_lineAt_97, rfl⟩, rfl, .inr ⟨dX5_lineAt_98, rfl⟩, rfl, .inr ⟨dX5_lineAt_100, rfl⟩, rfl, .inr ⟨dX5_lineAt_101, rfl⟩, rfl, .inl ⟨rfl, rfl⟩, trivial⟩
set_option maxRecDepth 100000 in
theorem ck_101_103 : am_cok am_T0 me_101 cd_101_103 103 := ⟨rfl, .inr ⟨dX5_lineAt_103, rfl⟩, rfl, .inr ⟨dX5_lineAt_105, rfl⟩, rfl, .inr ⟨dX5_lineAt_106, rfl⟩, rfl, .inr ⟨dX5_lineAt_109, rfl⟩, rfl, .inr ⟨dX5_lineAt_111, rfl⟩, rfl, .inr ⟨dX5_lineAt_113, rfl⟩, rfl, .inr ⟨dX5_lineAt_114, rfl⟩, rfl, .inr ⟨dX5_lineAt_115, rfl⟩, rfl, .inr ⟨dX5_lineAt_117, rfl⟩, rfl, .inr ⟨dX5_lineAt_118, rfl⟩, rfl, .inr ⟨dX5_lineAt_119, rfl⟩, rfl, .inr ⟨dX5_lineAt_120, rfl⟩, rfl, .inr ⟨dX5_lineAt_121, rfl⟩, rfl, .inr ⟨dX5_lineAt_124, rfl⟩, rfl, .inr ⟨dX5_lineAt_125, rfl⟩, rfl, .inr ⟨dX5_lineAt_127, rfl⟩, rfl, .inr ⟨dX5_lineAt_128, rfl⟩, rfl, .inr ⟨dX5_lineAt_130, rfl⟩, rfl, .inr ⟨dX5_lineAt_131, rfl⟩, rfl, .inr ⟨dX5_lineAt_132, rfl⟩, rfl, .inr ⟨dX5_lineAt_134, rfl⟩, rfl, .inl ⟨rfl, rfl⟩, trivial⟩
set_option maxRecDepth 100000 in
theorem ck_101_135 : am_cok am_T0 me_101 cd_101_135 135 := ⟨rfl, .inr ⟨dX5_lineAt_135, rfl⟩, rfl, .inr ⟨dX5_lineAt_138, rfl⟩, rfl, .inr ⟨dX5_lineAt_139, rfl⟩, rfl, .inr ⟨dX5_lineAt_141, rfl⟩, rfl, .inr ⟨dX5_lineAt_142, rfl⟩, rfl, .inr ⟨dX5_lineAt_144, rfl⟩, rfl, .inr ⟨dX5_lineAt_145, rfl⟩, rfl, .inr ⟨dX5_lineAt_146, rfl⟩, rfl, .inr ⟨dX5_lineAt_147, rfl⟩, rfl, .inr ⟨dX5_lineAt_148, rfl⟩, rfl, .inr ⟨dX5_lineAt_150, rfl⟩, rfl, .inr ⟨dX5_lineAt_151, rfl⟩, rfl, .inr ⟨dX5_lineAt_154, rfl⟩, rfl, .inr ⟨dX5_lineAt_155, rfl⟩, rfl, .inr ⟨dX5_lineAt_157, rfl⟩, rfl, .inr ⟨dX5_lineAt_158, rfl⟩, rfl, .inr ⟨dX5_lineAt_160, rfl⟩, rfl, .inr ⟨dX5_lineAt_161, rfl⟩, rfl, .inr ⟨dX5_lineAt_162, rfl⟩, rfl, .inr ⟨dX5_lineAt_163, rfl⟩, rfl, .inr ⟨dX5_lineAt_164, rfl⟩, rfl, .inl ⟨rfl, rfl⟩, trivial⟩
set_option maxRecDepth 100000 in
theorem ck_101_165 : am_cok am_T0 me_101 cd_101_165 165 := ⟨rfl, .inr ⟨dX5_lineAt_165, rfl⟩, rfl, .inr ⟨dX5_lineAt_166, rfl⟩, rfl, .inr ⟨dX5_lineAt_168, rfl⟩, rfl, .inr ⟨dX5_lineAt_171, rfl⟩, trivial⟩
set_option maxRecDepth 100000 in
theorem ck_101_174 : am_cok am_T0 me_101 cd_101_174 174 := ⟨rfl, .inr ⟨dX5_lineAt_174, rfl⟩, rfl, .inr ⟨dX5_lineAt_176, rfl⟩, trivial⟩
set_option maxRecDepth 100000 in
theorem ck_101 : ∀ p ∈ bl_101, am_cok am_T0 me_101 p.2 p.1 := List.forall_mem_cons.mpr ⟨ck_101_0, List.forall_mem_cons.mpr ⟨ck_101_23, List.forall_mem_cons.mpr ⟨ck_101_24, List.forall_mem_cons.mpr ⟨ck_101_52, List.forall_mem_cons.mpr ⟨ck_101_53, List.forall_mem_cons.mpr ⟨ck_101_58, List.forall_mem_cons.mpr ⟨ck_101_59, List.forall_mem_cons.mpr ⟨ck_101_70, List.forall_mem_cons.mpr ⟨ck_101_92, List.forall_mem_cons.mpr ⟨ck_101_93, List.forall_mem_cons.mpr ⟨ck_101_95, List.forall_mem_cons.mpr ⟨ck_101_103, List.forall_mem_cons.mpr ⟨ck_101_135, List.forall_mem_cons.mpr ⟨ck_101_165, List.forall_mem_cons.mpr ⟨ck_101_174, fun _ h => absurd h List.not_mem_nil⟩⟩⟩⟩⟩⟩⟩⟩⟩⟩⟩⟩⟩⟩⟩
set_option maxRecDepth 100000 in
theorem ck_102_0 : am_cok am_T0 me_102 cd_102_0 0 := ⟨rfl, .inr ⟨dX5_findPlace_0, rfl⟩, rfl, .inr ⟨dX5_findPlace_1, rfl⟩, rfl, .inr ⟨dX5_findPlace_2, rfl⟩, rfl, .inr ⟨dX5_findPlace_5, rfl⟩, rfl, .inr ⟨dX5_findPlace_6, rfl⟩, rfl, .inr ⟨dX5_findPlace_7, rfl⟩, rfl, .inr ⟨dX5_findPlace_8, rfl⟩, rfl, .inr ⟨dX5_findPlace_9, rfl⟩, rfl, .inr ⟨dX5_findPlace_10, rfl⟩, rfl, .inr ⟨dX5_findPlace_13, rfl⟩, rfl, .inr ⟨dX5_findPlace_14, rfl⟩, rfl, .inr ⟨dX5_findPlace_15, rfl⟩, rfl, .inr ⟨dX5_findPlace_16, rfl⟩, rfl, .inr ⟨dX5_findPlace_19, rfl⟩, rfl, .inr ⟨dX5_findPlace_20, rfl⟩, trivial⟩
set_option maxRecDepth 100000 in
theorem ck_102_23 : am_cok am_T0 me_102 cd_102_23 23 := ⟨rfl, .inr ⟨dX5_findPlace_23, rfl⟩, rfl, .inl ⟨rfl, rfl⟩, trivial⟩
set_option maxRecDepth 100000 in
theorem ck_102_24 : am_cok am_T0 me_102 cd_102_24 24 := ⟨rfl, .inr ⟨dX5_findPlace_24, rfl⟩, rfl, .inr ⟨dX5_findPlace_26, rfl⟩, rfl, .inr ⟨dX5_findPlace_27, rfl⟩, rfl, .inr ⟨dX5_findPlace_30, rfl⟩, rfl, .inr ⟨dX5_findPlace_31, rfl⟩, rfl, .inr ⟨dX5_findPlace_32, rfl⟩, rfl, .inr ⟨dX5_findPlace_35, rfl⟩, rfl, .inr ⟨dX5_findPlace_36, rfl⟩, trivial⟩
set_option maxRecDepth 100000 in
theorem ck_102_39 : am_cok am_T0 me_102 cd_102_39 39 := ⟨rfl, .inr ⟨dX5_findPlace_39, rfl⟩, rfl, .inl ⟨rfl, rfl⟩, trivial⟩
set_option maxRecDepth 100000 in
theorem ck_102_40 : am_cok am_T0 me_102 cd_102_40 40 := ⟨rfl, .inr ⟨dX5_findPlace_40, rfl⟩, rfl, .inr ⟨dX5_findPlace_42, rfl⟩, rfl, .inr ⟨dX5_findPlace_43, rfl⟩, rfl, .inr ⟨dX5_findPlace_46, rfl⟩, rfl, .inr ⟨dX5_findPlace_47, rfl⟩, rfl, .inr ⟨dX5_findPlace_48, rfl⟩, rfl, .inr ⟨dX5_findPlace_49, rfl⟩, rfl, .inr ⟨dX5_findPlace_50, rfl⟩, rfl, .inr ⟨dX5_findPlace_53, rfl⟩, rfl, .inr ⟨dX5_findPlace_54, rfl⟩, rfl, .inr ⟨dX5_findPlace_55, rfl⟩, rfl, .inr ⟨dX5_findPlace_56, rfl⟩, rfl, .inr ⟨dX5_findPlace_59, rfl⟩, rfl, .inr ⟨dX5_findPlace_60, rfl⟩, rfl, .inr ⟨dX5_findPlace_62, rfl⟩, rfl, .inl ⟨rfl, rfl⟩, trivial⟩
set_option maxRecDepth 100000 in
theorem ck_102_65 : am_cok am_T0 me_102 cd_102_65 65 := ⟨rfl, .inr ⟨dX5_findPlace_65, rfl⟩, rfl, .inr ⟨dX5_findPlace_67, rfl⟩, rfl, .inr ⟨dX5_findPlace_68, rfl⟩, rfl, .inr ⟨dX5_findPlace_69, rfl⟩, rfl, .inr ⟨dX5_findPlace_70, rfl⟩, rfl, .inr ⟨dX5_findPlace_71, rfl⟩, rfl, .inr ⟨dX5_findPlace_74, rfl⟩, rfl, .inr ⟨dX5_findPlace_75, rfl⟩, rfl, .inr ⟨dX5_findPlace_77, rfl⟩, rfl, .inr ⟨dX5_findPlace_78, rfl⟩, rfl, .inr ⟨dX5_findPlace_80, rfl⟩, rfl, .inl ⟨rfl, rfl⟩, trivial⟩
set_option maxRecDepth 100000 in
theorem ck_102_83 : am_cok am_T0 me_102 cd_102_83 83 := ⟨rfl, .inr ⟨dX5_findPlace_83, rfl⟩, rfl, .inr ⟨dX5_findPlace_86, rfl⟩, rfl, .inr ⟨dX5_findPlace_87, rfl⟩, rfl, .inr ⟨dX5_findPlace_88, rfl⟩, rfl, .inr ⟨dX5_findPlace_89, rfl⟩, rfl, .inr ⟨dX5_findPlace_90, rfl⟩, rfl, .inr ⟨dX5_findPlace_93, rfl⟩, rfl, .inr ⟨dX5_findPlace_94, rfl⟩, rfl, .inr ⟨dX5_findPlace_96, rfl⟩, rfl, .inr ⟨dX5_findPlace_97, rfl⟩, rfl, .inr ⟨dX5_findPlace_99, rfl⟩, rfl, .inl ⟨rfl, rfl⟩, trivial⟩
set_option maxRecDepth 100000 in
theorem ck_102_102 : am_cok am_T0 me_102 cd_102_102 102 := ⟨rfl, .inr ⟨dX5_findPlace_102, rfl⟩, rfl, .inr ⟨dX5_findPlace_105, rfl⟩, trivial⟩
set_option maxRecDepth 100000 in
theorem ck_102_108 : am_cok am_T0 me_102 cd_102_108 108 := ⟨rfl, .inr ⟨dX5_findPlace_108, rfl⟩, rfl, .inr ⟨dX5_findPlace_109, rfl⟩, rfl, .inr ⟨dX5_findPlace_110, rfl⟩, rfl, .inr ⟨dX5_findPlace_111, rfl⟩, rfl, .inr ⟨dX5_findPlace_114, rfl⟩, rfl, .inr ⟨dX5_findPlace_115, rfl⟩, rfl, .inr ⟨dX5_findPlace_117, rfl⟩, rfl, .inl ⟨rfl, rfl⟩, trivial⟩
set_option maxRecDepth 100000 in
theorem ck_102_120 : am_cok am_T0 me_102 cd_102_120 120 := ⟨rfl, .inr ⟨dX5_findPlace_120, rfl⟩, rfl, .inr ⟨dX5_findPlace_122, rfl⟩, rfl, .inr ⟨dX5_findPlace_123, rfl⟩, rfl, .inr ⟨dX5_findPlace_124, rfl⟩, rfl, .inr ⟨dX5_findPlace_125, rfl⟩, rfl, .inr ⟨dX5_findPlace_126, rfl⟩, rfl, .inr ⟨dX5_findPlace_129, rfl⟩, rfl, .inr ⟨dX5_findPlace_130, rfl⟩, rfl, .inr ⟨dX5_findPlace_132, rfl⟩, rfl, .inr ⟨dX5_findPlace_133, rfl⟩, rfl, .inr ⟨dX5_findPlace_135, rfl⟩, rfl, .inl ⟨rfl, rfl⟩, trivial⟩
set_option maxRecDepth 100000 in
theorem ck_102_138 : am_cok am_T0 me_102 cd_102_138 138 := ⟨rfl, .inr ⟨dX5_findPlace_138, rfl⟩, rfl, .inr ⟨dX5_findPlace_141, rfl⟩, rfl, .inr ⟨dX5_findPlace_142, rfl⟩, rfl, .inr ⟨dX5_findPlace_143, rfl⟩, rfl, .inr ⟨dX5_findPlace_144, rfl⟩, rfl, .inr ⟨dX5_findPlace_145, rfl⟩, rfl, .inr ⟨dX5_findPlace_148, rfl⟩, rfl, .inr ⟨dX5_findPlace_149, rfl⟩, rfl, .inr ⟨dX5_findPlace_151, rfl⟩, rfl, .inr ⟨dX5_findPlace_152, rfl⟩, rfl, .inr ⟨dX5_findPlace_154, rfl⟩, rfl, .inl ⟨rfl, rfl⟩, trivial⟩
set_option maxRecDepth 100000 in
theorem ck_102_157 : am_cok am_T0 me_102 cd_102_157 157 := ⟨rfl, .inr ⟨dX5_findPlace_157, rfl⟩, rfl, .inl ⟨rfl, rfl⟩, trivial⟩
set_option maxRecDepth 100000 in
theorem ck_102_160 : am_cok am_T0 me_102 cd_102_160 160 := ⟨rfl, .inr ⟨dX5_findPlace_160, rfl⟩, rfl, .inr ⟨dX5_findPlace_161, rfl⟩, rfl, .inr ⟨dX5_findPlace_162, rfl⟩, rfl, .inr ⟨dX5_findPlace_163, rfl⟩, rfl, .inr ⟨dX5_findPlace_166, rfl⟩, rfl, .inr ⟨dX5_findPlace_167, rfl⟩, rfl, .inr ⟨dX5_findPlace_169, rfl⟩, rfl, .inl ⟨rfl, rfl⟩, trivial⟩
set_option maxRecDepth 100000 in
theorem ck_102_172 : am_cok am_T0 me_102 cd_102_172 172 := ⟨rfl, .inr ⟨dX5_findPlace_172, rfl⟩, rfl, .inr ⟨dX5_findPlace_174, rfl⟩, rfl, .inr ⟨dX5_findPlace_175, rfl⟩, rfl, .inr ⟨dX5_findPlace_176, rfl⟩, rfl, .inr ⟨dX5_findPlace_177, rfl⟩, rfl, .inr ⟨dX5_findPlace_178, rfl⟩, rfl, .inr ⟨dX5_findPlace_181, rfl⟩, rfl, .inr ⟨dX5_findPlace_182, rfl⟩, rfl, .inr ⟨dX5_findPlace_184, rfl⟩, rfl, .inr ⟨dX5_findPlace_185, rfl⟩, rfl, .inr ⟨dX5_findPlace_187, rfl⟩, rfl, .inl ⟨rfl, rfl⟩, trivial⟩
set_option maxRecDepth 100000 in
theorem ck_102_190 : am_cok am_T0 me_102 cd_102_190 190 := ⟨rfl, .inr ⟨dX5_findPlace_190, rfl⟩, rfl, .inr ⟨dX5_findPlace_193, rfl⟩, rfl, .inr ⟨dX5_findPlace_194, rfl⟩, rfl, .inr ⟨dX5_findPlace_195, rfl⟩, rfl, .inr ⟨dX5_findPlace_196, rfl⟩, rfl, .inr ⟨dX5_findPlace_197, rfl⟩, rfl, .inr ⟨dX5_findPlace_200, rfl⟩, rfl, .inr ⟨dX5_findPlace_201, rfl⟩, rfl, .inr ⟨dX5_findPlace_203, rfl⟩, rfl, .inr ⟨dX5_findPlace_204, rfl⟩, rfl, .inr ⟨dX5_findPlace_206, rfl⟩, rfl, .inl ⟨rfl, rfl⟩, trivial⟩
set_option maxRecDepth 100000 in
theorem ck_102_209 : am_cok am_T0 me_102 cd_102_209 209 := ⟨rfl, .inr ⟨dX5_findPlace_209, rfl⟩, rfl, .inr ⟨dX5_findPlace_212, rfl⟩, trivial⟩
set_option maxRecDepth 100000 in
theorem ck_102 : ∀ p ∈ bl_102, am_cok am_T0 me_102 p.2 p.1 := List.forall_mem_cons.mpr ⟨ck_102_0, List.forall_mem_cons.mpr ⟨ck_102_23, List.forall_mem_cons.mpr ⟨ck_102_24, List.forall_mem_cons.mpr ⟨ck_102_39, List.forall_mem_cons.mpr ⟨ck_102_40, List.forall_mem_cons.mpr ⟨ck_102_65, List.forall_mem_cons.mpr ⟨ck_102_83, List.forall_mem_cons.mpr ⟨ck_102_102, List.forall_mem_cons.mpr ⟨ck_102_108, List.forall_mem_cons.mpr ⟨ck_102_120, List.forall_mem_cons.mpr ⟨ck_102_138, List.forall_mem_cons.mpr ⟨ck_102_157, List.forall_mem_cons.mpr ⟨ck_102_160, List.forall_mem_cons.mpr ⟨ck_102_172, List.forall_mem_cons.mpr ⟨ck_102_190, List.forall_mem_cons.mpr ⟨ck_102_209, fun _ h => absurd h List.not_mem_nil⟩⟩⟩⟩⟩⟩⟩⟩⟩⟩⟩⟩⟩⟩⟩⟩
set_option maxRecDepth 100000 in
theorem ck_103_0 : am_cok am_T0 me_103 cd_103_0 0 := ⟨rfl, .inr ⟨dX5_findBands_0, rfl⟩, rfl, .inr ⟨dX5_findBands_1, rfl⟩, rfl, .inr ⟨dX5_findBands_2, rfl⟩, rfl, .inr ⟨dX5_findBands_3, rfl⟩, rfl, .inl ⟨rfl, rfl⟩, trivial⟩
set_option maxRecDepth 100000 in
theorem ck_103_6 : am_cok am_T0 me_103 cd_103_6 6 := ⟨rfl, .inr ⟨dX5_findBands_6, rfl⟩, rfl, .inr ⟨dX5_findBands_7, rfl⟩, rfl, .inr ⟨dX5_findBands_10, rfl⟩, rfl, .inr ⟨dX5_findBands_11, rfl⟩, rfl, .inr ⟨dX5_findBands_12, rfl⟩, rfl, .inr ⟨dX5_findBands_15, rfl⟩, rfl, .inr ⟨dX5_findBands_18, rfl⟩, rfl, .inr ⟨dX5_findBands_19, rfl⟩, rfl, .inr ⟨dX5_findBands_22, rfl⟩, rfl, .inr ⟨dX5_findBands_25, rfl⟩, rfl, .inr ⟨dX5_findBands_26, rfl⟩, trivial⟩
set_option maxRecDepth 100000 in
theorem ck_103_29 : am_cok am_T0 me_103 cd_103_29 29 := ⟨rfl, .inr ⟨dX5_findBands_29, rfl⟩, rfl, .inl ⟨rfl, rfl⟩, trivial⟩
set_option maxRecDepth 100000 in
theorem ck_103_30 : am_cok am_T0 me_103 cd_103_30 30 := ⟨rfl, .inr ⟨dX5_findBands_30, rfl⟩, rfl, .inr ⟨dX5_findBands_31, rfl⟩, rfl, .inr ⟨dX5_findBands_32, rfl⟩, rfl, .inr ⟨dX5_findBands_35, rfl⟩, rfl, .inr ⟨dX5_findBands_36, rfl⟩, rfl, .inr ⟨dX5_findBands_37, rfl⟩, rfl, .inr ⟨dX5_findBands_40, rfl⟩, rfl, .inr ⟨dX5_findBands_43, rfl⟩, rfl, .inr ⟨dX5_findBands_44, rfl⟩, rfl, .inr ⟨dX5_findBands_47, rfl⟩, rfl, .inr ⟨dX5_findBands_48, rfl⟩, trivial⟩
set_option maxRecDepth 100000 in
theorem ck_103_51 : am_cok am_T0 me_103 cd_103_51 51 := ⟨rfl, .inr ⟨dX5_findBands_51, rfl⟩, rfl, .inl ⟨rfl, rfl⟩, trivial⟩
set_option maxRecDepth 100000 in
theorem ck_103_52 : am_cok am_T0 me_103 cd_103_52 52 := ⟨rfl, .inr ⟨dX5_findBands_52, rfl⟩, rfl, .inl ⟨rfl, rfl⟩, trivial⟩
set_option maxRecDepth 100000 in
theorem ck_103_55 : am_cok am_T0 me_103 cd_103_55 55 := ⟨rfl, .inr ⟨dX5_findBands_55, rfl⟩, rfl, .inr ⟨dX5_findBands_56, rfl⟩, rfl, .inr ⟨dX5_findBands_59, rfl⟩, rfl, .inr ⟨dX5_findBands_62, rfl⟩, rfl, .inr ⟨dX5_findBands_63, rfl⟩, rfl, .inr ⟨dX5_findBands_66, rfl⟩, rfl, .inr ⟨dX5_findBands_67, rfl⟩, trivial⟩
set_option maxRecDepth 100000 in
theorem ck_103_70 : am_cok am_T0 me_103 cd_103_70 70 := ⟨rfl, .inr ⟨dX5_findBands_70, rfl⟩, rfl, .inl ⟨rfl, rfl⟩, trivial⟩
set_option maxRecDepth 100000 in
theorem ck_103_71 : am_cok am_T0 me_103 cd_103_71 71 := ⟨rfl, .inr ⟨dX5_findBands_71, rfl⟩, rfl, .inl ⟨rfl, rfl⟩, trivial⟩
set_option maxRecDepth 100000 in
theorem ck_103_74 : am_cok am_T0 me_103 cd_103_74 74 := ⟨rfl, .inr ⟨dX5_findBands_74, rfl⟩, rfl, .inr ⟨dX5_findBands_75, rfl⟩, rfl, .inr ⟨dX5_findBands_76, rfl⟩, rfl, .inr ⟨dX5_findBands_77, rfl⟩, rfl, .inr ⟨dX5_findBands_80, rfl⟩, rfl, .inr ⟨dX5_findBands_81, rfl⟩, rfl, .inr ⟨dX5_findBands_82, rfl⟩, rfl, .inr ⟨dX5_findBands_85, rfl⟩, rfl, .inr ⟨dX5_findBands_86, rfl⟩, rfl, .inl ⟨rfl, rfl⟩, trivial⟩
set_option maxRecDepth 100000 in
theorem ck_103_89 : am_cok am_T0 me_103 cd_103_89 89 := ⟨rfl, .inr ⟨dX5_findBands_89, rfl⟩, rfl, .inr ⟨dX5_findBands_90, rfl⟩, rfl, .inr ⟨dX5_findBands_93, rfl⟩, rfl, .inr ⟨dX5_findBands_94, rfl⟩, rfl, .inl ⟨rfl, rfl⟩, trivial⟩
set_option maxRecDepth 100000 in
theorem ck_103_97 : am_cok am_T0 me_103 cd_103_97 97 := ⟨rfl, .inr ⟨dX5_findBands_97, rfl⟩, rfl, .inr ⟨dX5_findBands_98, rfl⟩, rfl, .inr ⟨dX5_findBands_99, rfl⟩, rfl, .inr ⟨dX5_findBands_100, rfl⟩, rfl, .inr ⟨dX5_findBands_103, rfl⟩, rfl, .inr ⟨dX5_findBands_104, rfl⟩, rfl, .inr ⟨dX5_findBands_105, rfl⟩, rfl, .inr ⟨dX5_findBands_106, rfl⟩, rfl, .inr ⟨dX5_findBands_107, rfl⟩, rfl, .inr ⟨dX5_findBands_110, rfl⟩, rfl, .inr ⟨dX5_findBands_113, rfl⟩, rfl, .inr ⟨dX5_findBands_114, rfl⟩, rfl, .inr ⟨dX5_findBands_117, rfl⟩, rfl, .inr ⟨dX5_findBands_120, rfl⟩, rfl, .inr ⟨dX5_findBands_121, rfl⟩, trivial⟩
set_option maxRecDepth 100000 in
theorem ck_103_124 : am_cok am_T0 me_103 cd_103_124 124 := ⟨rfl, .inr ⟨dX5_findBands_124, rfl⟩, rfl, .inl ⟨rfl, rfl⟩, trivial⟩
set_option maxRecDepth 100000 in
theorem ck_103_125 : am_cok am_T0 me_103 cd_103_125 125 := ⟨rfl, .inr ⟨dX5_findBands_125, rfl⟩, rfl, .inr ⟨dX5_findBands_126, rfl⟩, rfl, .inr ⟨dX5_findBands_127, rfl⟩, rfl, .inr ⟨dX5_findBands_130, rfl⟩, rfl, .inr ⟨dX5_findBands_131, rfl⟩, rfl, .inr ⟨dX5_findBands_132, rfl⟩, rfl, .inr ⟨dX5_findBands_133, rfl⟩, rfl, .inr ⟨dX5_findBands_134, rfl⟩, rfl, .inr ⟨dX5_findBands_137, rfl⟩, rfl, .inr ⟨dX5_findBands_140, rfl⟩, rfl, .inr ⟨dX5_findBands_141, rfl⟩, rfl, .inr ⟨dX5_findBands_144, rfl⟩, rfl, .inr ⟨dX5_findBands_145, rfl⟩, trivial⟩
set_option maxRecDepth 100000 in
theorem ck_103_148 : am_cok am_T0 me_103 cd_103_148 148 := ⟨rfl, .inr ⟨dX5_findBands_148, rfl⟩, rfl, .inl ⟨rfl, rfl⟩, trivial⟩
set_option maxRecDepth 100000 in
theorem ck_103_149 : am_cok am_T0 me_103 cd_103_149 149 := ⟨rfl, .inr ⟨dX5_findBands_149, rfl⟩, rfl, .inl ⟨rfl, rfl⟩, trivial⟩
set_option maxRecDepth 100000 in
theorem ck_103_152 : am_cok am_T0 me_103 cd_103_152 152 := ⟨rfl, .inr ⟨dX5_findBands_152, rfl⟩, rfl, .inr ⟨dX5_findBands_153, rfl⟩, rfl, .inr ⟨dX5_findBands_156, rfl⟩, rfl, .inr ⟨dX5_findBands_159, rfl⟩, rfl, .inr ⟨dX5_findBands_160, rfl⟩, rfl, .inr ⟨dX5_findBands_163, rfl⟩, rfl, .inr ⟨dX5_findBands_164, rfl⟩, trivial⟩
set_option maxRecDepth 100000 in
theorem ck_103_167 : am_cok am_T0 me_103 cd_103_167 167 := ⟨rfl, .inr ⟨dX5_findBands_167, rfl⟩, rfl, .inl ⟨rfl, rfl⟩, trivial⟩
set_option maxRecDepth 100000 in
theorem ck_103_168 : am_cok am_T0 me_103 cd_103_168 168 := ⟨rfl, .inr ⟨dX5_findBands_168, rfl⟩, rfl, .inl ⟨rfl, rfl⟩, trivial⟩
set_option maxRecDepth 100000 in
theorem ck_103_171 : am_cok am_T0 me_103 cd_103_171 171 := ⟨rfl, .inr ⟨dX5_findBands_171, rfl⟩, rfl, .inr ⟨dX5_findBands_172, rfl⟩, rfl, .inr ⟨dX5_findBands_173, rfl⟩, rfl, .inr ⟨dX5_findBands_174, rfl⟩, rfl, .inr ⟨dX5_findBands_177, rfl⟩, rfl, .inr ⟨dX5_findBands_178, rfl⟩, rfl, .inr ⟨dX5_findBands_179, rfl⟩, rfl, .inr ⟨dX5_findBands_180, rfl⟩, rfl, .inr ⟨dX5_findBands_181, rfl⟩, rfl, .inr ⟨dX5_findBands_184, rfl⟩, rfl, .inr ⟨dX5_findBands_185, rfl⟩, rfl, .inl ⟨rfl, rfl⟩, trivial⟩
set_option maxRecDepth 100000 in
theorem ck_103_188 : am_cok am_T0 me_103 cd_103_188 188 := ⟨rfl, .inr ⟨dX5_findBands_188, rfl⟩, rfl, .inr ⟨dX5_findBands_189, rfl⟩, rfl, .inr ⟨dX5_findBands_192, rfl⟩, rfl, .inr ⟨dX5_findBands_193, rfl⟩, rfl, .inl ⟨rfl, rfl⟩, trivial⟩
set_option maxRecDepth 100000 in
theorem ck_103_196 : am_cok am_T0 me_103 cd_103_196 196 := ⟨rfl, .inr ⟨dX5_findBands_196, rfl⟩, rfl, .inr ⟨dX5_findBands_197, rfl⟩, rfl, .inr ⟨dX5_findBands_198, rfl⟩, rfl, .inr ⟨dX5_findBands_199, rfl⟩, rfl, .inr ⟨dX5_findBands_202, rfl⟩, rfl, .inr ⟨dX5_findBands_203, rfl⟩, rfl, .inr ⟨dX5_findBands_204, rfl⟩, rfl, .inr ⟨dX5_findBands_205, rfl⟩, rfl, .inr ⟨dX5_findBands_206, rfl⟩, rfl, .inr ⟨dX5_findBands_209, rfl⟩, rfl, .inr ⟨dX5_findBands_212, rfl⟩, rfl, .inr ⟨dX5_findBands_213, rfl⟩, rfl, .inr ⟨dX5_findBands_216, rfl⟩, rfl, .inr ⟨dX5_findBands_219, rfl⟩, rfl, .inr ⟨dX5_findBands_220, rfl⟩, trivial⟩
set_option maxRecDepth 100000 in
theorem ck_103_223 : am_cok am_T0 me_103 cd_103_223 223 := ⟨rfl, .inr ⟨dX5_findBands_223, rfl⟩, rfl, .inl ⟨rfl, rfl⟩, trivial⟩
set_option maxRecDepth 100000 in
theorem ck_103_224 : am_cok am_T0 me_103 cd_103_224 224 := ⟨rfl, .inr ⟨dX5_findBands_224, rfl⟩, rfl, .inr ⟨dX5_findBands_225, rfl⟩, rfl, .inr ⟨dX5_findBands_226, rfl⟩, rfl, .inr ⟨dX5_findBands_229, rfl⟩, rfl, .inr ⟨dX5_findBands_230, rfl⟩, rfl, .inr ⟨dX5_findBands_231, rfl⟩, rfl, .inr ⟨dX5_findBands_232, rfl⟩, rfl, .inr ⟨dX5_findBands_233, rfl⟩, rfl, .inr ⟨dX5_findBands_236, rfl⟩, rfl, .inr ⟨dX5_findBands_239, rfl⟩, rfl, .inr ⟨dX5_findBands_240, rfl⟩, rfl, .inr ⟨dX5_findBands_243, rfl⟩, rfl, .inr ⟨dX5_findBands_244, rfl⟩, trivial⟩
set_option maxRecDepth 100000 in
theorem ck_103_247 : am_cok am_T0 me_103 cd_103_247 247 := ⟨rfl, .inr ⟨dX5_findBands_247, rfl⟩, rfl, .inl ⟨rfl, rfl⟩, trivial⟩
set_option maxRecDepth 100000 in
theorem ck_103_248 : am_cok am_T0 me_103 cd_103_248 248 := ⟨rfl, .inr ⟨dX5_findBands_248, rfl⟩, rfl, .inl ⟨rfl, rfl⟩, trivial⟩
set_option maxRecDepth 100000 in
theorem ck_103_251 : am_cok am_T0 me_103 cd_103_251 251 := ⟨rfl, .inr ⟨dX5_findBands_251, rfl⟩, rfl, .inr ⟨dX5_findBands_252, rfl⟩, rfl, .inr ⟨dX5_findBands_255, rfl⟩, rfl, .inr ⟨dX5_findBands_258, rfl⟩, rfl, .inr ⟨dX5_findBands_259, rfl⟩, rfl, .inr ⟨dX5_findBands_262, rfl⟩, rfl, .inr ⟨dX5_findBands_263, rfl⟩, trivial⟩
set_option maxRecDepth 100000 in
theorem ck_103_266 : am_cok am_T0 me_103 cd_103_266 266 := ⟨rfl, .inr ⟨dX5_findBands_266, rfl⟩, rfl, .inl ⟨rfl, rfl⟩, trivial⟩
set_option maxRecDepth 100000 in
theorem ck_103_267 : am_cok am_T0 me_103 cd_103_267 267 := ⟨rfl, .inr ⟨dX5_findBands_267, rfl⟩, rfl, .inl ⟨rfl, rfl⟩, trivial⟩
set_option maxRecDepth 100000 in
theorem ck_103_270 : am_cok am_T0 me_103 cd_103_270 270 := ⟨rfl, .inr ⟨dX5_findBands_270, rfl⟩, rfl, .inr ⟨dX5_findBands_271, rfl⟩, rfl, .inr ⟨dX5_findBands_272, rfl⟩, rfl, .inr ⟨dX5_findBands_273, rfl⟩, rfl, .inr ⟨dX5_findBands_276, rfl⟩, rfl, .inr ⟨dX5_findBands_277, rfl⟩, rfl, .inr ⟨dX5_findBands_278, rfl⟩, rfl, .inr ⟨dX5_findBands_279, rfl⟩, rfl, .inr ⟨dX5_findBands_280, rfl⟩, rfl, .inr ⟨dX5_findBands_283, rfl⟩, rfl, .inr ⟨dX5_findBands_284, rfl⟩, rfl, .inl ⟨rfl, rfl⟩, trivial⟩
set_option maxRecDepth 100000 in
theorem ck_103_287 : am_cok am_T0 me_103 cd_103_287 287 := ⟨rfl, .inr ⟨dX5_findBands_287, rfl⟩, rfl, .inr ⟨dX5_findBands_288, rfl⟩, rfl, .inr ⟨dX5_findBands_291, rfl⟩, rfl, .inr ⟨dX5_findBands_292, rfl⟩, rfl, .inl ⟨rfl, rfl⟩, trivial⟩
set_option maxRecDepth 100000 in
theorem ck_103_295 : am_cok am_T0 me_103 cd_103_295 295 := ⟨rfl, .inr ⟨dX5_findBands_295, rfl⟩, rfl, .inr ⟨dX5_findBands_296, rfl⟩, rfl, .inr ⟨dX5_findBands_297, rfl⟩, rfl, .inr ⟨dX5_findBands_298, rfl⟩, rfl, .inr ⟨dX5_findBands_301, rfl⟩, rfl, .inr ⟨dX5_findBands_302, rfl⟩, rfl, .inr ⟨dX5_findBands_303, rfl⟩, rfl, .inr ⟨dX5_findBands_304, rfl⟩, rfl, .inr ⟨dX5_findBands_305, rfl⟩, rfl, .inr ⟨dX5_findBands_308, rfl⟩, rfl, .inr ⟨dX5_findBands_311, rfl⟩, rfl, .inr ⟨dX5_findBands_312, rfl⟩, rfl, .inr ⟨dX5_findBands_315, rfl⟩, rfl, .inr ⟨dX5_findBands_318, rfl⟩, rfl, .inr ⟨dX5_findBands_319, rfl⟩, trivial⟩
set_option maxRecDepth 100000 in
theorem ck_103_322 : am_cok am_T0 me_103 cd_103_322 322 := ⟨rfl, .inr ⟨dX5_findBands_322, rfl⟩, rfl, .inl ⟨rfl, rfl⟩, trivial⟩
set_option maxRecDepth 100000 in
theorem ck_103_323 : am_cok am_T0 me_103 cd_103_323 323 := ⟨rfl, .inr ⟨dX5_findBands_323, rfl⟩, rfl, .inr ⟨dX5_findBands_324, rfl⟩, rfl, .inr ⟨dX5_findBands_325, rfl⟩, rfl, .inr ⟨dX5_findBands_328, rfl⟩, rfl, .inr ⟨dX5_findBands_329, rfl⟩, rfl, .inr ⟨dX5_findBands_330, rfl⟩, rfl, .inr ⟨dX5_findBands_331, rfl⟩, rfl, .inr ⟨dX5_findBands_332, rfl⟩, rfl, .inr ⟨dX5_findBands_335, rfl⟩, rfl, .inr ⟨dX5_findBands_338, rfl⟩, rfl, .inr ⟨dX5_findBands_339, rfl⟩, rfl, .inr ⟨dX5_findBands_342, rfl⟩, rfl, .inr ⟨dX5_findBands_343, rfl⟩, trivial⟩
set_option maxRecDepth 100000 in
theorem ck_103_346 : am_cok am_T0 me_103 cd_103_346 346 := ⟨rfl, .inr ⟨dX5_findBands_346, rfl⟩, rfl, .inl ⟨rfl, rfl⟩, trivial⟩
set_option maxRecDepth 100000 in
theorem ck_103_347 : am_cok am_T0 me_103 cd_103_347 347 := ⟨rfl, .inr ⟨dX5_findBands_347, rfl⟩, rfl, .inl ⟨rfl, rfl⟩, trivial⟩
set_option maxRecDepth 100000 in
theorem ck_103_350 : am_cok am_T0 me_103 cd_103_350 350 := ⟨rfl, .inr ⟨dX5_findBands_350, rfl⟩, rfl, .inr ⟨dX5_findBands_351, rfl⟩, rfl, .inr ⟨dX5_findBands_354, rfl⟩, rfl, .inr ⟨dX5_findBands_357, rfl⟩, rfl, .inr ⟨dX5_findBands_358, rfl⟩, rfl, .inr ⟨dX5_findBands_361, rfl⟩, rfl, .inr ⟨dX5_findBands_362, rfl⟩, trivial⟩
set_option maxRecDepth 100000 in
theorem ck_103_365 : am_cok am_T0 me_103 cd_103_365 365 := ⟨rfl, .inr ⟨dX5_findBands_365, rfl⟩, rfl, .inl ⟨rfl, rfl⟩, trivial⟩
set_option maxRecDepth 100000 in
theorem ck_103_366 : am_cok am_T0 me_103 cd_103_366 366 := ⟨rfl, .inr ⟨dX5_findBands_366, rfl⟩, rfl, .inl ⟨rfl, rfl⟩, trivial⟩
set_option maxRecDepth 100000 in
theorem ck_103_369 : am_cok am_T0 me_103 cd_103_369 369 := ⟨rfl, .inr ⟨dX5_findBands_369, rfl⟩, rfl, .inr ⟨dX5_findBands_370, rfl⟩, rfl, .inr ⟨dX5_findBands_371, rfl⟩, rfl, .inr ⟨dX5_findBands_372, rfl⟩, rfl, .inr ⟨dX5_findBands_375, rfl⟩, rfl, .inr ⟨dX5_findBands_376, rfl⟩, rfl, .inr ⟨dX5_findBands_377, rfl⟩, rfl, .inr ⟨dX5_findBands_378, rfl⟩, rfl, .inr ⟨dX5_findBands_379, rfl⟩, rfl, .inr ⟨dX5_findBands_382, rfl⟩, rfl, .inr ⟨dX5_findBands_383, rfl⟩, rfl, .inl ⟨rfl, rfl⟩, trivial⟩
set_option maxRecDepth 100000 in
theorem ck_103_386 : am_cok am_T0 me_103 cd_103_386 386 := ⟨rfl, .inr ⟨dX5_findBands_386, rfl⟩, rfl, .inr ⟨dX5_findBands_387, rfl⟩, rfl, .inr ⟨dX5_findBands_390, rfl⟩, rfl, .inr ⟨dX5_findBands_391, rfl⟩, rfl, .inl ⟨rfl, rfl⟩, trivial⟩
set_option maxRecDepth 100000 in
theorem ck_103_394 : am_cok am_T0 me_103 cd_103_394 394 := ⟨rfl, .inr ⟨dX5_findBands_394, rfl⟩, rfl, .inr ⟨dX5_findBands_395, rfl⟩, rfl, .inr ⟨dX5_findBands_396, rfl⟩, trivial⟩
set_option maxRecDepth 100000 in
theorem ck_103 : ∀ p ∈ bl_103, am_cok am_T0 me_103 p.2 p.1 := List.forall_mem_cons.mpr ⟨ck_103_0, List.forall_mem_cons.mpr ⟨ck_103_6, List.forall_mem_cons.mpr ⟨ck_103_29, List.forall_mem_cons.mpr ⟨ck_103_30, List.forall_mem_cons.mpr ⟨ck_103_51, List.forall_mem_cons.mpr ⟨ck_103_52, List.forall_mem_cons.mpr ⟨ck_103_55, List.forall_mem_cons.mpr ⟨ck_103_70, List.forall_mem_cons.mpr ⟨ck_103_71, List.forall_mem_cons.mpr ⟨ck_103_74, List.forall_mem_cons.mpr ⟨ck_103_89, List.forall_mem_cons.mpr ⟨ck_103_97, List.forall_mem_cons.mpr ⟨ck_103_124, List.forall_mem_cons.mpr ⟨ck_103_125, List.forall_mem_cons.mpr ⟨ck_103_148, List.forall_mem_cons.mpr ⟨ck_103_149, List.forall_mem_cons.mpr ⟨ck_103_152, List.forall_mem_cons.mpr ⟨ck_103_167, List.forall_mem_cons.mpr ⟨ck_103_168, List.forall_mem_cons.mpr ⟨ck_103_171, List.forall_mem_cons.mpr ⟨ck_103_188, List.forall_mem_cons.mpr ⟨ck_103_196, List.forall_mem_cons.mpr ⟨ck_103_223, List.forall_mem_cons.mpr ⟨ck_103_224, List.forall_mem_cons.mpr ⟨ck_103_247, List.forall_mem_cons.mpr ⟨ck_103_248, List.forall_mem_cons.mpr ⟨ck_103_251, List.forall_mem_cons.mpr ⟨ck_103_266, List.forall_mem_cons.mpr ⟨ck_103_267, List.forall_mem_cons.mpr ⟨ck_103_270, List.forall_mem_cons.mpr ⟨ck_103_287, List.forall_mem_cons.mpr ⟨ck_103_295, List.forall_mem_cons.mpr ⟨ck_103_322, List.forall_mem_cons.mpr ⟨ck_103_323, List.forall_mem_cons.mpr ⟨ck_103_346, List.forall_mem_cons.mpr ⟨ck_103_347, List.forall_mem_cons.mpr ⟨ck_103_350, List.forall_mem_cons.mpr ⟨ck_103_365, List.forall_mem_cons.mpr ⟨ck_103_366, List.forall_mem_cons.mpr ⟨ck_103_369, List.forall_mem_cons.mpr ⟨ck_103_386, List.forall_mem_cons.mpr ⟨ck_103_394, fun _ h => absurd h List.not_mem_nil⟩⟩⟩⟩⟩⟩⟩⟩⟩⟩⟩⟩⟩⟩⟩⟩⟩⟩⟩⟩⟩⟩⟩⟩⟩⟩⟩⟩⟩⟩⟩⟩⟩⟩⟩⟩⟩⟩⟩⟩⟩⟩
set_option maxRecDepth 100000 in
theorem ck_104_0 : am_cok am_T0 me_104 cd_104_0 0 := ⟨rfl, .inr ⟨dX5_haveStretch_0, rfl⟩, rfl, .inr ⟨dX5_haveStretch_1, rfl⟩, rfl, .inr ⟨dX5_haveStretch_4, rfl⟩, rfl, .inr ⟨dX5_haveStretch_5, rfl⟩, rfl, .inr ⟨dX5_haveStretch_6, rfl⟩, rfl, .inr ⟨dX5_haveStretch_7, rfl⟩, rfl, .inr ⟨dX5_haveStretch_10, rfl⟩, rfl, .inr ⟨dX5_haveStretch_11, rfl⟩, rfl, .inr ⟨dX5_haveStretch_12, rfl⟩, rfl, .inr ⟨dX5_haveStretch_13, rfl⟩, rfl, .inr ⟨dX5_haveStretch_16, rfl⟩, rfl, .inr ⟨dX5_haveStretch_17, rfl⟩, rfl, .inr ⟨dX5_haveStretch_20, rfl⟩, rfl, .inr ⟨dX5_haveStretch_21, rfl⟩, rfl, .inr ⟨dX5_haveStretch_22, rfl⟩, trivial⟩
set_option maxRecDepth 100000 in
theorem ck_104_25 : am_cok am_T0 me_104 cd_104_25 25 := ⟨rfl, .inr ⟨dX5_haveStretch_25, rfl⟩, rfl, .inr ⟨dX5_haveStretch_26, rfl⟩, rfl, .inr ⟨dX5_haveStretch_29, rfl⟩, rfl, .inr ⟨dX5_haveStretch_30, rfl⟩, rfl, .inl ⟨rfl, rfl⟩, trivial⟩
set_option maxRecDepth 100000 in
theorem ck_104_31 : am_cok am_T0 me_104 cd_104_31 31 := ⟨rfl, .inr ⟨dX5_haveStretch_31, rfl⟩, rfl, .inr ⟨dX5_haveStretch_32, rfl⟩, rfl, .inr ⟨dX5_haveStretch_33, rfl⟩, rfl, .inr ⟨dX5_haveStretch_36, rfl⟩, rfl, .inr ⟨dX5_haveStretch_37, rfl⟩, rfl, .inr ⟨dX5_haveStretch_38, rfl⟩, rfl, .inr ⟨dX5_haveStretch_39, rfl⟩, rfl, .inr ⟨dX5_haveStretch_42, rfl⟩, rfl, .inr ⟨dX5_haveStretch_43, rfl⟩, rfl, .inr ⟨dX5_haveStretch_44, rfl⟩, rfl, .inr ⟨dX5_haveStretch_45, rfl⟩, rfl, .inr ⟨dX5_haveStretch_48, rfl⟩, rfl, .inr ⟨dX5_haveStretch_49, rfl⟩, rfl, .inr ⟨dX5_haveStretch_52, rfl⟩, rfl, .inr ⟨dX5_haveStretch_53, rfl⟩, rfl, .inr ⟨dX5_haveStretch_54, rfl⟩, trivial⟩
set_option maxRecDepth 100000 in
theorem ck_104_57 : am_cok am_T0 me_104 cd_104_57 57 := ⟨rfl, .inr ⟨dX5_haveStretch_57, rfl⟩, rfl, .inr ⟨dX5_haveStretch_58, rfl⟩, rfl, .inr ⟨dX5_haveStretch_61, rfl⟩, rfl, .inr ⟨dX5_haveStretch_62, rfl⟩, rfl, .inl ⟨rfl, rfl⟩, trivial⟩
set_option maxRecDepth 100000 in
theorem ck_104_63 : am_cok am_T0 me_104 cd_104_63 63 := ⟨rfl, .inr ⟨dX5_haveStretch_63, rfl⟩, rfl, .inr ⟨dX5_haveStretch_65, rfl⟩, rfl, .inr ⟨dX5_haveStretch_66, rfl⟩, rfl, .inr ⟨dX5_haveStretch_69, rfl⟩, rfl, .inr ⟨dX5_haveStretch_70, rfl⟩, rfl, .inr ⟨dX5_haveStretch_71, rfl⟩, rfl, .inr ⟨dX5_haveStretch_74, rfl⟩, rfl, .inr ⟨dX5_haveStretch_75, rfl⟩, rfl, .inr ⟨dX5_haveStretch_78, rfl⟩, rfl, .inr ⟨dX5_haveStretch_79, rfl⟩, rfl, .inr ⟨dX5_haveStretch_80, rfl⟩, rfl, .inr ⟨dX5_haveStretch_83, rfl⟩, rfl, .inr ⟨dX5_haveStretch_84, rfl⟩, rfl, .inr ⟨dX5_haveStretch_86, rfl⟩, rfl, .inr ⟨dX5_haveStretch_87, rfl⟩, rfl, .inr ⟨dX5_haveStretch_90, rfl⟩, rfl, .inr ⟨dX5_haveStretch_91, rfl⟩, trivial⟩
set_option maxRecDepth 100000 in
theorem ck_104_94 : am_cok am_T0 me_104 cd_104_94 94 := ⟨rfl, .inr ⟨dX5_haveStretch_94, rfl⟩, rfl, .inl ⟨rfl, rfl⟩, trivial⟩
set_option maxRecDepth 100000 in
theorem ck_104_95 : am_cok am_T0 me_104 cd_104_95 95 := ⟨rfl, .inr ⟨dX5_haveStretch_95, rfl⟩, trivial⟩
set_option maxRecDepth 100000 in
theorem ck_104 : ∀ p ∈ bl_104, am_cok am_T0 me_104 p.2 p.1 := List.forall_mem_cons.mpr ⟨ck_104_0, List.forall_mem_cons.mpr ⟨ck_104_25, List.forall_mem_cons.mpr ⟨ck_104_31, List.forall_mem_cons.mpr ⟨ck_104_57, List.forall_mem_cons.mpr ⟨ck_104_63, List.forall_mem_cons.mpr ⟨ck_104_94, List.forall_mem_cons.mpr ⟨ck_104_95, fun _ h => absurd h List.not_mem_nil⟩⟩⟩⟩⟩⟩⟩
set_option maxRecDepth 100000 in
theorem ck_105_0 : am_cok am_T0 me_105 cd_105_0 0 := ⟨rfl, .inr ⟨dX5_axis_0, rfl⟩, rfl, .inr ⟨dX5_axis_1, rfl⟩, rfl, .inr ⟨dX5_axis_2, rfl⟩, rfl, .inr ⟨dX5_axis_3, rfl⟩, rfl, .inr ⟨dX5_axis_6, rfl⟩, rfl, .inr ⟨dX5_axis_7, rfl⟩, trivial⟩
set_option maxRecDepth 100000 in
theorem ck_105_10 : am_cok am_T0 me_105 cd_105_10 10 := ⟨rfl, .inr ⟨dX5_axis_10, rfl⟩, rfl, .inr ⟨dX5_axis_11, rfl⟩, rfl, .inr ⟨dX5_axis_12, rfl⟩, rfl, .inr ⟨dX5_axis_13, rfl⟩, rfl, .inr ⟨dX5_axis_14, rfl⟩, rfl, .inr ⟨dX5_axis_15, rfl⟩, rfl, .inr ⟨dX5_axis_18, rfl⟩, rfl, .inr ⟨dX5_axis_19, rfl⟩, trivial⟩
set_option maxRecDepth 100000 in
theorem ck_105_22 : am_cok am_T0 me_105 cd_105_22 22 := ⟨rfl, .inr ⟨dX5_axis_22, rfl⟩, rfl, .inl ⟨rfl, rfl⟩, trivial⟩
set_option maxRecDepth 100000 in
theorem ck_105_23 : am_cok am_T0 me_105 cd_105_23 23 := ⟨rfl, .inr ⟨dX5_axis_23, rfl⟩, trivial⟩
set_option maxRecDepth 100000 in
theorem ck_105 : ∀ p ∈ bl_105, am_cok am_T0 me_105 p.2 p.1 := List.forall_mem_cons.mpr ⟨ck_105_0, List.forall_mem_cons.mpr ⟨ck_105_10, List.forall_mem_cons.mpr ⟨ck_105_22, List.forall_mem_cons.mpr ⟨ck_105_23, fun _ h => absurd h List.not_mem_nil⟩⟩⟩⟩
set_option maxRecDepth 100000 in
theorem ck_106_0 : am_cok am_T0 me_106 cd_106_0 0 := ⟨rfl, .inr ⟨dX5_bendAxis_0, rfl⟩, rfl, .inr ⟨dX5_bendAxis_1, rfl⟩, rfl, .inr ⟨dX5_bendAxis_2, rfl⟩, rfl, .inr ⟨dX5_bendAxis_5, rfl⟩, rfl, .inr ⟨dX5_bendAxis_6, rfl⟩, rfl, .inr ⟨dX5_bendAxis_7, rfl⟩, rfl, .inr ⟨dX5_bendAxis_8, rfl⟩, rfl, .inr ⟨dX5_bendAxis_9, rfl⟩, rfl, .inr ⟨dX5_bendAxis_10, rfl⟩, rfl, .inr ⟨dX5_bendAxis_13, rfl⟩, rfl, .inr ⟨dX5_bendAxis_14, rfl⟩, rfl, .inr ⟨dX5_bendAxis_15, rfl⟩, rfl, .inr ⟨dX5_bendAxis_16, rfl⟩, rfl, .inr ⟨dX5_bendAxis_17, rfl⟩, rfl, .inr ⟨dX5_bendAxis_20, rfl⟩, rfl, .inr ⟨dX5_bendAxis_21, rfl⟩, rfl, .inr ⟨dX5_bendAxis_24, rfl⟩, rfl, .inr ⟨dX5_bendAxis_25, rfl⟩, rfl, .inl ⟨rfl, rfl⟩, trivial⟩
set_option maxRecDepth 100000 in
theorem ck_106_28 : am_cok am_T0 me_106 cd_106_28 28 := ⟨rfl, .inr ⟨dX5_bendAxis_28, rfl⟩, trivial⟩
set_option maxRecDepth 100000 in
theorem ck_106_31 : am_cok am_T0 me_106 cd_106_31 31 := ⟨rfl, .inr ⟨dX5_bendAxis_31, rfl⟩, rfl, .inr ⟨dX5_bendAxis_32, rfl⟩, rfl, .inr ⟨dX5_bendAxis_35, rfl⟩, rfl, .inr ⟨dX5_bendAxis_36, rfl⟩, rfl, .inl ⟨rfl, rfl⟩, trivial⟩
set_option maxRecDepth 100000 in
theorem ck_106_39 : am_cok am_T0 me_106 cd_106_39 39 := ⟨rfl, .inr ⟨dX5_bendAxis_39, rfl⟩, trivial⟩
set_option maxRecDepth 100000 in
theorem ck_106 : ∀ p ∈ bl_106, am_cok am_T0 me_106 p.2 p.1 := List.forall_mem_cons.mpr ⟨ck_106_0, List.forall_mem_cons.mpr ⟨ck_106_28, List.forall_mem_cons.mpr ⟨ck_106_31, List.forall_mem_cons.mpr ⟨ck_106_39, fun _ h => absurd h List.not_mem_nil⟩⟩⟩⟩
set_option maxRecDepth 100000 in
theorem ck_107_0 : am_cok am_T0 me_107 cd_107_0 0 := ⟨rfl, .inr ⟨dX5_areBeside_0, rfl⟩, rfl, .inr ⟨dX5_areBeside_1, rfl⟩, rfl, .inr ⟨dX5_areBeside_4, rfl⟩, rfl, .inr ⟨dX5_areBeside_6, rfl⟩, rfl, .inr ⟨dX5_areBeside_7, rfl⟩, rfl, .inr ⟨dX5_areBeside_8, rfl⟩, rfl, .inr ⟨dX5_areBeside_9, rfl⟩, rfl, .inr ⟨dX5_areBeside_10, rfl⟩, rfl, .inr ⟨dX5_areBeside_11, rfl⟩, rfl, .inr ⟨dX5_areBeside_13, rfl⟩, rfl, .inr ⟨dX5_areBeside_14, rfl⟩, rfl, .inr ⟨dX5_areBeside_17, rfl⟩, rfl, .inr ⟨dX5_areBeside_19, rfl⟩, rfl, .inr ⟨dX5_areBeside_20, rfl⟩, rfl, .inr ⟨dX5_areBeside_21, rfl⟩, rfl, .inr ⟨dX5_areBeside_22, rfl⟩, rfl, .inr ⟨dX5_areBeside_23, rfl⟩, rfl, .inr ⟨dX5_areBeside_24, rfl⟩, rfl, .inr ⟨dX5_areBeside_25, rfl⟩, rfl, .inr ⟨dX5_areBeside_26, rfl⟩, rfl, .inr ⟨dX5_areBeside_28, rfl⟩, rfl, .inl ⟨rfl, rfl⟩, trivial⟩
set_option maxRecDepth 100000 in
theorem ck_107_29 : am_cok am_T0 me_107 cd_107_29 29 := ⟨rfl, .inr ⟨dX5_areBeside_29, rfl⟩, rfl, .inr ⟨dX5_areBeside_32, rfl⟩, rfl, .inr ⟨dX5_areBeside_34, rfl⟩, rfl, .inr ⟨dX5_areBeside_35, rfl⟩, rfl, .inr ⟨dX5_areBeside_36, rfl⟩, rfl, .inr ⟨dX5_areBeside_37, rfl⟩, rfl, .inr ⟨dX5_areBeside_38, rfl⟩, rfl, .inr ⟨dX5_areBeside_39, rfl⟩, rfl, .inr ⟨dX5_areBeside_41, rfl⟩, rfl, .inr ⟨dX5_areBeside_42, rfl⟩, rfl, .inr ⟨dX5_areBeside_45, rfl⟩, rfl, .inr ⟨dX5_areBeside_47, rfl⟩, rfl, .inr ⟨dX5_areBeside_48, rfl⟩, rfl, .inr ⟨dX5_areBeside_49, rfl⟩, rfl, .inr ⟨dX5_areBeside_50, rfl⟩, rfl, .inr ⟨dX5_areBeside_51, rfl⟩, rfl, .inr ⟨dX5_areBeside_52, rfl⟩, rfl, .inr ⟨dX5_areBeside_53, rfl⟩, rfl, .inr ⟨dX5_areBeside_54, rfl⟩, rfl, .inr ⟨dX5_areBeside_56, rfl⟩, rfl, .inr ⟨dX5_areBeside_58, rfl⟩, rfl, .inl ⟨rfl, rfl⟩, trivial⟩
set_option maxRecDepth 100000 in
theorem ck_107_60 : am_cok am_T0 me_107 cd_107_60 60 := ⟨rfl, .inr ⟨dX5_areBeside_60, rfl⟩, rfl, .inr ⟨dX5_areBeside_63, rfl⟩, rfl, .inr ⟨dX5_areBeside_65, rfl⟩, rfl, .inr ⟨dX5_areBeside_67, rfl⟩, rfl, .inl ⟨rfl, rfl⟩, trivial⟩
set_option maxRecDepth 100000 in
theorem ck_107_70 : am_cok am_T0 me_107 cd_107_70 70 := ⟨rfl, .inr ⟨dX5_areBeside_70, rfl⟩, rfl, .inr ⟨dX5_areBeside_72, rfl⟩, rfl, .inr ⟨dX5_areBeside_74, rfl⟩, rfl, .inr ⟨dX5_areBeside_77, rfl⟩, rfl, .inr ⟨dX5_areBeside_79, rfl⟩, rfl, .inr ⟨dX5_areBeside_81, rfl⟩, rfl, .inr ⟨dX5_areBeside_84, rfl⟩, rfl, .inr ⟨dX5_areBeside_86, rfl⟩, rfl, .inr ⟨dX5_areBeside_88, rfl⟩, rfl, .inr ⟨dX5_areBeside_91, rfl⟩, rfl, .inr ⟨dX5_areBeside_92, rfl⟩, trivial⟩
set_option maxRecDepth 100000 in
theorem ck_107_95 : am_cok am_T0 me_107 cd_107_95 95 := ⟨rfl, .inr ⟨dX5_areBeside_95, rfl⟩, rfl, .inr ⟨dX5_areBeside_96, rfl⟩, trivial⟩
set_option maxRecDepth 100000 in
theorem ck_107_99 : am_cok am_T0 me_107 cd_107_99 99 := ⟨rfl, .inr ⟨dX5_areBeside_99, rfl⟩, rfl, .inr ⟨dX5_areBeside_101, rfl⟩, rfl, .inr ⟨dX5_areBeside_103, rfl⟩, rfl, .inr ⟨dX5_areBeside_106, rfl⟩, rfl, .inr ⟨dX5_areBeside_108, rfl⟩, rfl, .inr ⟨dX5_areBeside_110, rfl⟩, rfl, .inr ⟨dX5_areBeside_113, rfl⟩, rfl, .inr ⟨dX5_areBeside_115, rfl⟩, rfl, .inr ⟨dX5_areBeside_117, rfl⟩, rfl, .inr ⟨dX5_areBeside_120, rfl⟩, rfl, .inr ⟨dX5_areBeside_121, rfl⟩, trivial⟩
set_option maxRecDepth 100000 in
theorem ck_107_124 : am_cok am_T0 me_107 cd_107_124 124 := ⟨rfl, .inr ⟨dX5_areBeside_124, rfl⟩, rfl, .inr ⟨dX5_areBeside_125, rfl⟩, trivial⟩
set_option maxRecDepth 100000 in
theorem ck_107_128 : am_cok am_T0 me_107 cd_107_128 128 := ⟨rfl, .inr ⟨dX5_areBeside_128, rfl⟩, rfl, .inr ⟨dX5_areBeside_130, rfl⟩, rfl, .inr ⟨dX5_areBeside_132, rfl⟩, rfl, .inr ⟨dX5_areBeside_135, rfl⟩, rfl, .inr ⟨dX5_areBeside_137, rfl⟩, rfl, .inr ⟨dX5_areBeside_139, rfl⟩, rfl, .inr ⟨dX5_areBeside_142, rfl⟩, rfl, .inr ⟨dX5_areBeside_143, rfl⟩, trivial⟩
set_option maxRecDepth 100000 in
theorem ck_107_146 : am_cok am_T0 me_107 cd_107_146 146 := ⟨rfl, .inr ⟨dX5_areBeside_146, rfl⟩, rfl, .inl ⟨rfl, rfl⟩, trivial⟩
set_option maxRecDepth 100000 in
theorem ck_107_147 : am_cok am_T0 me_107 cd_107_147 147 := ⟨rfl, .inr ⟨dX5_areBeside_147, rfl⟩, trivial⟩
set_option maxRecDepth 100000 in
theorem ck_107_148 : am_cok am_T0 me_107 cd_107_148 148 := ⟨rfl, .inr ⟨dX5_areBeside_148, rfl⟩, rfl, .inr ⟨dX5_areBeside_150, rfl⟩, rfl, .inr ⟨dX5_areBeside_152, rfl⟩, rfl, .inr ⟨dX5_areBeside_155, rfl⟩, rfl, .inr ⟨dX5_areBeside_157, rfl⟩, rfl, .inr ⟨dX5_areBeside_159, rfl⟩, rfl, .inr ⟨dX5_areBeside_162, rfl⟩, rfl, .inr ⟨dX5_areBeside_163, rfl⟩, trivial⟩
set_option maxRecDepth 100000 in
theorem ck_107_166 : am_cok am_T0 me_107 cd_107_166 166 := ⟨rfl, .inr ⟨dX5_areBeside_166, rfl⟩, rfl, .inl ⟨rfl, rfl⟩, trivial⟩
set_option maxRecDepth 100000 in
theorem ck_107_167 : am_cok am_T0 me_107 cd_107_167 167 := ⟨rfl, .inr ⟨dX5_areBeside_167, rfl⟩, trivial⟩
set_option maxRecDepth 100000 in
theorem ck_107 : ∀ p ∈ bl_107, am_cok am_T0 me_107 p.2 p.1 := List.forall_mem_cons.mpr ⟨ck_107_0, List.forall_mem_cons.mpr ⟨ck_107_29, List.forall_mem_cons.mpr ⟨ck_107_60, List.forall_mem_cons.mpr ⟨ck_107_70, List.forall_mem_cons.mpr ⟨ck_107_95, List.forall_mem_cons.mpr ⟨ck_107_99, List.forall_mem_cons.mpr ⟨ck_107_124, List.forall_mem_cons.mpr ⟨ck_107_128, List.forall_mem_cons.mpr ⟨ck_107_146, List.forall_mem_cons.mpr ⟨ck_107_147, List.forall_mem_cons.mpr ⟨ck_107_148, List.forall_mem_cons.mpr ⟨ck_107_166, List.forall_mem_cons.mpr ⟨ck_107_167, fun _ h => absurd h List.not_mem_nil⟩⟩⟩⟩⟩⟩⟩⟩⟩⟩⟩⟩⟩
