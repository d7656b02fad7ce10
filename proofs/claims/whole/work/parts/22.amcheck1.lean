set_option maxRecDepth 100000 in
theorem ck_0_0 : am_cok am_T0 me_0 cd_0_0 0 := ⟨rfl, .inr ⟨dX0_init_0, rfl⟩, rfl, .inr ⟨dX0_init_1, rfl⟩, rfl, .inr ⟨dX0_init_4, rfl⟩, rfl, .inr ⟨dX0_init_5, rfl⟩, rfl, .inr ⟨dX0_init_7, rfl⟩, rfl, .inr ⟨dX0_init_9, rfl⟩, rfl, .inr ⟨dX0_init_12, rfl⟩, rfl, .inr ⟨dX0_init_13, rfl⟩, rfl, .inr ⟨dX0_init_15, rfl⟩, rfl, .inr ⟨dX0_init_17, rfl⟩, rfl, .inr ⟨dX0_init_20, rfl⟩, rfl, .inr ⟨dX0_init_21, rfl⟩, rfl, .inr ⟨dX0_init_23, rfl⟩, rfl, .inr ⟨dX0_init_25, rfl⟩, rfl, .inr ⟨dX0_init_28, rfl⟩, rfl, .inr ⟨dX0_init_29, rfl⟩, rfl, .inr ⟨dX0_init_30, rfl⟩, rfl, .inr ⟨dX0_init_32, rfl⟩, rfl, .inr ⟨dX0_init_36, rfl⟩, rfl, .inr ⟨dX0_init_39, rfl⟩, rfl, .inr ⟨dX0_init_40, rfl⟩, rfl, .inr ⟨dX0_init_41, rfl⟩, rfl, .inr ⟨dX0_init_43, rfl⟩, rfl, .inr ⟨dX0_init_47, rfl⟩, rfl, .inr ⟨dX0_init_50, rfl⟩, rfl, .inr ⟨dX0_init_51, rfl⟩, rfl, .inr ⟨dX0_init_52, rfl⟩, rfl, .inl ⟨rfl, rfl⟩, trivial⟩
set_option maxRecDepth 100000 in
theorem ck_0_54 : am_cok am_T0 me_0 cd_0_54 54 := ⟨rfl, .inr ⟨dX0_init_54, rfl⟩, rfl, .inr ⟨dX0_init_58, rfl⟩, rfl, .inr ⟨dX0_init_61, rfl⟩, trivial⟩
set_option maxRecDepth 100000 in
theorem ck_0 : ∀ p ∈ bl_0, am_cok am_T0 me_0 p.2 p.1 := List.forall_mem_cons.mpr ⟨ck_0_0, List.forall_mem_cons.mpr ⟨ck_0_54, fun _ h => absurd h List.not_mem_nil⟩⟩
set_option maxRecDepth 100000 in
theorem ck_1_0 : am_cok am_T0 me_1 cd_1_0 0 := ⟨rfl, .inr ⟨dX0_foldAll_0, rfl⟩, rfl, .inr ⟨dX0_foldAll_1, rfl⟩, rfl, .inr ⟨dX0_foldAll_4, rfl⟩, rfl, .inr ⟨dX0_foldAll_5, rfl⟩, rfl, .inr ⟨dX0_foldAll_6, rfl⟩, rfl, .inr ⟨dX0_foldAll_7, rfl⟩, rfl, .inr ⟨dX0_foldAll_8, rfl⟩, rfl, .inr ⟨dX0_foldAll_11, rfl⟩, rfl, .inr ⟨dX0_foldAll_12, rfl⟩, rfl, .inr ⟨dX0_foldAll_13, rfl⟩, rfl, .inr ⟨dX0_foldAll_14, rfl⟩, rfl, .inr ⟨dX0_foldAll_15, rfl⟩, rfl, .inr ⟨dX0_foldAll_18, rfl⟩, rfl, .inr ⟨dX0_foldAll_19, rfl⟩, rfl, .inr ⟨dX0_foldAll_20, rfl⟩, rfl, .inr ⟨dX0_foldAll_21, rfl⟩, rfl, .inr ⟨dX0_foldAll_22, rfl⟩, rfl, .inl ⟨rfl, rfl⟩, trivial⟩
set_option maxRecDepth 100000 in
theorem ck_1_23 : am_cok am_T0 me_1 cd_1_23 23 := ⟨rfl, .inr ⟨dX0_foldAll_23, rfl⟩, rfl, .inr ⟨dX0_foldAll_24, rfl⟩, rfl, .inr ⟨dX0_foldAll_25, rfl⟩, rfl, .inr ⟨dX0_foldAll_28, rfl⟩, rfl, .inr ⟨dX0_foldAll_29, rfl⟩, rfl, .inr ⟨dX0_foldAll_32, rfl⟩, rfl, .inr ⟨dX0_foldAll_33, rfl⟩, rfl, .inr ⟨dX0_foldAll_34, rfl⟩, rfl, .inr ⟨dX0_foldAll_35, rfl⟩, rfl, .inr ⟨dX0_foldAll_36, rfl⟩, rfl, .inr ⟨dX0_foldAll_37, rfl⟩, rfl, .inr ⟨dX0_foldAll_40, rfl⟩, trivial⟩
set_option maxRecDepth 100000 in
theorem ck_1_43 : am_cok am_T0 me_1 cd_1_43 43 := ⟨rfl, .inr ⟨dX0_foldAll_43, rfl⟩, rfl, .inr ⟨dX0_foldAll_44, rfl⟩, rfl, .inl ⟨rfl, rfl⟩, trivial⟩
set_option maxRecDepth 100000 in
theorem ck_1_45 : am_cok am_T0 me_1 cd_1_45 45 := ⟨rfl, .inr ⟨dX0_foldAll_45, rfl⟩, rfl, .inr ⟨dX0_foldAll_46, rfl⟩, rfl, .inr ⟨dX0_foldAll_47, rfl⟩, rfl, .inr ⟨dX0_foldAll_50, rfl⟩, rfl, .inr ⟨dX0_foldAll_53, rfl⟩, rfl, .inr ⟨dX0_foldAll_54, rfl⟩, rfl, .inr ⟨dX0_foldAll_57, rfl⟩, rfl, .inr ⟨dX0_foldAll_58, rfl⟩, rfl, .inr ⟨dX0_foldAll_59, rfl⟩, rfl, .inr ⟨dX0_foldAll_60, rfl⟩, rfl, .inr ⟨dX0_foldAll_61, rfl⟩, rfl, .inr ⟨dX0_foldAll_62, rfl⟩, rfl, .inr ⟨dX0_foldAll_63, rfl⟩, rfl, .inr ⟨dX0_foldAll_64, rfl⟩, rfl, .inr ⟨dX0_foldAll_65, rfl⟩, rfl, .inr ⟨dX0_foldAll_66, rfl⟩, rfl, .inr ⟨dX0_foldAll_69, rfl⟩, rfl, .inr ⟨dX0_foldAll_70, rfl⟩, trivial⟩
set_option maxRecDepth 100000 in
theorem ck_1_73 : am_cok am_T0 me_1 cd_1_73 73 := ⟨rfl, .inr ⟨dX0_foldAll_73, rfl⟩, rfl, .inl ⟨rfl, rfl⟩, trivial⟩
set_option maxRecDepth 100000 in
theorem ck_1_74 : am_cok am_T0 me_1 cd_1_74 74 := ⟨rfl, .inr ⟨dX0_foldAll_74, rfl⟩, rfl, .inl ⟨rfl, rfl⟩, trivial⟩
set_option maxRecDepth 100000 in
theorem ck_1_77 : am_cok am_T0 me_1 cd_1_77 77 := ⟨rfl, .inr ⟨dX0_foldAll_77, rfl⟩, rfl, .inr ⟨dX0_foldAll_78, rfl⟩, rfl, .inr ⟨dX0_foldAll_79, rfl⟩, rfl, .inr ⟨dX0_foldAll_80, rfl⟩, rfl, .inl ⟨rfl, rfl⟩, trivial⟩
set_option maxRecDepth 100000 in
theorem ck_1_83 : am_cok am_T0 me_1 cd_1_83 83 := ⟨rfl, .inr ⟨dX0_foldAll_83, rfl⟩, rfl, .inr ⟨dX0_foldAll_84, rfl⟩, rfl, .inr ⟨dX0_foldAll_85, rfl⟩, rfl, .inr ⟨dX0_foldAll_86, rfl⟩, rfl, .inl ⟨rfl, rfl⟩, trivial⟩
set_option maxRecDepth 100000 in
theorem ck_1_89 : am_cok am_T0 me_1 cd_1_89 89 := ⟨rfl, .inr ⟨dX0_foldAll_89, rfl⟩, rfl, .inr ⟨dX0_foldAll_92, rfl⟩, trivial⟩
set_option maxRecDepth 100000 in
theorem ck_1_95 : am_cok am_T0 me_1 cd_1_95 95 := ⟨rfl, .inr ⟨dX0_foldAll_95, rfl⟩, trivial⟩
set_option maxRecDepth 100000 in
theorem ck_1 : ∀ p ∈ bl_1, am_cok am_T0 me_1 p.2 p.1 := List.forall_mem_cons.mpr ⟨ck_1_0, List.forall_mem_cons.mpr ⟨ck_1_23, List.forall_mem_cons.mpr ⟨ck_1_43, List.forall_mem_cons.mpr ⟨ck_1_45, List.forall_mem_cons.mpr ⟨ck_1_73, List.forall_mem_cons.mpr ⟨ck_1_74, List.forall_mem_cons.mpr ⟨ck_1_77, List.forall_mem_cons.mpr ⟨ck_1_83, List.forall_mem_cons.mpr ⟨ck_1_89, List.forall_mem_cons.mpr ⟨ck_1_95, fun _ h => absurd h List.not_mem_nil⟩⟩⟩⟩⟩⟩⟩⟩⟩⟩
set_option maxRecDepth 100000 in
theorem ck_2_0 : am_cok am_T0 me_2 cd_2_0 0 := ⟨rfl, .inr ⟨dX0_setDirections_0, rfl⟩, rfl, .inr ⟨dX0_setDirections_1, rfl⟩, rfl, .inr ⟨dX0_setDirections_4, rfl⟩, rfl, .inr ⟨dX0_setDirections_5, rfl⟩, rfl, .inr ⟨dX0_setDirections_6, rfl⟩, rfl, .inr ⟨dX0_setDirections_8, rfl⟩, rfl, .inr ⟨dX0_setDirections_9, rfl⟩, rfl, .inr ⟨dX0_setDirections_12, rfl⟩, rfl, .inr ⟨dX0_setDirections_13, rfl⟩, rfl, .inr ⟨dX0_setDirections_14, rfl⟩, rfl, .inr ⟨dX0_setDirections_16, rfl⟩, rfl, .inr ⟨dX0_setDirections_17, rfl⟩, rfl, .inr ⟨dX0_setDirections_20, rfl⟩, rfl, .inr ⟨dX0_setDirections_21, rfl⟩, rfl, .inr ⟨dX0_setDirections_22, rfl⟩, rfl, .inr ⟨dX0_setDirections_25, rfl⟩, rfl, .inr ⟨dX0_setDirections_27, rfl⟩, rfl, .inr ⟨dX0_setDirections_28, rfl⟩, rfl, .inl ⟨rfl, rfl⟩, trivial⟩
set_option maxRecDepth 100000 in
theorem ck_2_29 : am_cok am_T0 me_2 cd_2_29 29 := ⟨rfl, .inr ⟨dX0_setDirections_29, rfl⟩, rfl, .inr ⟨dX0_setDirections_30, rfl⟩, rfl, .inr ⟨dX0_setDirections_33, rfl⟩, rfl, .inr ⟨dX0_setDirections_34, rfl⟩, rfl, .inr ⟨dX0_setDirections_35, rfl⟩, rfl, .inr ⟨dX0_setDirections_38, rfl⟩, rfl, .inr ⟨dX0_setDirections_40, rfl⟩, rfl, .inr ⟨dX0_setDirections_41, rfl⟩, rfl, .inr ⟨dX0_setDirections_42, rfl⟩, rfl, .inr ⟨dX0_setDirections_43, rfl⟩, rfl, .inr ⟨dX0_setDirections_46, rfl⟩, rfl, .inr ⟨dX0_setDirections_47, rfl⟩, rfl, .inr ⟨dX0_setDirections_48, rfl⟩, rfl, .inr ⟨dX0_setDirections_51, rfl⟩, rfl, .inr ⟨dX0_setDirections_53, rfl⟩, rfl, .inr ⟨dX0_setDirections_54, rfl⟩, rfl, .inl ⟨rfl, rfl⟩, trivial⟩
set_option maxRecDepth 100000 in
theorem ck_2_55 : am_cok am_T0 me_2 cd_2_55 55 := ⟨rfl, .inr ⟨dX0_setDirections_55, rfl⟩, rfl, .inr ⟨dX0_setDirections_56, rfl⟩, rfl, .inr ⟨dX0_setDirections_59, rfl⟩, trivial⟩
set_option maxRecDepth 100000 in
theorem ck_2_60 : am_cok am_T0 me_2 cd_2_60 60 := ⟨rfl, .inr ⟨dX0_setDirections_60, rfl⟩, rfl, .inr ⟨dX0_setDirections_61, rfl⟩, rfl, .inr ⟨dX0_setDirections_63, rfl⟩, rfl, .inr ⟨dX0_setDirections_65, rfl⟩, rfl, .inl ⟨rfl, rfl⟩, trivial⟩
set_option maxRecDepth 100000 in
theorem ck_2_68 : am_cok am_T0 me_2 cd_2_68 68 := ⟨rfl, .inr ⟨dX0_setDirections_68, rfl⟩, rfl, .inr ⟨dX0_setDirections_70, rfl⟩, rfl, .inr ⟨dX0_setDirections_71, rfl⟩, rfl, .inr ⟨dX0_setDirections_74, rfl⟩, rfl, .inr ⟨dX0_setDirections_75, rfl⟩, rfl, .inr ⟨dX0_setDirections_76, rfl⟩, rfl, .inr ⟨dX0_setDirections_79, rfl⟩, rfl, .inr ⟨dX0_setDirections_80, rfl⟩, rfl, .inr ⟨dX0_setDirections_83, rfl⟩, rfl, .inr ⟨dX0_setDirections_85, rfl⟩, rfl, .inr ⟨dX0_setDirections_86, rfl⟩, trivial⟩
set_option maxRecDepth 100000 in
theorem ck_2_89 : am_cok am_T0 me_2 cd_2_89 89 := ⟨rfl, .inr ⟨dX0_setDirections_89, rfl⟩, rfl, .inr ⟨dX0_setDirections_90, rfl⟩, rfl, .inr ⟨dX0_setDirections_93, rfl⟩, rfl, .inr ⟨dX0_setDirections_95, rfl⟩, rfl, .inr ⟨dX0_setDirections_96, rfl⟩, rfl, .inl ⟨rfl, rfl⟩, trivial⟩
set_option maxRecDepth 100000 in
theorem ck_2_97 : am_cok am_T0 me_2 cd_2_97 97 := ⟨rfl, .inr ⟨dX0_setDirections_97, rfl⟩, rfl, .inr ⟨dX0_setDirections_99, rfl⟩, rfl, .inr ⟨dX0_setDirections_100, rfl⟩, rfl, .inr ⟨dX0_setDirections_103, rfl⟩, rfl, .inr ⟨dX0_setDirections_104, rfl⟩, rfl, .inr ⟨dX0_setDirections_105, rfl⟩, rfl, .inr ⟨dX0_setDirections_108, rfl⟩, rfl, .inr ⟨dX0_setDirections_109, rfl⟩, rfl, .inr ⟨dX0_setDirections_110, rfl⟩, rfl, .inr ⟨dX0_setDirections_113, rfl⟩, rfl, .inr ⟨dX0_setDirections_115, rfl⟩, rfl, .inr ⟨dX0_setDirections_116, rfl⟩, trivial⟩
set_option maxRecDepth 100000 in
theorem ck_2_119 : am_cok am_T0 me_2 cd_2_119 119 := ⟨rfl, .inr ⟨dX0_setDirections_119, rfl⟩, rfl, .inl ⟨rfl, rfl⟩, trivial⟩
set_option maxRecDepth 100000 in
theorem ck_2_121 : am_cok am_T0 me_2 cd_2_121 121 := ⟨rfl, .inr ⟨dX0_setDirections_121, rfl⟩, rfl, .inr ⟨dX0_setDirections_122, rfl⟩, rfl, .inr ⟨dX0_setDirections_124, rfl⟩, rfl, .inl ⟨rfl, rfl⟩, trivial⟩
set_option maxRecDepth 100000 in
theorem ck_2_127 : am_cok am_T0 me_2 cd_2_127 127 := ⟨rfl, .inr ⟨dX0_setDirections_127, rfl⟩, rfl, .inr ⟨dX0_setDirections_130, rfl⟩, rfl, .inr ⟨dX0_setDirections_132, rfl⟩, trivial⟩
set_option maxRecDepth 100000 in
theorem ck_2_135 : am_cok am_T0 me_2 cd_2_135 135 := ⟨rfl, .inr ⟨dX0_setDirections_135, rfl⟩, rfl, .inr ⟨dX0_setDirections_137, rfl⟩, rfl, .inl ⟨rfl, rfl⟩, trivial⟩
set_option maxRecDepth 100000 in
theorem ck_2_138 : am_cok am_T0 me_2 cd_2_138 138 := ⟨rfl, .inr ⟨dX0_setDirections_138, rfl⟩, rfl, .inr ⟨dX0_setDirections_140, rfl⟩, rfl, .inr ⟨dX0_setDirections_142, rfl⟩, rfl, .inl ⟨rfl, rfl⟩, trivial⟩
set_option maxRecDepth 100000 in
theorem ck_2_145 : am_cok am_T0 me_2 cd_2_145 145 := ⟨rfl, .inr ⟨dX0_setDirections_145, rfl⟩, rfl, .inr ⟨dX0_setDirections_148, rfl⟩, rfl, .inr ⟨dX0_setDirections_149, rfl⟩, rfl, .inr ⟨dX0_setDirections_152, rfl⟩, rfl, .inr ⟨dX0_setDirections_153, rfl⟩, rfl, .inr ⟨dX0_setDirections_155, rfl⟩, rfl, .inr ⟨dX0_setDirections_156, rfl⟩, trivial⟩
set_option maxRecDepth 100000 in
theorem ck_2_159 : am_cok am_T0 me_2 cd_2_159 159 := ⟨rfl, .inr ⟨dX0_setDirections_159, rfl⟩, rfl, .inr ⟨dX0_setDirections_160, rfl⟩, rfl, .inr ⟨dX0_setDirections_163, rfl⟩, rfl, .inr ⟨dX0_setDirections_164, rfl⟩, rfl, .inr ⟨dX0_setDirections_166, rfl⟩, rfl, .inl ⟨rfl, rfl⟩, trivial⟩
set_option maxRecDepth 100000 in
theorem ck_2_167 : am_cok am_T0 me_2 cd_2_167 167 := ⟨rfl, .inr ⟨dX0_setDirections_167, rfl⟩, trivial⟩
set_option maxRecDepth 100000 in
theorem ck_2 : ∀ p ∈ bl_2, am_cok am_T0 me_2 p.2 p.1 := List.forall_mem_cons.mpr ⟨ck_2_0, List.forall_mem_cons.mpr ⟨ck_2_29, List.forall_mem_cons.mpr ⟨ck_2_55, List.forall_mem_cons.mpr ⟨ck_2_60, List.forall_mem_cons.mpr ⟨ck_2_68, List.forall_mem_cons.mpr ⟨ck_2_89, List.forall_mem_cons.mpr ⟨ck_2_97, List.forall_mem_cons.mpr ⟨ck_2_119, List.forall_mem_cons.mpr ⟨ck_2_121, List.forall_mem_cons.mpr ⟨ck_2_127, List.forall_mem_cons.mpr ⟨ck_2_135, List.forall_mem_cons.mpr ⟨ck_2_138, List.forall_mem_cons.mpr ⟨ck_2_145, List.forall_mem_cons.mpr ⟨ck_2_159, List.forall_mem_cons.mpr ⟨ck_2_167, fun _ h => absurd h List.not_mem_nil⟩⟩⟩⟩⟩⟩⟩⟩⟩⟩⟩⟩⟩⟩⟩
set_option maxRecDepth 100000 in
theorem ck_3_0 : am_cok am_T0 me_3 cd_3_0 0 := ⟨rfl, .inr ⟨dX0_setCorner_0, rfl⟩, rfl, .inr ⟨dX0_setCorner_1, rfl⟩, rfl, .inr ⟨dX0_setCorner_4, rfl⟩, rfl, .inr ⟨dX0_setCorner_5, rfl⟩, rfl, .inr ⟨dX0_setCorner_6, rfl⟩, rfl, .inr ⟨dX0_setCorner_7, rfl⟩, rfl, .inr ⟨dX0_setCorner_8, rfl⟩, rfl, .inr ⟨dX0_setCorner_9, rfl⟩, rfl, .inl ⟨rfl, rfl⟩, trivial⟩
set_option maxRecDepth 100000 in
theorem ck_3_12 : am_cok am_T0 me_3 cd_3_12 12 := ⟨rfl, .inr ⟨dX0_setCorner_12, rfl⟩, rfl, .inr ⟨dX0_setCorner_14, rfl⟩, rfl, .inr ⟨dX0_setCorner_15, rfl⟩, rfl, .inr ⟨dX0_setCorner_16, rfl⟩, rfl, .inl ⟨rfl, rfl⟩, trivial⟩
set_option maxRecDepth 100000 in
theorem ck_3_19 : am_cok am_T0 me_3 cd_3_19 19 := ⟨rfl, .inr ⟨dX0_setCorner_19, rfl⟩, rfl, .inr ⟨dX0_setCorner_21, rfl⟩, rfl, .inr ⟨dX0_setCorner_23, rfl⟩, rfl, .inr ⟨dX0_setCorner_24, rfl⟩, rfl, .inr ⟨dX0_setCorner_27, rfl⟩, rfl, .inr ⟨dX0_setCorner_28, rfl⟩, rfl, .inr ⟨dX0_setCorner_29, rfl⟩, rfl, .inr ⟨dX0_setCorner_30, rfl⟩, rfl, .inr ⟨dX0_setCorner_31, rfl⟩, rfl, .inr ⟨dX0_setCorner_32, rfl⟩, rfl, .inr ⟨dX0_setCorner_34, rfl⟩, rfl, .inr ⟨dX0_setCorner_36, rfl⟩, rfl, .inr ⟨dX0_setCorner_37, rfl⟩, rfl, .inr ⟨dX0_setCorner_40, rfl⟩, rfl, .inr ⟨dX0_setCorner_41, rfl⟩, rfl, .inr ⟨dX0_setCorner_42, rfl⟩, rfl, .inr ⟨dX0_setCorner_43, rfl⟩, rfl, .inl ⟨rfl, rfl⟩, trivial⟩
set_option maxRecDepth 100000 in
theorem ck_3_44 : am_cok am_T0 me_3 cd_3_44 44 := ⟨rfl, .inr ⟨dX0_setCorner_44, rfl⟩, rfl, .inr ⟨dX0_setCorner_45, rfl⟩, rfl, .inr ⟨dX0_setCorner_47, rfl⟩, rfl, .inr ⟨dX0_setCorner_48, rfl⟩, rfl, .inl ⟨rfl, rfl⟩, trivial⟩
set_option maxRecDepth 100000 in
theorem ck_3_50 : am_cok am_T0 me_3 cd_3_50 50 := ⟨rfl, .inr ⟨dX0_setCorner_50, rfl⟩, rfl, .inr ⟨dX0_setCorner_52, rfl⟩, rfl, .inr ⟨dX0_setCorner_53, rfl⟩, rfl, .inr ⟨dX0_setCorner_56, rfl⟩, rfl, .inr ⟨dX0_setCorner_57, rfl⟩, rfl, .inr ⟨dX0_setCorner_60, rfl⟩, rfl, .inr ⟨dX0_setCorner_62, rfl⟩, rfl, .inr ⟨dX0_setCorner_63, rfl⟩, rfl, .inr ⟨dX0_setCorner_64, rfl⟩, rfl, .inr ⟨dX0_setCorner_65, rfl⟩, rfl, .inr ⟨dX0_setCorner_66, rfl⟩, rfl, .inr ⟨dX0_setCorner_67, rfl⟩, rfl, .inr ⟨dX0_setCorner_69, rfl⟩, rfl, .inr ⟨dX0_setCorner_71, rfl⟩, rfl, .inr ⟨dX0_setCorner_73, rfl⟩, rfl, .inl ⟨rfl, rfl⟩, trivial⟩
set_option maxRecDepth 100000 in
theorem ck_3_76 : am_cok am_T0 me_3 cd_3_76 76 := ⟨rfl, .inr ⟨dX0_setCorner_76, rfl⟩, rfl, .inr ⟨dX0_setCorner_78, rfl⟩, rfl, .inr ⟨dX0_setCorner_79, rfl⟩, rfl, .inr ⟨dX0_setCorner_82, rfl⟩, rfl, .inr ⟨dX0_setCorner_83, rfl⟩, rfl, .inr ⟨dX0_setCorner_84, rfl⟩, rfl, .inr ⟨dX0_setCorner_86, rfl⟩, rfl, .inl ⟨rfl, rfl⟩, trivial⟩
set_option maxRecDepth 100000 in
theorem ck_3_89 : am_cok am_T0 me_3 cd_3_89 89 := ⟨rfl, .inr ⟨dX0_setCorner_89, rfl⟩, rfl, .inr ⟨dX0_setCorner_90, rfl⟩, rfl, .inr ⟨dX0_setCorner_91, rfl⟩, rfl, .inr ⟨dX0_setCorner_93, rfl⟩, rfl, .inr ⟨dX0_setCorner_94, rfl⟩, rfl, .inr ⟨dX0_setCorner_97, rfl⟩, rfl, .inr ⟨dX0_setCorner_98, rfl⟩, rfl, .inr ⟨dX0_setCorner_99, rfl⟩, rfl, .inr ⟨dX0_setCorner_101, rfl⟩, rfl, .inl ⟨rfl, rfl⟩, trivial⟩
set_option maxRecDepth 100000 in
theorem ck_3_104 : am_cok am_T0 me_3 cd_3_104 104 := ⟨rfl, .inr ⟨dX0_setCorner_104, rfl⟩, rfl, .inr ⟨dX0_setCorner_105, rfl⟩, rfl, .inr ⟨dX0_setCorner_106, rfl⟩, rfl, .inr ⟨dX0_setCorner_107, rfl⟩, rfl, .inr ⟨dX0_setCorner_110, rfl⟩, trivial⟩
set_option maxRecDepth 100000 in
theorem ck_3_113 : am_cok am_T0 me_3 cd_3_113 113 := ⟨rfl, .inr ⟨dX0_setCorner_113, rfl⟩, trivial⟩
set_option maxRecDepth 100000 in
theorem ck_3 : ∀ p ∈ bl_3, am_cok am_T0 me_3 p.2 p.1 := List.forall_mem_cons.mpr ⟨ck_3_0, List.forall_mem_cons.mpr ⟨ck_3_12, List.forall_mem_cons.mpr ⟨ck_3_19, List.forall_mem_cons.mpr ⟨ck_3_44, List.forall_mem_cons.mpr ⟨ck_3_50, List.forall_mem_cons.mpr ⟨ck_3_76, List.forall_mem_cons.mpr ⟨ck_3_89, List.forall_mem_cons.mpr ⟨ck_3_104, List.forall_mem_cons.mpr ⟨ck_3_113, fun _ h => absurd h List.not_mem_nil⟩⟩⟩⟩⟩⟩⟩⟩⟩
set_option maxRecDepth 100000 in
theorem ck_4_0 : am_cok am_T0 me_4 cd_4_0 0 := ⟨rfl, .inr ⟨dX0_setBox_0, rfl⟩, rfl, .inr ⟨dX0_setBox_1, rfl⟩, rfl, .inl ⟨rfl, rfl⟩, trivial⟩
set_option maxRecDepth 100000 in
theorem ck_4_2 : am_cok am_T0 me_4 cd_4_2 2 := ⟨rfl, .inr ⟨dX0_setBox_2, rfl⟩, rfl, .inr ⟨dX0_setBox_3, rfl⟩, rfl, .inr ⟨dX0_setBox_4, rfl⟩, rfl, .inr ⟨dX0_setBox_7, rfl⟩, rfl, .inr ⟨dX0_setBox_8, rfl⟩, rfl, .inr ⟨dX0_setBox_11, rfl⟩, rfl, .inr ⟨dX0_setBox_12, rfl⟩, rfl, .inr ⟨dX0_setBox_13, rfl⟩, rfl, .inr ⟨dX0_setBox_14, rfl⟩, rfl, .inr ⟨dX0_setBox_15, rfl⟩, rfl, .inr ⟨dX0_setBox_16, rfl⟩, rfl, .inr ⟨dX0_setBox_17, rfl⟩, rfl, .inl ⟨rfl, rfl⟩, trivial⟩
set_option maxRecDepth 100000 in
theorem ck_4_20 : am_cok am_T0 me_4 cd_4_20 20 := ⟨rfl, .inr ⟨dX0_setBox_20, rfl⟩, rfl, .inr ⟨dX0_setBox_21, rfl⟩, rfl, .inr ⟨dX0_setBox_24, rfl⟩, rfl, .inr ⟨dX0_setBox_25, rfl⟩, rfl, .inr ⟨dX0_setBox_26, rfl⟩, rfl, .inr ⟨dX0_setBox_27, rfl⟩, rfl, .inl ⟨rfl, rfl⟩, trivial⟩
set_option maxRecDepth 100000 in
theorem ck_4_30 : am_cok am_T0 me_4 cd_4_30 30 := ⟨rfl, .inr ⟨dX0_setBox_30, rfl⟩, rfl, .inr ⟨dX0_setBox_31, rfl⟩, rfl, .inr ⟨dX0_setBox_32, rfl⟩, rfl, .inr ⟨dX0_setBox_33, rfl⟩, rfl, .inr ⟨dX0_setBox_34, rfl⟩, rfl, .inl ⟨rfl, rfl⟩, trivial⟩
set_option maxRecDepth 100000 in
theorem ck_4_37 : am_cok am_T0 me_4 cd_4_37 37 := ⟨rfl, .inr ⟨dX0_setBox_37, rfl⟩, rfl, .inr ⟨dX0_setBox_38, rfl⟩, rfl, .inr ⟨dX0_setBox_41, rfl⟩, rfl, .inr ⟨dX0_setBox_42, rfl⟩, rfl, .inr ⟨dX0_setBox_43, rfl⟩, rfl, .inr ⟨dX0_setBox_44, rfl⟩, rfl, .inl ⟨rfl, rfl⟩, trivial⟩
set_option maxRecDepth 100000 in
theorem ck_4_47 : am_cok am_T0 me_4 cd_4_47 47 := ⟨rfl, .inr ⟨dX0_setBox_47, rfl⟩, rfl, .inr ⟨dX0_setBox_48, rfl⟩, rfl, .inr ⟨dX0_setBox_49, rfl⟩, rfl, .inr ⟨dX0_setBox_51, rfl⟩, rfl, .inr ⟨dX0_setBox_52, rfl⟩, rfl, .inr ⟨dX0_setBox_55, rfl⟩, rfl, .inr ⟨dX0_setBox_56, rfl⟩, rfl, .inr ⟨dX0_setBox_57, rfl⟩, rfl, .inr ⟨dX0_setBox_58, rfl⟩, rfl, .inr ⟨dX0_setBox_59, rfl⟩, rfl, .inr ⟨dX0_setBox_62, rfl⟩, rfl, .inr ⟨dX0_setBox_63, rfl⟩, rfl, .inr ⟨dX0_setBox_64, rfl⟩, rfl, .inr ⟨dX0_setBox_65, rfl⟩, rfl, .inr ⟨dX0_setBox_66, rfl⟩, rfl, .inr ⟨dX0_setBox_68, rfl⟩, rfl, .inl ⟨rfl, rfl⟩, trivial⟩
set_option maxRecDepth 100000 in
theorem ck_4_71 : am_cok am_T0 me_4 cd_4_71 71 := ⟨rfl, .inr ⟨dX0_setBox_71, rfl⟩, rfl, .inr ⟨dX0_setBox_72, rfl⟩, rfl, .inr ⟨dX0_setBox_73, rfl⟩, rfl, .inr ⟨dX0_setBox_76, rfl⟩, rfl, .inr ⟨dX0_setBox_77, rfl⟩, rfl, .inr ⟨dX0_setBox_78, rfl⟩, rfl, .inr ⟨dX0_setBox_79, rfl⟩, rfl, .inr ⟨dX0_setBox_80, rfl⟩, rfl, .inr ⟨dX0_setBox_83, rfl⟩, rfl, .inr ⟨dX0_setBox_84, rfl⟩, rfl, .inr ⟨dX0_setBox_85, rfl⟩, rfl, .inr ⟨dX0_setBox_86, rfl⟩, rfl, .inr ⟨dX0_setBox_87, rfl⟩, rfl, .inr ⟨dX0_setBox_89, rfl⟩, rfl, .inl ⟨rfl, rfl⟩, trivial⟩
set_option maxRecDepth 100000 in
theorem ck_4_92 : am_cok am_T0 me_4 cd_4_92 92 := ⟨rfl, .inr ⟨dX0_setBox_92, rfl⟩, rfl, .inr ⟨dX0_setBox_93, rfl⟩, rfl, .inr ⟨dX0_setBox_96, rfl⟩, trivial⟩
set_option maxRecDepth 100000 in
theorem ck_4_99 : am_cok am_T0 me_4 cd_4_99 99 := ⟨rfl, .inr ⟨dX0_setBox_99, rfl⟩, trivial⟩
set_option maxRecDepth 100000 in
theorem ck_4 : ∀ p ∈ bl_4, am_cok am_T0 me_4 p.2 p.1 := List.forall_mem_cons.mpr ⟨ck_4_0, List.forall_mem_cons.mpr ⟨ck_4_2, List.forall_mem_cons.mpr ⟨ck_4_20, List.forall_mem_cons.mpr ⟨ck_4_30, List.forall_mem_cons.mpr ⟨ck_4_37, List.forall_mem_cons.mpr ⟨ck_4_47, List.forall_mem_cons.mpr ⟨ck_4_71, List.forall_mem_cons.mpr ⟨ck_4_92, List.forall_mem_cons.mpr ⟨ck_4_99, fun _ h => absurd h List.not_mem_nil⟩⟩⟩⟩⟩⟩⟩⟩⟩
set_option maxRecDepth 100000 in
theorem ck_5_0 : am_cok am_T0 me_5 cd_5_0 0 := ⟨rfl, .inr ⟨dX0_inSpace_0, rfl⟩, rfl, .inr ⟨dX0_inSpace_1, rfl⟩, rfl, .inr ⟨dX0_inSpace_4, rfl⟩, rfl, .inr ⟨dX0_inSpace_6, rfl⟩, rfl, .inr ⟨dX0_inSpace_7, rfl⟩, rfl, .inr ⟨dX0_inSpace_8, rfl⟩, rfl, .inr ⟨dX0_inSpace_9, rfl⟩, rfl, .inr ⟨dX0_inSpace_10, rfl⟩, rfl, .inr ⟨dX0_inSpace_11, rfl⟩, rfl, .inr ⟨dX0_inSpace_14, rfl⟩, rfl, .inr ⟨dX0_inSpace_15, rfl⟩, rfl, .inr ⟨dX0_inSpace_16, rfl⟩, rfl, .inr ⟨dX0_inSpace_17, rfl⟩, rfl, .inr ⟨dX0_inSpace_18, rfl⟩, rfl, .inr ⟨dX0_inSpace_19, rfl⟩, rfl, .inl ⟨rfl, rfl⟩, trivial⟩
set_option maxRecDepth 100000 in
theorem ck_5_20 : am_cok am_T0 me_5 cd_5_20 20 := ⟨rfl, .inr ⟨dX0_inSpace_20, rfl⟩, rfl, .inr ⟨dX0_inSpace_23, rfl⟩, rfl, .inr ⟨dX0_inSpace_24, rfl⟩, rfl, .inr ⟨dX0_inSpace_25, rfl⟩, rfl, .inr ⟨dX0_inSpace_27, rfl⟩, rfl, .inl ⟨rfl, rfl⟩, trivial⟩
set_option maxRecDepth 100000 in
theorem ck_5_30 : am_cok am_T0 me_5 cd_5_30 30 := ⟨rfl, .inr ⟨dX0_inSpace_30, rfl⟩, rfl, .inr ⟨dX0_inSpace_31, rfl⟩, rfl, .inr ⟨dX0_inSpace_32, rfl⟩, rfl, .inr ⟨dX0_inSpace_34, rfl⟩, rfl, .inr ⟨dX0_inSpace_35, rfl⟩, rfl, .inr ⟨dX0_inSpace_38, rfl⟩, rfl, .inr ⟨dX0_inSpace_39, rfl⟩, rfl, .inr ⟨dX0_inSpace_40, rfl⟩, rfl, .inr ⟨dX0_inSpace_41, rfl⟩, rfl, .inr ⟨dX0_inSpace_42, rfl⟩, rfl, .inr ⟨dX0_inSpace_43, rfl⟩, rfl, .inr ⟨dX0_inSpace_44, rfl⟩, rfl, .inr ⟨dX0_inSpace_47, rfl⟩, rfl, .inr ⟨dX0_inSpace_48, rfl⟩, rfl, .inr ⟨dX0_inSpace_49, rfl⟩, rfl, .inr ⟨dX0_inSpace_51, rfl⟩, rfl, .inl ⟨rfl, rfl⟩, trivial⟩
set_option maxRecDepth 100000 in
theorem ck_5_54 : am_cok am_T0 me_5 cd_5_54 54 := ⟨rfl, .inr ⟨dX0_inSpace_54, rfl⟩, rfl, .inr ⟨dX0_inSpace_55, rfl⟩, rfl, .inr ⟨dX0_inSpace_56, rfl⟩, trivial⟩
set_option maxRecDepth 100000 in
theorem ck_5 : ∀ p ∈ bl_5, am_cok am_T0 me_5 p.2 p.1 := List.forall_mem_cons.mpr ⟨ck_5_0, List.forall_mem_cons.mpr ⟨ck_5_20, List.forall_mem_cons.mpr ⟨ck_5_30, List.forall_mem_cons.mpr ⟨ck_5_54, fun _ h => absurd h List.not_mem_nil⟩⟩⟩⟩
set_option maxRecDepth 100000 in
theorem ck_6_0 : am_cok am_T0 me_6 cd_6_0 0 := ⟨rfl, .inr ⟨dX0_share_0, rfl⟩, rfl, .inr ⟨dX0_share_1, rfl⟩, rfl, .inr ⟨dX0_share_2, rfl⟩, rfl, .inr ⟨dX0_share_3, rfl⟩, rfl, .inr ⟨dX0_share_4, rfl⟩, rfl, .inr ⟨dX0_share_7, rfl⟩, rfl, .inr ⟨dX0_share_8, rfl⟩, trivial⟩
set_option maxRecDepth 100000 in
theorem ck_6_9 : am_cok am_T0 me_6 cd_6_9 9 := ⟨rfl, .inr ⟨dX0_share_9, rfl⟩, rfl, .inr ⟨dX0_share_10, rfl⟩, rfl, .inr ⟨dX0_share_11, rfl⟩, rfl, .inr ⟨dX0_share_12, rfl⟩, rfl, .inr ⟨dX0_share_13, rfl⟩, rfl, .inr ⟨dX0_share_14, rfl⟩, rfl, .inr ⟨dX0_share_17, rfl⟩, rfl, .inr ⟨dX0_share_18, rfl⟩, trivial⟩
set_option maxRecDepth 100000 in
theorem ck_6_21 : am_cok am_T0 me_6 cd_6_21 21 := ⟨rfl, .inr ⟨dX0_share_21, rfl⟩, rfl, .inl ⟨rfl, rfl⟩, trivial⟩
set_option maxRecDepth 100000 in
theorem ck_6_22 : am_cok am_T0 me_6 cd_6_22 22 := ⟨rfl, .inr ⟨dX0_share_22, rfl⟩, trivial⟩
set_option maxRecDepth 100000 in
theorem ck_6 : ∀ p ∈ bl_6, am_cok am_T0 me_6 p.2 p.1 := List.forall_mem_cons.mpr ⟨ck_6_0, List.forall_mem_cons.mpr ⟨ck_6_9, List.forall_mem_cons.mpr ⟨ck_6_21, List.forall_mem_cons.mpr ⟨ck_6_22, fun _ h => absurd h List.not_mem_nil⟩⟩⟩⟩
set_option maxRecDepth 100000 in
theorem ck_7_0 : am_cok am_T0 me_7 cd_7_0 0 := ⟨rfl, .inr ⟨dX0_axisOf_0, rfl⟩, rfl, .inr ⟨dX0_axisOf_1, rfl⟩, rfl, .inr ⟨dX0_axisOf_4, rfl⟩, rfl, .inr ⟨dX0_axisOf_5, rfl⟩, rfl, .inr ⟨dX0_axisOf_6, rfl⟩, trivial⟩
set_option maxRecDepth 100000 in
theorem ck_7_9 : am_cok am_T0 me_7 cd_7_9 9 := ⟨rfl, .inr ⟨dX0_axisOf_9, rfl⟩, rfl, .inl ⟨rfl, rfl⟩, trivial⟩
set_option maxRecDepth 100000 in
theorem ck_7_10 : am_cok am_T0 me_7 cd_7_10 10 := ⟨rfl, .inr ⟨dX0_axisOf_10, rfl⟩, rfl, .inr ⟨dX0_axisOf_11, rfl⟩, rfl, .inr ⟨dX0_axisOf_12, rfl⟩, trivial⟩
set_option maxRecDepth 100000 in
theorem ck_7 : ∀ p ∈ bl_7, am_cok am_T0 me_7 p.2 p.1 := List.forall_mem_cons.mpr ⟨ck_7_0, List.forall_mem_cons.mpr ⟨ck_7_9, List.forall_mem_cons.mpr ⟨ck_7_10, fun _ h => absurd h List.not_mem_nil⟩⟩⟩
set_option maxRecDepth 100000 in
theorem ck_8_0 : am_cok am_T0 me_8 cd_8_0 0 := ⟨rfl, .inr ⟨dX0_awayFrom_0, rfl⟩, rfl, .inr ⟨dX0_awayFrom_1, rfl⟩, rfl, .inl ⟨rfl, rfl⟩, trivial⟩
set_option maxRecDepth 100000 in
theorem ck_8_4 : am_cok am_T0 me_8 cd_8_4 4 := ⟨rfl, .inr ⟨dX0_awayFrom_4, rfl⟩, rfl, .inr ⟨dX0_awayFrom_7, rfl⟩, rfl, .inr ⟨dX0_awayFrom_8, rfl⟩, rfl, .inr ⟨dX0_awayFrom_11, rfl⟩, rfl, .inr ⟨dX0_awayFrom_12, rfl⟩, rfl, .inr ⟨dX0_awayFrom_13, rfl⟩, trivial⟩
set_option maxRecDepth 100000 in
theorem ck_8_16 : am_cok am_T0 me_8 cd_8_16 16 := ⟨rfl, .inr ⟨dX0_awayFrom_16, rfl⟩, rfl, .inr ⟨dX0_awayFrom_17, rfl⟩, rfl, .inr ⟨dX0_awayFrom_20, rfl⟩, rfl, .inr ⟨dX0_awayFrom_21, rfl⟩, rfl, .inl ⟨rfl, rfl⟩, trivial⟩
set_option maxRecDepth 100000 in
theorem ck_8_22 : am_cok am_T0 me_8 cd_8_22 22 := ⟨rfl, .inr ⟨dX0_awayFrom_22, rfl⟩, rfl, .inr ⟨dX0_awayFrom_23, rfl⟩, rfl, .inr ⟨dX0_awayFrom_24, rfl⟩, rfl, .inl ⟨rfl, rfl⟩, trivial⟩
set_option maxRecDepth 100000 in
theorem ck_8_27 : am_cok am_T0 me_8 cd_8_27 27 := ⟨rfl, .inr ⟨dX0_awayFrom_27, rfl⟩, rfl, .inr ⟨dX0_awayFrom_30, rfl⟩, rfl, .inr ⟨dX0_awayFrom_31, rfl⟩, trivial⟩
set_option maxRecDepth 100000 in
theorem ck_8_34 : am_cok am_T0 me_8 cd_8_34 34 := ⟨rfl, .inr ⟨dX0_awayFrom_34, rfl⟩, rfl, .inr ⟨dX0_awayFrom_35, rfl⟩, rfl, .inl ⟨rfl, rfl⟩, trivial⟩
set_option maxRecDepth 100000 in
theorem ck_8_36 : am_cok am_T0 me_8 cd_8_36 36 := ⟨rfl, .inr ⟨dX0_awayFrom_36, rfl⟩, trivial⟩
set_option maxRecDepth 100000 in
theorem ck_8 : ∀ p ∈ bl_8, am_cok am_T0 me_8 p.2 p.1 := List.forall_mem_cons.mpr ⟨ck_8_0, List.forall_mem_cons.mpr ⟨ck_8_4, List.forall_mem_cons.mpr ⟨ck_8_16, List.forall_mem_cons.mpr ⟨ck_8_22, List.forall_mem_cons.mpr ⟨ck_8_27, List.forall_mem_cons.mpr ⟨ck_8_34, List.forall_mem_cons.mpr ⟨ck_8_36, fun _ h => absurd h List.not_mem_nil⟩⟩⟩⟩⟩⟩⟩
set_option maxRecDepth 100000 in
theorem ck_9_0 : am_cok am_T0 me_9 cd_9_0 0 := ⟨rfl, .inr ⟨dX0_axisAlong_0, rfl⟩, rfl, .inr ⟨dX0_axisAlong_1, rfl⟩, rfl, .inl ⟨rfl, rfl⟩, trivial⟩
set_option maxRecDepth 100000 in
theorem ck_9_4 : am_cok am_T0 me_9 cd_9_4 4 := ⟨rfl, .inr ⟨dX0_axisAlong_4, rfl⟩, rfl, .inr ⟨dX0_axisAlong_7, rfl⟩, rfl, .inr ⟨dX0_axisAlong_8, rfl⟩, rfl, .inr ⟨dX0_axisAlong_11, rfl⟩, rfl, .inr ⟨dX0_axisAlong_12, rfl⟩, rfl, .inr ⟨dX0_axisAlong_13, rfl⟩, trivial⟩
set_option maxRecDepth 100000 in
theorem ck_9_16 : am_cok am_T0 me_9 cd_9_16 16 := ⟨rfl, .inr ⟨dX0_axisAlong_16, rfl⟩, rfl, .inr ⟨dX0_axisAlong_17, rfl⟩, rfl, .inr ⟨dX0_axisAlong_20, rfl⟩, rfl, .inr ⟨dX0_axisAlong_21, rfl⟩, rfl, .inl ⟨rfl, rfl⟩, trivial⟩
set_option maxRecDepth 100000 in
theorem ck_9_22 : am_cok am_T0 me_9 cd_9_22 22 := ⟨rfl, .inr ⟨dX0_axisAlong_22, rfl⟩, rfl, .inl ⟨rfl, rfl⟩, trivial⟩
set_option maxRecDepth 100000 in
theorem ck_9_25 : am_cok am_T0 me_9 cd_9_25 25 := ⟨rfl, .inr ⟨dX0_axisAlong_25, rfl⟩, trivial⟩
set_option maxRecDepth 100000 in
theorem ck_9 : ∀ p ∈ bl_9, am_cok am_T0 me_9 p.2 p.1 := List.forall_mem_cons.mpr ⟨ck_9_0, List.forall_mem_cons.mpr ⟨ck_9_4, List.forall_mem_cons.mpr ⟨ck_9_16, List.forall_mem_cons.mpr ⟨ck_9_22, List.forall_mem_cons.mpr ⟨ck_9_25, fun _ h => absurd h List.not_mem_nil⟩⟩⟩⟩⟩
set_option maxRecDepth 100000 in
theorem ck_10_0 : am_cok am_T0 me_10 cd_10_0 0 := ⟨rfl, .inr ⟨dX0_greatestAlong_0, rfl⟩, rfl, .inr ⟨dX0_greatestAlong_1, rfl⟩, rfl, .inl ⟨rfl, rfl⟩, trivial⟩
set_option maxRecDepth 100000 in
theorem ck_10_4 : am_cok am_T0 me_10 cd_10_4 4 := ⟨rfl, .inr ⟨dX0_greatestAlong_4, rfl⟩, rfl, .inr ⟨dX0_greatestAlong_5, rfl⟩, rfl, .inr ⟨dX0_greatestAlong_6, rfl⟩, rfl, .inr ⟨dX0_greatestAlong_9, rfl⟩, rfl, .inr ⟨dX0_greatestAlong_10, rfl⟩, rfl, .inr ⟨dX0_greatestAlong_13, rfl⟩, rfl, .inr ⟨dX0_greatestAlong_14, rfl⟩, rfl, .inr ⟨dX0_greatestAlong_15, rfl⟩, rfl, .inr ⟨dX0_greatestAlong_16, rfl⟩, rfl, .inr ⟨dX0_greatestAlong_17, rfl⟩, trivial⟩
set_option maxRecDepth 100000 in
theorem ck_10_20 : am_cok am_T0 me_10 cd_10_20 20 := ⟨rfl, .inr ⟨dX0_greatestAlong_20, rfl⟩, rfl, .inr ⟨dX0_greatestAlong_21, rfl⟩, rfl, .inr ⟨dX0_greatestAlong_24, rfl⟩, rfl, .inr ⟨dX0_greatestAlong_25, rfl⟩, rfl, .inr ⟨dX0_greatestAlong_26, rfl⟩, rfl, .inr ⟨dX0_greatestAlong_27, rfl⟩, rfl, .inr ⟨dX0_greatestAlong_28, rfl⟩, rfl, .inl ⟨rfl, rfl⟩, trivial⟩
set_option maxRecDepth 100000 in
theorem ck_10_29 : am_cok am_T0 me_10 cd_10_29 29 := ⟨rfl, .inr ⟨dX0_greatestAlong_29, rfl⟩, trivial⟩
set_option maxRecDepth 100000 in
theorem ck_10 : ∀ p ∈ bl_10, am_cok am_T0 me_10 p.2 p.1 := List.forall_mem_cons.mpr ⟨ck_10_0, List.forall_mem_cons.mpr ⟨ck_10_4, List.forall_mem_cons.mpr ⟨ck_10_20, List.forall_mem_cons.mpr ⟨ck_10_29, fun _ h => absurd h List.not_mem_nil⟩⟩⟩⟩
set_option maxRecDepth 100000 in
theorem ck_11_0 : am_cok am_T0 me_11 cd_11_0 0 := ⟨rfl, .inr ⟨dX0_spanAlong_0, rfl⟩, rfl, .inr ⟨dX0_spanAlong_1, rfl⟩, rfl, .inl ⟨rfl, rfl⟩, trivial⟩
set_option maxRecDepth 100000 in
theorem ck_11_4 : am_cok am_T0 me_11 cd_11_4 4 := ⟨rfl, .inr ⟨dX0_spanAlong_4, rfl⟩, rfl, .inr ⟨dX0_spanAlong_5, rfl⟩, rfl, .inr ⟨dX0_spanAlong_6, rfl⟩, rfl, .inr ⟨dX0_spanAlong_9, rfl⟩, rfl, .inr ⟨dX0_spanAlong_10, rfl⟩, rfl, .inr ⟨dX0_spanAlong_11, rfl⟩, rfl, .inr ⟨dX0_spanAlong_12, rfl⟩, rfl, .inr ⟨dX0_spanAlong_13, rfl⟩, rfl, .inr ⟨dX0_spanAlong_14, rfl⟩, rfl, .inr ⟨dX0_spanAlong_17, rfl⟩, rfl, .inr ⟨dX0_spanAlong_18, rfl⟩, rfl, .inr ⟨dX0_spanAlong_19, rfl⟩, rfl, .inr ⟨dX0_spanAlong_20, rfl⟩, rfl, .inr ⟨dX0_spanAlong_21, rfl⟩, rfl, .inr ⟨dX0_spanAlong_22, rfl⟩, trivial⟩
set_option maxRecDepth 100000 in
theorem ck_11 : ∀ p ∈ bl_11, am_cok am_T0 me_11 p.2 p.1 := List.forall_mem_cons.mpr ⟨ck_11_0, List.forall_mem_cons.mpr ⟨ck_11_4, fun _ h => absurd h List.not_mem_nil⟩⟩
set_option maxRecDepth 100000 in
theorem ck_12_0 : am_cok am_T0 me_12 cd_12_0 0 := ⟨rfl, .inr ⟨dX0_isEntered_0, rfl⟩, rfl, .inr ⟨dX0_isEntered_1, rfl⟩, rfl, .inl ⟨rfl, rfl⟩, trivial⟩
set_option maxRecDepth 100000 in
theorem ck_12_2 : am_cok am_T0 me_12 cd_12_2 2 := ⟨rfl, .inr ⟨dX0_isEntered_2, rfl⟩, rfl, .inr ⟨dX0_isEntered_3, rfl⟩, rfl, .inr ⟨dX0_isEntered_4, rfl⟩, rfl, .inr ⟨dX0_isEntered_7, rfl⟩, rfl, .inr ⟨dX0_isEntered_8, rfl⟩, rfl, .inr ⟨dX0_isEntered_11, rfl⟩, rfl, .inr ⟨dX0_isEntered_12, rfl⟩, rfl, .inr ⟨dX0_isEntered_13, rfl⟩, rfl, .inr ⟨dX0_isEntered_14, rfl⟩, rfl, .inr ⟨dX0_isEntered_15, rfl⟩, rfl, .inr ⟨dX0_isEntered_17, rfl⟩, rfl, .inr ⟨dX0_isEntered_18, rfl⟩, rfl, .inr ⟨dX0_isEntered_21, rfl⟩, rfl, .inr ⟨dX0_isEntered_22, rfl⟩, rfl, .inr ⟨dX0_isEntered_23, rfl⟩, rfl, .inr ⟨dX0_isEntered_24, rfl⟩, rfl, .inl ⟨rfl, rfl⟩, trivial⟩
set_option maxRecDepth 100000 in
theorem ck_12_25 : am_cok am_T0 me_12 cd_12_25 25 := ⟨rfl, .inr ⟨dX0_isEntered_25, rfl⟩, rfl, .inr ⟨dX0_isEntered_27, rfl⟩, rfl, .inr ⟨dX0_isEntered_29, rfl⟩, rfl, .inr ⟨dX0_isEntered_31, rfl⟩, rfl, .inr ⟨dX0_isEntered_34, rfl⟩, rfl, .inr ⟨dX0_isEntered_35, rfl⟩, rfl, .inr ⟨dX0_isEntered_38, rfl⟩, rfl, .inr ⟨dX0_isEntered_39, rfl⟩, rfl, .inr ⟨dX0_isEntered_40, rfl⟩, rfl, .inr ⟨dX0_isEntered_41, rfl⟩, rfl, .inr ⟨dX0_isEntered_42, rfl⟩, rfl, .inr ⟨dX0_isEntered_44, rfl⟩, rfl, .inr ⟨dX0_isEntered_47, rfl⟩, rfl, .inr ⟨dX0_isEntered_49, rfl⟩, rfl, .inr ⟨dX0_isEntered_50, rfl⟩, rfl, .inr ⟨dX0_isEntered_53, rfl⟩, rfl, .inr ⟨dX0_isEntered_54, rfl⟩, rfl, .inr ⟨dX0_isEntered_55, rfl⟩, rfl, .inl ⟨rfl, rfl⟩, trivial⟩
set_option maxRecDepth 100000 in
theorem ck_12_56 : am_cok am_T0 me_12 cd_12_56 56 := ⟨rfl, .inr ⟨dX0_isEntered_56, rfl⟩, rfl, .inr ⟨dX0_isEntered_57, rfl⟩, rfl, .inr ⟨dX0_isEntered_60, rfl⟩, rfl, .inr ⟨dX0_isEntered_61, rfl⟩, trivial⟩
set_option maxRecDepth 100000 in
theorem ck_12_64 : am_cok am_T0 me_12 cd_12_64 64 := ⟨rfl, .inr ⟨dX0_isEntered_64, rfl⟩, rfl, .inr ⟨dX0_isEntered_65, rfl⟩, trivial⟩
set_option maxRecDepth 100000 in
theorem ck_12_68 : am_cok am_T0 me_12 cd_12_68 68 := ⟨rfl, .inr ⟨dX0_isEntered_68, rfl⟩, rfl, .inr ⟨dX0_isEntered_69, rfl⟩, rfl, .inr ⟨dX0_isEntered_72, rfl⟩, rfl, .inr ⟨dX0_isEntered_73, rfl⟩, rfl, .inr ⟨dX0_isEntered_74, rfl⟩, rfl, .inr ⟨dX0_isEntered_75, rfl⟩, rfl, .inr ⟨dX0_isEntered_76, rfl⟩, rfl, .inr ⟨dX0_isEntered_78, rfl⟩, rfl, .inr ⟨dX0_isEntered_81, rfl⟩, rfl, .inr ⟨dX0_isEntered_83, rfl⟩, rfl, .inr ⟨dX0_isEntered_84, rfl⟩, rfl, .inr ⟨dX0_isEntered_87, rfl⟩, rfl, .inr ⟨dX0_isEntered_88, rfl⟩, rfl, .inr ⟨dX0_isEntered_89, rfl⟩, rfl, .inr ⟨dX0_isEntered_90, rfl⟩, rfl, .inl ⟨rfl, rfl⟩, trivial⟩
set_option maxRecDepth 100000 in
theorem ck_12_91 : am_cok am_T0 me_12 cd_12_91 91 := ⟨rfl, .inr ⟨dX0_isEntered_91, rfl⟩, rfl, .inr ⟨dX0_isEntered_94, rfl⟩, rfl, .inr ⟨dX0_isEntered_95, rfl⟩, trivial⟩
set_option maxRecDepth 100000 in
theorem ck_12_98 : am_cok am_T0 me_12 cd_12_98 98 := ⟨rfl, .inr ⟨dX0_isEntered_98, rfl⟩, rfl, .inl ⟨rfl, rfl⟩, trivial⟩
set_option maxRecDepth 100000 in
theorem ck_12_99 : am_cok am_T0 me_12 cd_12_99 99 := ⟨rfl, .inr ⟨dX0_isEntered_99, rfl⟩, rfl, .inr ⟨dX0_isEntered_101, rfl⟩, rfl, .inr ⟨dX0_isEntered_103, rfl⟩, rfl, .inr ⟨dX0_isEntered_106, rfl⟩, rfl, .inl ⟨rfl, rfl⟩, trivial⟩
set_option maxRecDepth 100000 in
theorem ck_12_107 : am_cok am_T0 me_12 cd_12_107 107 := ⟨rfl, .inr ⟨dX0_isEntered_107, rfl⟩, trivial⟩
set_option maxRecDepth 100000 in
theorem ck_12_108 : am_cok am_T0 me_12 cd_12_108 108 := ⟨rfl, .inr ⟨dX0_isEntered_108, rfl⟩, rfl, .inr ⟨dX0_isEntered_111, rfl⟩, trivial⟩
set_option maxRecDepth 100000 in
theorem ck_12_114 : am_cok am_T0 me_12 cd_12_114 114 := ⟨rfl, .inr ⟨dX0_isEntered_114, rfl⟩, rfl, .inl ⟨rfl, rfl⟩, trivial⟩
set_option maxRecDepth 100000 in
theorem ck_12_115 : am_cok am_T0 me_12 cd_12_115 115 := ⟨rfl, .inr ⟨dX0_isEntered_115, rfl⟩, trivial⟩
set_option maxRecDepth 100000 in
theorem ck_12 : ∀ p ∈ bl_12, am_cok am_T0 me_12 p.2 p.1 := List.forall_mem_cons.mpr ⟨ck_12_0, List.forall_mem_cons.mpr ⟨ck_12_2, List.forall_mem_cons.mpr ⟨ck_12_25, List.forall_mem_cons.mpr ⟨ck_12_56, List.forall_mem_cons.mpr ⟨ck_12_64, List.forall_mem_cons.mpr ⟨ck_12_68, List.forall_mem_cons.mpr ⟨ck_12_91, List.forall_mem_cons.mpr ⟨ck_12_98, List.forall_mem_cons.mpr ⟨ck_12_99, List.forall_mem_cons.mpr ⟨ck_12_107, List.forall_mem_cons.mpr ⟨ck_12_108, List.forall_mem_cons.mpr ⟨ck_12_114, List.forall_mem_cons.mpr ⟨ck_12_115, fun _ h => absurd h List.not_mem_nil⟩⟩⟩⟩⟩⟩⟩⟩⟩⟩⟩⟩⟩
set_option maxRecDepth 100000 in
theorem ck_13_0 : am_cok am_T0 me_13 cd_13_0 0 := ⟨rfl, .inr ⟨dX0_gaugeEdge_0, rfl⟩, rfl, .inr ⟨dX0_gaugeEdge_1, rfl⟩, rfl, .inr ⟨dX0_gaugeEdge_2, rfl⟩, rfl, .inr ⟨dX0_gaugeEdge_5, rfl⟩, rfl, .inr ⟨dX0_gaugeEdge_6, rfl⟩, rfl, .inr ⟨dX0_gaugeEdge_7, rfl⟩, rfl, .inr ⟨dX0_gaugeEdge_8, rfl⟩, rfl, .inr ⟨dX0_gaugeEdge_11, rfl⟩, rfl, .inr ⟨dX0_gaugeEdge_12, rfl⟩, rfl, .inr ⟨dX0_gaugeEdge_13, rfl⟩, rfl, .inl ⟨rfl, rfl⟩, trivial⟩
set_option maxRecDepth 100000 in
theorem ck_13_16 : am_cok am_T0 me_13 cd_13_16 16 := ⟨rfl, .inr ⟨dX0_gaugeEdge_16, rfl⟩, rfl, .inr ⟨dX0_gaugeEdge_18, rfl⟩, rfl, .inr ⟨dX0_gaugeEdge_19, rfl⟩, rfl, .inl ⟨rfl, rfl⟩, trivial⟩
set_option maxRecDepth 100000 in
theorem ck_13_21 : am_cok am_T0 me_13 cd_13_21 21 := ⟨rfl, .inr ⟨dX0_gaugeEdge_21, rfl⟩, rfl, .inr ⟨dX0_gaugeEdge_23, rfl⟩, rfl, .inr ⟨dX0_gaugeEdge_24, rfl⟩, rfl, .inr ⟨dX0_gaugeEdge_27, rfl⟩, rfl, .inr ⟨dX0_gaugeEdge_30, rfl⟩, rfl, .inr ⟨dX0_gaugeEdge_31, rfl⟩, rfl, .inl ⟨rfl, rfl⟩, trivial⟩
set_option maxRecDepth 100000 in
theorem ck_13_33 : am_cok am_T0 me_13 cd_13_33 33 := ⟨rfl, .inr ⟨dX0_gaugeEdge_33, rfl⟩, rfl, .inr ⟨dX0_gaugeEdge_35, rfl⟩, rfl, .inr ⟨dX0_gaugeEdge_36, rfl⟩, rfl, .inr ⟨dX0_gaugeEdge_39, rfl⟩, rfl, .inr ⟨dX0_gaugeEdge_40, rfl⟩, rfl, .inr ⟨dX0_gaugeEdge_42, rfl⟩, rfl, .inr ⟨dX0_gaugeEdge_44, rfl⟩, rfl, .inl ⟨rfl, rfl⟩, trivial⟩
set_option maxRecDepth 100000 in
theorem ck_13_47 : am_cok am_T0 me_13 cd_13_47 47 := ⟨rfl, .inr ⟨dX0_gaugeEdge_47, rfl⟩, rfl, .inr ⟨dX0_gaugeEdge_50, rfl⟩, rfl, .inr ⟨dX0_gaugeEdge_51, rfl⟩, rfl, .inr ⟨dX0_gaugeEdge_53, rfl⟩, rfl, .inr ⟨dX0_gaugeEdge_55, rfl⟩, rfl, .inl ⟨rfl, rfl⟩, trivial⟩
set_option maxRecDepth 100000 in
theorem ck_13_58 : am_cok am_T0 me_13 cd_13_58 58 := ⟨rfl, .inr ⟨dX0_gaugeEdge_58, rfl⟩, rfl, .inr ⟨dX0_gaugeEdge_59, rfl⟩, rfl, .inr ⟨dX0_gaugeEdge_62, rfl⟩, rfl, .inr ⟨dX0_gaugeEdge_63, rfl⟩, rfl, .inr ⟨dX0_gaugeEdge_65, rfl⟩, rfl, .inr ⟨dX0_gaugeEdge_67, rfl⟩, rfl, .inl ⟨rfl, rfl⟩, trivial⟩
set_option maxRecDepth 100000 in
theorem ck_13_70 : am_cok am_T0 me_13 cd_13_70 70 := ⟨rfl, .inr ⟨dX0_gaugeEdge_70, rfl⟩, rfl, .inr ⟨dX0_gaugeEdge_72, rfl⟩, rfl, .inr ⟨dX0_gaugeEdge_75, rfl⟩, rfl, .inr ⟨dX0_gaugeEdge_76, rfl⟩, rfl, .inr ⟨dX0_gaugeEdge_78, rfl⟩, rfl, .inr ⟨dX0_gaugeEdge_79, rfl⟩, rfl, .inr ⟨dX0_gaugeEdge_81, rfl⟩, rfl, .inr ⟨dX0_gaugeEdge_82, rfl⟩, trivial⟩
set_option maxRecDepth 100000 in
theorem ck_13_83 : am_cok am_T0 me_13 cd_13_83 83 := ⟨rfl, .inr ⟨dX0_gaugeEdge_83, rfl⟩, rfl, .inr ⟨dX0_gaugeEdge_86, rfl⟩, trivial⟩
set_option maxRecDepth 100000 in
theorem ck_13_89 : am_cok am_T0 me_13 cd_13_89 89 := ⟨rfl, .inr ⟨dX0_gaugeEdge_89, rfl⟩, rfl, .inr ⟨dX0_gaugeEdge_92, rfl⟩, trivial⟩
set_option maxRecDepth 100000 in
theorem ck_13_95 : am_cok am_T0 me_13 cd_13_95 95 := ⟨rfl, .inr ⟨dX0_gaugeEdge_95, rfl⟩, rfl, .inr ⟨dX0_gaugeEdge_96, rfl⟩, trivial⟩
set_option maxRecDepth 100000 in
theorem ck_13 : ∀ p ∈ bl_13, am_cok am_T0 me_13 p.2 p.1 := List.forall_mem_cons.mpr ⟨ck_13_0, List.forall_mem_cons.mpr ⟨ck_13_16, List.forall_mem_cons.mpr ⟨ck_13_21, List.forall_mem_cons.mpr ⟨ck_13_33, List.forall_mem_cons.mpr ⟨ck_13_47, List.forall_mem_cons.mpr ⟨ck_13_58, List.forall_mem_cons.mpr ⟨ck_13_70, List.forall_mem_cons.mpr ⟨ck_13_83, List.forall_mem_cons.mpr ⟨ck_13_89, List.forall_mem_cons.mpr ⟨ck_13_95, fun _ h => absurd h List.not_mem_nil⟩⟩⟩⟩⟩⟩⟩⟩⟩⟩
set_option maxRecDepth 100000 in
theorem ck_14_0 : am_cok am_T0 me_14 cd_14_0 0 := ⟨rfl, .inr ⟨dX0_isTrueTo_0, rfl⟩, rfl, .inr ⟨dX0_isTrueTo_1, rfl⟩, rfl, .inl ⟨rfl, rfl⟩, trivial⟩
set_option maxRecDepth 100000 in
theorem ck_14_2 : am_cok am_T0 me_14 cd_14_2 2 := ⟨rfl, .inr ⟨dX0_isTrueTo_2, rfl⟩, rfl, .inr ⟨dX0_isTrueTo_3, rfl⟩, rfl, .inr ⟨dX0_isTrueTo_4, rfl⟩, rfl, .inr ⟨dX0_isTrueTo_7, rfl⟩, rfl, .inr ⟨dX0_isTrueTo_10, rfl⟩, rfl, .inr ⟨dX0_isTrueTo_11, rfl⟩, rfl, .inr ⟨dX0_isTrueTo_12, rfl⟩, rfl, .inr ⟨dX0_isTrueTo_13, rfl⟩, rfl, .inr ⟨dX0_isTrueTo_16, rfl⟩, rfl, .inr ⟨dX0_isTrueTo_17, rfl⟩, rfl, .inr ⟨dX0_isTrueTo_18, rfl⟩, rfl, .inl ⟨rfl, rfl⟩, trivial⟩
set_option maxRecDepth 100000 in
theorem ck_14_21 : am_cok am_T0 me_14 cd_14_21 21 := ⟨rfl, .inr ⟨dX0_isTrueTo_21, rfl⟩, rfl, .inr ⟨dX0_isTrueTo_22, rfl⟩, rfl, .inr ⟨dX0_isTrueTo_23, rfl⟩, rfl, .inl ⟨rfl, rfl⟩, trivial⟩
set_option maxRecDepth 100000 in
theorem ck_14_26 : am_cok am_T0 me_14 cd_14_26 26 := ⟨rfl, .inr ⟨dX0_isTrueTo_26, rfl⟩, rfl, .inr ⟨dX0_isTrueTo_29, rfl⟩, rfl, .inr ⟨dX0_isTrueTo_30, rfl⟩, rfl, .inr ⟨dX0_isTrueTo_31, rfl⟩, rfl, .inr ⟨dX0_isTrueTo_32, rfl⟩, rfl, .inr ⟨dX0_isTrueTo_35, rfl⟩, rfl, .inr ⟨dX0_isTrueTo_36, rfl⟩, rfl, .inr ⟨dX0_isTrueTo_37, rfl⟩, rfl, .inl ⟨rfl, rfl⟩, trivial⟩
set_option maxRecDepth 100000 in
theorem ck_14_40 : am_cok am_T0 me_14 cd_14_40 40 := ⟨rfl, .inr ⟨dX0_isTrueTo_40, rfl⟩, rfl, .inr ⟨dX0_isTrueTo_41, rfl⟩, rfl, .inr ⟨dX0_isTrueTo_42, rfl⟩, rfl, .inl ⟨rfl, rfl⟩, trivial⟩
set_option maxRecDepth 100000 in
theorem ck_14_45 : am_cok am_T0 me_14 cd_14_45 45 := ⟨rfl, .inr ⟨dX0_isTrueTo_45, rfl⟩, rfl, .inr ⟨dX0_isTrueTo_48, rfl⟩, rfl, .inr ⟨dX0_isTrueTo_49, rfl⟩, rfl, .inr ⟨dX0_isTrueTo_50, rfl⟩, rfl, .inr ⟨dX0_isTrueTo_51, rfl⟩, rfl, .inr ⟨dX0_isTrueTo_54, rfl⟩, rfl, .inr ⟨dX0_isTrueTo_55, rfl⟩, rfl, .inr ⟨dX0_isTrueTo_56, rfl⟩, rfl, .inl ⟨rfl, rfl⟩, trivial⟩
set_option maxRecDepth 100000 in
theorem ck_14_59 : am_cok am_T0 me_14 cd_14_59 59 := ⟨rfl, .inr ⟨dX0_isTrueTo_59, rfl⟩, rfl, .inl ⟨rfl, rfl⟩, trivial⟩
set_option maxRecDepth 100000 in
theorem ck_14_62 : am_cok am_T0 me_14 cd_14_62 62 := ⟨rfl, .inr ⟨dX0_isTrueTo_62, rfl⟩, rfl, .inl ⟨rfl, rfl⟩, trivial⟩
set_option maxRecDepth 100000 in
theorem ck_14_63 : am_cok am_T0 me_14 cd_14_63 63 := ⟨rfl, .inr ⟨dX0_isTrueTo_63, rfl⟩, trivial⟩
set_option maxRecDepth 100000 in
theorem ck_14_64 : am_cok am_T0 me_14 cd_14_64 64 := ⟨rfl, .inr ⟨dX0_isTrueTo_64, rfl⟩, rfl, .inr ⟨dX0_isTrueTo_65, rfl⟩, rfl, .inr ⟨dX0_isTrueTo_68, rfl⟩, rfl, .inr ⟨dX0_isTrueTo_69, rfl⟩, rfl, .inr ⟨dX0_isTrueTo_70, rfl⟩, rfl, .inr ⟨dX0_isTrueTo_71, rfl⟩, rfl, .inl ⟨rfl, rfl⟩, trivial⟩
set_option maxRecDepth 100000 in
theorem ck_14_74 : am_cok am_T0 me_14 cd_14_74 74 := ⟨rfl, .inr ⟨dX0_isTrueTo_74, rfl⟩, rfl, .inr ⟨dX0_isTrueTo_77, rfl⟩, rfl, .inl ⟨rfl, rfl⟩, trivial⟩
set_option maxRecDepth 100000 in
theorem ck_14_78 : am_cok am_T0 me_14 cd_14_78 78 := ⟨rfl, .inr ⟨dX0_isTrueTo_78, rfl⟩, trivial⟩
set_option maxRecDepth 100000 in
theorem ck_14_79 : am_cok am_T0 me_14 cd_14_79 79 := ⟨rfl, .inr ⟨dX0_isTrueTo_79, rfl⟩, rfl, .inr ⟨dX0_isTrueTo_82, rfl⟩, trivial⟩
set_option maxRecDepth 100000 in
theorem ck_14_85 : am_cok am_T0 me_14 cd_14_85 85 := ⟨rfl, .inr ⟨dX0_isTrueTo_85, rfl⟩, rfl, .inl ⟨rfl, rfl⟩, trivial⟩
set_option maxRecDepth 100000 in
theorem ck_14_86 : am_cok am_T0 me_14 cd_14_86 86 := ⟨rfl, .inr ⟨dX0_isTrueTo_86, rfl⟩, trivial⟩
set_option maxRecDepth 100000 in
theorem ck_14 : ∀ p ∈ bl_14, am_cok am_T0 me_14 p.2 p.1 := List.forall_mem_cons.mpr ⟨ck_14_0, List.forall_mem_cons.mpr ⟨ck_14_2, List.forall_mem_cons.mpr ⟨ck_14_21, List.forall_mem_cons.mpr ⟨ck_14_26, List.forall_mem_cons.mpr ⟨ck_14_40, List.forall_mem_cons.mpr ⟨ck_14_45, List.forall_mem_cons.mpr ⟨ck_14_59, List.forall_mem_cons.mpr ⟨ck_14_62, List.forall_mem_cons.mpr ⟨ck_14_63, List.forall_mem_cons.mpr ⟨ck_14_64, List.forall_mem_cons.mpr ⟨ck_14_74, List.forall_mem_cons.mpr ⟨ck_14_78, List.forall_mem_cons.mpr ⟨ck_14_79, List.forall_mem_cons.mpr ⟨ck_14_85, List.forall_mem_cons.mpr ⟨ck_14_86, fun _ h => absurd h List.not_mem_nil⟩⟩⟩⟩⟩⟩⟩⟩⟩⟩⟩⟩⟩⟩⟩
set_option maxRecDepth 100000 in
theorem ck_15_0 : am_cok am_T0 me_15 cd_15_0 0 := ⟨rfl, .inr ⟨dX0_isBendShared_0, rfl⟩, rfl, .inr ⟨dX0_isBendShared_1, rfl⟩, rfl, .inr ⟨dX0_isBendShared_4, rfl⟩, rfl, .inr ⟨dX0_isBendShared_5, rfl⟩, rfl, .inr ⟨dX0_isBendShared_6, rfl⟩, rfl, .inr ⟨dX0_isBendShared_7, rfl⟩, rfl, .inr ⟨dX0_isBendShared_8, rfl⟩, rfl, .inr ⟨dX0_isBendShared_11, rfl⟩, rfl, .inr ⟨dX0_isBendShared_12, rfl⟩, rfl, .inr ⟨dX0_isBendShared_13, rfl⟩, rfl, .inl ⟨rfl, rfl⟩, trivial⟩
set_option maxRecDepth 100000 in
theorem ck_15_16 : am_cok am_T0 me_15 cd_15_16 16 := ⟨rfl, .inr ⟨dX0_isBendShared_16, rfl⟩, rfl, .inr ⟨dX0_isBendShared_18, rfl⟩, rfl, .inr ⟨dX0_isBendShared_19, rfl⟩, rfl, .inr ⟨dX0_isBendShared_20, rfl⟩, rfl, .inl ⟨rfl, rfl⟩, trivial⟩
set_option maxRecDepth 100000 in
theorem ck_15_23 : am_cok am_T0 me_15 cd_15_23 23 := ⟨rfl, .inr ⟨dX0_isBendShared_23, rfl⟩, rfl, .inr ⟨dX0_isBendShared_25, rfl⟩, rfl, .inr ⟨dX0_isBendShared_26, rfl⟩, rfl, .inr ⟨dX0_isBendShared_27, rfl⟩, rfl, .inl ⟨rfl, rfl⟩, trivial⟩
set_option maxRecDepth 100000 in
theorem ck_15_30 : am_cok am_T0 me_15 cd_15_30 30 := ⟨rfl, .inr ⟨dX0_isBendShared_30, rfl⟩, rfl, .inr ⟨dX0_isBendShared_32, rfl⟩, rfl, .inr ⟨dX0_isBendShared_34, rfl⟩, rfl, .inr ⟨dX0_isBendShared_37, rfl⟩, rfl, .inr ⟨dX0_isBendShared_39, rfl⟩, trivial⟩
set_option maxRecDepth 100000 in
theorem ck_15_42 : am_cok am_T0 me_15 cd_15_42 42 := ⟨rfl, .inr ⟨dX0_isBendShared_42, rfl⟩, rfl, .inr ⟨dX0_isBendShared_43, rfl⟩, rfl, .inr ⟨dX0_isBendShared_46, rfl⟩, rfl, .inr ⟨dX0_isBendShared_47, rfl⟩, rfl, .inr ⟨dX0_isBendShared_48, rfl⟩, rfl, .inr ⟨dX0_isBendShared_49, rfl⟩, rfl, .inl ⟨rfl, rfl⟩, trivial⟩
set_option maxRecDepth 100000 in
theorem ck_15_50 : am_cok am_T0 me_15 cd_15_50 50 := ⟨rfl, .inr ⟨dX0_isBendShared_50, rfl⟩, rfl, .inr ⟨dX0_isBendShared_52, rfl⟩, rfl, .inr ⟨dX0_isBendShared_54, rfl⟩, rfl, .inr ⟨dX0_isBendShared_57, rfl⟩, rfl, .inr ⟨dX0_isBendShared_58, rfl⟩, rfl, .inr ⟨dX0_isBendShared_61, rfl⟩, rfl, .inr ⟨dX0_isBendShared_62, rfl⟩, rfl, .inr ⟨dX0_isBendShared_63, rfl⟩, rfl, .inr ⟨dX0_isBendShared_64, rfl⟩, rfl, .inr ⟨dX0_isBendShared_65, rfl⟩, trivial⟩
set_option maxRecDepth 100000 in
theorem ck_15_68 : am_cok am_T0 me_15 cd_15_68 68 := ⟨rfl, .inr ⟨dX0_isBendShared_68, rfl⟩, rfl, .inl ⟨rfl, rfl⟩, trivial⟩
set_option maxRecDepth 100000 in
theorem ck_15_70 : am_cok am_T0 me_15 cd_15_70 70 := ⟨rfl, .inr ⟨dX0_isBendShared_70, rfl⟩, rfl, .inr ⟨dX0_isBendShared_72, rfl⟩, rfl, .inr ⟨dX0_isBendShared_73, rfl⟩, rfl, .inl ⟨rfl, rfl⟩, trivial⟩
set_option maxRecDepth 100000 in
theorem ck_15_75 : am_cok am_T0 me_15 cd_15_75 75 := ⟨rfl, .inr ⟨dX0_isBendShared_75, rfl⟩, rfl, .inr ⟨dX0_isBendShared_77, rfl⟩, rfl, .inr ⟨dX0_isBendShared_78, rfl⟩, rfl, .inr ⟨dX0_isBendShared_81, rfl⟩, rfl, .inr ⟨dX0_isBendShared_82, rfl⟩, rfl, .inr ⟨dX0_isBendShared_83, rfl⟩, rfl, .inr ⟨dX0_isBendShared_84, rfl⟩, rfl, .inr ⟨dX0_isBendShared_86, rfl⟩, rfl, .inr ⟨dX0_isBendShared_88, rfl⟩, rfl, .inr ⟨dX0_isBendShared_90, rfl⟩, rfl, .inl ⟨rfl, rfl⟩, trivial⟩
set_option maxRecDepth 100000 in
theorem ck_15_93 : am_cok am_T0 me_15 cd_15_93 93 := ⟨rfl, .inr ⟨dX0_isBendShared_93, rfl⟩, rfl, .inr ⟨dX0_isBendShared_94, rfl⟩, rfl, .inr ⟨dX0_isBendShared_95, rfl⟩, rfl, .inr ⟨dX0_isBendShared_96, rfl⟩, rfl, .inr ⟨dX0_isBendShared_98, rfl⟩, rfl, .inr ⟨dX0_isBendShared_100, rfl⟩, rfl, .inr ⟨dX0_isBendShared_102, rfl⟩, rfl, .inl ⟨rfl, rfl⟩, trivial⟩
set_option maxRecDepth 100000 in
theorem ck_15_105 : am_cok am_T0 me_15 cd_15_105 105 := ⟨rfl, .inr ⟨dX0_isBendShared_105, rfl⟩, rfl, .inr ⟨dX0_isBendShared_108, rfl⟩, rfl, .inr ⟨dX0_isBendShared_109, rfl⟩, rfl, .inr ⟨dX0_isBendShared_110, rfl⟩, rfl, .inr ⟨dX0_isBendShared_111, rfl⟩, rfl, .inr ⟨dX0_isBendShared_113, rfl⟩, rfl, .inr ⟨dX0_isBendShared_115, rfl⟩, rfl, .inr ⟨dX0_isBendShared_117, rfl⟩, rfl, .inl ⟨rfl, rfl⟩, trivial⟩
set_option maxRecDepth 100000 in
theorem ck_15_120 : am_cok am_T0 me_15 cd_15_120 120 := ⟨rfl, .inr ⟨dX0_isBendShared_120, rfl⟩, rfl, .inr ⟨dX0_isBendShared_121, rfl⟩, rfl, .inr ⟨dX0_isBendShared_122, rfl⟩, rfl, .inr ⟨dX0_isBendShared_123, rfl⟩, rfl, .inr ⟨dX0_isBendShared_125, rfl⟩, rfl, .inr ⟨dX0_isBendShared_127, rfl⟩, rfl, .inr ⟨dX0_isBendShared_129, rfl⟩, rfl, .inl ⟨rfl, rfl⟩, trivial⟩
set_option maxRecDepth 100000 in
theorem ck_15_132 : am_cok am_T0 me_15 cd_15_132 132 := ⟨rfl, .inr ⟨dX0_isBendShared_132, rfl⟩, rfl, .inl ⟨rfl, rfl⟩, trivial⟩
set_option maxRecDepth 100000 in
theorem ck_15_135 : am_cok am_T0 me_15 cd_15_135 135 := ⟨rfl, .inr ⟨dX0_isBendShared_135, rfl⟩, rfl, .inl ⟨rfl, rfl⟩, trivial⟩
set_option maxRecDepth 100000 in
theorem ck_15_136 : am_cok am_T0 me_15 cd_15_136 136 := ⟨rfl, .inr ⟨dX0_isBendShared_136, rfl⟩, trivial⟩
set_option maxRecDepth 100000 in
theorem ck_15_137 : am_cok am_T0 me_15 cd_15_137 137 := ⟨rfl, .inr ⟨dX0_isBendShared_137, rfl⟩, rfl, .inr ⟨dX0_isBendShared_140, rfl⟩, trivial⟩
set_option maxRecDepth 100000 in
theorem ck_15_143 : am_cok am_T0 me_15 cd_15_143 143 := ⟨rfl, .inr ⟨dX0_isBendShared_143, rfl⟩, rfl, .inl ⟨rfl, rfl⟩, trivial⟩
set_option maxRecDepth 100000 in
theorem ck_15_144 : am_cok am_T0 me_15 cd_15_144 144 := ⟨rfl, .inr ⟨dX0_isBendShared_144, rfl⟩, trivial⟩
set_option maxRecDepth 100000 in
theorem ck_15 : ∀ p ∈ bl_15, am_cok am_T0 me_15 p.2 p.1 := List.forall_mem_cons.mpr ⟨ck_15_0, List.forall_mem_cons.mpr ⟨ck_15_16, List.forall_mem_cons.mpr ⟨ck_15_23, List.forall_mem_cons.mpr ⟨ck_15_30, List.forall_mem_cons.mpr ⟨ck_15_42, List.forall_mem_cons.mpr ⟨ck_15_50, List.forall_mem_cons.mpr ⟨ck_15_68, List.forall_mem_cons.mpr ⟨ck_15_70, List.forall_mem_cons.mpr ⟨ck_15_75, List.forall_mem_cons.mpr ⟨ck_15_93, List.forall_mem_cons.mpr ⟨ck_15_105, List.forall_mem_cons.mpr ⟨ck_15_120, List.forall_mem_cons.mpr ⟨ck_15_132, List.forall_mem_cons.mpr ⟨ck_15_135, List.forall_mem_cons.mpr ⟨ck_15_136, List.forall_mem_cons.mpr ⟨ck_15_137, List.forall_mem_cons.mpr ⟨ck_15_143, List.forall_mem_cons.mpr ⟨ck_15_144, fun _ h => absurd h List.not_mem_nil⟩⟩⟩⟩⟩⟩⟩⟩⟩⟩⟩⟩⟩⟩⟩⟩⟩⟩
set_option maxRecDepth 100000 in
theorem ck_16_0 : am_cok am_T0 me_16 cd_16_0 0 := ⟨rfl, .inr ⟨dX1_init_0, rfl⟩, rfl, .inr ⟨dX1_init_1, rfl⟩, rfl, .inr ⟨dX1_init_4, rfl⟩, rfl, .inr ⟨dX1_init_5, rfl⟩, rfl, .inr ⟨dX1_init_6, rfl⟩, rfl, .inr ⟨dX1_init_9, rfl⟩, rfl, .inr ⟨dX1_init_10, rfl⟩, rfl, .inr ⟨dX1_init_11, rfl⟩, rfl, .inr ⟨dX1_init_13, rfl⟩, rfl, .inr ⟨dX1_init_17, rfl⟩, rfl, .inr ⟨dX1_init_20, rfl⟩, rfl, .inr ⟨dX1_init_21, rfl⟩, rfl, .inr ⟨dX1_init_23, rfl⟩, rfl, .inr ⟨dX1_init_25, rfl⟩, rfl, .inr ⟨dX1_init_28, rfl⟩, rfl, .inr ⟨dX1_init_29, rfl⟩, rfl, .inr ⟨dX1_init_31, rfl⟩, rfl, .inr ⟨dX1_init_33, rfl⟩, rfl, .inr ⟨dX1_init_36, rfl⟩, trivial⟩
set_option maxRecDepth 100000 in
theorem ck_16 : ∀ p ∈ bl_16, am_cok am_T0 me_16 p.2 p.1 := List.forall_mem_cons.mpr ⟨ck_16_0, fun _ h => absurd h List.not_mem_nil⟩
set_option maxRecDepth 100000 in
theorem ck_17_0 : am_cok am_T0 me_17 cd_17_0 0 := ⟨rfl, .inr ⟨dX1_layOut_0, rfl⟩, rfl, .inr ⟨dX1_layOut_1, rfl⟩, rfl, .inr ⟨dX1_layOut_2, rfl⟩, rfl, .inr ⟨dX1_layOut_5, rfl⟩, rfl, .inr ⟨dX1_layOut_8, rfl⟩, rfl, .inr ⟨dX1_layOut_9, rfl⟩, rfl, .inr ⟨dX1_layOut_10, rfl⟩, rfl, .inr ⟨dX1_layOut_11, rfl⟩, rfl, .inl ⟨rfl, rfl⟩, trivial⟩
set_option maxRecDepth 100000 in
theorem ck_17_14 : am_cok am_T0 me_17 cd_17_14 14 := ⟨rfl, .inr ⟨dX1_layOut_14, rfl⟩, rfl, .inr ⟨dX1_layOut_15, rfl⟩, rfl, .inl ⟨rfl, rfl⟩, trivial⟩
set_option maxRecDepth 100000 in
theorem ck_17_16 : am_cok am_T0 me_17 cd_17_16 16 := ⟨rfl, .inr ⟨dX1_layOut_16, rfl⟩, rfl, .inr ⟨dX1_layOut_17, rfl⟩, rfl, .inr ⟨dX1_layOut_18, rfl⟩, rfl, .inr ⟨dX1_layOut_21, rfl⟩, rfl, .inr ⟨dX1_layOut_24, rfl⟩, rfl, .inr ⟨dX1_layOut_25, rfl⟩, rfl, .inr ⟨dX1_layOut_26, rfl⟩, rfl, .inr ⟨dX1_layOut_27, rfl⟩, rfl, .inr ⟨dX1_layOut_28, rfl⟩, rfl, .inr ⟨dX1_layOut_29, rfl⟩, rfl, .inr ⟨dX1_layOut_30, rfl⟩, rfl, .inl ⟨rfl, rfl⟩, trivial⟩
set_option maxRecDepth 100000 in
theorem ck_17_33 : am_cok am_T0 me_17 cd_17_33 33 := ⟨rfl, .inr ⟨dX1_layOut_33, rfl⟩, rfl, .inr ⟨dX1_layOut_36, rfl⟩, trivial⟩
set_option maxRecDepth 100000 in
theorem ck_17_39 : am_cok am_T0 me_17 cd_17_39 39 := ⟨rfl, .inr ⟨dX1_layOut_39, rfl⟩, rfl, .inr ⟨dX1_layOut_40, rfl⟩, rfl, .inr ⟨dX1_layOut_41, rfl⟩, rfl, .inr ⟨dX1_layOut_42, rfl⟩, rfl, .inl ⟨rfl, rfl⟩, trivial⟩
set_option maxRecDepth 100000 in
theorem ck_17_45 : am_cok am_T0 me_17 cd_17_45 45 := ⟨rfl, .inr ⟨dX1_layOut_45, rfl⟩, rfl, .inr ⟨dX1_layOut_46, rfl⟩, rfl, .inr ⟨dX1_layOut_47, rfl⟩, rfl, .inr ⟨dX1_layOut_48, rfl⟩, rfl, .inl ⟨rfl, rfl⟩, trivial⟩
set_option maxRecDepth 100000 in
theorem ck_17_51 : am_cok am_T0 me_17 cd_17_51 51 := ⟨rfl, .inr ⟨dX1_layOut_51, rfl⟩, trivial⟩
set_option maxRecDepth 100000 in
theorem ck_17 : ∀ p ∈ bl_17, am_cok am_T0 me_17 p.2 p.1 := List.forall_mem_cons.mpr ⟨ck_17_0, List.forall_mem_cons.mpr ⟨ck_17_14, List.forall_mem_cons.mpr ⟨ck_17_16, List.forall_mem_cons.mpr ⟨ck_17_33, List.forall_mem_cons.mpr ⟨ck_17_39, List.forall_mem_cons.mpr ⟨ck_17_45, List.forall_mem_cons.mpr ⟨ck_17_51, fun _ h => absurd h List.not_mem_nil⟩⟩⟩⟩⟩⟩⟩
set_option maxRecDepth 100000 in
theorem ck_18_0 : am_cok am_T0 me_18 cd_18_0 0 := ⟨rfl, .inr ⟨dX1_moveTogether_0, rfl⟩, rfl, .inr ⟨dX1_moveTogether_1, rfl⟩, rfl, .inr ⟨dX1_moveTogether_4, rfl⟩, rfl, .inr ⟨dX1_moveTogether_5, rfl⟩, rfl, .inr ⟨dX1_moveTogether_6, rfl⟩, rfl, .inr ⟨dX1_moveTogether_7, rfl⟩, rfl, .inr ⟨dX1_moveTogether_8, rfl⟩, rfl, .inr ⟨dX1_moveTogether_11, rfl⟩, rfl, .inr ⟨dX1_moveTogether_12, rfl⟩, rfl, .inr ⟨dX1_moveTogether_13, rfl⟩, rfl, .inr ⟨dX1_moveTogether_14, rfl⟩, rfl, .inr ⟨dX1_moveTogether_15, rfl⟩, rfl, .inl ⟨rfl, rfl⟩, trivial⟩
set_option maxRecDepth 100000 in
theorem ck_18_16 : am_cok am_T0 me_18 cd_18_16 16 := ⟨rfl, .inr ⟨dX1_moveTogether_16, rfl⟩, rfl, .inr ⟨dX1_moveTogether_17, rfl⟩, rfl, .inr ⟨dX1_moveTogether_18, rfl⟩, rfl, .inr ⟨dX1_moveTogether_21, rfl⟩, rfl, .inr ⟨dX1_moveTogether_24, rfl⟩, rfl, .inr ⟨dX1_moveTogether_25, rfl⟩, rfl, .inr ⟨dX1_moveTogether_28, rfl⟩, rfl, .inr ⟨dX1_moveTogether_29, rfl⟩, rfl, .inr ⟨dX1_moveTogether_30, rfl⟩, rfl, .inr ⟨dX1_moveTogether_32, rfl⟩, rfl, .inr ⟨dX1_moveTogether_33, rfl⟩, rfl, .inr ⟨dX1_moveTogether_36, rfl⟩, rfl, .inr ⟨dX1_moveTogether_37, rfl⟩, rfl, .inr ⟨dX1_moveTogether_38, rfl⟩, rfl, .inl ⟨rfl, rfl⟩, trivial⟩
set_option maxRecDepth 100000 in
theorem ck_18_41 : am_cok am_T0 me_18 cd_18_41 41 := ⟨rfl, .inr ⟨dX1_moveTogether_41, rfl⟩, rfl, .inr ⟨dX1_moveTogether_44, rfl⟩, rfl, .inr ⟨dX1_moveTogether_45, rfl⟩, rfl, .inr ⟨dX1_moveTogether_46, rfl⟩, trivial⟩
set_option maxRecDepth 100000 in
theorem ck_18_49 : am_cok am_T0 me_18 cd_18_49 49 := ⟨rfl, .inr ⟨dX1_moveTogether_49, rfl⟩, rfl, .inl ⟨rfl, rfl⟩, trivial⟩
set_option maxRecDepth 100000 in
theorem ck_18_50 : am_cok am_T0 me_18 cd_18_50 50 := ⟨rfl, .inr ⟨dX1_moveTogether_50, rfl⟩, rfl, .inr ⟨dX1_moveTogether_52, rfl⟩, rfl, .inr ⟨dX1_moveTogether_53, rfl⟩, rfl, .inr ⟨dX1_moveTogether_56, rfl⟩, rfl, .inr ⟨dX1_moveTogether_57, rfl⟩, rfl, .inr ⟨dX1_moveTogether_58, rfl⟩, rfl, .inl ⟨rfl, rfl⟩, trivial⟩
set_option maxRecDepth 100000 in
theorem ck_18_61 : am_cok am_T0 me_18 cd_18_61 61 := ⟨rfl, .inr ⟨dX1_moveTogether_61, rfl⟩, rfl, .inr ⟨dX1_moveTogether_63, rfl⟩, rfl, .inr ⟨dX1_moveTogether_64, rfl⟩, rfl, .inr ⟨dX1_moveTogether_67, rfl⟩, rfl, .inr ⟨dX1_moveTogether_68, rfl⟩, rfl, .inr ⟨dX1_moveTogether_69, rfl⟩, rfl, .inr ⟨dX1_moveTogether_72, rfl⟩, rfl, .inr ⟨dX1_moveTogether_74, rfl⟩, rfl, .inr ⟨dX1_moveTogether_75, rfl⟩, rfl, .inr ⟨dX1_moveTogether_77, rfl⟩, rfl, .inr ⟨dX1_moveTogether_80, rfl⟩, rfl, .inr ⟨dX1_moveTogether_82, rfl⟩, trivial⟩
set_option maxRecDepth 100000 in
theorem ck_18_85 : am_cok am_T0 me_18 cd_18_85 85 := ⟨rfl, .inr ⟨dX1_moveTogether_85, rfl⟩, rfl, .inl ⟨rfl, rfl⟩, trivial⟩
set_option maxRecDepth 100000 in
theorem ck_18_86 : am_cok am_T0 me_18 cd_18_86 86 := ⟨rfl, .inr ⟨dX1_moveTogether_86, rfl⟩, rfl, .inr ⟨dX1_moveTogether_87, rfl⟩, rfl, .inr ⟨dX1_moveTogether_88, rfl⟩, rfl, .inr ⟨dX1_moveTogether_89, rfl⟩, rfl, .inr ⟨dX1_moveTogether_92, rfl⟩, rfl, .inr ⟨dX1_moveTogether_93, rfl⟩, rfl, .inr ⟨dX1_moveTogether_94, rfl⟩, rfl, .inr ⟨dX1_moveTogether_97, rfl⟩, rfl, .inr ⟨dX1_moveTogether_99, rfl⟩, rfl, .inr ⟨dX1_moveTogether_100, rfl⟩, rfl, .inr ⟨dX1_moveTogether_102, rfl⟩, rfl, .inr ⟨dX1_moveTogether_105, rfl⟩, rfl, .inr ⟨dX1_moveTogether_106, rfl⟩, trivial⟩
set_option maxRecDepth 100000 in
theorem ck_18_109 : am_cok am_T0 me_18 cd_18_109 109 := ⟨rfl, .inr ⟨dX1_moveTogether_109, rfl⟩, rfl, .inl ⟨rfl, rfl⟩, trivial⟩
set_option maxRecDepth 100000 in
theorem ck_18_111 : am_cok am_T0 me_18 cd_18_111 111 := ⟨rfl, .inr ⟨dX1_moveTogether_111, rfl⟩, rfl, .inr ⟨dX1_moveTogether_112, rfl⟩, rfl, .inr ⟨dX1_moveTogether_113, rfl⟩, rfl, .inr ⟨dX1_moveTogether_116, rfl⟩, trivial⟩
set_option maxRecDepth 100000 in
theorem ck_18_119 : am_cok am_T0 me_18 cd_18_119 119 := ⟨rfl, .inr ⟨dX1_moveTogether_119, rfl⟩, trivial⟩
set_option maxRecDepth 100000 in
theorem ck_18 : ∀ p ∈ bl_18, am_cok am_T0 me_18 p.2 p.1 := List.forall_mem_cons.mpr ⟨ck_18_0, List.forall_mem_cons.mpr ⟨ck_18_16, List.forall_mem_cons.mpr ⟨ck_18_41, List.forall_mem_cons.mpr ⟨ck_18_49, List.forall_mem_cons.mpr ⟨ck_18_50, List.forall_mem_cons.mpr ⟨ck_18_61, List.forall_mem_cons.mpr ⟨ck_18_85, List.forall_mem_cons.mpr ⟨ck_18_86, List.forall_mem_cons.mpr ⟨ck_18_109, List.forall_mem_cons.mpr ⟨ck_18_111, List.forall_mem_cons.mpr ⟨ck_18_119, fun _ h => absurd h List.not_mem_nil⟩⟩⟩⟩⟩⟩⟩⟩⟩⟩⟩
set_option maxRecDepth 100000 in
theorem ck_19_0 : am_cok am_T0 me_19 cd_19_0 0 := ⟨rfl, .inr ⟨dX1_takeOff_0, rfl⟩, rfl, .inr ⟨dX1_takeOff_1, rfl⟩, rfl, .inl ⟨rfl, rfl⟩, trivial⟩
set_option maxRecDepth 100000 in
theorem ck_19_3 : am_cok am_T0 me_19 cd_19_3 3 := ⟨rfl, .inr ⟨dX1_takeOff_3, rfl⟩, rfl, .inr ⟨dX1_takeOff_5, rfl⟩, rfl, .inr ⟨dX1_takeOff_6, rfl⟩, rfl, .inr ⟨dX1_takeOff_9, rfl⟩, rfl, .inr ⟨dX1_takeOff_10, rfl⟩, rfl, .inr ⟨dX1_takeOff_11, rfl⟩, rfl, .inr ⟨dX1_takeOff_13, rfl⟩, rfl, .inl ⟨rfl, rfl⟩, trivial⟩
set_option maxRecDepth 100000 in
theorem ck_19_16 : am_cok am_T0 me_19 cd_19_16 16 := ⟨rfl, .inr ⟨dX1_takeOff_16, rfl⟩, rfl, .inr ⟨dX1_takeOff_19, rfl⟩, rfl, .inr ⟨dX1_takeOff_20, rfl⟩, trivial⟩
set_option maxRecDepth 100000 in
theorem ck_19_23 : am_cok am_T0 me_19 cd_19_23 23 := ⟨rfl, .inr ⟨dX1_takeOff_23, rfl⟩, rfl, .inr ⟨dX1_takeOff_25, rfl⟩, rfl, .inl ⟨rfl, rfl⟩, trivial⟩
set_option maxRecDepth 100000 in
theorem ck_19_28 : am_cok am_T0 me_19 cd_19_28 28 := ⟨rfl, .inr ⟨dX1_takeOff_28, rfl⟩, rfl, .inr ⟨dX1_takeOff_31, rfl⟩, rfl, .inr ⟨dX1_takeOff_32, rfl⟩, rfl, .inr ⟨dX1_takeOff_33, rfl⟩, trivial⟩
set_option maxRecDepth 100000 in
theorem ck_19_36 : am_cok am_T0 me_19 cd_19_36 36 := ⟨rfl, .inr ⟨dX1_takeOff_36, rfl⟩, rfl, .inl ⟨rfl, rfl⟩, trivial⟩
set_option maxRecDepth 100000 in
theorem ck_19_37 : am_cok am_T0 me_19 cd_19_37 37 := ⟨rfl, .inr ⟨dX1_takeOff_37, rfl⟩, rfl, .inr ⟨dX1_takeOff_39, rfl⟩, rfl, .inr ⟨dX1_takeOff_41, rfl⟩, rfl, .inl ⟨rfl, rfl⟩, trivial⟩
set_option maxRecDepth 100000 in
theorem ck_19_44 : am_cok am_T0 me_19 cd_19_44 44 := ⟨rfl, .inr ⟨dX1_takeOff_44, rfl⟩, rfl, .inr ⟨dX1_takeOff_47, rfl⟩, rfl, .inr ⟨dX1_takeOff_48, rfl⟩, rfl, .inr ⟨dX1_takeOff_51, rfl⟩, rfl, .inr ⟨dX1_takeOff_52, rfl⟩, rfl, .inr ⟨dX1_takeOff_53, rfl⟩, trivial⟩
set_option maxRecDepth 100000 in
theorem ck_19_56 : am_cok am_T0 me_19 cd_19_56 56 := ⟨rfl, .inr ⟨dX1_takeOff_56, rfl⟩, rfl, .inr ⟨dX1_takeOff_57, rfl⟩, rfl, .inr ⟨dX1_takeOff_60, rfl⟩, rfl, .inr ⟨dX1_takeOff_61, rfl⟩, rfl, .inl ⟨rfl, rfl⟩, trivial⟩
set_option maxRecDepth 100000 in
theorem ck_19_62 : am_cok am_T0 me_19 cd_19_62 62 := ⟨rfl, .inr ⟨dX1_takeOff_62, rfl⟩, rfl, .inr ⟨dX1_takeOff_64, rfl⟩, rfl, .inr ⟨dX1_takeOff_65, rfl⟩, rfl, .inr ⟨dX1_takeOff_68, rfl⟩, rfl, .inr ⟨dX1_takeOff_70, rfl⟩, rfl, .inr ⟨dX1_takeOff_71, rfl⟩, rfl, .inr ⟨dX1_takeOff_72, rfl⟩, rfl, .inr ⟨dX1_takeOff_73, rfl⟩, rfl, .inr ⟨dX1_takeOff_76, rfl⟩, rfl, .inr ⟨dX1_takeOff_78, rfl⟩, rfl, .inr ⟨dX1_takeOff_79, rfl⟩, rfl, .inr ⟨dX1_takeOff_80, rfl⟩, rfl, .inr ⟨dX1_takeOff_81, rfl⟩, rfl, .inr ⟨dX1_takeOff_83, rfl⟩, rfl, .inr ⟨dX1_takeOff_84, rfl⟩, rfl, .inr ⟨dX1_takeOff_86, rfl⟩, rfl, .inr ⟨dX1_takeOff_87, rfl⟩, rfl, .inl ⟨rfl, rfl⟩, trivial⟩
set_option maxRecDepth 100000 in
theorem ck_19_88 : am_cok am_T0 me_19 cd_19_88 88 := ⟨rfl, .inr ⟨dX1_takeOff_88, rfl⟩, rfl, .inr ⟨dX1_takeOff_91, rfl⟩, trivial⟩
set_option maxRecDepth 100000 in
theorem ck_19_94 : am_cok am_T0 me_19 cd_19_94 94 := ⟨rfl, .inr ⟨dX1_takeOff_94, rfl⟩, trivial⟩
set_option maxRecDepth 100000 in
theorem ck_19 : ∀ p ∈ bl_19, am_cok am_T0 me_19 p.2 p.1 := List.forall_mem_cons.mpr ⟨ck_19_0, List.forall_mem_cons.mpr ⟨ck_19_3, List.forall_mem_cons.mpr ⟨ck_19_16, List.forall_mem_cons.mpr ⟨ck_19_23, List.forall_mem_cons.mpr ⟨ck_19_28, List.forall_mem_cons.mpr ⟨ck_19_36, List.forall_mem_cons.mpr ⟨ck_19_37, List.forall_mem_cons.mpr ⟨ck_19_44, List.forall_mem_cons.mpr ⟨ck_19_56, List.forall_mem_cons.mpr ⟨ck_19_62, List.forall_mem_cons.mpr ⟨ck_19_88, List.forall_mem_cons.mpr ⟨ck_19_94, fun _ h => absurd h List.not_mem_nil⟩⟩⟩⟩⟩⟩⟩⟩⟩⟩⟩⟩
set_option maxRecDepth 100000 in
theorem ck_20_0 : am_cok am_T0 me_20 cd_20_0 0 := ⟨rfl, .inr ⟨dX1_beginAtZero_0, rfl⟩, rfl, .inr ⟨dX1_beginAtZero_1, rfl⟩, rfl, .inr ⟨dX1_beginAtZero_4, rfl⟩, rfl, .inr ⟨dX1_beginAtZero_5, rfl⟩, rfl, .inr ⟨dX1_beginAtZero_6, rfl⟩, rfl, .inr ⟨dX1_beginAtZero_7, rfl⟩, rfl, .inr ⟨dX1_beginAtZero_8, rfl⟩, rfl, .inr ⟨dX1_beginAtZero_9, rfl⟩, rfl, .inr ⟨dX1_beginAtZero_10, rfl⟩, rfl, .inl ⟨rfl, rfl⟩, trivial⟩
set_option maxRecDepth 100000 in
theorem ck_20_12 : am_cok am_T0 me_20 cd_20_12 12 := ⟨rfl, .inr ⟨dX1_beginAtZero_12, rfl⟩, rfl, .inr ⟨dX1_beginAtZero_14, rfl⟩, rfl, .inr ⟨dX1_beginAtZero_15, rfl⟩, rfl, .inr ⟨dX1_beginAtZero_18, rfl⟩, rfl, .inr ⟨dX1_beginAtZero_21, rfl⟩, rfl, .inr ⟨dX1_beginAtZero_22, rfl⟩, rfl, .inr ⟨dX1_beginAtZero_23, rfl⟩, rfl, .inr ⟨dX1_beginAtZero_26, rfl⟩, rfl, .inr ⟨dX1_beginAtZero_27, rfl⟩, rfl, .inr ⟨dX1_beginAtZero_28, rfl⟩, rfl, .inr ⟨dX1_beginAtZero_30, rfl⟩, rfl, .inr ⟨dX1_beginAtZero_31, rfl⟩, rfl, .inl ⟨rfl, rfl⟩, trivial⟩
set_option maxRecDepth 100000 in
theorem ck_20_34 : am_cok am_T0 me_20 cd_20_34 34 := ⟨rfl, .inr ⟨dX1_beginAtZero_34, rfl⟩, rfl, .inr ⟨dX1_beginAtZero_35, rfl⟩, rfl, .inr ⟨dX1_beginAtZero_38, rfl⟩, trivial⟩
set_option maxRecDepth 100000 in
theorem ck_20_41 : am_cok am_T0 me_20 cd_20_41 41 := ⟨rfl, .inr ⟨dX1_beginAtZero_41, rfl⟩, rfl, .inr ⟨dX1_beginAtZero_42, rfl⟩, rfl, .inl ⟨rfl, rfl⟩, trivial⟩
set_option maxRecDepth 100000 in
theorem ck_20_44 : am_cok am_T0 me_20 cd_20_44 44 := ⟨rfl, .inr ⟨dX1_beginAtZero_44, rfl⟩, rfl, .inr ⟨dX1_beginAtZero_46, rfl⟩, rfl, .inr ⟨dX1_beginAtZero_47, rfl⟩, rfl, .inr ⟨dX1_beginAtZero_50, rfl⟩, rfl, .inr ⟨dX1_beginAtZero_53, rfl⟩, rfl, .inr ⟨dX1_beginAtZero_54, rfl⟩, rfl, .inr ⟨dX1_beginAtZero_57, rfl⟩, rfl, .inr ⟨dX1_beginAtZero_58, rfl⟩, rfl, .inr ⟨dX1_beginAtZero_59, rfl⟩, rfl, .inr ⟨dX1_beginAtZero_61, rfl⟩, rfl, .inr ⟨dX1_beginAtZero_62, rfl⟩, rfl, .inr ⟨dX1_beginAtZero_63, rfl⟩, rfl, .inr ⟨dX1_beginAtZero_64, rfl⟩, rfl, .inr ⟨dX1_beginAtZero_65, rfl⟩, rfl, .inr ⟨dX1_beginAtZero_66, rfl⟩, rfl, .inr ⟨dX1_beginAtZero_67, rfl⟩, rfl, .inr ⟨dX1_beginAtZero_70, rfl⟩, rfl, .inr ⟨dX1_beginAtZero_71, rfl⟩, rfl, .inl ⟨rfl, rfl⟩, trivial⟩
set_option maxRecDepth 100000 in
theorem ck_20_72 : am_cok am_T0 me_20 cd_20_72 72 := ⟨rfl, .inr ⟨dX1_beginAtZero_72, rfl⟩, rfl, .inr ⟨dX1_beginAtZero_74, rfl⟩, rfl, .inr ⟨dX1_beginAtZero_75, rfl⟩, rfl, .inr ⟨dX1_beginAtZero_76, rfl⟩, rfl, .inr ⟨dX1_beginAtZero_77, rfl⟩, rfl, .inr ⟨dX1_beginAtZero_78, rfl⟩, rfl, .inr ⟨dX1_beginAtZero_79, rfl⟩, rfl, .inr ⟨dX1_beginAtZero_82, rfl⟩, trivial⟩
set_option maxRecDepth 100000 in
theorem ck_20_85 : am_cok am_T0 me_20 cd_20_85 85 := ⟨rfl, .inr ⟨dX1_beginAtZero_85, rfl⟩, trivial⟩
set_option maxRecDepth 100000 in
theorem ck_20 : ∀ p ∈ bl_20, am_cok am_T0 me_20 p.2 p.1 := List.forall_mem_cons.mpr ⟨ck_20_0, List.forall_mem_cons.mpr ⟨ck_20_12, List.forall_mem_cons.mpr ⟨ck_20_34, List.forall_mem_cons.mpr ⟨ck_20_41, List.forall_mem_cons.mpr ⟨ck_20_44, List.forall_mem_cons.mpr ⟨ck_20_72, List.forall_mem_cons.mpr ⟨ck_20_85, fun _ h => absurd h List.not_mem_nil⟩⟩⟩⟩⟩⟩⟩
set_option maxRecDepth 100000 in
theorem ck_21_0 : am_cok am_T0 me_21 cd_21_0 0 := ⟨rfl, .inr ⟨dX1_greatestOf_0, rfl⟩, rfl, .inr ⟨dX1_greatestOf_1, rfl⟩, rfl, .inr ⟨dX1_greatestOf_4, rfl⟩, rfl, .inr ⟨dX1_greatestOf_5, rfl⟩, rfl, .inr ⟨dX1_greatestOf_6, rfl⟩, rfl, .inr ⟨dX1_greatestOf_7, rfl⟩, rfl, .inr ⟨dX1_greatestOf_8, rfl⟩, rfl, .inr ⟨dX1_greatestOf_9, rfl⟩, rfl, .inr ⟨dX1_greatestOf_10, rfl⟩, rfl, .inl ⟨rfl, rfl⟩, trivial⟩
set_option maxRecDepth 100000 in
theorem ck_21_11 : am_cok am_T0 me_21 cd_21_11 11 := ⟨rfl, .inr ⟨dX1_greatestOf_11, rfl⟩, rfl, .inr ⟨dX1_greatestOf_12, rfl⟩, rfl, .inr ⟨dX1_greatestOf_13, rfl⟩, rfl, .inr ⟨dX1_greatestOf_16, rfl⟩, rfl, .inr ⟨dX1_greatestOf_19, rfl⟩, rfl, .inr ⟨dX1_greatestOf_20, rfl⟩, rfl, .inr ⟨dX1_greatestOf_21, rfl⟩, rfl, .inr ⟨dX1_greatestOf_24, rfl⟩, rfl, .inr ⟨dX1_greatestOf_25, rfl⟩, rfl, .inr ⟨dX1_greatestOf_26, rfl⟩, rfl, .inr ⟨dX1_greatestOf_27, rfl⟩, rfl, .inr ⟨dX1_greatestOf_28, rfl⟩, rfl, .inl ⟨rfl, rfl⟩, trivial⟩
set_option maxRecDepth 100000 in
theorem ck_21_31 : am_cok am_T0 me_21 cd_21_31 31 := ⟨rfl, .inr ⟨dX1_greatestOf_31, rfl⟩, rfl, .inr ⟨dX1_greatestOf_32, rfl⟩, rfl, .inr ⟨dX1_greatestOf_35, rfl⟩, trivial⟩
set_option maxRecDepth 100000 in
theorem ck_21_38 : am_cok am_T0 me_21 cd_21_38 38 := ⟨rfl, .inr ⟨dX1_greatestOf_38, rfl⟩, rfl, .inr ⟨dX1_greatestOf_39, rfl⟩, trivial⟩
set_option maxRecDepth 100000 in
theorem ck_21 : ∀ p ∈ bl_21, am_cok am_T0 me_21 p.2 p.1 := List.forall_mem_cons.mpr ⟨ck_21_0, List.forall_mem_cons.mpr ⟨ck_21_11, List.forall_mem_cons.mpr ⟨ck_21_31, List.forall_mem_cons.mpr ⟨ck_21_38, fun _ h => absurd h List.not_mem_nil⟩⟩⟩⟩
set_option maxRecDepth 100000 in
theorem ck_22_0 : am_cok am_T0 me_22 cd_22_0 0 := ⟨rfl, .inr ⟨dX1_firstWithoutInside_0, rfl⟩, rfl, .inr ⟨dX1_firstWithoutInside_1, rfl⟩, rfl, .inl ⟨rfl, rfl⟩, trivial⟩
set_option maxRecDepth 100000 in
theorem ck_22_2 : am_cok am_T0 me_22 cd_22_2 2 := ⟨rfl, .inr ⟨dX1_firstWithoutInside_2, rfl⟩, rfl, .inr ⟨dX1_firstWithoutInside_3, rfl⟩, rfl, .inr ⟨dX1_firstWithoutInside_4, rfl⟩, rfl, .inr ⟨dX1_firstWithoutInside_7, rfl⟩, rfl, .inr ⟨dX1_firstWithoutInside_10, rfl⟩, rfl, .inr ⟨dX1_firstWithoutInside_11, rfl⟩, rfl, .inr ⟨dX1_firstWithoutInside_14, rfl⟩, rfl, .inr ⟨dX1_firstWithoutInside_15, rfl⟩, rfl, .inr ⟨dX1_firstWithoutInside_16, rfl⟩, rfl, .inr ⟨dX1_firstWithoutInside_17, rfl⟩, rfl, .inr ⟨dX1_firstWithoutInside_18, rfl⟩, rfl, .inr ⟨dX1_firstWithoutInside_19, rfl⟩, rfl, .inr ⟨dX1_firstWithoutInside_22, rfl⟩, rfl, .inr ⟨dX1_firstWithoutInside_23, rfl⟩, rfl, .inr ⟨dX1_firstWithoutInside_24, rfl⟩, rfl, .inr ⟨dX1_firstWithoutInside_25, rfl⟩, rfl, .inl ⟨rfl, rfl⟩, trivial⟩
set_option maxRecDepth 100000 in
theorem ck_22_26 : am_cok am_T0 me_22 cd_22_26 26 := ⟨rfl, .inr ⟨dX1_firstWithoutInside_26, rfl⟩, rfl, .inr ⟨dX1_firstWithoutInside_29, rfl⟩, rfl, .inr ⟨dX1_firstWithoutInside_30, rfl⟩, rfl, .inr ⟨dX1_firstWithoutInside_33, rfl⟩, rfl, .inr ⟨dX1_firstWithoutInside_34, rfl⟩, rfl, .inr ⟨dX1_firstWithoutInside_35, rfl⟩, rfl, .inr ⟨dX1_firstWithoutInside_36, rfl⟩, rfl, .inr ⟨dX1_firstWithoutInside_37, rfl⟩, rfl, .inr ⟨dX1_firstWithoutInside_38, rfl⟩, rfl, .inr ⟨dX1_firstWithoutInside_41, rfl⟩, rfl, .inr ⟨dX1_firstWithoutInside_42, rfl⟩, rfl, .inr ⟨dX1_firstWithoutInside_43, rfl⟩, rfl, .inr ⟨dX1_firstWithoutInside_44, rfl⟩, rfl, .inr ⟨dX1_firstWithoutInside_45, rfl⟩, rfl, .inl ⟨rfl, rfl⟩, trivial⟩
set_option maxRecDepth 100000 in
theorem ck_22_48 : am_cok am_T0 me_22 cd_22_48 48 := ⟨rfl, .inr ⟨dX1_firstWithoutInside_48, rfl⟩, rfl, .inr ⟨dX1_firstWithoutInside_49, rfl⟩, trivial⟩
set_option maxRecDepth 100000 in
theorem ck_22_50 : am_cok am_T0 me_22 cd_22_50 50 := ⟨rfl, .inr ⟨dX1_firstWithoutInside_50, rfl⟩, rfl, .inr ⟨dX1_firstWithoutInside_53, rfl⟩, trivial⟩
set_option maxRecDepth 100000 in
theorem ck_22_56 : am_cok am_T0 me_22 cd_22_56 56 := ⟨rfl, .inr ⟨dX1_firstWithoutInside_56, rfl⟩, rfl, .inr ⟨dX1_firstWithoutInside_57, rfl⟩, trivial⟩
set_option maxRecDepth 100000 in
theorem ck_22 : ∀ p ∈ bl_22, am_cok am_T0 me_22 p.2 p.1 := List.forall_mem_cons.mpr ⟨ck_22_0, List.forall_mem_cons.mpr ⟨ck_22_2, List.forall_mem_cons.mpr ⟨ck_22_26, List.forall_mem_cons.mpr ⟨ck_22_48, List.forall_mem_cons.mpr ⟨ck_22_50, List.forall_mem_cons.mpr ⟨ck_22_56, fun _ h => absurd h List.not_mem_nil⟩⟩⟩⟩⟩⟩
set_option maxRecDepth 100000 in
theorem ck_23_0 : am_cok am_T0 me_23 cd_23_0 0 := ⟨rfl, .inr ⟨dX1_firstOverlap_0, rfl⟩, rfl, .inr ⟨dX1_firstOverlap_1, rfl⟩, rfl, .inr ⟨dX1_firstOverlap_2, rfl⟩, rfl, .inr ⟨dX1_firstOverlap_3, rfl⟩, rfl, .inl ⟨rfl, rfl⟩, trivial⟩
set_option maxRecDepth 100000 in
theorem ck_23_4 : am_cok am_T0 me_23 cd_23_4 4 := ⟨rfl, .inr ⟨dX1_firstOverlap_4, rfl⟩, rfl, .inr ⟨dX1_firstOverlap_5, rfl⟩, rfl, .inr ⟨dX1_firstOverlap_6, rfl⟩, rfl, .inr ⟨dX1_firstOverlap_9, rfl⟩, rfl, .inr ⟨dX1_firstOverlap_12, rfl⟩, rfl, .inr ⟨dX1_firstOverlap_13, rfl⟩, rfl, .inr ⟨dX1_firstOverlap_16, rfl⟩, rfl, .inr ⟨dX1_firstOverlap_17, rfl⟩, rfl, .inr ⟨dX1_firstOverlap_18, rfl⟩, rfl, .inr ⟨dX1_firstOverlap_19, rfl⟩, rfl, .inr ⟨dX1_firstOverlap_20, rfl⟩, rfl, .inr ⟨dX1_firstOverlap_21, rfl⟩, rfl, .inr ⟨dX1_firstOverlap_24, rfl⟩, rfl, .inr ⟨dX1_firstOverlap_25, rfl⟩, rfl, .inr ⟨dX1_firstOverlap_26, rfl⟩, rfl, .inr ⟨dX1_firstOverlap_27, rfl⟩, rfl, .inl ⟨rfl, rfl⟩, trivial⟩
set_option maxRecDepth 100000 in
theorem ck_23_28 : am_cok am_T0 me_23 cd_23_28 28 := ⟨rfl, .inr ⟨dX1_firstOverlap_28, rfl⟩, rfl, .inr ⟨dX1_firstOverlap_31, rfl⟩, rfl, .inr ⟨dX1_firstOverlap_32, rfl⟩, rfl, .inr ⟨dX1_firstOverlap_35, rfl⟩, rfl, .inr ⟨dX1_firstOverlap_36, rfl⟩, rfl, .inr ⟨dX1_firstOverlap_37, rfl⟩, rfl, .inr ⟨dX1_firstOverlap_38, rfl⟩, rfl, .inr ⟨dX1_firstOverlap_39, rfl⟩, rfl, .inr ⟨dX1_firstOverlap_40, rfl⟩, rfl, .inr ⟨dX1_firstOverlap_43, rfl⟩, rfl, .inr ⟨dX1_firstOverlap_44, rfl⟩, rfl, .inr ⟨dX1_firstOverlap_45, rfl⟩, rfl, .inr ⟨dX1_firstOverlap_46, rfl⟩, rfl, .inr ⟨dX1_firstOverlap_47, rfl⟩, rfl, .inr ⟨dX1_firstOverlap_50, rfl⟩, rfl, .inl ⟨rfl, rfl⟩, trivial⟩
set_option maxRecDepth 100000 in
theorem ck_23_51 : am_cok am_T0 me_23 cd_23_51 51 := ⟨rfl, .inr ⟨dX1_firstOverlap_51, rfl⟩, rfl, .inr ⟨dX1_firstOverlap_54, rfl⟩, rfl, .inr ⟨dX1_firstOverlap_55, rfl⟩, rfl, .inr ⟨dX1_firstOverlap_56, rfl⟩, rfl, .inr ⟨dX1_firstOverlap_57, rfl⟩, rfl, .inr ⟨dX1_firstOverlap_58, rfl⟩, rfl, .inr ⟨dX1_firstOverlap_59, rfl⟩, rfl, .inr ⟨dX1_firstOverlap_62, rfl⟩, rfl, .inr ⟨dX1_firstOverlap_63, rfl⟩, rfl, .inr ⟨dX1_firstOverlap_64, rfl⟩, rfl, .inr ⟨dX1_firstOverlap_65, rfl⟩, rfl, .inr ⟨dX1_firstOverlap_66, rfl⟩, rfl, .inr ⟨dX1_firstOverlap_69, rfl⟩, rfl, .inr ⟨dX1_firstOverlap_70, rfl⟩, rfl, .inr ⟨dX1_firstOverlap_73, rfl⟩, rfl, .inl ⟨rfl, rfl⟩, trivial⟩
set_option maxRecDepth 100000 in
theorem ck_23_74 : am_cok am_T0 me_23 cd_23_74 74 := ⟨rfl, .inr ⟨dX1_firstOverlap_74, rfl⟩, rfl, .inr ⟨dX1_firstOverlap_75, rfl⟩, rfl, .inr ⟨dX1_firstOverlap_76, rfl⟩, rfl, .inr ⟨dX1_firstOverlap_77, rfl⟩, rfl, .inr ⟨dX1_firstOverlap_78, rfl⟩, rfl, .inr ⟨dX1_firstOverlap_81, rfl⟩, rfl, .inr ⟨dX1_firstOverlap_82, rfl⟩, rfl, .inr ⟨dX1_firstOverlap_83, rfl⟩, rfl, .inr ⟨dX1_firstOverlap_84, rfl⟩, rfl, .inr ⟨dX1_firstOverlap_85, rfl⟩, rfl, .inr ⟨dX1_firstOverlap_88, rfl⟩, rfl, .inr ⟨dX1_firstOverlap_89, rfl⟩, trivial⟩
set_option maxRecDepth 100000 in
theorem ck_23_90 : am_cok am_T0 me_23 cd_23_90 90 := ⟨rfl, .inr ⟨dX1_firstOverlap_90, rfl⟩, rfl, .inr ⟨dX1_firstOverlap_93, rfl⟩, trivial⟩
set_option maxRecDepth 100000 in
theorem ck_23_96 : am_cok am_T0 me_23 cd_23_96 96 := ⟨rfl, .inr ⟨dX1_firstOverlap_96, rfl⟩, rfl, .inr ⟨dX1_firstOverlap_97, rfl⟩, trivial⟩
set_option maxRecDepth 100000 in
theorem ck_23 : ∀ p ∈ bl_23, am_cok am_T0 me_23 p.2 p.1 := List.forall_mem_cons.mpr ⟨ck_23_0, List.forall_mem_cons.mpr ⟨ck_23_4, List.forall_mem_cons.mpr ⟨ck_23_28, List.forall_mem_cons.mpr ⟨ck_23_51, List.forall_mem_cons.mpr ⟨ck_23_74, List.forall_mem_cons.mpr ⟨ck_23_90, List.forall_mem_cons.mpr ⟨ck_23_96, fun _ h => absurd h List.not_mem_nil⟩⟩⟩⟩⟩⟩⟩
set_option maxRecDepth 100000 in
theorem ck_24_0 : am_cok am_T0 me_24 cd_24_0 0 := ⟨rfl, .inr ⟨dX2_init_0, rfl⟩, rfl, .inr ⟨dX2_init_1, rfl⟩, rfl, .inr ⟨dX2_init_4, rfl⟩, rfl, .inr ⟨dX2_init_5, rfl⟩, rfl, .inr ⟨dX2_init_6, rfl⟩, rfl, .inr ⟨dX2_init_9, rfl⟩, rfl, .inr ⟨dX2_init_10, rfl⟩, rfl, .inr ⟨dX2_init_12, rfl⟩, rfl, .inr ⟨dX2_init_14, rfl⟩, rfl, .inr ⟨dX2_init_17, rfl⟩, rfl, .inr ⟨dX2_init_18, rfl⟩, rfl, .inr ⟨dX2_init_20, rfl⟩, rfl, .inr ⟨dX2_init_22, rfl⟩, rfl, .inr ⟨dX2_init_25, rfl⟩, rfl, .inr ⟨dX2_init_26, rfl⟩, rfl, .inr ⟨dX2_init_28, rfl⟩, rfl, .inr ⟨dX2_init_30, rfl⟩, rfl, .inr ⟨dX2_init_33, rfl⟩, rfl, .inr ⟨dX2_init_34, rfl⟩, rfl, .inr ⟨dX2_init_36, rfl⟩, rfl, .inr ⟨dX2_init_38, rfl⟩, rfl, .inr ⟨dX2_init_41, rfl⟩, rfl, .inr ⟨dX2_init_42, rfl⟩, rfl, .inr ⟨dX2_init_43, rfl⟩, rfl, .inr ⟨dX2_init_45, rfl⟩, rfl, .inr ⟨dX2_init_49, rfl⟩, rfl, .inr ⟨dX2_init_52, rfl⟩, trivial⟩
set_option maxRecDepth 100000 in
theorem ck_24 : ∀ p ∈ bl_24, am_cok am_T0 me_24 p.2 p.1 := List.forall_mem_cons.mpr ⟨ck_24_0, fun _ h => absurd h List.not_mem_nil⟩
set_option maxRecDepth 100000 in
theorem ck_25_0 : am_cok am_T0 me_25 cd_25_0 0 := ⟨rfl, .inr ⟨dX2_startAnew_0, rfl⟩, rfl, .inr ⟨dX2_startAnew_1, rfl⟩, rfl, .inr ⟨dX2_startAnew_2, rfl⟩, rfl, .inr ⟨dX2_startAnew_5, rfl⟩, rfl, .inr ⟨dX2_startAnew_6, rfl⟩, rfl, .inr ⟨dX2_startAnew_9, rfl⟩, rfl, .inr ⟨dX2_startAnew_10, rfl⟩, rfl, .inr ⟨dX2_startAnew_11, rfl⟩, rfl, .inr ⟨dX2_startAnew_12, rfl⟩, rfl, .inr ⟨dX2_startAnew_13, rfl⟩, rfl, .inr ⟨dX2_startAnew_16, rfl⟩, rfl, .inr ⟨dX2_startAnew_17, rfl⟩, rfl, .inr ⟨dX2_startAnew_18, rfl⟩, rfl, .inr ⟨dX2_startAnew_19, rfl⟩, rfl, .inr ⟨dX2_startAnew_20, rfl⟩, rfl, .inr ⟨dX2_startAnew_23, rfl⟩, rfl, .inr ⟨dX2_startAnew_24, rfl⟩, rfl, .inr ⟨dX2_startAnew_25, rfl⟩, rfl, .inl ⟨rfl, rfl⟩, trivial⟩
set_option maxRecDepth 100000 in
theorem ck_25_26 : am_cok am_T0 me_25 cd_25_26 26 := ⟨rfl, .inr ⟨dX2_startAnew_26, rfl⟩, rfl, .inr ⟨dX2_startAnew_27, rfl⟩, rfl, .inr ⟨dX2_startAnew_30, rfl⟩, rfl, .inr ⟨dX2_startAnew_31, rfl⟩, rfl, .inr ⟨dX2_startAnew_32, rfl⟩, rfl, .inr ⟨dX2_startAnew_33, rfl⟩, rfl, .inr ⟨dX2_startAnew_34, rfl⟩, rfl, .inr ⟨dX2_startAnew_37, rfl⟩, rfl, .inr ⟨dX2_startAnew_38, rfl⟩, rfl, .inr ⟨dX2_startAnew_39, rfl⟩, rfl, .inr ⟨dX2_startAnew_40, rfl⟩, rfl, .inr ⟨dX2_startAnew_41, rfl⟩, rfl, .inr ⟨dX2_startAnew_42, rfl⟩, rfl, .inr ⟨dX2_startAnew_43, rfl⟩, rfl, .inr ⟨dX2_startAnew_46, rfl⟩, rfl, .inr ⟨dX2_startAnew_47, rfl⟩, rfl, .inl ⟨rfl, rfl⟩, trivial⟩
set_option maxRecDepth 100000 in
theorem ck_25_48 : am_cok am_T0 me_25 cd_25_48 48 := ⟨rfl, .inr ⟨dX2_startAnew_48, rfl⟩, rfl, .inr ⟨dX2_startAnew_49, rfl⟩, rfl, .inr ⟨dX2_startAnew_50, rfl⟩, rfl, .inr ⟨dX2_startAnew_51, rfl⟩, rfl, .inr ⟨dX2_startAnew_52, rfl⟩, rfl, .inr ⟨dX2_startAnew_55, rfl⟩, rfl, .inr ⟨dX2_startAnew_56, rfl⟩, rfl, .inr ⟨dX2_startAnew_57, rfl⟩, rfl, .inr ⟨dX2_startAnew_58, rfl⟩, rfl, .inr ⟨dX2_startAnew_59, rfl⟩, rfl, .inr ⟨dX2_startAnew_60, rfl⟩, rfl, .inr ⟨dX2_startAnew_61, rfl⟩, rfl, .inr ⟨dX2_startAnew_64, rfl⟩, rfl, .inr ⟨dX2_startAnew_65, rfl⟩, rfl, .inr ⟨dX2_startAnew_66, rfl⟩, rfl, .inl ⟨rfl, rfl⟩, trivial⟩
set_option maxRecDepth 100000 in
theorem ck_25_67 : am_cok am_T0 me_25 cd_25_67 67 := ⟨rfl, .inr ⟨dX2_startAnew_67, rfl⟩, rfl, .inr ⟨dX2_startAnew_68, rfl⟩, rfl, .inr ⟨dX2_startAnew_69, rfl⟩, trivial⟩
set_option maxRecDepth 100000 in
theorem ck_25 : ∀ p ∈ bl_25, am_cok am_T0 me_25 p.2 p.1 := List.forall_mem_cons.mpr ⟨ck_25_0, List.forall_mem_cons.mpr ⟨ck_25_26, List.forall_mem_cons.mpr ⟨ck_25_48, List.forall_mem_cons.mpr ⟨ck_25_67, fun _ h => absurd h List.not_mem_nil⟩⟩⟩⟩
set_option maxRecDepth 100000 in
theorem ck_26_0 : am_cok am_T0 me_26 cd_26_0 0 := ⟨rfl, .inr ⟨dX2_hasPanel_0, rfl⟩, rfl, .inr ⟨dX2_hasPanel_1, rfl⟩, rfl, .inr ⟨dX2_hasPanel_4, rfl⟩, rfl, .inr ⟨dX2_hasPanel_5, rfl⟩, rfl, .inr ⟨dX2_hasPanel_6, rfl⟩, rfl, .inr ⟨dX2_hasPanel_9, rfl⟩, rfl, .inr ⟨dX2_hasPanel_12, rfl⟩, rfl, .inr ⟨dX2_hasPanel_13, rfl⟩, trivial⟩
set_option maxRecDepth 100000 in
theorem ck_26_16 : am_cok am_T0 me_26 cd_26_16 16 := ⟨rfl, .inr ⟨dX2_hasPanel_16, rfl⟩, rfl, .inl ⟨rfl, rfl⟩, trivial⟩
set_option maxRecDepth 100000 in
theorem ck_26_17 : am_cok am_T0 me_26 cd_26_17 17 := ⟨rfl, .inr ⟨dX2_hasPanel_17, rfl⟩, trivial⟩
set_option maxRecDepth 100000 in
theorem ck_26 : ∀ p ∈ bl_26, am_cok am_T0 me_26 p.2 p.1 := List.forall_mem_cons.mpr ⟨ck_26_0, List.forall_mem_cons.mpr ⟨ck_26_16, List.forall_mem_cons.mpr ⟨ck_26_17, fun _ h => absurd h List.not_mem_nil⟩⟩⟩
set_option maxRecDepth 100000 in
theorem ck_27_0 : am_cok am_T0 me_27 cd_27_0 0 := ⟨rfl, .inr ⟨dX2_hasBend_0, rfl⟩, rfl, .inr ⟨dX2_hasBend_1, rfl⟩, rfl, .inr ⟨dX2_hasBend_2, rfl⟩, rfl, .inr ⟨dX2_hasBend_5, rfl⟩, rfl, .inr ⟨dX2_hasBend_6, rfl⟩, rfl, .inr ⟨dX2_hasBend_7, rfl⟩, rfl, .inr ⟨dX2_hasBend_10, rfl⟩, rfl, .inr ⟨dX2_hasBend_13, rfl⟩, rfl, .inr ⟨dX2_hasBend_14, rfl⟩, trivial⟩
set_option maxRecDepth 100000 in
theorem ck_27_17 : am_cok am_T0 me_27 cd_27_17 17 := ⟨rfl, .inr ⟨dX2_hasBend_17, rfl⟩, rfl, .inl ⟨rfl, rfl⟩, trivial⟩
set_option maxRecDepth 100000 in
theorem ck_27_18 : am_cok am_T0 me_27 cd_27_18 18 := ⟨rfl, .inr ⟨dX2_hasBend_18, rfl⟩, trivial⟩
set_option maxRecDepth 100000 in
theorem ck_27 : ∀ p ∈ bl_27, am_cok am_T0 me_27 p.2 p.1 := List.forall_mem_cons.mpr ⟨ck_27_0, List.forall_mem_cons.mpr ⟨ck_27_17, List.forall_mem_cons.mpr ⟨ck_27_18, fun _ h => absurd h List.not_mem_nil⟩⟩⟩
set_option maxRecDepth 100000 in
theorem ck_28_0 : am_cok am_T0 me_28 cd_28_0 0 := ⟨rfl, .inr ⟨dX2_allBends_0, rfl⟩, rfl, .inr ⟨dX2_allBends_1, rfl⟩, rfl, .inr ⟨dX2_allBends_4, rfl⟩, rfl, .inr ⟨dX2_allBends_7, rfl⟩, rfl, .inr ⟨dX2_allBends_8, rfl⟩, trivial⟩
set_option maxRecDepth 100000 in
theorem ck_28_11 : am_cok am_T0 me_28 cd_28_11 11 := ⟨rfl, .inr ⟨dX2_allBends_11, rfl⟩, rfl, .inr ⟨dX2_allBends_12, rfl⟩, rfl, .inr ⟨dX2_allBends_13, rfl⟩, rfl, .inr ⟨dX2_allBends_16, rfl⟩, rfl, .inr ⟨dX2_allBends_17, rfl⟩, rfl, .inr ⟨dX2_allBends_18, rfl⟩, rfl, .inl ⟨rfl, rfl⟩, trivial⟩
set_option maxRecDepth 100000 in
theorem ck_28_19 : am_cok am_T0 me_28 cd_28_19 19 := ⟨rfl, .inr ⟨dX2_allBends_19, rfl⟩, trivial⟩
set_option maxRecDepth 100000 in
theorem ck_28 : ∀ p ∈ bl_28, am_cok am_T0 me_28 p.2 p.1 := List.forall_mem_cons.mpr ⟨ck_28_0, List.forall_mem_cons.mpr ⟨ck_28_11, List.forall_mem_cons.mpr ⟨ck_28_19, fun _ h => absurd h List.not_mem_nil⟩⟩⟩
set_option maxRecDepth 100000 in
theorem ck_29_0 : am_cok am_T0 me_29 cd_29_0 0 := ⟨rfl, .inr ⟨dX2_areBends_0, rfl⟩, rfl, .inr ⟨dX2_areBends_1, rfl⟩, rfl, .inr ⟨dX2_areBends_2, rfl⟩, rfl, .inl ⟨rfl, rfl⟩, trivial⟩
set_option maxRecDepth 100000 in
theorem ck_29_5 : am_cok am_T0 me_29 cd_29_5 5 := ⟨rfl, .inr ⟨dX2_areBends_5, rfl⟩, rfl, .inr ⟨dX2_areBends_6, rfl⟩, rfl, .inr ⟨dX2_areBends_7, rfl⟩, rfl, .inr ⟨dX2_areBends_8, rfl⟩, rfl, .inr ⟨dX2_areBends_11, rfl⟩, rfl, .inr ⟨dX2_areBends_12, rfl⟩, trivial⟩
set_option maxRecDepth 100000 in
theorem ck_29_15 : am_cok am_T0 me_29 cd_29_15 15 := ⟨rfl, .inr ⟨dX2_areBends_15, rfl⟩, rfl, .inl ⟨rfl, rfl⟩, trivial⟩
set_option maxRecDepth 100000 in
theorem ck_29_16 : am_cok am_T0 me_29 cd_29_16 16 := ⟨rfl, .inr ⟨dX2_areBends_16, rfl⟩, trivial⟩
set_option maxRecDepth 100000 in
theorem ck_29 : ∀ p ∈ bl_29, am_cok am_T0 me_29 p.2 p.1 := List.forall_mem_cons.mpr ⟨ck_29_0, List.forall_mem_cons.mpr ⟨ck_29_5, List.forall_mem_cons.mpr ⟨ck_29_15, List.forall_mem_cons.mpr ⟨ck_29_16, fun _ h => absurd h List.not_mem_nil⟩⟩⟩⟩
set_option maxRecDepth 100000 in
theorem ck_30_0 : am_cok am_T0 me_30 cd_30_0 0 := ⟨rfl, .inr ⟨dX2_width_0, rfl⟩, rfl, .inr ⟨dX2_width_1, rfl⟩, rfl, .inr ⟨dX2_width_4, rfl⟩, rfl, .inr ⟨dX2_width_5, rfl⟩, rfl, .inr ⟨dX2_width_6, rfl⟩, rfl, .inr ⟨dX2_width_7, rfl⟩, rfl, .inr ⟨dX2_width_8, rfl⟩, rfl, .inr ⟨dX2_width_9, rfl⟩, rfl, .inr ⟨dX2_width_12, rfl⟩, rfl, .inr ⟨dX2_width_13, rfl⟩, rfl, .inr ⟨dX2_width_14, rfl⟩, rfl, .inr ⟨dX2_width_15, rfl⟩, rfl, .inr ⟨dX2_width_16, rfl⟩, rfl, .inr ⟨dX2_width_17, rfl⟩, trivial⟩
set_option maxRecDepth 100000 in
theorem ck_30 : ∀ p ∈ bl_30, am_cok am_T0 me_30 p.2 p.1 := List.forall_mem_cons.mpr ⟨ck_30_0, fun _ h => absurd h List.not_mem_nil⟩
set_option maxRecDepth 100000 in
theorem ck_31_0 : am_cok am_T0 me_31 cd_31_0 0 := ⟨rfl, .inr ⟨dX2_height_0, rfl⟩, rfl, .inr ⟨dX2_height_1, rfl⟩, rfl, .inr ⟨dX2_height_4, rfl⟩, rfl, .inr ⟨dX2_height_5, rfl⟩, rfl, .inr ⟨dX2_height_6, rfl⟩, rfl, .inr ⟨dX2_height_7, rfl⟩, rfl, .inr ⟨dX2_height_8, rfl⟩, rfl, .inr ⟨dX2_height_9, rfl⟩, rfl, .inr ⟨dX2_height_12, rfl⟩, rfl, .inr ⟨dX2_height_13, rfl⟩, rfl, .inr ⟨dX2_height_14, rfl⟩, rfl, .inr ⟨dX2_height_15, rfl⟩, rfl, .inr ⟨dX2_height_16, rfl⟩, rfl, .inr ⟨dX2_height_17, rfl⟩, trivial⟩
set_option maxRecDepth 100000 in
theorem ck_31 : ∀ p ∈ bl_31, am_cok am_T0 me_31 p.2 p.1 := List.forall_mem_cons.mpr ⟨ck_31_0, fun _ h => absurd h List.not_mem_nil⟩
set_option maxRecDepth 100000 in
theorem ck_32_0 : am_cok am_T0 me_32 cd_32_0 0 := ⟨rfl, .inr ⟨dX2_lengthOf_0, rfl⟩, rfl, .inr ⟨dX2_lengthOf_1, rfl⟩, rfl, .inl ⟨rfl, rfl⟩, trivial⟩
set_option maxRecDepth 100000 in
theorem ck_32_4 : am_cok am_T0 me_32 cd_32_4 4 := ⟨rfl, .inr ⟨dX2_lengthOf_4, rfl⟩, rfl, .inr ⟨dX2_lengthOf_7, rfl⟩, rfl, .inr ⟨dX2_lengthOf_8, rfl⟩, rfl, .inr ⟨dX2_lengthOf_9, rfl⟩, rfl, .inl ⟨rfl, rfl⟩, trivial⟩
set_option maxRecDepth 100000 in
theorem ck_32_12 : am_cok am_T0 me_32 cd_32_12 12 := ⟨rfl, .inr ⟨dX2_lengthOf_12, rfl⟩, trivial⟩
set_option maxRecDepth 100000 in
theorem ck_32_15 : am_cok am_T0 me_32 cd_32_15 15 := ⟨rfl, .inr ⟨dX2_lengthOf_15, rfl⟩, rfl, .inr ⟨dX2_lengthOf_16, rfl⟩, rfl, .inr ⟨dX2_lengthOf_17, rfl⟩, rfl, .inl ⟨rfl, rfl⟩, trivial⟩
set_option maxRecDepth 100000 in
theorem ck_32_20 : am_cok am_T0 me_32 cd_32_20 20 := ⟨rfl, .inr ⟨dX2_lengthOf_20, rfl⟩, trivial⟩
set_option maxRecDepth 100000 in
theorem ck_32 : ∀ p ∈ bl_32, am_cok am_T0 me_32 p.2 p.1 := List.forall_mem_cons.mpr ⟨ck_32_0, List.forall_mem_cons.mpr ⟨ck_32_4, List.forall_mem_cons.mpr ⟨ck_32_12, List.forall_mem_cons.mpr ⟨ck_32_15, List.forall_mem_cons.mpr ⟨ck_32_20, fun _ h => absurd h List.not_mem_nil⟩⟩⟩⟩⟩
set_option maxRecDepth 100000 in
theorem ck_33_0 : am_cok am_T0 me_33 cd_33_0 0 := ⟨rfl, .inr ⟨dX2_isFreeSide_0, rfl⟩, rfl, .inr ⟨dX2_isFreeSide_1, rfl⟩, rfl, .inr ⟨dX2_isFreeSide_4, rfl⟩, rfl, .inr ⟨dX2_isFreeSide_5, rfl⟩, rfl, .inr ⟨dX2_isFreeSide_6, rfl⟩, rfl, .inr ⟨dX2_isFreeSide_7, rfl⟩, rfl, .inr ⟨dX2_isFreeSide_8, rfl⟩, rfl, .inr ⟨dX2_isFreeSide_9, rfl⟩, rfl, .inr ⟨dX2_isFreeSide_10, rfl⟩, rfl, .inr ⟨dX2_isFreeSide_13, rfl⟩, rfl, .inr ⟨dX2_isFreeSide_14, rfl⟩, trivial⟩
set_option maxRecDepth 100000 in
theorem ck_33_17 : am_cok am_T0 me_33 cd_33_17 17 := ⟨rfl, .inr ⟨dX2_isFreeSide_17, rfl⟩, rfl, .inl ⟨rfl, rfl⟩, trivial⟩
set_option maxRecDepth 100000 in
theorem ck_33_18 : am_cok am_T0 me_33 cd_33_18 18 := ⟨rfl, .inr ⟨dX2_isFreeSide_18, rfl⟩, trivial⟩
set_option maxRecDepth 100000 in
theorem ck_33 : ∀ p ∈ bl_33, am_cok am_T0 me_33 p.2 p.1 := List.forall_mem_cons.mpr ⟨ck_33_0, List.forall_mem_cons.mpr ⟨ck_33_17, List.forall_mem_cons.mpr ⟨ck_33_18, fun _ h => absurd h List.not_mem_nil⟩⟩⟩
set_option maxRecDepth 100000 in
theorem ck_34_0 : am_cok am_T0 me_34 cd_34_0 0 := ⟨rfl, .inr ⟨dX2_canBeJoined_0, rfl⟩, rfl, .inr ⟨dX2_canBeJoined_1, rfl⟩, rfl, .inr ⟨dX2_canBeJoined_2, rfl⟩, rfl, .inl ⟨rfl, rfl⟩, trivial⟩
set_option maxRecDepth 100000 in
theorem ck_34_5 : am_cok am_T0 me_34 cd_34_5 5 := ⟨rfl, .inr ⟨dX2_canBeJoined_5, rfl⟩, rfl, .inr ⟨dX2_canBeJoined_8, rfl⟩, rfl, .inr ⟨dX2_canBeJoined_9, rfl⟩, rfl, .inr ⟨dX2_canBeJoined_10, rfl⟩, rfl, .inr ⟨dX2_canBeJoined_11, rfl⟩, rfl, .inl ⟨rfl, rfl⟩, trivial⟩
set_option maxRecDepth 100000 in
theorem ck_34_14 : am_cok am_T0 me_34 cd_34_14 14 := ⟨rfl, .inr ⟨dX2_canBeJoined_14, rfl⟩, rfl, .inl ⟨rfl, rfl⟩, trivial⟩
set_option maxRecDepth 100000 in
theorem ck_34_17 : am_cok am_T0 me_34 cd_34_17 17 := ⟨rfl, .inr ⟨dX2_canBeJoined_17, rfl⟩, rfl, .inl ⟨rfl, rfl⟩, trivial⟩
set_option maxRecDepth 100000 in
theorem ck_34_18 : am_cok am_T0 me_34 cd_34_18 18 := ⟨rfl, .inr ⟨dX2_canBeJoined_18, rfl⟩, trivial⟩
set_option maxRecDepth 100000 in
theorem ck_34_19 : am_cok am_T0 me_34 cd_34_19 19 := ⟨rfl, .inr ⟨dX2_canBeJoined_19, rfl⟩, rfl, .inr ⟨dX2_canBeJoined_20, rfl⟩, rfl, .inr ⟨dX2_canBeJoined_23, rfl⟩, rfl, .inr ⟨dX2_canBeJoined_24, rfl⟩, rfl, .inr ⟨dX2_canBeJoined_25, rfl⟩, rfl, .inr ⟨dX2_canBeJoined_28, rfl⟩, rfl, .inr ⟨dX2_canBeJoined_29, rfl⟩, rfl, .inr ⟨dX2_canBeJoined_30, rfl⟩, rfl, .inl ⟨rfl, rfl⟩, trivial⟩
set_option maxRecDepth 100000 in
theorem ck_34_33 : am_cok am_T0 me_34 cd_34_33 33 := ⟨rfl, .inr ⟨dX2_canBeJoined_33, rfl⟩, rfl, .inl ⟨rfl, rfl⟩, trivial⟩
set_option maxRecDepth 100000 in
theorem ck_34_36 : am_cok am_T0 me_34 cd_34_36 36 := ⟨rfl, .inr ⟨dX2_canBeJoined_36, rfl⟩, rfl, .inr ⟨dX2_canBeJoined_37, rfl⟩, trivial⟩
set_option maxRecDepth 100000 in
theorem ck_34_40 : am_cok am_T0 me_34 cd_34_40 40 := ⟨rfl, .inr ⟨dX2_canBeJoined_40, rfl⟩, rfl, .inl ⟨rfl, rfl⟩, trivial⟩
set_option maxRecDepth 100000 in
theorem ck_34_41 : am_cok am_T0 me_34 cd_34_41 41 := ⟨rfl, .inr ⟨dX2_canBeJoined_41, rfl⟩, trivial⟩
set_option maxRecDepth 100000 in
theorem ck_34 : ∀ p ∈ bl_34, am_cok am_T0 me_34 p.2 p.1 := List.forall_mem_cons.mpr ⟨ck_34_0, List.forall_mem_cons.mpr ⟨ck_34_5, List.forall_mem_cons.mpr ⟨ck_34_14, List.forall_mem_cons.mpr ⟨ck_34_17, List.forall_mem_cons.mpr ⟨ck_34_18, List.forall_mem_cons.mpr ⟨ck_34_19, List.forall_mem_cons.mpr ⟨ck_34_33, List.forall_mem_cons.mpr ⟨ck_34_36, List.forall_mem_cons.mpr ⟨ck_34_40, List.forall_mem_cons.mpr ⟨ck_34_41, fun _ h => absurd h List.not_mem_nil⟩⟩⟩⟩⟩⟩⟩⟩⟩⟩
set_option maxRecDepth 100000 in
theorem ck_35_0 : am_cok am_T0 me_35 cd_35_0 0 := ⟨rfl, .inr ⟨dX2_join_0, rfl⟩, rfl, .inr ⟨dX2_join_1, rfl⟩, rfl, .inr ⟨dX2_join_4, rfl⟩, rfl, .inr ⟨dX2_join_6, rfl⟩, rfl, .inr ⟨dX2_join_7, rfl⟩, rfl, .inl ⟨rfl, rfl⟩, trivial⟩
set_option maxRecDepth 100000 in
theorem ck_35_10 : am_cok am_T0 me_35 cd_35_10 10 := ⟨rfl, .inr ⟨dX2_join_10, rfl⟩, rfl, .inr ⟨dX2_join_12, rfl⟩, rfl, .inr ⟨dX2_join_13, rfl⟩, rfl, .inl ⟨rfl, rfl⟩, trivial⟩
set_option maxRecDepth 100000 in
theorem ck_35_16 : am_cok am_T0 me_35 cd_35_16 16 := ⟨rfl, .inr ⟨dX2_join_16, rfl⟩, rfl, .inr ⟨dX2_join_19, rfl⟩, rfl, .inr ⟨dX2_join_20, rfl⟩, trivial⟩
set_option maxRecDepth 100000 in
theorem ck_35_23 : am_cok am_T0 me_35 cd_35_23 23 := ⟨rfl, .inr ⟨dX2_join_23, rfl⟩, rfl, .inl ⟨rfl, rfl⟩, trivial⟩
set_option maxRecDepth 100000 in
theorem ck_35_24 : am_cok am_T0 me_35 cd_35_24 24 := ⟨rfl, .inr ⟨dX2_join_24, rfl⟩, rfl, .inr ⟨dX2_join_26, rfl⟩, rfl, .inr ⟨dX2_join_27, rfl⟩, rfl, .inr ⟨dX2_join_28, rfl⟩, rfl, .inr ⟨dX2_join_31, rfl⟩, rfl, .inr ⟨dX2_join_32, rfl⟩, rfl, .inr ⟨dX2_join_33, rfl⟩, rfl, .inr ⟨dX2_join_36, rfl⟩, rfl, .inr ⟨dX2_join_37, rfl⟩, rfl, .inr ⟨dX2_join_40, rfl⟩, rfl, .inr ⟨dX2_join_42, rfl⟩, rfl, .inr ⟨dX2_join_43, rfl⟩, rfl, .inr ⟨dX2_join_44, rfl⟩, rfl, .inr ⟨dX2_join_45, rfl⟩, rfl, .inr ⟨dX2_join_48, rfl⟩, rfl, .inr ⟨dX2_join_50, rfl⟩, rfl, .inr ⟨dX2_join_51, rfl⟩, rfl, .inr ⟨dX2_join_52, rfl⟩, rfl, .inr ⟨dX2_join_53, rfl⟩, rfl, .inr ⟨dX2_join_56, rfl⟩, rfl, .inr ⟨dX2_join_58, rfl⟩, rfl, .inl ⟨rfl, rfl⟩, trivial⟩
set_option maxRecDepth 100000 in
theorem ck_35_60 : am_cok am_T0 me_35 cd_35_60 60 := ⟨rfl, .inr ⟨dX2_join_60, rfl⟩, rfl, .inr ⟨dX2_join_61, rfl⟩, rfl, .inr ⟨dX2_join_62, rfl⟩, rfl, .inr ⟨dX2_join_65, rfl⟩, rfl, .inr ⟨dX2_join_67, rfl⟩, rfl, .inr ⟨dX2_join_68, rfl⟩, rfl, .inr ⟨dX2_join_70, rfl⟩, rfl, .inr ⟨dX2_join_71, rfl⟩, rfl, .inr ⟨dX2_join_72, rfl⟩, rfl, .inr ⟨dX2_join_73, rfl⟩, rfl, .inr ⟨dX2_join_76, rfl⟩, rfl, .inr ⟨dX2_join_77, rfl⟩, rfl, .inr ⟨dX2_join_78, rfl⟩, rfl, .inr ⟨dX2_join_79, rfl⟩, rfl, .inr ⟨dX2_join_80, rfl⟩, rfl, .inr ⟨dX2_join_81, rfl⟩, rfl, .inr ⟨dX2_join_82, rfl⟩, rfl, .inr ⟨dX2_join_83, rfl⟩, rfl, .inl ⟨rfl, rfl⟩, trivial⟩
set_option maxRecDepth 100000 in
theorem ck_35_84 : am_cok am_T0 me_35 cd_35_84 84 := ⟨rfl, .inr ⟨dX2_join_84, rfl⟩, rfl, .inr ⟨dX2_join_85, rfl⟩, rfl, .inr ⟨dX2_join_88, rfl⟩, rfl, .inr ⟨dX2_join_90, rfl⟩, rfl, .inr ⟨dX2_join_91, rfl⟩, rfl, .inr ⟨dX2_join_93, rfl⟩, rfl, .inr ⟨dX2_join_94, rfl⟩, rfl, .inr ⟨dX2_join_97, rfl⟩, rfl, .inr ⟨dX2_join_98, rfl⟩, rfl, .inr ⟨dX2_join_99, rfl⟩, rfl, .inr ⟨dX2_join_100, rfl⟩, rfl, .inr ⟨dX2_join_101, rfl⟩, rfl, .inr ⟨dX2_join_102, rfl⟩, rfl, .inr ⟨dX2_join_103, rfl⟩, rfl, .inr ⟨dX2_join_106, rfl⟩, rfl, .inl ⟨rfl, rfl⟩, trivial⟩
set_option maxRecDepth 100000 in
theorem ck_35_107 : am_cok am_T0 me_35 cd_35_107 107 := ⟨rfl, .inr ⟨dX2_join_107, rfl⟩, rfl, .inr ⟨dX2_join_108, rfl⟩, rfl, .inr ⟨dX2_join_110, rfl⟩, rfl, .inr ⟨dX2_join_111, rfl⟩, rfl, .inr ⟨dX2_join_114, rfl⟩, rfl, .inr ⟨dX2_join_115, rfl⟩, rfl, .inr ⟨dX2_join_116, rfl⟩, rfl, .inr ⟨dX2_join_117, rfl⟩, rfl, .inr ⟨dX2_join_118, rfl⟩, rfl, .inr ⟨dX2_join_119, rfl⟩, rfl, .inl ⟨rfl, rfl⟩, trivial⟩
set_option maxRecDepth 100000 in
theorem ck_35_122 : am_cok am_T0 me_35 cd_35_122 122 := ⟨rfl, .inr ⟨dX2_join_122, rfl⟩, rfl, .inr ⟨dX2_join_125, rfl⟩, rfl, .inr ⟨dX2_join_127, rfl⟩, trivial⟩
set_option maxRecDepth 100000 in
theorem ck_35_130 : am_cok am_T0 me_35 cd_35_130 130 := ⟨rfl, .inr ⟨dX2_join_130, rfl⟩, rfl, .inr ⟨dX2_join_132, rfl⟩, rfl, .inl ⟨rfl, rfl⟩, trivial⟩
set_option maxRecDepth 100000 in
theorem ck_35_133 : am_cok am_T0 me_35 cd_35_133 133 := ⟨rfl, .inr ⟨dX2_join_133, rfl⟩, rfl, .inr ⟨dX2_join_134, rfl⟩, rfl, .inr ⟨dX2_join_135, rfl⟩, rfl, .inr ⟨dX2_join_136, rfl⟩, rfl, .inr ⟨dX2_join_139, rfl⟩, rfl, .inr ⟨dX2_join_141, rfl⟩, rfl, .inr ⟨dX2_join_142, rfl⟩, rfl, .inr ⟨dX2_join_144, rfl⟩, rfl, .inr ⟨dX2_join_145, rfl⟩, rfl, .inr ⟨dX2_join_148, rfl⟩, rfl, .inr ⟨dX2_join_150, rfl⟩, rfl, .inr ⟨dX2_join_151, rfl⟩, rfl, .inr ⟨dX2_join_152, rfl⟩, rfl, .inr ⟨dX2_join_153, rfl⟩, rfl, .inr ⟨dX2_join_154, rfl⟩, rfl, .inl ⟨rfl, rfl⟩, trivial⟩
set_option maxRecDepth 100000 in
theorem ck_35_155 : am_cok am_T0 me_35 cd_35_155 155 := ⟨rfl, .inr ⟨dX2_join_155, rfl⟩, rfl, .inr ⟨dX2_join_156, rfl⟩, rfl, .inr ⟨dX2_join_157, rfl⟩, rfl, .inr ⟨dX2_join_160, rfl⟩, rfl, .inr ⟨dX2_join_162, rfl⟩, rfl, .inl ⟨rfl, rfl⟩, trivial⟩
set_option maxRecDepth 100000 in
theorem ck_35_165 : am_cok am_T0 me_35 cd_35_165 165 := ⟨rfl, .inr ⟨dX2_join_165, rfl⟩, rfl, .inr ⟨dX2_join_166, rfl⟩, rfl, .inr ⟨dX2_join_168, rfl⟩, rfl, .inr ⟨dX2_join_169, rfl⟩, rfl, .inr ⟨dX2_join_172, rfl⟩, rfl, .inr ⟨dX2_join_174, rfl⟩, rfl, .inr ⟨dX2_join_175, rfl⟩, rfl, .inr ⟨dX2_join_177, rfl⟩, rfl, .inr ⟨dX2_join_178, rfl⟩, rfl, .inr ⟨dX2_join_180, rfl⟩, rfl, .inr ⟨dX2_join_181, rfl⟩, rfl, .inr ⟨dX2_join_182, rfl⟩, rfl, .inr ⟨dX2_join_184, rfl⟩, trivial⟩
set_option maxRecDepth 100000 in
theorem ck_35 : ∀ p ∈ bl_35, am_cok am_T0 me_35 p.2 p.1 := List.forall_mem_cons.mpr ⟨ck_35_0, List.forall_mem_cons.mpr ⟨ck_35_10, List.forall_mem_cons.mpr ⟨ck_35_16, List.forall_mem_cons.mpr ⟨ck_35_23, List.forall_mem_cons.mpr ⟨ck_35_24, List.forall_mem_cons.mpr ⟨ck_35_60, List.forall_mem_cons.mpr ⟨ck_35_84, List.forall_mem_cons.mpr ⟨ck_35_107, List.forall_mem_cons.mpr ⟨ck_35_122, List.forall_mem_cons.mpr ⟨ck_35_130, List.forall_mem_cons.mpr ⟨ck_35_133, List.forall_mem_cons.mpr ⟨ck_35_155, List.forall_mem_cons.mpr ⟨ck_35_165, fun _ h => absurd h List.not_mem_nil⟩⟩⟩⟩⟩⟩⟩⟩⟩⟩⟩⟩⟩
