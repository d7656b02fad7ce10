set_option maxRecDepth 100000 in
theorem ck_108_0 : am_cok am_T0 me_108 cd_108_0 0 := ⟨rfl, .inr ⟨dX5_sweeps_0, rfl⟩, rfl, .inr ⟨dX5_sweeps_1, rfl⟩, rfl, .inr ⟨dX5_sweeps_2, rfl⟩, rfl, .inr ⟨dX5_sweeps_3, rfl⟩, rfl, .inr ⟨dX5_sweeps_4, rfl⟩, rfl, .inr ⟨dX5_sweeps_5, rfl⟩, rfl, .inl ⟨rfl, rfl⟩, trivial⟩
set_option maxRecDepth 100000 in
theorem ck_108_8 : am_cok am_T0 me_108 cd_108_8 8 := ⟨rfl, .inr ⟨dX5_sweeps_8, rfl⟩, rfl, .inl ⟨rfl, rfl⟩, trivial⟩
set_option maxRecDepth 100000 in
theorem ck_108_11 : am_cok am_T0 me_108 cd_108_11 11 := ⟨rfl, .inr ⟨dX5_sweeps_11, rfl⟩, rfl, .inr ⟨dX5_sweeps_14, rfl⟩, rfl, .inl ⟨rfl, rfl⟩, trivial⟩
set_option maxRecDepth 100000 in
theorem ck_108_15 : am_cok am_T0 me_108 cd_108_15 15 := ⟨rfl, .inr ⟨dX5_sweeps_15, rfl⟩, trivial⟩
set_option maxRecDepth 100000 in
theorem ck_108_16 : am_cok am_T0 me_108 cd_108_16 16 := ⟨rfl, .inr ⟨dX5_sweeps_16, rfl⟩, rfl, .inr ⟨dX5_sweeps_17, rfl⟩, rfl, .inr ⟨dX5_sweeps_18, rfl⟩, rfl, .inr ⟨dX5_sweeps_19, rfl⟩, rfl, .inr ⟨dX5_sweeps_20, rfl⟩, rfl, .inl ⟨rfl, rfl⟩, trivial⟩
set_option maxRecDepth 100000 in
theorem ck_108_23 : am_cok am_T0 me_108 cd_108_23 23 := ⟨rfl, .inr ⟨dX5_sweeps_23, rfl⟩, rfl, .inr ⟨dX5_sweeps_24, rfl⟩, rfl, .inr ⟨dX5_sweeps_25, rfl⟩, rfl, .inr ⟨dX5_sweeps_26, rfl⟩, rfl, .inr ⟨dX5_sweeps_27, rfl⟩, rfl, .inl ⟨rfl, rfl⟩, trivial⟩
set_option maxRecDepth 100000 in
theorem ck_108_30 : am_cok am_T0 me_108 cd_108_30 30 := ⟨rfl, .inr ⟨dX5_sweeps_30, rfl⟩, rfl, .inr ⟨dX5_sweeps_31, rfl⟩, rfl, .inr ⟨dX5_sweeps_33, rfl⟩, rfl, .inr ⟨dX5_sweeps_34, rfl⟩, rfl, .inl ⟨rfl, rfl⟩, trivial⟩
set_option maxRecDepth 100000 in
theorem ck_108_36 : am_cok am_T0 me_108 cd_108_36 36 := ⟨rfl, .inr ⟨dX5_sweeps_36, rfl⟩, rfl, .inr ⟨dX5_sweeps_38, rfl⟩, rfl, .inr ⟨dX5_sweeps_39, rfl⟩, rfl, .inr ⟨dX5_sweeps_42, rfl⟩, rfl, .inr ⟨dX5_sweeps_44, rfl⟩, rfl, .inr ⟨dX5_sweeps_47, rfl⟩, rfl, .inr ⟨dX5_sweeps_48, rfl⟩, rfl, .inr ⟨dX5_sweeps_50, rfl⟩, rfl, .inr ⟨dX5_sweeps_51, rfl⟩, rfl, .inr ⟨dX5_sweeps_53, rfl⟩, rfl, .inr ⟨dX5_sweeps_54, rfl⟩, rfl, .inl ⟨rfl, rfl⟩, trivial⟩
set_option maxRecDepth 100000 in
theorem ck_108_57 : am_cok am_T0 me_108 cd_108_57 57 := ⟨rfl, .inr ⟨dX5_sweeps_57, rfl⟩, rfl, .inr ⟨dX5_sweeps_60, rfl⟩, rfl, .inr ⟨dX5_sweeps_61, rfl⟩, rfl, .inr ⟨dX5_sweeps_63, rfl⟩, rfl, .inr ⟨dX5_sweeps_64, rfl⟩, rfl, .inr ⟨dX5_sweeps_66, rfl⟩, rfl, .inr ⟨dX5_sweeps_68, rfl⟩, rfl, .inr ⟨dX5_sweeps_69, rfl⟩, rfl, .inr ⟨dX5_sweeps_70, rfl⟩, rfl, .inr ⟨dX5_sweeps_71, rfl⟩, rfl, .inr ⟨dX5_sweeps_72, rfl⟩, rfl, .inl ⟨rfl, rfl⟩, trivial⟩
set_option maxRecDepth 100000 in
theorem ck_108_75 : am_cok am_T0 me_108 cd_108_75 75 := ⟨rfl, .inr ⟨dX5_sweeps_75, rfl⟩, rfl, .inl ⟨rfl, rfl⟩, trivial⟩
set_option maxRecDepth 100000 in
theorem ck_108_78 : am_cok am_T0 me_108 cd_108_78 78 := ⟨rfl, .inr ⟨dX5_sweeps_78, rfl⟩, rfl, .inr ⟨dX5_sweeps_79, rfl⟩, trivial⟩
set_option maxRecDepth 100000 in
theorem ck_108_82 : am_cok am_T0 me_108 cd_108_82 82 := ⟨rfl, .inr ⟨dX5_sweeps_82, rfl⟩, rfl, .inl ⟨rfl, rfl⟩, trivial⟩
set_option maxRecDepth 100000 in
theorem ck_108_83 : am_cok am_T0 me_108 cd_108_83 83 := ⟨rfl, .inr ⟨dX5_sweeps_83, rfl⟩, rfl, .inr ⟨dX5_sweeps_85, rfl⟩, rfl, .inr ⟨dX5_sweeps_88, rfl⟩, trivial⟩
set_option maxRecDepth 100000 in
theorem ck_108_91 : am_cok am_T0 me_108 cd_108_91 91 := ⟨rfl, .inr ⟨dX5_sweeps_91, rfl⟩, rfl, .inl ⟨rfl, rfl⟩, trivial⟩
set_option maxRecDepth 100000 in
theorem ck_108_93 : am_cok am_T0 me_108 cd_108_93 93 := ⟨rfl, .inr ⟨dX5_sweeps_93, rfl⟩, trivial⟩
set_option maxRecDepth 100000 in
theorem ck_108 : ∀ p ∈ bl_108, am_cok am_T0 me_108 p.2 p.1 := List.forall_mem_cons.mpr ⟨ck_108_0, List.forall_mem_cons.mpr ⟨ck_108_8, List.forall_mem_cons.mpr ⟨ck_108_11, List.forall_mem_cons.mpr ⟨ck_108_15, List.forall_mem_cons.mpr ⟨ck_108_16, List.forall_mem_cons.mpr ⟨ck_108_23, List.forall_mem_cons.mpr ⟨ck_108_30, List.forall_mem_cons.mpr ⟨ck_108_36, List.forall_mem_cons.mpr ⟨ck_108_57, List.forall_mem_cons.mpr ⟨ck_108_75, List.forall_mem_cons.mpr ⟨ck_108_78, List.forall_mem_cons.mpr ⟨ck_108_82, List.forall_mem_cons.mpr ⟨ck_108_83, List.forall_mem_cons.mpr ⟨ck_108_91, List.forall_mem_cons.mpr ⟨ck_108_93, fun _ h => absurd h List.not_mem_nil⟩⟩⟩⟩⟩⟩⟩⟩⟩⟩⟩⟩⟩⟩⟩
set_option maxRecDepth 100000 in
theorem ck_109_0 : am_cok am_T0 me_109 cd_109_0 0 := ⟨rfl, .inr ⟨dX5_isClear_0, rfl⟩, rfl, .inr ⟨dX5_isClear_1, rfl⟩, rfl, .inr ⟨dX5_isClear_2, rfl⟩, rfl, .inl ⟨rfl, rfl⟩, trivial⟩
set_option maxRecDepth 100000 in
theorem ck_109_5 : am_cok am_T0 me_109 cd_109_5 5 := ⟨rfl, .inr ⟨dX5_isClear_5, rfl⟩, rfl, .inr ⟨dX5_isClear_6, rfl⟩, rfl, .inr ⟨dX5_isClear_7, rfl⟩, rfl, .inr ⟨dX5_isClear_8, rfl⟩, rfl, .inr ⟨dX5_isClear_9, rfl⟩, rfl, .inr ⟨dX5_isClear_10, rfl⟩, rfl, .inr ⟨dX5_isClear_11, rfl⟩, rfl, .inr ⟨dX5_isClear_12, rfl⟩, rfl, .inr ⟨dX5_isClear_15, rfl⟩, rfl, .inr ⟨dX5_isClear_16, rfl⟩, trivial⟩
set_option maxRecDepth 100000 in
theorem ck_109_19 : am_cok am_T0 me_109 cd_109_19 19 := ⟨rfl, .inr ⟨dX5_isClear_19, rfl⟩, rfl, .inl ⟨rfl, rfl⟩, trivial⟩
set_option maxRecDepth 100000 in
theorem ck_109_20 : am_cok am_T0 me_109 cd_109_20 20 := ⟨rfl, .inr ⟨dX5_isClear_20, rfl⟩, rfl, .inr ⟨dX5_isClear_21, rfl⟩, rfl, .inr ⟨dX5_isClear_22, rfl⟩, rfl, .inl ⟨rfl, rfl⟩, trivial⟩
set_option maxRecDepth 100000 in
theorem ck_109_24 : am_cok am_T0 me_109 cd_109_24 24 := ⟨rfl, .inr ⟨dX5_isClear_24, rfl⟩, rfl, .inr ⟨dX5_isClear_26, rfl⟩, rfl, .inr ⟨dX5_isClear_27, rfl⟩, rfl, .inr ⟨dX5_isClear_30, rfl⟩, rfl, .inr ⟨dX5_isClear_33, rfl⟩, rfl, .inr ⟨dX5_isClear_34, rfl⟩, rfl, .inl ⟨rfl, rfl⟩, trivial⟩
set_option maxRecDepth 100000 in
theorem ck_109_36 : am_cok am_T0 me_109 cd_109_36 36 := ⟨rfl, .inr ⟨dX5_isClear_36, rfl⟩, rfl, .inr ⟨dX5_isClear_38, rfl⟩, rfl, .inr ⟨dX5_isClear_39, rfl⟩, rfl, .inr ⟨dX5_isClear_42, rfl⟩, rfl, .inr ⟨dX5_isClear_45, rfl⟩, rfl, .inr ⟨dX5_isClear_46, rfl⟩, rfl, .inr ⟨dX5_isClear_48, rfl⟩, rfl, .inr ⟨dX5_isClear_49, rfl⟩, rfl, .inr ⟨dX5_isClear_50, rfl⟩, rfl, .inr ⟨dX5_isClear_51, rfl⟩, rfl, .inr ⟨dX5_isClear_52, rfl⟩, rfl, .inr ⟨dX5_isClear_55, rfl⟩, rfl, .inr ⟨dX5_isClear_56, rfl⟩, rfl, .inr ⟨dX5_isClear_58, rfl⟩, rfl, .inr ⟨dX5_isClear_59, rfl⟩, rfl, .inr ⟨dX5_isClear_60, rfl⟩, rfl, .inr ⟨dX5_isClear_61, rfl⟩, rfl, .inr ⟨dX5_isClear_64, rfl⟩, rfl, .inr ⟨dX5_isClear_65, rfl⟩, trivial⟩
set_option maxRecDepth 100000 in
theorem ck_109_68 : am_cok am_T0 me_109 cd_109_68 68 := ⟨rfl, .inr ⟨dX5_isClear_68, rfl⟩, rfl, .inl ⟨rfl, rfl⟩, trivial⟩
set_option maxRecDepth 100000 in
theorem ck_109_69 : am_cok am_T0 me_109 cd_109_69 69 := ⟨rfl, .inr ⟨dX5_isClear_69, rfl⟩, rfl, .inr ⟨dX5_isClear_71, rfl⟩, rfl, .inr ⟨dX5_isClear_73, rfl⟩, rfl, .inr ⟨dX5_isClear_74, rfl⟩, rfl, .inr ⟨dX5_isClear_77, rfl⟩, rfl, .inr ⟨dX5_isClear_79, rfl⟩, rfl, .inr ⟨dX5_isClear_80, rfl⟩, rfl, .inr ⟨dX5_isClear_83, rfl⟩, rfl, .inr ⟨dX5_isClear_84, rfl⟩, rfl, .inr ⟨dX5_isClear_85, rfl⟩, rfl, .inl ⟨rfl, rfl⟩, trivial⟩
set_option maxRecDepth 100000 in
theorem ck_109_88 : am_cok am_T0 me_109 cd_109_88 88 := ⟨rfl, .inr ⟨dX5_isClear_88, rfl⟩, rfl, .inr ⟨dX5_isClear_90, rfl⟩, rfl, .inr ⟨dX5_isClear_91, rfl⟩, rfl, .inr ⟨dX5_isClear_94, rfl⟩, rfl, .inr ⟨dX5_isClear_96, rfl⟩, rfl, .inr ⟨dX5_isClear_97, rfl⟩, rfl, .inr ⟨dX5_isClear_100, rfl⟩, rfl, .inr ⟨dX5_isClear_101, rfl⟩, rfl, .inr ⟨dX5_isClear_102, rfl⟩, rfl, .inl ⟨rfl, rfl⟩, trivial⟩
set_option maxRecDepth 100000 in
theorem ck_109_105 : am_cok am_T0 me_109 cd_109_105 105 := ⟨rfl, .inr ⟨dX5_isClear_105, rfl⟩, rfl, .inr ⟨dX5_isClear_106, rfl⟩, trivial⟩
set_option maxRecDepth 100000 in
theorem ck_109_109 : am_cok am_T0 me_109 cd_109_109 109 := ⟨rfl, .inr ⟨dX5_isClear_109, rfl⟩, rfl, .inl ⟨rfl, rfl⟩, trivial⟩
set_option maxRecDepth 100000 in
theorem ck_109_110 : am_cok am_T0 me_109 cd_109_110 110 := ⟨rfl, .inr ⟨dX5_isClear_110, rfl⟩, rfl, .inr ⟨dX5_isClear_112, rfl⟩, rfl, .inr ⟨dX5_isClear_114, rfl⟩, rfl, .inr ⟨dX5_isClear_117, rfl⟩, rfl, .inr ⟨dX5_isClear_119, rfl⟩, rfl, .inr ⟨dX5_isClear_122, rfl⟩, rfl, .inr ⟨dX5_isClear_123, rfl⟩, rfl, .inr ⟨dX5_isClear_124, rfl⟩, rfl, .inr ⟨dX5_isClear_126, rfl⟩, rfl, .inr ⟨dX5_isClear_128, rfl⟩, rfl, .inr ⟨dX5_isClear_129, rfl⟩, rfl, .inl ⟨rfl, rfl⟩, trivial⟩
set_option maxRecDepth 100000 in
theorem ck_109_132 : am_cok am_T0 me_109 cd_109_132 132 := ⟨rfl, .inr ⟨dX5_isClear_132, rfl⟩, rfl, .inr ⟨dX5_isClear_135, rfl⟩, rfl, .inl ⟨rfl, rfl⟩, trivial⟩
set_option maxRecDepth 100000 in
theorem ck_109_136 : am_cok am_T0 me_109 cd_109_136 136 := ⟨rfl, .inr ⟨dX5_isClear_136, rfl⟩, trivial⟩
set_option maxRecDepth 100000 in
theorem ck_109_137 : am_cok am_T0 me_109 cd_109_137 137 := ⟨rfl, .inr ⟨dX5_isClear_137, rfl⟩, rfl, .inr ⟨dX5_isClear_140, rfl⟩, trivial⟩
set_option maxRecDepth 100000 in
theorem ck_109_143 : am_cok am_T0 me_109 cd_109_143 143 := ⟨rfl, .inr ⟨dX5_isClear_143, rfl⟩, rfl, .inr ⟨dX5_isClear_146, rfl⟩, trivial⟩
set_option maxRecDepth 100000 in
theorem ck_109_149 : am_cok am_T0 me_109 cd_109_149 149 := ⟨rfl, .inr ⟨dX5_isClear_149, rfl⟩, rfl, .inl ⟨rfl, rfl⟩, trivial⟩
set_option maxRecDepth 100000 in
theorem ck_109_150 : am_cok am_T0 me_109 cd_109_150 150 := ⟨rfl, .inr ⟨dX5_isClear_150, rfl⟩, trivial⟩
set_option maxRecDepth 100000 in
theorem ck_109 : ∀ p ∈ bl_109, am_cok am_T0 me_109 p.2 p.1 := List.forall_mem_cons.mpr ⟨ck_109_0, List.forall_mem_cons.mpr ⟨ck_109_5, List.forall_mem_cons.mpr ⟨ck_109_19, List.forall_mem_cons.mpr ⟨ck_109_20, List.forall_mem_cons.mpr ⟨ck_109_24, List.forall_mem_cons.mpr ⟨ck_109_36, List.forall_mem_cons.mpr ⟨ck_109_68, List.forall_mem_cons.mpr ⟨ck_109_69, List.forall_mem_cons.mpr ⟨ck_109_88, List.forall_mem_cons.mpr ⟨ck_109_105, List.forall_mem_cons.mpr ⟨ck_109_109, List.forall_mem_cons.mpr ⟨ck_109_110, List.forall_mem_cons.mpr ⟨ck_109_132, List.forall_mem_cons.mpr ⟨ck_109_136, List.forall_mem_cons.mpr ⟨ck_109_137, List.forall_mem_cons.mpr ⟨ck_109_143, List.forall_mem_cons.mpr ⟨ck_109_149, List.forall_mem_cons.mpr ⟨ck_109_150, fun _ h => absurd h List.not_mem_nil⟩⟩⟩⟩⟩⟩⟩⟩⟩⟩⟩⟩⟩⟩⟩⟩⟩⟩
set_option maxRecDepth 100000 in
theorem ck_110_0 : am_cok am_T0 me_110 cd_110_0 0 := ⟨rfl, .inr ⟨dX5_mayTurn_0, rfl⟩, rfl, .inr ⟨dX5_mayTurn_1, rfl⟩, rfl, .inr ⟨dX5_mayTurn_2, rfl⟩, rfl, .inl ⟨rfl, rfl⟩, trivial⟩
set_option maxRecDepth 100000 in
theorem ck_110_5 : am_cok am_T0 me_110 cd_110_5 5 := ⟨rfl, .inr ⟨dX5_mayTurn_5, rfl⟩, rfl, .inr ⟨dX5_mayTurn_8, rfl⟩, rfl, .inr ⟨dX5_mayTurn_9, rfl⟩, rfl, .inr ⟨dX5_mayTurn_10, rfl⟩, rfl, .inl ⟨rfl, rfl⟩, trivial⟩
set_option maxRecDepth 100000 in
theorem ck_110_13 : am_cok am_T0 me_110 cd_110_13 13 := ⟨rfl, .inr ⟨dX5_mayTurn_13, rfl⟩, rfl, .inr ⟨dX5_mayTurn_16, rfl⟩, rfl, .inr ⟨dX5_mayTurn_17, rfl⟩, rfl, .inr ⟨dX5_mayTurn_18, rfl⟩, rfl, .inr ⟨dX5_mayTurn_19, rfl⟩, rfl, .inr ⟨dX5_mayTurn_20, rfl⟩, rfl, .inr ⟨dX5_mayTurn_21, rfl⟩, rfl, .inr ⟨dX5_mayTurn_24, rfl⟩, rfl, .inr ⟨dX5_mayTurn_25, rfl⟩, trivial⟩
set_option maxRecDepth 100000 in
theorem ck_110_28 : am_cok am_T0 me_110 cd_110_28 28 := ⟨rfl, .inr ⟨dX5_mayTurn_28, rfl⟩, rfl, .inl ⟨rfl, rfl⟩, trivial⟩
set_option maxRecDepth 100000 in
theorem ck_110_29 : am_cok am_T0 me_110 cd_110_29 29 := ⟨rfl, .inr ⟨dX5_mayTurn_29, rfl⟩, trivial⟩
set_option maxRecDepth 100000 in
theorem ck_110 : ∀ p ∈ bl_110, am_cok am_T0 me_110 p.2 p.1 := List.forall_mem_cons.mpr ⟨ck_110_0, List.forall_mem_cons.mpr ⟨ck_110_5, List.forall_mem_cons.mpr ⟨ck_110_13, List.forall_mem_cons.mpr ⟨ck_110_28, List.forall_mem_cons.mpr ⟨ck_110_29, fun _ h => absurd h List.not_mem_nil⟩⟩⟩⟩⟩
set_option maxRecDepth 100000 in
theorem ck_111_0 : am_cok am_T0 me_111 cd_111_0 0 := ⟨rfl, .inr ⟨dX5_clear_0, rfl⟩, rfl, .inr ⟨dX5_clear_1, rfl⟩, rfl, .inr ⟨dX5_clear_2, rfl⟩, rfl, .inr ⟨dX5_clear_5, rfl⟩, rfl, .inr ⟨dX5_clear_6, rfl⟩, rfl, .inr ⟨dX5_clear_7, rfl⟩, rfl, .inr ⟨dX5_clear_8, rfl⟩, rfl, .inl ⟨rfl, rfl⟩, trivial⟩
set_option maxRecDepth 100000 in
theorem ck_111_11 : am_cok am_T0 me_111 cd_111_11 11 := ⟨rfl, .inr ⟨dX5_clear_11, rfl⟩, rfl, .inr ⟨dX5_clear_14, rfl⟩, rfl, .inr ⟨dX5_clear_15, rfl⟩, trivial⟩
set_option maxRecDepth 100000 in
theorem ck_111_16 : am_cok am_T0 me_111 cd_111_16 16 := ⟨rfl, .inr ⟨dX5_clear_16, rfl⟩, rfl, .inr ⟨dX5_clear_17, rfl⟩, rfl, .inr ⟨dX5_clear_18, rfl⟩, rfl, .inl ⟨rfl, rfl⟩, trivial⟩
set_option maxRecDepth 100000 in
theorem ck_111_21 : am_cok am_T0 me_111 cd_111_21 21 := ⟨rfl, .inr ⟨dX5_clear_21, rfl⟩, rfl, .inr ⟨dX5_clear_22, rfl⟩, rfl, .inr ⟨dX5_clear_23, rfl⟩, rfl, .inl ⟨rfl, rfl⟩, trivial⟩
set_option maxRecDepth 100000 in
theorem ck_111_26 : am_cok am_T0 me_111 cd_111_26 26 := ⟨rfl, .inr ⟨dX5_clear_26, rfl⟩, rfl, .inr ⟨dX5_clear_29, rfl⟩, rfl, .inr ⟨dX5_clear_30, rfl⟩, trivial⟩
set_option maxRecDepth 100000 in
theorem ck_111_33 : am_cok am_T0 me_111 cd_111_33 33 := ⟨rfl, .inr ⟨dX5_clear_33, rfl⟩, rfl, .inl ⟨rfl, rfl⟩, trivial⟩
set_option maxRecDepth 100000 in
theorem ck_111_34 : am_cok am_T0 me_111 cd_111_34 34 := ⟨rfl, .inr ⟨dX5_clear_34, rfl⟩, trivial⟩
set_option maxRecDepth 100000 in
theorem ck_111 : ∀ p ∈ bl_111, am_cok am_T0 me_111 p.2 p.1 := List.forall_mem_cons.mpr ⟨ck_111_0, List.forall_mem_cons.mpr ⟨ck_111_11, List.forall_mem_cons.mpr ⟨ck_111_16, List.forall_mem_cons.mpr ⟨ck_111_21, List.forall_mem_cons.mpr ⟨ck_111_26, List.forall_mem_cons.mpr ⟨ck_111_33, List.forall_mem_cons.mpr ⟨ck_111_34, fun _ h => absurd h List.not_mem_nil⟩⟩⟩⟩⟩⟩⟩
set_option maxRecDepth 100000 in
theorem ck_112_0 : am_cok am_T0 me_112 cd_112_0 0 := ⟨rfl, .inr ⟨dX5_edgeOf_0, rfl⟩, rfl, .inr ⟨dX5_edgeOf_1, rfl⟩, rfl, .inr ⟨dX5_edgeOf_2, rfl⟩, rfl, .inl ⟨rfl, rfl⟩, trivial⟩
set_option maxRecDepth 100000 in
theorem ck_112_5 : am_cok am_T0 me_112 cd_112_5 5 := ⟨rfl, .inr ⟨dX5_edgeOf_5, rfl⟩, rfl, .inr ⟨dX5_edgeOf_6, rfl⟩, rfl, .inr ⟨dX5_edgeOf_7, rfl⟩, rfl, .inl ⟨rfl, rfl⟩, trivial⟩
set_option maxRecDepth 100000 in
theorem ck_112_8 : am_cok am_T0 me_112 cd_112_8 8 := ⟨rfl, .inr ⟨dX5_edgeOf_8, rfl⟩, rfl, .inr ⟨dX5_edgeOf_9, rfl⟩, rfl, .inr ⟨dX5_edgeOf_10, rfl⟩, rfl, .inr ⟨dX5_edgeOf_13, rfl⟩, rfl, .inr ⟨dX5_edgeOf_16, rfl⟩, rfl, .inr ⟨dX5_edgeOf_17, rfl⟩, rfl, .inl ⟨rfl, rfl⟩, trivial⟩
set_option maxRecDepth 100000 in
theorem ck_112_19 : am_cok am_T0 me_112 cd_112_19 19 := ⟨rfl, .inr ⟨dX5_edgeOf_19, rfl⟩, rfl, .inr ⟨dX5_edgeOf_21, rfl⟩, rfl, .inr ⟨dX5_edgeOf_22, rfl⟩, rfl, .inr ⟨dX5_edgeOf_25, rfl⟩, rfl, .inr ⟨dX5_edgeOf_27, rfl⟩, rfl, .inr ⟨dX5_edgeOf_28, rfl⟩, rfl, .inr ⟨dX5_edgeOf_29, rfl⟩, rfl, .inr ⟨dX5_edgeOf_32, rfl⟩, rfl, .inr ⟨dX5_edgeOf_33, rfl⟩, trivial⟩
set_option maxRecDepth 100000 in
theorem ck_112_36 : am_cok am_T0 me_112 cd_112_36 36 := ⟨rfl, .inr ⟨dX5_edgeOf_36, rfl⟩, rfl, .inl ⟨rfl, rfl⟩, trivial⟩
set_option maxRecDepth 100000 in
theorem ck_112_37 : am_cok am_T0 me_112 cd_112_37 37 := ⟨rfl, .inr ⟨dX5_edgeOf_37, rfl⟩, rfl, .inr ⟨dX5_edgeOf_39, rfl⟩, rfl, .inr ⟨dX5_edgeOf_41, rfl⟩, rfl, .inr ⟨dX5_edgeOf_44, rfl⟩, rfl, .inr ⟨dX5_edgeOf_45, rfl⟩, rfl, .inr ⟨dX5_edgeOf_48, rfl⟩, rfl, .inr ⟨dX5_edgeOf_49, rfl⟩, rfl, .inr ⟨dX5_edgeOf_50, rfl⟩, rfl, .inr ⟨dX5_edgeOf_51, rfl⟩, rfl, .inr ⟨dX5_edgeOf_52, rfl⟩, rfl, .inr ⟨dX5_edgeOf_53, rfl⟩, rfl, .inr ⟨dX5_edgeOf_54, rfl⟩, rfl, .inr ⟨dX5_edgeOf_55, rfl⟩, rfl, .inr ⟨dX5_edgeOf_58, rfl⟩, rfl, .inr ⟨dX5_edgeOf_59, rfl⟩, rfl, .inr ⟨dX5_edgeOf_60, rfl⟩, rfl, .inr ⟨dX5_edgeOf_61, rfl⟩, rfl, .inr ⟨dX5_edgeOf_62, rfl⟩, rfl, .inr ⟨dX5_edgeOf_63, rfl⟩, rfl, .inr ⟨dX5_edgeOf_64, rfl⟩, rfl, .inr ⟨dX5_edgeOf_65, rfl⟩, trivial⟩
set_option maxRecDepth 100000 in
theorem ck_112_68 : am_cok am_T0 me_112 cd_112_68 68 := ⟨rfl, .inr ⟨dX5_edgeOf_68, rfl⟩, rfl, .inr ⟨dX5_edgeOf_69, rfl⟩, rfl, .inr ⟨dX5_edgeOf_72, rfl⟩, rfl, .inr ⟨dX5_edgeOf_73, rfl⟩, rfl, .inr ⟨dX5_edgeOf_74, rfl⟩, rfl, .inr ⟨dX5_edgeOf_75, rfl⟩, rfl, .inr ⟨dX5_edgeOf_76, rfl⟩, rfl, .inr ⟨dX5_edgeOf_77, rfl⟩, rfl, .inr ⟨dX5_edgeOf_78, rfl⟩, rfl, .inr ⟨dX5_edgeOf_79, rfl⟩, rfl, .inr ⟨dX5_edgeOf_82, rfl⟩, rfl, .inr ⟨dX5_edgeOf_83, rfl⟩, rfl, .inr ⟨dX5_edgeOf_84, rfl⟩, rfl, .inr ⟨dX5_edgeOf_85, rfl⟩, rfl, .inr ⟨dX5_edgeOf_86, rfl⟩, rfl, .inl ⟨rfl, rfl⟩, trivial⟩
set_option maxRecDepth 100000 in
theorem ck_112_87 : am_cok am_T0 me_112 cd_112_87 87 := ⟨rfl, .inr ⟨dX5_edgeOf_87, rfl⟩, rfl, .inr ⟨dX5_edgeOf_89, rfl⟩, rfl, .inr ⟨dX5_edgeOf_91, rfl⟩, rfl, .inr ⟨dX5_edgeOf_94, rfl⟩, rfl, .inr ⟨dX5_edgeOf_95, rfl⟩, rfl, .inr ⟨dX5_edgeOf_98, rfl⟩, rfl, .inr ⟨dX5_edgeOf_99, rfl⟩, rfl, .inr ⟨dX5_edgeOf_100, rfl⟩, rfl, .inr ⟨dX5_edgeOf_101, rfl⟩, rfl, .inl ⟨rfl, rfl⟩, trivial⟩
set_option maxRecDepth 100000 in
theorem ck_112_104 : am_cok am_T0 me_112 cd_112_104 104 := ⟨rfl, .inr ⟨dX5_edgeOf_104, rfl⟩, trivial⟩
set_option maxRecDepth 100000 in
theorem ck_112_107 : am_cok am_T0 me_112 cd_112_107 107 := ⟨rfl, .inr ⟨dX5_edgeOf_107, rfl⟩, rfl, .inr ⟨dX5_edgeOf_108, rfl⟩, rfl, .inr ⟨dX5_edgeOf_111, rfl⟩, rfl, .inr ⟨dX5_edgeOf_112, rfl⟩, rfl, .inr ⟨dX5_edgeOf_113, rfl⟩, rfl, .inr ⟨dX5_edgeOf_114, rfl⟩, rfl, .inl ⟨rfl, rfl⟩, trivial⟩
set_option maxRecDepth 100000 in
theorem ck_112_117 : am_cok am_T0 me_112 cd_112_117 117 := ⟨rfl, .inr ⟨dX5_edgeOf_117, rfl⟩, rfl, .inr ⟨dX5_edgeOf_119, rfl⟩, rfl, .inr ⟨dX5_edgeOf_120, rfl⟩, rfl, .inr ⟨dX5_edgeOf_121, rfl⟩, rfl, .inr ⟨dX5_edgeOf_123, rfl⟩, rfl, .inl ⟨rfl, rfl⟩, trivial⟩
set_option maxRecDepth 100000 in
theorem ck_112_126 : am_cok am_T0 me_112 cd_112_126 126 := ⟨rfl, .inr ⟨dX5_edgeOf_126, rfl⟩, rfl, .inr ⟨dX5_edgeOf_129, rfl⟩, rfl, .inr ⟨dX5_edgeOf_131, rfl⟩, rfl, .inr ⟨dX5_edgeOf_132, rfl⟩, rfl, .inr ⟨dX5_edgeOf_135, rfl⟩, rfl, .inr ⟨dX5_edgeOf_138, rfl⟩, rfl, .inr ⟨dX5_edgeOf_140, rfl⟩, rfl, .inr ⟨dX5_edgeOf_141, rfl⟩, rfl, .inr ⟨dX5_edgeOf_144, rfl⟩, rfl, .inr ⟨dX5_edgeOf_145, rfl⟩, rfl, .inr ⟨dX5_edgeOf_146, rfl⟩, rfl, .inr ⟨dX5_edgeOf_147, rfl⟩, rfl, .inr ⟨dX5_edgeOf_149, rfl⟩, rfl, .inr ⟨dX5_edgeOf_150, rfl⟩, trivial⟩
set_option maxRecDepth 100000 in
theorem ck_112_151 : am_cok am_T0 me_112 cd_112_151 151 := ⟨rfl, .inr ⟨dX5_edgeOf_151, rfl⟩, rfl, .inr ⟨dX5_edgeOf_154, rfl⟩, trivial⟩
set_option maxRecDepth 100000 in
theorem ck_112_157 : am_cok am_T0 me_112 cd_112_157 157 := ⟨rfl, .inr ⟨dX5_edgeOf_157, rfl⟩, rfl, .inr ⟨dX5_edgeOf_160, rfl⟩, trivial⟩
set_option maxRecDepth 100000 in
theorem ck_112_163 : am_cok am_T0 me_112 cd_112_163 163 := ⟨rfl, .inr ⟨dX5_edgeOf_163, rfl⟩, rfl, .inr ⟨dX5_edgeOf_164, rfl⟩, trivial⟩
set_option maxRecDepth 100000 in
theorem ck_112 : ∀ p ∈ bl_112, am_cok am_T0 me_112 p.2 p.1 := List.forall_mem_cons.mpr ⟨ck_112_0, List.forall_mem_cons.mpr ⟨ck_112_5, List.forall_mem_cons.mpr ⟨ck_112_8, List.forall_mem_cons.mpr ⟨ck_112_19, List.forall_mem_cons.mpr ⟨ck_112_36, List.forall_mem_cons.mpr ⟨ck_112_37, List.forall_mem_cons.mpr ⟨ck_112_68, List.forall_mem_cons.mpr ⟨ck_112_87, List.forall_mem_cons.mpr ⟨ck_112_104, List.forall_mem_cons.mpr ⟨ck_112_107, List.forall_mem_cons.mpr ⟨ck_112_117, List.forall_mem_cons.mpr ⟨ck_112_126, List.forall_mem_cons.mpr ⟨ck_112_151, List.forall_mem_cons.mpr ⟨ck_112_157, List.forall_mem_cons.mpr ⟨ck_112_163, fun _ h => absurd h List.not_mem_nil⟩⟩⟩⟩⟩⟩⟩⟩⟩⟩⟩⟩⟩⟩⟩
set_option maxRecDepth 100000 in
theorem ck_113_0 : am_cok am_T0 me_113 cd_113_0 0 := ⟨rfl, .inr ⟨dX5_edge_0, rfl⟩, rfl, .inr ⟨dX5_edge_1, rfl⟩, rfl, .inr ⟨dX5_edge_2, rfl⟩, rfl, .inr ⟨dX5_edge_5, rfl⟩, rfl, .inr ⟨dX5_edge_6, rfl⟩, rfl, .inr ⟨dX5_edge_7, rfl⟩, rfl, .inr ⟨dX5_edge_8, rfl⟩, rfl, .inl ⟨rfl, rfl⟩, trivial⟩
set_option maxRecDepth 100000 in
theorem ck_113_11 : am_cok am_T0 me_113 cd_113_11 11 := ⟨rfl, .inr ⟨dX5_edge_11, rfl⟩, rfl, .inr ⟨dX5_edge_14, rfl⟩, rfl, .inr ⟨dX5_edge_15, rfl⟩, trivial⟩
set_option maxRecDepth 100000 in
theorem ck_113_16 : am_cok am_T0 me_113 cd_113_16 16 := ⟨rfl, .inr ⟨dX5_edge_16, rfl⟩, rfl, .inr ⟨dX5_edge_17, rfl⟩, rfl, .inr ⟨dX5_edge_18, rfl⟩, rfl, .inl ⟨rfl, rfl⟩, trivial⟩
set_option maxRecDepth 100000 in
theorem ck_113_21 : am_cok am_T0 me_113 cd_113_21 21 := ⟨rfl, .inr ⟨dX5_edge_21, rfl⟩, rfl, .inr ⟨dX5_edge_22, rfl⟩, rfl, .inr ⟨dX5_edge_23, rfl⟩, rfl, .inl ⟨rfl, rfl⟩, trivial⟩
set_option maxRecDepth 100000 in
theorem ck_113_26 : am_cok am_T0 me_113 cd_113_26 26 := ⟨rfl, .inr ⟨dX5_edge_26, rfl⟩, trivial⟩
set_option maxRecDepth 100000 in
theorem ck_113 : ∀ p ∈ bl_113, am_cok am_T0 me_113 p.2 p.1 := List.forall_mem_cons.mpr ⟨ck_113_0, List.forall_mem_cons.mpr ⟨ck_113_11, List.forall_mem_cons.mpr ⟨ck_113_16, List.forall_mem_cons.mpr ⟨ck_113_21, List.forall_mem_cons.mpr ⟨ck_113_26, fun _ h => absurd h List.not_mem_nil⟩⟩⟩⟩⟩
set_option maxRecDepth 100000 in
theorem ck_114_0 : am_cok am_T0 me_114 cd_114_0 0 := ⟨rfl, .inr ⟨dX5_know_0, rfl⟩, rfl, .inr ⟨dX5_know_1, rfl⟩, rfl, .inr ⟨dX5_know_4, rfl⟩, rfl, .inr ⟨dX5_know_7, rfl⟩, trivial⟩
set_option maxRecDepth 100000 in
theorem ck_114_8 : am_cok am_T0 me_114 cd_114_8 8 := ⟨rfl, .inr ⟨dX5_know_8, rfl⟩, rfl, .inr ⟨dX5_know_9, rfl⟩, rfl, .inr ⟨dX5_know_10, rfl⟩, rfl, .inr ⟨dX5_know_13, rfl⟩, rfl, .inr ⟨dX5_know_14, rfl⟩, rfl, .inr ⟨dX5_know_15, rfl⟩, rfl, .inr ⟨dX5_know_18, rfl⟩, rfl, .inr ⟨dX5_know_19, rfl⟩, rfl, .inr ⟨dX5_know_20, rfl⟩, rfl, .inr ⟨dX5_know_23, rfl⟩, rfl, .inr ⟨dX5_know_24, rfl⟩, rfl, .inr ⟨dX5_know_25, rfl⟩, rfl, .inr ⟨dX5_know_26, rfl⟩, rfl, .inr ⟨dX5_know_27, rfl⟩, rfl, .inr ⟨dX5_know_28, rfl⟩, rfl, .inl ⟨rfl, rfl⟩, trivial⟩
set_option maxRecDepth 100000 in
theorem ck_114_29 : am_cok am_T0 me_114 cd_114_29 29 := ⟨rfl, .inr ⟨dX5_know_29, rfl⟩, rfl, .inr ⟨dX5_know_30, rfl⟩, rfl, .inr ⟨dX5_know_33, rfl⟩, rfl, .inr ⟨dX5_know_34, rfl⟩, rfl, .inr ⟨dX5_know_35, rfl⟩, rfl, .inr ⟨dX5_know_38, rfl⟩, rfl, .inr ⟨dX5_know_39, rfl⟩, trivial⟩
set_option maxRecDepth 100000 in
theorem ck_114_42 : am_cok am_T0 me_114 cd_114_42 42 := ⟨rfl, .inr ⟨dX5_know_42, rfl⟩, rfl, .inl ⟨rfl, rfl⟩, trivial⟩
set_option maxRecDepth 100000 in
theorem ck_114_43 : am_cok am_T0 me_114 cd_114_43 43 := ⟨rfl, .inr ⟨dX5_know_43, rfl⟩, rfl, .inr ⟨dX5_know_44, rfl⟩, rfl, .inr ⟨dX5_know_45, rfl⟩, rfl, .inr ⟨dX5_know_48, rfl⟩, rfl, .inr ⟨dX5_know_49, rfl⟩, rfl, .inr ⟨dX5_know_50, rfl⟩, rfl, .inl ⟨rfl, rfl⟩, trivial⟩
set_option maxRecDepth 100000 in
theorem ck_114_53 : am_cok am_T0 me_114 cd_114_53 53 := ⟨rfl, .inr ⟨dX5_know_53, rfl⟩, rfl, .inr ⟨dX5_know_54, rfl⟩, rfl, .inl ⟨rfl, rfl⟩, trivial⟩
set_option maxRecDepth 100000 in
theorem ck_114_56 : am_cok am_T0 me_114 cd_114_56 56 := ⟨rfl, .inr ⟨dX5_know_56, rfl⟩, rfl, .inr ⟨dX5_know_58, rfl⟩, rfl, .inr ⟨dX5_know_59, rfl⟩, rfl, .inr ⟨dX5_know_62, rfl⟩, rfl, .inr ⟨dX5_know_65, rfl⟩, rfl, .inr ⟨dX5_know_66, rfl⟩, rfl, .inr ⟨dX5_know_69, rfl⟩, rfl, .inr ⟨dX5_know_70, rfl⟩, rfl, .inr ⟨dX5_know_72, rfl⟩, rfl, .inr ⟨dX5_know_73, rfl⟩, rfl, .inr ⟨dX5_know_74, rfl⟩, rfl, .inr ⟨dX5_know_75, rfl⟩, rfl, .inr ⟨dX5_know_78, rfl⟩, rfl, .inr ⟨dX5_know_79, rfl⟩, rfl, .inr ⟨dX5_know_82, rfl⟩, rfl, .inr ⟨dX5_know_83, rfl⟩, rfl, .inr ⟨dX5_know_84, rfl⟩, rfl, .inr ⟨dX5_know_86, rfl⟩, rfl, .inr ⟨dX5_know_87, rfl⟩, rfl, .inr ⟨dX5_know_88, rfl⟩, rfl, .inr ⟨dX5_know_89, rfl⟩, rfl, .inr ⟨dX5_know_90, rfl⟩, rfl, .inr ⟨dX5_know_91, rfl⟩, rfl, .inr ⟨dX5_know_94, rfl⟩, rfl, .inl ⟨rfl, rfl⟩, trivial⟩
set_option maxRecDepth 100000 in
theorem ck_114_95 : am_cok am_T0 me_114 cd_114_95 95 := ⟨rfl, .inr ⟨dX5_know_95, rfl⟩, rfl, .inr ⟨dX5_know_97, rfl⟩, rfl, .inl ⟨rfl, rfl⟩, trivial⟩
set_option maxRecDepth 100000 in
theorem ck_114_100 : am_cok am_T0 me_114 cd_114_100 100 := ⟨rfl, .inr ⟨dX5_know_100, rfl⟩, rfl, .inr ⟨dX5_know_103, rfl⟩, rfl, .inr ⟨dX5_know_104, rfl⟩, rfl, .inr ⟨dX5_know_106, rfl⟩, rfl, .inl ⟨rfl, rfl⟩, trivial⟩
set_option maxRecDepth 100000 in
theorem ck_114_109 : am_cok am_T0 me_114 cd_114_109 109 := ⟨rfl, .inr ⟨dX5_know_109, rfl⟩, rfl, .inr ⟨dX5_know_110, rfl⟩, rfl, .inr ⟨dX5_know_113, rfl⟩, rfl, .inr ⟨dX5_know_114, rfl⟩, trivial⟩
set_option maxRecDepth 100000 in
theorem ck_114_117 : am_cok am_T0 me_114 cd_114_117 117 := ⟨rfl, .inr ⟨dX5_know_117, rfl⟩, rfl, .inl ⟨rfl, rfl⟩, trivial⟩
set_option maxRecDepth 100000 in
theorem ck_114_118 : am_cok am_T0 me_114 cd_114_118 118 := ⟨rfl, .inr ⟨dX5_know_118, rfl⟩, rfl, .inr ⟨dX5_know_119, rfl⟩, rfl, .inr ⟨dX5_know_122, rfl⟩, trivial⟩
set_option maxRecDepth 100000 in
theorem ck_114_125 : am_cok am_T0 me_114 cd_114_125 125 := ⟨rfl, .inr ⟨dX5_know_125, rfl⟩, rfl, .inr ⟨dX5_know_126, rfl⟩, rfl, .inr ⟨dX5_know_129, rfl⟩, rfl, .inr ⟨dX5_know_130, rfl⟩, rfl, .inr ⟨dX5_know_131, rfl⟩, rfl, .inr ⟨dX5_know_132, rfl⟩, rfl, .inr ⟨dX5_know_133, rfl⟩, rfl, .inr ⟨dX5_know_134, rfl⟩, rfl, .inr ⟨dX5_know_135, rfl⟩, rfl, .inr ⟨dX5_know_136, rfl⟩, rfl, .inr ⟨dX5_know_139, rfl⟩, rfl, .inr ⟨dX5_know_140, rfl⟩, rfl, .inr ⟨dX5_know_143, rfl⟩, rfl, .inr ⟨dX5_know_144, rfl⟩, trivial⟩
set_option maxRecDepth 100000 in
theorem ck_114_147 : am_cok am_T0 me_114 cd_114_147 147 := ⟨rfl, .inr ⟨dX5_know_147, rfl⟩, rfl, .inl ⟨rfl, rfl⟩, trivial⟩
set_option maxRecDepth 100000 in
theorem ck_114_148 : am_cok am_T0 me_114 cd_114_148 148 := ⟨rfl, .inr ⟨dX5_know_148, rfl⟩, rfl, .inr ⟨dX5_know_149, rfl⟩, rfl, .inr ⟨dX5_know_152, rfl⟩, rfl, .inr ⟨dX5_know_155, rfl⟩, trivial⟩
set_option maxRecDepth 100000 in
theorem ck_114_158 : am_cok am_T0 me_114 cd_114_158 158 := ⟨rfl, .inr ⟨dX5_know_158, rfl⟩, trivial⟩
set_option maxRecDepth 100000 in
theorem ck_114 : ∀ p ∈ bl_114, am_cok am_T0 me_114 p.2 p.1 := List.forall_mem_cons.mpr ⟨ck_114_0, List.forall_mem_cons.mpr ⟨ck_114_8, List.forall_mem_cons.mpr ⟨ck_114_29, List.forall_mem_cons.mpr ⟨ck_114_42, List.forall_mem_cons.mpr ⟨ck_114_43, List.forall_mem_cons.mpr ⟨ck_114_53, List.forall_mem_cons.mpr ⟨ck_114_56, List.forall_mem_cons.mpr ⟨ck_114_95, List.forall_mem_cons.mpr ⟨ck_114_100, List.forall_mem_cons.mpr ⟨ck_114_109, List.forall_mem_cons.mpr ⟨ck_114_117, List.forall_mem_cons.mpr ⟨ck_114_118, List.forall_mem_cons.mpr ⟨ck_114_125, List.forall_mem_cons.mpr ⟨ck_114_147, List.forall_mem_cons.mpr ⟨ck_114_148, List.forall_mem_cons.mpr ⟨ck_114_158, fun _ h => absurd h List.not_mem_nil⟩⟩⟩⟩⟩⟩⟩⟩⟩⟩⟩⟩⟩⟩⟩⟩
set_option maxRecDepth 100000 in
theorem ck_115_0 : am_cok am_T0 me_115 cd_115_0 0 := ⟨rfl, .inr ⟨dX5_order_0, rfl⟩, rfl, .inr ⟨dX5_order_1, rfl⟩, rfl, .inr ⟨dX5_order_2, rfl⟩, rfl, .inr ⟨dX5_order_5, rfl⟩, rfl, .inr ⟨dX5_order_6, rfl⟩, rfl, .inr ⟨dX5_order_9, rfl⟩, rfl, .inr ⟨dX5_order_12, rfl⟩, rfl, .inr ⟨dX5_order_13, rfl⟩, trivial⟩
set_option maxRecDepth 100000 in
theorem ck_115_14 : am_cok am_T0 me_115 cd_115_14 14 := ⟨rfl, .inr ⟨dX5_order_14, rfl⟩, rfl, .inr ⟨dX5_order_15, rfl⟩, rfl, .inl ⟨rfl, rfl⟩, trivial⟩
set_option maxRecDepth 100000 in
theorem ck_115_18 : am_cok am_T0 me_115 cd_115_18 18 := ⟨rfl, .inr ⟨dX5_order_18, rfl⟩, rfl, .inr ⟨dX5_order_19, rfl⟩, rfl, .inr ⟨dX5_order_22, rfl⟩, rfl, .inr ⟨dX5_order_23, rfl⟩, rfl, .inr ⟨dX5_order_24, rfl⟩, rfl, .inr ⟨dX5_order_27, rfl⟩, rfl, .inr ⟨dX5_order_28, rfl⟩, rfl, .inr ⟨dX5_order_31, rfl⟩, rfl, .inr ⟨dX5_order_32, rfl⟩, rfl, .inr ⟨dX5_order_33, rfl⟩, trivial⟩
set_option maxRecDepth 100000 in
theorem ck_115_36 : am_cok am_T0 me_115 cd_115_36 36 := ⟨rfl, .inr ⟨dX5_order_36, rfl⟩, rfl, .inl ⟨rfl, rfl⟩, trivial⟩
set_option maxRecDepth 100000 in
theorem ck_115_37 : am_cok am_T0 me_115 cd_115_37 37 := ⟨rfl, .inr ⟨dX5_order_37, rfl⟩, trivial⟩
set_option maxRecDepth 100000 in
theorem ck_115 : ∀ p ∈ bl_115, am_cok am_T0 me_115 p.2 p.1 := List.forall_mem_cons.mpr ⟨ck_115_0, List.forall_mem_cons.mpr ⟨ck_115_14, List.forall_mem_cons.mpr ⟨ck_115_18, List.forall_mem_cons.mpr ⟨ck_115_36, List.forall_mem_cons.mpr ⟨ck_115_37, fun _ h => absurd h List.not_mem_nil⟩⟩⟩⟩⟩
set_option maxRecDepth 100000 in
theorem ck_116_0 : am_cok am_T0 me_116 cd_116_0 0 := ⟨rfl, .inr ⟨dX5_step_0, rfl⟩, rfl, .inr ⟨dX5_step_1, rfl⟩, rfl, .inr ⟨dX5_step_2, rfl⟩, rfl, .inr ⟨dX5_step_5, rfl⟩, rfl, .inr ⟨dX5_step_6, rfl⟩, rfl, .inr ⟨dX5_step_7, rfl⟩, rfl, .inr ⟨dX5_step_8, rfl⟩, rfl, .inr ⟨dX5_step_9, rfl⟩, rfl, .inr ⟨dX5_step_12, rfl⟩, rfl, .inr ⟨dX5_step_13, rfl⟩, rfl, .inr ⟨dX5_step_16, rfl⟩, rfl, .inr ⟨dX5_step_17, rfl⟩, rfl, .inl ⟨rfl, rfl⟩, trivial⟩
set_option maxRecDepth 100000 in
theorem ck_116_20 : am_cok am_T0 me_116 cd_116_20 20 := ⟨rfl, .inr ⟨dX5_step_20, rfl⟩, rfl, .inr ⟨dX5_step_23, rfl⟩, rfl, .inr ⟨dX5_step_24, rfl⟩, trivial⟩
set_option maxRecDepth 100000 in
theorem ck_116_25 : am_cok am_T0 me_116 cd_116_25 25 := ⟨rfl, .inr ⟨dX5_step_25, rfl⟩, rfl, .inr ⟨dX5_step_26, rfl⟩, rfl, .inl ⟨rfl, rfl⟩, trivial⟩
set_option maxRecDepth 100000 in
theorem ck_116_29 : am_cok am_T0 me_116 cd_116_29 29 := ⟨rfl, .inr ⟨dX5_step_29, rfl⟩, rfl, .inr ⟨dX5_step_30, rfl⟩, rfl, .inr ⟨dX5_step_33, rfl⟩, rfl, .inr ⟨dX5_step_34, rfl⟩, rfl, .inr ⟨dX5_step_35, rfl⟩, rfl, .inr ⟨dX5_step_38, rfl⟩, rfl, .inr ⟨dX5_step_39, rfl⟩, trivial⟩
set_option maxRecDepth 100000 in
theorem ck_116_40 : am_cok am_T0 me_116 cd_116_40 40 := ⟨rfl, .inr ⟨dX5_step_40, rfl⟩, rfl, .inr ⟨dX5_step_41, rfl⟩, rfl, .inr ⟨dX5_step_42, rfl⟩, rfl, .inr ⟨dX5_step_43, rfl⟩, rfl, .inr ⟨dX5_step_44, rfl⟩, rfl, .inr ⟨dX5_step_45, rfl⟩, rfl, .inl ⟨rfl, rfl⟩, trivial⟩
set_option maxRecDepth 100000 in
theorem ck_116_47 : am_cok am_T0 me_116 cd_116_47 47 := ⟨rfl, .inr ⟨dX5_step_47, rfl⟩, rfl, .inr ⟨dX5_step_49, rfl⟩, rfl, .inr ⟨dX5_step_50, rfl⟩, rfl, .inr ⟨dX5_step_53, rfl⟩, rfl, .inr ⟨dX5_step_54, rfl⟩, rfl, .inr ⟨dX5_step_55, rfl⟩, rfl, .inl ⟨rfl, rfl⟩, trivial⟩
set_option maxRecDepth 100000 in
theorem ck_116_58 : am_cok am_T0 me_116 cd_116_58 58 := ⟨rfl, .inr ⟨dX5_step_58, rfl⟩, rfl, .inr ⟨dX5_step_59, rfl⟩, rfl, .inl ⟨rfl, rfl⟩, trivial⟩
set_option maxRecDepth 100000 in
theorem ck_116_60 : am_cok am_T0 me_116 cd_116_60 60 := ⟨rfl, .inr ⟨dX5_step_60, rfl⟩, rfl, .inr ⟨dX5_step_61, rfl⟩, rfl, .inr ⟨dX5_step_62, rfl⟩, rfl, .inr ⟨dX5_step_63, rfl⟩, rfl, .inr ⟨dX5_step_64, rfl⟩, rfl, .inr ⟨dX5_step_65, rfl⟩, rfl, .inr ⟨dX5_step_66, rfl⟩, rfl, .inr ⟨dX5_step_69, rfl⟩, rfl, .inr ⟨dX5_step_70, rfl⟩, rfl, .inr ⟨dX5_step_73, rfl⟩, rfl, .inr ⟨dX5_step_74, rfl⟩, rfl, .inr ⟨dX5_step_75, rfl⟩, rfl, .inr ⟨dX5_step_76, rfl⟩, rfl, .inr ⟨dX5_step_77, rfl⟩, rfl, .inr ⟨dX5_step_78, rfl⟩, rfl, .inr ⟨dX5_step_79, rfl⟩, rfl, .inr ⟨dX5_step_80, rfl⟩, rfl, .inr ⟨dX5_step_81, rfl⟩, rfl, .inr ⟨dX5_step_84, rfl⟩, rfl, .inr ⟨dX5_step_85, rfl⟩, rfl, .inr ⟨dX5_step_86, rfl⟩, rfl, .inl ⟨rfl, rfl⟩, trivial⟩
set_option maxRecDepth 100000 in
theorem ck_116_89 : am_cok am_T0 me_116 cd_116_89 89 := ⟨rfl, .inr ⟨dX5_step_89, rfl⟩, rfl, .inr ⟨dX5_step_92, rfl⟩, rfl, .inr ⟨dX5_step_93, rfl⟩, rfl, .inr ⟨dX5_step_94, rfl⟩, rfl, .inl ⟨rfl, rfl⟩, trivial⟩
set_option maxRecDepth 100000 in
theorem ck_116_97 : am_cok am_T0 me_116 cd_116_97 97 := ⟨rfl, .inr ⟨dX5_step_97, rfl⟩, rfl, .inr ⟨dX5_step_98, rfl⟩, rfl, .inl ⟨rfl, rfl⟩, trivial⟩
set_option maxRecDepth 100000 in
theorem ck_116_101 : am_cok am_T0 me_116 cd_116_101 101 := ⟨rfl, .inr ⟨dX5_step_101, rfl⟩, rfl, .inr ⟨dX5_step_104, rfl⟩, trivial⟩
set_option maxRecDepth 100000 in
theorem ck_116_107 : am_cok am_T0 me_116 cd_116_107 107 := ⟨rfl, .inr ⟨dX5_step_107, rfl⟩, rfl, .inr ⟨dX5_step_108, rfl⟩, rfl, .inr ⟨dX5_step_109, rfl⟩, rfl, .inr ⟨dX5_step_110, rfl⟩, rfl, .inr ⟨dX5_step_111, rfl⟩, rfl, .inr ⟨dX5_step_112, rfl⟩, rfl, .inr ⟨dX5_step_113, rfl⟩, rfl, .inr ⟨dX5_step_116, rfl⟩, trivial⟩
set_option maxRecDepth 100000 in
theorem ck_116_119 : am_cok am_T0 me_116 cd_116_119 119 := ⟨rfl, .inr ⟨dX5_step_119, rfl⟩, rfl, .inr ⟨dX5_step_120, rfl⟩, trivial⟩
set_option maxRecDepth 100000 in
theorem ck_116 : ∀ p ∈ bl_116, am_cok am_T0 me_116 p.2 p.1 := List.forall_mem_cons.mpr ⟨ck_116_0, List.forall_mem_cons.mpr ⟨ck_116_20, List.forall_mem_cons.mpr ⟨ck_116_25, List.forall_mem_cons.mpr ⟨ck_116_29, List.forall_mem_cons.mpr ⟨ck_116_40, List.forall_mem_cons.mpr ⟨ck_116_47, List.forall_mem_cons.mpr ⟨ck_116_58, List.forall_mem_cons.mpr ⟨ck_116_60, List.forall_mem_cons.mpr ⟨ck_116_89, List.forall_mem_cons.mpr ⟨ck_116_97, List.forall_mem_cons.mpr ⟨ck_116_101, List.forall_mem_cons.mpr ⟨ck_116_107, List.forall_mem_cons.mpr ⟨ck_116_119, fun _ h => absurd h List.not_mem_nil⟩⟩⟩⟩⟩⟩⟩⟩⟩⟩⟩⟩⟩
set_option maxRecDepth 100000 in
theorem ck_117_0 : am_cok am_T0 me_117 cd_117_0 0 := ⟨rfl, .inr ⟨dX5_count_0, rfl⟩, rfl, .inr ⟨dX5_count_1, rfl⟩, rfl, .inr ⟨dX5_count_2, rfl⟩, rfl, .inr ⟨dX5_count_5, rfl⟩, rfl, .inr ⟨dX5_count_6, rfl⟩, rfl, .inr ⟨dX5_count_7, rfl⟩, rfl, .inr ⟨dX5_count_10, rfl⟩, rfl, .inr ⟨dX5_count_11, rfl⟩, rfl, .inr ⟨dX5_count_14, rfl⟩, rfl, .inr ⟨dX5_count_17, rfl⟩, rfl, .inr ⟨dX5_count_18, rfl⟩, rfl, .inl ⟨rfl, rfl⟩, trivial⟩
set_option maxRecDepth 100000 in
theorem ck_117_21 : am_cok am_T0 me_117 cd_117_21 21 := ⟨rfl, .inr ⟨dX5_count_21, rfl⟩, rfl, .inr ⟨dX5_count_22, rfl⟩, rfl, .inr ⟨dX5_count_25, rfl⟩, trivial⟩
set_option maxRecDepth 100000 in
theorem ck_117_26 : am_cok am_T0 me_117 cd_117_26 26 := ⟨rfl, .inr ⟨dX5_count_26, rfl⟩, rfl, .inr ⟨dX5_count_27, rfl⟩, rfl, .inr ⟨dX5_count_30, rfl⟩, rfl, .inr ⟨dX5_count_31, rfl⟩, rfl, .inr ⟨dX5_count_34, rfl⟩, trivial⟩
set_option maxRecDepth 100000 in
theorem ck_117_37 : am_cok am_T0 me_117 cd_117_37 37 := ⟨rfl, .inr ⟨dX5_count_37, rfl⟩, rfl, .inr ⟨dX5_count_38, rfl⟩, rfl, .inr ⟨dX5_count_39, rfl⟩, rfl, .inr ⟨dX5_count_42, rfl⟩, rfl, .inr ⟨dX5_count_43, rfl⟩, trivial⟩
set_option maxRecDepth 100000 in
theorem ck_117_46 : am_cok am_T0 me_117 cd_117_46 46 := ⟨rfl, .inr ⟨dX5_count_46, rfl⟩, rfl, .inl ⟨rfl, rfl⟩, trivial⟩
set_option maxRecDepth 100000 in
theorem ck_117_47 : am_cok am_T0 me_117 cd_117_47 47 := ⟨rfl, .inr ⟨dX5_count_47, rfl⟩, trivial⟩
set_option maxRecDepth 100000 in
theorem ck_117 : ∀ p ∈ bl_117, am_cok am_T0 me_117 p.2 p.1 := List.forall_mem_cons.mpr ⟨ck_117_0, List.forall_mem_cons.mpr ⟨ck_117_21, List.forall_mem_cons.mpr ⟨ck_117_26, List.forall_mem_cons.mpr ⟨ck_117_37, List.forall_mem_cons.mpr ⟨ck_117_46, List.forall_mem_cons.mpr ⟨ck_117_47, fun _ h => absurd h List.not_mem_nil⟩⟩⟩⟩⟩⟩
set_option maxRecDepth 100000 in
theorem ck_118_0 : am_cok am_T0 me_118 cd_118_0 0 := ⟨rfl, .inr ⟨dX5_check_0, rfl⟩, rfl, .inr ⟨dX5_check_1, rfl⟩, rfl, .inr ⟨dX5_check_2, rfl⟩, rfl, .inr ⟨dX5_check_5, rfl⟩, rfl, .inr ⟨dX5_check_6, rfl⟩, trivial⟩
set_option maxRecDepth 100000 in
theorem ck_118 : ∀ p ∈ bl_118, am_cok am_T0 me_118 p.2 p.1 := List.forall_mem_cons.mpr ⟨ck_118_0, fun _ h => absurd h List.not_mem_nil⟩
set_option maxRecDepth 100000 in
theorem ck_119_0 : am_cok am_T0 me_119 cd_119_0 0 := ⟨rfl, .inr ⟨dJ6_bitCount_0f7a4_0, rfl⟩, rfl, .inr ⟨dJ6_bitCount_0f7a4_1, rfl⟩, rfl, .inr ⟨dJ6_bitCount_0f7a4_2, rfl⟩, rfl, .inr ⟨dJ6_bitCount_0f7a4_3, rfl⟩, rfl, .inr ⟨dJ6_bitCount_0f7a4_4, rfl⟩, rfl, .inr ⟨dJ6_bitCount_0f7a4_7, rfl⟩, rfl, .inr ⟨dJ6_bitCount_0f7a4_8, rfl⟩, rfl, .inr ⟨dJ6_bitCount_0f7a4_9, rfl⟩, rfl, .inr ⟨dJ6_bitCount_0f7a4_10, rfl⟩, rfl, .inr ⟨dJ6_bitCount_0f7a4_11, rfl⟩, rfl, .inr ⟨dJ6_bitCount_0f7a4_14, rfl⟩, rfl, .inr ⟨dJ6_bitCount_0f7a4_15, rfl⟩, rfl, .inr ⟨dJ6_bitCount_0f7a4_16, rfl⟩, rfl, .inr ⟨dJ6_bitCount_0f7a4_17, rfl⟩, rfl, .inr ⟨dJ6_bitCount_0f7a4_18, rfl⟩, rfl, .inr ⟨dJ6_bitCount_0f7a4_21, rfl⟩, rfl, .inr ⟨dJ6_bitCount_0f7a4_22, rfl⟩, rfl, .inr ⟨dJ6_bitCount_0f7a4_23, rfl⟩, rfl, .inr ⟨dJ6_bitCount_0f7a4_24, rfl⟩, rfl, .inr ⟨dJ6_bitCount_0f7a4_25, rfl⟩, rfl, .inr ⟨dJ6_bitCount_0f7a4_26, rfl⟩, rfl, .inr ⟨dJ6_bitCount_0f7a4_27, rfl⟩, rfl, .inr ⟨dJ6_bitCount_0f7a4_28, rfl⟩, rfl, .inr ⟨dJ6_bitCount_0f7a4_29, rfl⟩, rfl, .inr ⟨dJ6_bitCount_0f7a4_32, rfl⟩, rfl, .inr ⟨dJ6_bitCount_0f7a4_33, rfl⟩, rfl, .inr ⟨dJ6_bitCount_0f7a4_34, rfl⟩, rfl, .inl ⟨rfl, rfl⟩, trivial⟩
set_option maxRecDepth 100000 in
theorem ck_119_35 : am_cok am_T0 me_119 cd_119_35 35 := ⟨rfl, .inr ⟨dJ6_bitCount_0f7a4_35, rfl⟩, rfl, .inr ⟨dJ6_bitCount_0f7a4_36, rfl⟩, rfl, .inr ⟨dJ6_bitCount_0f7a4_38, rfl⟩, rfl, .inr ⟨dJ6_bitCount_0f7a4_39, rfl⟩, rfl, .inr ⟨dJ6_bitCount_0f7a4_40, rfl⟩, rfl, .inr ⟨dJ6_bitCount_0f7a4_41, rfl⟩, rfl, .inr ⟨dJ6_bitCount_0f7a4_42, rfl⟩, rfl, .inr ⟨dJ6_bitCount_0f7a4_43, rfl⟩, rfl, .inr ⟨dJ6_bitCount_0f7a4_45, rfl⟩, rfl, .inr ⟨dJ6_bitCount_0f7a4_46, rfl⟩, rfl, .inr ⟨dJ6_bitCount_0f7a4_47, rfl⟩, rfl, .inr ⟨dJ6_bitCount_0f7a4_48, rfl⟩, rfl, .inr ⟨dJ6_bitCount_0f7a4_49, rfl⟩, rfl, .inr ⟨dJ6_bitCount_0f7a4_51, rfl⟩, rfl, .inr ⟨dJ6_bitCount_0f7a4_52, rfl⟩, trivial⟩
set_option maxRecDepth 100000 in
theorem ck_119 : ∀ p ∈ bl_119, am_cok am_T0 me_119 p.2 p.1 := List.forall_mem_cons.mpr ⟨ck_119_0, List.forall_mem_cons.mpr ⟨ck_119_35, fun _ h => absurd h List.not_mem_nil⟩⟩
set_option maxRecDepth 100000 in
theorem ck_120_0 : am_cok am_T0 me_120 cd_120_0 0 := ⟨rfl, .inr ⟨dJ9_max_7cf53_0, rfl⟩, rfl, .inr ⟨dJ9_max_7cf53_1, rfl⟩, rfl, .inr ⟨dJ9_max_7cf53_2, rfl⟩, rfl, .inr ⟨dJ9_max_7cf53_5, rfl⟩, rfl, .inr ⟨dJ9_max_7cf53_6, rfl⟩, trivial⟩
set_option maxRecDepth 100000 in
theorem ck_120_9 : am_cok am_T0 me_120 cd_120_9 9 := ⟨rfl, .inr ⟨dJ9_max_7cf53_9, rfl⟩, rfl, .inl ⟨rfl, rfl⟩, trivial⟩
set_option maxRecDepth 100000 in
theorem ck_120_10 : am_cok am_T0 me_120 cd_120_10 10 := ⟨rfl, .inr ⟨dJ9_max_7cf53_10, rfl⟩, trivial⟩
set_option maxRecDepth 100000 in
theorem ck_120 : ∀ p ∈ bl_120, am_cok am_T0 me_120 p.2 p.1 := List.forall_mem_cons.mpr ⟨ck_120_0, List.forall_mem_cons.mpr ⟨ck_120_9, List.forall_mem_cons.mpr ⟨ck_120_10, fun _ h => absurd h List.not_mem_nil⟩⟩⟩
set_option maxRecDepth 100000 in
theorem ck_121_0 : am_cok am_T0 me_121 cd_121_0 0 := ⟨rfl, .inr ⟨dJ9_min_7cf53_0, rfl⟩, rfl, .inr ⟨dJ9_min_7cf53_1, rfl⟩, rfl, .inr ⟨dJ9_min_7cf53_2, rfl⟩, rfl, .inr ⟨dJ9_min_7cf53_5, rfl⟩, rfl, .inr ⟨dJ9_min_7cf53_6, rfl⟩, trivial⟩
set_option maxRecDepth 100000 in
theorem ck_121_9 : am_cok am_T0 me_121 cd_121_9 9 := ⟨rfl, .inr ⟨dJ9_min_7cf53_9, rfl⟩, rfl, .inl ⟨rfl, rfl⟩, trivial⟩
set_option maxRecDepth 100000 in
theorem ck_121_10 : am_cok am_T0 me_121 cd_121_10 10 := ⟨rfl, .inr ⟨dJ9_min_7cf53_10, rfl⟩, trivial⟩
set_option maxRecDepth 100000 in
theorem ck_121 : ∀ p ∈ bl_121, am_cok am_T0 me_121 p.2 p.1 := List.forall_mem_cons.mpr ⟨ck_121_0, List.forall_mem_cons.mpr ⟨ck_121_9, List.forall_mem_cons.mpr ⟨ck_121_10, fun _ h => absurd h List.not_mem_nil⟩⟩⟩
set_option maxRecDepth 100000 in
theorem ck_122_0 : am_cok am_T0 me_122 cd_122_0 0 := ⟨rfl, .inr ⟨dL_law_0, rfl⟩, rfl, .inr ⟨dL_law_3, rfl⟩, rfl, .inr ⟨dL_law_4, rfl⟩, rfl, .inl ⟨rfl, rfl⟩, trivial⟩
set_option maxRecDepth 100000 in
theorem ck_122_7 : am_cok am_T0 me_122 cd_122_7 7 := ⟨rfl, .inr ⟨dL_law_7, rfl⟩, rfl, .inr ⟨dL_law_8, rfl⟩, rfl, .inr ⟨dL_law_11, rfl⟩, rfl, .inr ⟨dL_law_12, rfl⟩, rfl, .inl ⟨rfl, rfl⟩, trivial⟩
set_option maxRecDepth 100000 in
theorem ck_122_15 : am_cok am_T0 me_122 cd_122_15 15 := ⟨rfl, .inr ⟨dL_law_15, rfl⟩, rfl, .inr ⟨dL_law_16, rfl⟩, rfl, .inr ⟨dL_law_17, rfl⟩, rfl, .inl ⟨rfl, rfl⟩, trivial⟩
set_option maxRecDepth 100000 in
theorem ck_122_18 : am_cok am_T0 me_122 cd_122_18 18 := ⟨rfl, .inr ⟨dL_law_18, rfl⟩, rfl, .inr ⟨dL_law_19, rfl⟩, rfl, .inr ⟨dL_law_20, rfl⟩, rfl, .inr ⟨dL_law_21, rfl⟩, rfl, .inr ⟨dL_law_23, rfl⟩, rfl, .inr ⟨dL_law_24, rfl⟩, rfl, .inr ⟨dL_law_27, rfl⟩, rfl, .inr ⟨dL_law_28, rfl⟩, rfl, .inr ⟨dL_law_29, rfl⟩, rfl, .inr ⟨dL_law_30, rfl⟩, rfl, .inr ⟨dL_law_32, rfl⟩, rfl, .inr ⟨dL_law_33, rfl⟩, trivial⟩
set_option maxRecDepth 100000 in
theorem ck_122_120 : am_cok am_T0 me_122 cd_122_120 120 := ⟨rfl, .inr ⟨dL_law_120, rfl⟩, rfl, .inr ⟨dL_law_121, rfl⟩, rfl, .inr ⟨dL_law_122, rfl⟩, rfl, .inr ⟨dL_law_123, rfl⟩, rfl, .inr ⟨dL_law_124, rfl⟩, rfl, .inr ⟨dL_law_125, rfl⟩, rfl, .inr ⟨dL_law_126, rfl⟩, rfl, .inr ⟨dL_law_127, rfl⟩, rfl, .inr ⟨dL_law_128, rfl⟩, rfl, .inr ⟨dL_law_129, rfl⟩, rfl, .inr ⟨dL_law_130, rfl⟩, rfl, .inr ⟨dL_law_131, rfl⟩, rfl, .inl ⟨rfl, rfl⟩, trivial⟩
set_option maxRecDepth 100000 in
theorem ck_122_134 : am_cok am_T0 me_122 cd_122_134 134 := ⟨rfl, .inr ⟨dL_law_134, rfl⟩, rfl, .inr ⟨dL_law_135, rfl⟩, rfl, .inr ⟨dL_law_136, rfl⟩, rfl, .inr ⟨dL_law_137, rfl⟩, rfl, .inr ⟨dL_law_138, rfl⟩, rfl, .inr ⟨dL_law_139, rfl⟩, rfl, .inr ⟨dL_law_140, rfl⟩, rfl, .inr ⟨dL_law_141, rfl⟩, rfl, .inr ⟨dL_law_142, rfl⟩, rfl, .inr ⟨dL_law_143, rfl⟩, rfl, .inr ⟨dL_law_144, rfl⟩, rfl, .inr ⟨dL_law_145, rfl⟩, rfl, .inl ⟨rfl, rfl⟩, trivial⟩
set_option maxRecDepth 100000 in
theorem ck_122_148 : am_cok am_T0 me_122 cd_122_148 148 := ⟨rfl, .inr ⟨dL_law_148, rfl⟩, rfl, .inr ⟨dL_law_151, rfl⟩, rfl, .inl ⟨rfl, rfl⟩, trivial⟩
set_option maxRecDepth 100000 in
theorem ck_122_152 : am_cok am_T0 me_122 cd_122_152 152 := ⟨rfl, .inr ⟨dL_law_152, rfl⟩, trivial⟩
set_option maxRecDepth 100000 in
theorem ck_122_153 : am_cok am_T0 me_122 cd_122_153 153 := ⟨rfl, .inr ⟨dL_law_153, rfl⟩, rfl, .inr ⟨dL_law_154, rfl⟩, rfl, .inr ⟨dL_law_155, rfl⟩, rfl, .inr ⟨dL_law_156, rfl⟩, rfl, .inr ⟨dL_law_157, rfl⟩, rfl, .inr ⟨dL_law_158, rfl⟩, rfl, .inr ⟨dL_law_159, rfl⟩, rfl, .inr ⟨dL_law_160, rfl⟩, rfl, .inr ⟨dL_law_161, rfl⟩, rfl, .inr ⟨dL_law_162, rfl⟩, rfl, .inr ⟨dL_law_163, rfl⟩, rfl, .inr ⟨dL_law_164, rfl⟩, rfl, .inr ⟨dL_law_165, rfl⟩, rfl, .inr ⟨dL_law_166, rfl⟩, rfl, .inr ⟨dL_law_167, rfl⟩, rfl, .inr ⟨dL_law_168, rfl⟩, rfl, .inr ⟨dL_law_169, rfl⟩, rfl, .inr ⟨dL_law_170, rfl⟩, rfl, .inl ⟨rfl, rfl⟩, trivial⟩
set_option maxRecDepth 100000 in
theorem ck_122_171 : am_cok am_T0 me_122 cd_122_171 171 := ⟨rfl, .inr ⟨dL_law_171, rfl⟩, rfl, .inr ⟨dL_law_172, rfl⟩, rfl, .inr ⟨dL_law_173, rfl⟩, rfl, .inr ⟨dL_law_174, rfl⟩, rfl, .inr ⟨dL_law_175, rfl⟩, rfl, .inr ⟨dL_law_176, rfl⟩, rfl, .inr ⟨dL_law_177, rfl⟩, rfl, .inr ⟨dL_law_178, rfl⟩, rfl, .inr ⟨dL_law_179, rfl⟩, rfl, .inr ⟨dL_law_180, rfl⟩, rfl, .inr ⟨dL_law_181, rfl⟩, rfl, .inr ⟨dL_law_183, rfl⟩, rfl, .inr ⟨dL_law_184, rfl⟩, rfl, .inr ⟨dL_law_185, rfl⟩, rfl, .inl ⟨rfl, rfl⟩, trivial⟩
set_option maxRecDepth 100000 in
theorem ck_122_188 : am_cok am_T0 me_122 cd_122_188 188 := ⟨rfl, .inr ⟨dL_law_188, rfl⟩, rfl, .inr ⟨dL_law_189, rfl⟩, rfl, .inr ⟨dL_law_190, rfl⟩, rfl, .inr ⟨dL_law_191, rfl⟩, rfl, .inr ⟨dL_law_192, rfl⟩, rfl, .inr ⟨dL_law_193, rfl⟩, rfl, .inr ⟨dL_law_194, rfl⟩, rfl, .inr ⟨dL_law_195, rfl⟩, rfl, .inr ⟨dL_law_196, rfl⟩, rfl, .inr ⟨dL_law_197, rfl⟩, rfl, .inr ⟨dL_law_198, rfl⟩, rfl, .inr ⟨dL_law_199, rfl⟩, rfl, .inr ⟨dL_law_200, rfl⟩, rfl, .inr ⟨dL_law_201, rfl⟩, rfl, .inr ⟨dL_law_202, rfl⟩, rfl, .inr ⟨dL_law_203, rfl⟩, rfl, .inr ⟨dL_law_204, rfl⟩, rfl, .inr ⟨dL_law_205, rfl⟩, rfl, .inl ⟨rfl, rfl⟩, trivial⟩
set_option maxRecDepth 100000 in
theorem ck_122_206 : am_cok am_T0 me_122 cd_122_206 206 := ⟨rfl, .inr ⟨dL_law_206, rfl⟩, rfl, .inr ⟨dL_law_207, rfl⟩, rfl, .inr ⟨dL_law_208, rfl⟩, rfl, .inr ⟨dL_law_209, rfl⟩, rfl, .inr ⟨dL_law_210, rfl⟩, rfl, .inr ⟨dL_law_211, rfl⟩, rfl, .inr ⟨dL_law_212, rfl⟩, rfl, .inr ⟨dL_law_213, rfl⟩, rfl, .inr ⟨dL_law_214, rfl⟩, rfl, .inr ⟨dL_law_215, rfl⟩, rfl, .inr ⟨dL_law_216, rfl⟩, rfl, .inr ⟨dL_law_218, rfl⟩, rfl, .inr ⟨dL_law_219, rfl⟩, rfl, .inr ⟨dL_law_220, rfl⟩, rfl, .inl ⟨rfl, rfl⟩, trivial⟩
set_option maxRecDepth 100000 in
theorem ck_122_223 : am_cok am_T0 me_122 cd_122_223 223 := ⟨rfl, .inr ⟨dL_law_223, rfl⟩, rfl, .inr ⟨dL_law_226, rfl⟩, rfl, .inl ⟨rfl, rfl⟩, trivial⟩
set_option maxRecDepth 100000 in
theorem ck_122_227 : am_cok am_T0 me_122 cd_122_227 227 := ⟨rfl, .inr ⟨dL_law_227, rfl⟩, trivial⟩
set_option maxRecDepth 100000 in
theorem ck_122_228 : am_cok am_T0 me_122 cd_122_228 228 := ⟨rfl, .inr ⟨dL_law_228, rfl⟩, rfl, .inr ⟨dL_law_229, rfl⟩, rfl, .inr ⟨dL_law_230, rfl⟩, rfl, .inr ⟨dL_law_231, rfl⟩, rfl, .inr ⟨dL_law_232, rfl⟩, rfl, .inr ⟨dL_law_233, rfl⟩, rfl, .inr ⟨dL_law_234, rfl⟩, rfl, .inl ⟨rfl, rfl⟩, trivial⟩
set_option maxRecDepth 100000 in
theorem ck_122_237 : am_cok am_T0 me_122 cd_122_237 237 := ⟨rfl, .inr ⟨dL_law_237, rfl⟩, rfl, .inr ⟨dL_law_238, rfl⟩, rfl, .inr ⟨dL_law_239, rfl⟩, rfl, .inr ⟨dL_law_240, rfl⟩, rfl, .inr ⟨dL_law_241, rfl⟩, rfl, .inr ⟨dL_law_242, rfl⟩, rfl, .inr ⟨dL_law_243, rfl⟩, rfl, .inl ⟨rfl, rfl⟩, trivial⟩
set_option maxRecDepth 100000 in
theorem ck_122_246 : am_cok am_T0 me_122 cd_122_246 246 := ⟨rfl, .inr ⟨dL_law_246, rfl⟩, rfl, .inr ⟨dL_law_249, rfl⟩, rfl, .inl ⟨rfl, rfl⟩, trivial⟩
set_option maxRecDepth 100000 in
theorem ck_122_250 : am_cok am_T0 me_122 cd_122_250 250 := ⟨rfl, .inr ⟨dL_law_250, rfl⟩, trivial⟩
set_option maxRecDepth 100000 in
theorem ck_122_251 : am_cok am_T0 me_122 cd_122_251 251 := ⟨rfl, .inr ⟨dL_law_251, rfl⟩, rfl, .inr ⟨dL_law_252, rfl⟩, rfl, .inr ⟨dL_law_253, rfl⟩, rfl, .inr ⟨dL_law_254, rfl⟩, rfl, .inr ⟨dL_law_255, rfl⟩, rfl, .inr ⟨dL_law_256, rfl⟩, rfl, .inr ⟨dL_law_257, rfl⟩, rfl, .inl ⟨rfl, rfl⟩, trivial⟩
set_option maxRecDepth 100000 in
theorem ck_122_260 : am_cok am_T0 me_122 cd_122_260 260 := ⟨rfl, .inr ⟨dL_law_260, rfl⟩, rfl, .inr ⟨dL_law_261, rfl⟩, rfl, .inr ⟨dL_law_262, rfl⟩, rfl, .inr ⟨dL_law_263, rfl⟩, rfl, .inr ⟨dL_law_264, rfl⟩, rfl, .inr ⟨dL_law_265, rfl⟩, rfl, .inr ⟨dL_law_266, rfl⟩, rfl, .inl ⟨rfl, rfl⟩, trivial⟩
set_option maxRecDepth 100000 in
theorem ck_122_269 : am_cok am_T0 me_122 cd_122_269 269 := ⟨rfl, .inr ⟨dL_law_269, rfl⟩, rfl, .inr ⟨dL_law_272, rfl⟩, rfl, .inl ⟨rfl, rfl⟩, trivial⟩
set_option maxRecDepth 100000 in
theorem ck_122_273 : am_cok am_T0 me_122 cd_122_273 273 := ⟨rfl, .inr ⟨dL_law_273, rfl⟩, trivial⟩
set_option maxRecDepth 100000 in
theorem ck_122_274 : am_cok am_T0 me_122 cd_122_274 274 := ⟨rfl, .inr ⟨dL_law_274, rfl⟩, rfl, .inr ⟨dL_law_275, rfl⟩, rfl, .inl ⟨rfl, rfl⟩, trivial⟩
set_option maxRecDepth 100000 in
theorem ck_122_278 : am_cok am_T0 me_122 cd_122_278 278 := ⟨rfl, .inr ⟨dL_law_278, rfl⟩, rfl, .inr ⟨dL_law_279, rfl⟩, rfl, .inl ⟨rfl, rfl⟩, trivial⟩
set_option maxRecDepth 100000 in
theorem ck_122_282 : am_cok am_T0 me_122 cd_122_282 282 := ⟨rfl, .inr ⟨dL_law_282, rfl⟩, rfl, .inr ⟨dL_law_285, rfl⟩, rfl, .inl ⟨rfl, rfl⟩, trivial⟩
set_option maxRecDepth 100000 in
theorem ck_122_286 : am_cok am_T0 me_122 cd_122_286 286 := ⟨rfl, .inr ⟨dL_law_286, rfl⟩, trivial⟩
set_option maxRecDepth 100000 in
theorem ck_122_287 : am_cok am_T0 me_122 cd_122_287 287 := ⟨rfl, .inr ⟨dL_law_287, rfl⟩, rfl, .inr ⟨dL_law_288, rfl⟩, rfl, .inl ⟨rfl, rfl⟩, trivial⟩
set_option maxRecDepth 100000 in
theorem ck_122_291 : am_cok am_T0 me_122 cd_122_291 291 := ⟨rfl, .inr ⟨dL_law_291, rfl⟩, rfl, .inr ⟨dL_law_292, rfl⟩, rfl, .inl ⟨rfl, rfl⟩, trivial⟩
set_option maxRecDepth 100000 in
theorem ck_122_295 : am_cok am_T0 me_122 cd_122_295 295 := ⟨rfl, .inr ⟨dL_law_295, rfl⟩, rfl, .inr ⟨dL_law_298, rfl⟩, rfl, .inl ⟨rfl, rfl⟩, trivial⟩
set_option maxRecDepth 100000 in
theorem ck_122_299 : am_cok am_T0 me_122 cd_122_299 299 := ⟨rfl, .inr ⟨dL_law_299, rfl⟩, trivial⟩
set_option maxRecDepth 100000 in
theorem ck_122_300 : am_cok am_T0 me_122 cd_122_300 300 := ⟨rfl, .inr ⟨dL_law_300, rfl⟩, rfl, .inr ⟨dL_law_301, rfl⟩, rfl, .inr ⟨dL_law_302, rfl⟩, rfl, .inr ⟨dL_law_303, rfl⟩, rfl, .inr ⟨dL_law_304, rfl⟩, rfl, .inr ⟨dL_law_305, rfl⟩, rfl, .inr ⟨dL_law_306, rfl⟩, rfl, .inl ⟨rfl, rfl⟩, trivial⟩
set_option maxRecDepth 100000 in
theorem ck_122_309 : am_cok am_T0 me_122 cd_122_309 309 := ⟨rfl, .inr ⟨dL_law_309, rfl⟩, rfl, .inr ⟨dL_law_310, rfl⟩, rfl, .inr ⟨dL_law_311, rfl⟩, rfl, .inr ⟨dL_law_312, rfl⟩, rfl, .inr ⟨dL_law_313, rfl⟩, rfl, .inr ⟨dL_law_314, rfl⟩, rfl, .inr ⟨dL_law_315, rfl⟩, rfl, .inl ⟨rfl, rfl⟩, trivial⟩
set_option maxRecDepth 100000 in
theorem ck_122_318 : am_cok am_T0 me_122 cd_122_318 318 := ⟨rfl, .inr ⟨dL_law_318, rfl⟩, rfl, .inr ⟨dL_law_321, rfl⟩, rfl, .inl ⟨rfl, rfl⟩, trivial⟩
set_option maxRecDepth 100000 in
theorem ck_122_322 : am_cok am_T0 me_122 cd_122_322 322 := ⟨rfl, .inr ⟨dL_law_322, rfl⟩, trivial⟩
set_option maxRecDepth 100000 in
theorem ck_122_323 : am_cok am_T0 me_122 cd_122_323 323 := ⟨rfl, .inr ⟨dL_law_323, rfl⟩, rfl, .inr ⟨dL_law_324, rfl⟩, rfl, .inr ⟨dL_law_325, rfl⟩, rfl, .inr ⟨dL_law_326, rfl⟩, rfl, .inr ⟨dL_law_327, rfl⟩, rfl, .inr ⟨dL_law_328, rfl⟩, rfl, .inr ⟨dL_law_329, rfl⟩, rfl, .inr ⟨dL_law_330, rfl⟩, rfl, .inr ⟨dL_law_331, rfl⟩, rfl, .inr ⟨dL_law_332, rfl⟩, rfl, .inr ⟨dL_law_333, rfl⟩, rfl, .inr ⟨dL_law_334, rfl⟩, rfl, .inl ⟨rfl, rfl⟩, trivial⟩
set_option maxRecDepth 100000 in
theorem ck_122_337 : am_cok am_T0 me_122 cd_122_337 337 := ⟨rfl, .inr ⟨dL_law_337, rfl⟩, rfl, .inr ⟨dL_law_338, rfl⟩, rfl, .inr ⟨dL_law_339, rfl⟩, rfl, .inr ⟨dL_law_340, rfl⟩, rfl, .inr ⟨dL_law_341, rfl⟩, rfl, .inr ⟨dL_law_342, rfl⟩, rfl, .inr ⟨dL_law_343, rfl⟩, rfl, .inr ⟨dL_law_344, rfl⟩, rfl, .inr ⟨dL_law_345, rfl⟩, rfl, .inr ⟨dL_law_346, rfl⟩, rfl, .inr ⟨dL_law_347, rfl⟩, rfl, .inr ⟨dL_law_348, rfl⟩, rfl, .inl ⟨rfl, rfl⟩, trivial⟩
set_option maxRecDepth 100000 in
theorem ck_122_351 : am_cok am_T0 me_122 cd_122_351 351 := ⟨rfl, .inr ⟨dL_law_351, rfl⟩, rfl, .inr ⟨dL_law_354, rfl⟩, rfl, .inl ⟨rfl, rfl⟩, trivial⟩
set_option maxRecDepth 100000 in
theorem ck_122_355 : am_cok am_T0 me_122 cd_122_355 355 := ⟨rfl, .inr ⟨dL_law_355, rfl⟩, trivial⟩
set_option maxRecDepth 100000 in
theorem ck_122_356 : am_cok am_T0 me_122 cd_122_356 356 := ⟨rfl, .inr ⟨dL_law_356, rfl⟩, rfl, .inr ⟨dL_law_357, rfl⟩, rfl, .inr ⟨dL_law_358, rfl⟩, rfl, .inr ⟨dL_law_359, rfl⟩, rfl, .inr ⟨dL_law_360, rfl⟩, rfl, .inr ⟨dL_law_361, rfl⟩, rfl, .inr ⟨dL_law_362, rfl⟩, rfl, .inl ⟨rfl, rfl⟩, trivial⟩
set_option maxRecDepth 100000 in
theorem ck_122_365 : am_cok am_T0 me_122 cd_122_365 365 := ⟨rfl, .inr ⟨dL_law_365, rfl⟩, rfl, .inr ⟨dL_law_366, rfl⟩, rfl, .inr ⟨dL_law_367, rfl⟩, rfl, .inr ⟨dL_law_368, rfl⟩, rfl, .inr ⟨dL_law_369, rfl⟩, rfl, .inr ⟨dL_law_370, rfl⟩, rfl, .inr ⟨dL_law_371, rfl⟩, rfl, .inl ⟨rfl, rfl⟩, trivial⟩
set_option maxRecDepth 100000 in
theorem ck_122_374 : am_cok am_T0 me_122 cd_122_374 374 := ⟨rfl, .inr ⟨dL_law_374, rfl⟩, rfl, .inr ⟨dL_law_377, rfl⟩, rfl, .inl ⟨rfl, rfl⟩, trivial⟩
set_option maxRecDepth 100000 in
theorem ck_122_378 : am_cok am_T0 me_122 cd_122_378 378 := ⟨rfl, .inr ⟨dL_law_378, rfl⟩, trivial⟩
set_option maxRecDepth 100000 in
theorem ck_122_379 : am_cok am_T0 me_122 cd_122_379 379 := ⟨rfl, .inr ⟨dL_law_379, rfl⟩, rfl, .inr ⟨dL_law_380, rfl⟩, rfl, .inr ⟨dL_law_381, rfl⟩, rfl, .inr ⟨dL_law_382, rfl⟩, rfl, .inr ⟨dL_law_383, rfl⟩, rfl, .inr ⟨dL_law_384, rfl⟩, rfl, .inr ⟨dL_law_385, rfl⟩, rfl, .inr ⟨dL_law_386, rfl⟩, rfl, .inr ⟨dL_law_387, rfl⟩, rfl, .inr ⟨dL_law_388, rfl⟩, rfl, .inr ⟨dL_law_389, rfl⟩, rfl, .inr ⟨dL_law_390, rfl⟩, rfl, .inr ⟨dL_law_391, rfl⟩, rfl, .inr ⟨dL_law_392, rfl⟩, rfl, .inr ⟨dL_law_393, rfl⟩, rfl, .inr ⟨dL_law_394, rfl⟩, rfl, .inr ⟨dL_law_395, rfl⟩, rfl, .inl ⟨rfl, rfl⟩, trivial⟩
set_option maxRecDepth 100000 in
theorem ck_122_398 : am_cok am_T0 me_122 cd_122_398 398 := ⟨rfl, .inr ⟨dL_law_398, rfl⟩, rfl, .inr ⟨dL_law_399, rfl⟩, rfl, .inr ⟨dL_law_400, rfl⟩, rfl, .inr ⟨dL_law_401, rfl⟩, rfl, .inr ⟨dL_law_402, rfl⟩, rfl, .inr ⟨dL_law_403, rfl⟩, rfl, .inr ⟨dL_law_404, rfl⟩, rfl, .inr ⟨dL_law_405, rfl⟩, rfl, .inr ⟨dL_law_406, rfl⟩, rfl, .inr ⟨dL_law_407, rfl⟩, rfl, .inr ⟨dL_law_408, rfl⟩, rfl, .inr ⟨dL_law_409, rfl⟩, rfl, .inr ⟨dL_law_410, rfl⟩, rfl, .inr ⟨dL_law_411, rfl⟩, rfl, .inr ⟨dL_law_412, rfl⟩, rfl, .inr ⟨dL_law_413, rfl⟩, rfl, .inr ⟨dL_law_414, rfl⟩, rfl, .inl ⟨rfl, rfl⟩, trivial⟩
set_option maxRecDepth 100000 in
theorem ck_122_417 : am_cok am_T0 me_122 cd_122_417 417 := ⟨rfl, .inr ⟨dL_law_417, rfl⟩, rfl, .inr ⟨dL_law_420, rfl⟩, rfl, .inl ⟨rfl, rfl⟩, trivial⟩
set_option maxRecDepth 100000 in
theorem ck_122_421 : am_cok am_T0 me_122 cd_122_421 421 := ⟨rfl, .inr ⟨dL_law_421, rfl⟩, trivial⟩
set_option maxRecDepth 100000 in
theorem ck_122_422 : am_cok am_T0 me_122 cd_122_422 422 := ⟨rfl, .inr ⟨dL_law_422, rfl⟩, rfl, .inr ⟨dL_law_423, rfl⟩, rfl, .inr ⟨dL_law_424, rfl⟩, rfl, .inr ⟨dL_law_425, rfl⟩, rfl, .inr ⟨dL_law_426, rfl⟩, rfl, .inr ⟨dL_law_427, rfl⟩, rfl, .inr ⟨dL_law_428, rfl⟩, rfl, .inl ⟨rfl, rfl⟩, trivial⟩
set_option maxRecDepth 100000 in
theorem ck_122_431 : am_cok am_T0 me_122 cd_122_431 431 := ⟨rfl, .inr ⟨dL_law_431, rfl⟩, rfl, .inr ⟨dL_law_432, rfl⟩, rfl, .inr ⟨dL_law_433, rfl⟩, rfl, .inr ⟨dL_law_434, rfl⟩, rfl, .inr ⟨dL_law_435, rfl⟩, rfl, .inr ⟨dL_law_436, rfl⟩, rfl, .inr ⟨dL_law_437, rfl⟩, rfl, .inl ⟨rfl, rfl⟩, trivial⟩
set_option maxRecDepth 100000 in
theorem ck_122_440 : am_cok am_T0 me_122 cd_122_440 440 := ⟨rfl, .inr ⟨dL_law_440, rfl⟩, rfl, .inr ⟨dL_law_443, rfl⟩, rfl, .inl ⟨rfl, rfl⟩, trivial⟩
set_option maxRecDepth 100000 in
theorem ck_122_444 : am_cok am_T0 me_122 cd_122_444 444 := ⟨rfl, .inr ⟨dL_law_444, rfl⟩, trivial⟩
set_option maxRecDepth 100000 in
theorem ck_122_445 : am_cok am_T0 me_122 cd_122_445 445 := ⟨rfl, .inr ⟨dL_law_445, rfl⟩, rfl, .inr ⟨dL_law_446, rfl⟩, rfl, .inr ⟨dL_law_447, rfl⟩, rfl, .inr ⟨dL_law_448, rfl⟩, rfl, .inr ⟨dL_law_449, rfl⟩, rfl, .inr ⟨dL_law_450, rfl⟩, rfl, .inr ⟨dL_law_451, rfl⟩, rfl, .inl ⟨rfl, rfl⟩, trivial⟩
set_option maxRecDepth 100000 in
theorem ck_122_454 : am_cok am_T0 me_122 cd_122_454 454 := ⟨rfl, .inr ⟨dL_law_454, rfl⟩, rfl, .inr ⟨dL_law_455, rfl⟩, rfl, .inr ⟨dL_law_456, rfl⟩, rfl, .inr ⟨dL_law_457, rfl⟩, rfl, .inr ⟨dL_law_458, rfl⟩, rfl, .inr ⟨dL_law_459, rfl⟩, rfl, .inr ⟨dL_law_460, rfl⟩, rfl, .inl ⟨rfl, rfl⟩, trivial⟩
set_option maxRecDepth 100000 in
theorem ck_122_463 : am_cok am_T0 me_122 cd_122_463 463 := ⟨rfl, .inr ⟨dL_law_463, rfl⟩, rfl, .inr ⟨dL_law_466, rfl⟩, rfl, .inl ⟨rfl, rfl⟩, trivial⟩
set_option maxRecDepth 100000 in
theorem ck_122_467 : am_cok am_T0 me_122 cd_122_467 467 := ⟨rfl, .inr ⟨dL_law_467, rfl⟩, trivial⟩
set_option maxRecDepth 100000 in
theorem ck_122_468 : am_cok am_T0 me_122 cd_122_468 468 := ⟨rfl, .inr ⟨dL_law_468, rfl⟩, rfl, .inr ⟨dL_law_469, rfl⟩, rfl, .inr ⟨dL_law_470, rfl⟩, rfl, .inr ⟨dL_law_471, rfl⟩, rfl, .inr ⟨dL_law_472, rfl⟩, rfl, .inr ⟨dL_law_473, rfl⟩, rfl, .inr ⟨dL_law_474, rfl⟩, rfl, .inr ⟨dL_law_475, rfl⟩, rfl, .inr ⟨dL_law_476, rfl⟩, rfl, .inr ⟨dL_law_477, rfl⟩, rfl, .inr ⟨dL_law_478, rfl⟩, rfl, .inr ⟨dL_law_479, rfl⟩, rfl, .inl ⟨rfl, rfl⟩, trivial⟩
set_option maxRecDepth 100000 in
theorem ck_122_482 : am_cok am_T0 me_122 cd_122_482 482 := ⟨rfl, .inr ⟨dL_law_482, rfl⟩, rfl, .inr ⟨dL_law_483, rfl⟩, rfl, .inr ⟨dL_law_484, rfl⟩, rfl, .inr ⟨dL_law_485, rfl⟩, rfl, .inr ⟨dL_law_486, rfl⟩, rfl, .inr ⟨dL_law_487, rfl⟩, rfl, .inr ⟨dL_law_488, rfl⟩, rfl, .inr ⟨dL_law_489, rfl⟩, rfl, .inr ⟨dL_law_490, rfl⟩, rfl, .inr ⟨dL_law_491, rfl⟩, rfl, .inr ⟨dL_law_492, rfl⟩, rfl, .inr ⟨dL_law_493, rfl⟩, rfl, .inl ⟨rfl, rfl⟩, trivial⟩
set_option maxRecDepth 100000 in
theorem ck_122_496 : am_cok am_T0 me_122 cd_122_496 496 := ⟨rfl, .inr ⟨dL_law_496, rfl⟩, rfl, .inr ⟨dL_law_499, rfl⟩, rfl, .inl ⟨rfl, rfl⟩, trivial⟩
set_option maxRecDepth 100000 in
theorem ck_122_500 : am_cok am_T0 me_122 cd_122_500 500 := ⟨rfl, .inr ⟨dL_law_500, rfl⟩, trivial⟩
set_option maxRecDepth 100000 in
theorem ck_122_501 : am_cok am_T0 me_122 cd_122_501 501 := ⟨rfl, .inr ⟨dL_law_501, rfl⟩, rfl, .inr ⟨dL_law_502, rfl⟩, rfl, .inr ⟨dL_law_503, rfl⟩, rfl, .inr ⟨dL_law_504, rfl⟩, rfl, .inr ⟨dL_law_505, rfl⟩, rfl, .inr ⟨dL_law_506, rfl⟩, rfl, .inr ⟨dL_law_507, rfl⟩, rfl, .inr ⟨dL_law_508, rfl⟩, rfl, .inr ⟨dL_law_509, rfl⟩, rfl, .inr ⟨dL_law_510, rfl⟩, rfl, .inr ⟨dL_law_511, rfl⟩, rfl, .inr ⟨dL_law_512, rfl⟩, rfl, .inl ⟨rfl, rfl⟩, trivial⟩
set_option maxRecDepth 100000 in
theorem ck_122_515 : am_cok am_T0 me_122 cd_122_515 515 := ⟨rfl, .inr ⟨dL_law_515, rfl⟩, rfl, .inr ⟨dL_law_516, rfl⟩, rfl, .inr ⟨dL_law_517, rfl⟩, rfl, .inr ⟨dL_law_518, rfl⟩, rfl, .inr ⟨dL_law_519, rfl⟩, rfl, .inr ⟨dL_law_520, rfl⟩, rfl, .inr ⟨dL_law_521, rfl⟩, rfl, .inr ⟨dL_law_522, rfl⟩, rfl, .inr ⟨dL_law_523, rfl⟩, rfl, .inr ⟨dL_law_524, rfl⟩, rfl, .inr ⟨dL_law_525, rfl⟩, rfl, .inr ⟨dL_law_526, rfl⟩, rfl, .inl ⟨rfl, rfl⟩, trivial⟩
set_option maxRecDepth 100000 in
theorem ck_122_529 : am_cok am_T0 me_122 cd_122_529 529 := ⟨rfl, .inr ⟨dL_law_529, rfl⟩, rfl, .inr ⟨dL_law_532, rfl⟩, rfl, .inl ⟨rfl, rfl⟩, trivial⟩
set_option maxRecDepth 100000 in
theorem ck_122_533 : am_cok am_T0 me_122 cd_122_533 533 := ⟨rfl, .inr ⟨dL_law_533, rfl⟩, trivial⟩
set_option maxRecDepth 100000 in
theorem ck_122_534 : am_cok am_T0 me_122 cd_122_534 534 := ⟨rfl, .inr ⟨dL_law_534, rfl⟩, rfl, .inr ⟨dL_law_535, rfl⟩, rfl, .inl ⟨rfl, rfl⟩, trivial⟩
set_option maxRecDepth 100000 in
theorem ck_122_538 : am_cok am_T0 me_122 cd_122_538 538 := ⟨rfl, .inr ⟨dL_law_538, rfl⟩, rfl, .inr ⟨dL_law_539, rfl⟩, rfl, .inl ⟨rfl, rfl⟩, trivial⟩
set_option maxRecDepth 100000 in
theorem ck_122_542 : am_cok am_T0 me_122 cd_122_542 542 := ⟨rfl, .inr ⟨dL_law_542, rfl⟩, rfl, .inr ⟨dL_law_545, rfl⟩, rfl, .inl ⟨rfl, rfl⟩, trivial⟩
set_option maxRecDepth 100000 in
theorem ck_122_546 : am_cok am_T0 me_122 cd_122_546 546 := ⟨rfl, .inr ⟨dL_law_546, rfl⟩, trivial⟩
set_option maxRecDepth 100000 in
theorem ck_122_547 : am_cok am_T0 me_122 cd_122_547 547 := ⟨rfl, .inr ⟨dL_law_547, rfl⟩, rfl, .inr ⟨dL_law_548, rfl⟩, rfl, .inr ⟨dL_law_549, rfl⟩, rfl, .inr ⟨dL_law_550, rfl⟩, rfl, .inr ⟨dL_law_551, rfl⟩, rfl, .inr ⟨dL_law_552, rfl⟩, rfl, .inr ⟨dL_law_553, rfl⟩, rfl, .inl ⟨rfl, rfl⟩, trivial⟩
set_option maxRecDepth 100000 in
theorem ck_122_556 : am_cok am_T0 me_122 cd_122_556 556 := ⟨rfl, .inr ⟨dL_law_556, rfl⟩, rfl, .inr ⟨dL_law_557, rfl⟩, rfl, .inr ⟨dL_law_558, rfl⟩, rfl, .inr ⟨dL_law_559, rfl⟩, rfl, .inr ⟨dL_law_560, rfl⟩, rfl, .inr ⟨dL_law_561, rfl⟩, rfl, .inr ⟨dL_law_562, rfl⟩, rfl, .inl ⟨rfl, rfl⟩, trivial⟩
set_option maxRecDepth 100000 in
theorem ck_122_565 : am_cok am_T0 me_122 cd_122_565 565 := ⟨rfl, .inr ⟨dL_law_565, rfl⟩, rfl, .inr ⟨dL_law_568, rfl⟩, rfl, .inl ⟨rfl, rfl⟩, trivial⟩
set_option maxRecDepth 100000 in
theorem ck_122_569 : am_cok am_T0 me_122 cd_122_569 569 := ⟨rfl, .inr ⟨dL_law_569, rfl⟩, trivial⟩
set_option maxRecDepth 100000 in
theorem ck_122_570 : am_cok am_T0 me_122 cd_122_570 570 := ⟨rfl, .inr ⟨dL_law_570, rfl⟩, rfl, .inr ⟨dL_law_571, rfl⟩, rfl, .inr ⟨dL_law_572, rfl⟩, rfl, .inr ⟨dL_law_573, rfl⟩, rfl, .inr ⟨dL_law_574, rfl⟩, rfl, .inr ⟨dL_law_575, rfl⟩, rfl, .inr ⟨dL_law_576, rfl⟩, rfl, .inl ⟨rfl, rfl⟩, trivial⟩
set_option maxRecDepth 100000 in
theorem ck_122_579 : am_cok am_T0 me_122 cd_122_579 579 := ⟨rfl, .inr ⟨dL_law_579, rfl⟩, rfl, .inr ⟨dL_law_580, rfl⟩, rfl, .inr ⟨dL_law_581, rfl⟩, rfl, .inr ⟨dL_law_582, rfl⟩, rfl, .inr ⟨dL_law_583, rfl⟩, rfl, .inr ⟨dL_law_584, rfl⟩, rfl, .inr ⟨dL_law_585, rfl⟩, rfl, .inl ⟨rfl, rfl⟩, trivial⟩
set_option maxRecDepth 100000 in
theorem ck_122_588 : am_cok am_T0 me_122 cd_122_588 588 := ⟨rfl, .inr ⟨dL_law_588, rfl⟩, rfl, .inr ⟨dL_law_591, rfl⟩, rfl, .inl ⟨rfl, rfl⟩, trivial⟩
set_option maxRecDepth 100000 in
theorem ck_122_592 : am_cok am_T0 me_122 cd_122_592 592 := ⟨rfl, .inr ⟨dL_law_592, rfl⟩, trivial⟩
set_option maxRecDepth 100000 in
theorem ck_122_593 : am_cok am_T0 me_122 cd_122_593 593 := ⟨rfl, .inr ⟨dL_law_593, rfl⟩, rfl, .inr ⟨dL_law_594, rfl⟩, rfl, .inl ⟨rfl, rfl⟩, trivial⟩
set_option maxRecDepth 100000 in
theorem ck_122_597 : am_cok am_T0 me_122 cd_122_597 597 := ⟨rfl, .inr ⟨dL_law_597, rfl⟩, rfl, .inr ⟨dL_law_598, rfl⟩, rfl, .inl ⟨rfl, rfl⟩, trivial⟩
set_option maxRecDepth 100000 in
theorem ck_122_601 : am_cok am_T0 me_122 cd_122_601 601 := ⟨rfl, .inr ⟨dL_law_601, rfl⟩, rfl, .inr ⟨dL_law_604, rfl⟩, rfl, .inl ⟨rfl, rfl⟩, trivial⟩
set_option maxRecDepth 100000 in
theorem ck_122_605 : am_cok am_T0 me_122 cd_122_605 605 := ⟨rfl, .inr ⟨dL_law_605, rfl⟩, trivial⟩
set_option maxRecDepth 100000 in
theorem ck_122_606 : am_cok am_T0 me_122 cd_122_606 606 := ⟨rfl, .inr ⟨dL_law_606, rfl⟩, rfl, .inr ⟨dL_law_609, rfl⟩, trivial⟩
set_option maxRecDepth 100000 in
theorem ck_122_612 : am_cok am_T0 me_122 cd_122_612 612 := ⟨rfl, .inr ⟨dL_law_612, rfl⟩, rfl, .inl ⟨rfl, rfl⟩, trivial⟩
set_option maxRecDepth 100000 in
theorem ck_122_613 : am_cok am_T0 me_122 cd_122_613 613 := ⟨rfl, .inr ⟨dL_law_613, rfl⟩, trivial⟩
set_option maxRecDepth 100000 in
theorem ck_122 : ∀ p ∈ bl_122, am_cok am_T0 me_122 p.2 p.1 := List.forall_mem_cons.mpr ⟨ck_122_0, List.forall_mem_cons.mpr ⟨ck_122_7, List.forall_mem_cons.mpr ⟨ck_122_15, List.forall_mem_cons.mpr ⟨ck_122_18, List.forall_mem_cons.mpr ⟨ck_122_120, List.forall_mem_cons.mpr ⟨ck_122_134, List.forall_mem_cons.mpr ⟨ck_122_148, List.forall_mem_cons.mpr ⟨ck_122_152, List.forall_mem_cons.mpr ⟨ck_122_153, List.forall_mem_cons.mpr ⟨ck_122_171, List.forall_mem_cons.mpr ⟨ck_122_188, List.forall_mem_cons.mpr ⟨ck_122_206, List.forall_mem_cons.mpr ⟨ck_122_223, List.forall_mem_cons.mpr ⟨ck_122_227, List.forall_mem_cons.mpr ⟨ck_122_228, List.forall_mem_cons.mpr ⟨ck_122_237, List.forall_mem_cons.mpr ⟨ck_122_246, List.forall_mem_cons.mpr ⟨ck_122_250, List.forall_mem_cons.mpr ⟨ck_122_251, List.forall_mem_cons.mpr ⟨ck_122_260, List.forall_mem_cons.mpr ⟨ck_122_269, List.forall_mem_cons.mpr ⟨ck_122_273, List.forall_mem_cons.mpr ⟨ck_122_274, List.forall_mem_cons.mpr ⟨ck_122_278, List.forall_mem_cons.mpr ⟨ck_122_282, List.forall_mem_cons.mpr ⟨ck_122_286, List.forall_mem_cons.mpr ⟨ck_122_287, List.forall_mem_cons.mpr ⟨ck_122_291, List.forall_mem_cons.mpr ⟨ck_122_295, List.forall_mem_cons.mpr ⟨ck_122_299, List.forall_mem_cons.mpr ⟨ck_122_300, List.forall_mem_cons.mpr ⟨ck_122_309, List.forall_mem_cons.mpr ⟨ck_122_318, List.forall_mem_cons.mpr ⟨ck_122_322, List.forall_mem_cons.mpr ⟨ck_122_323, List.forall_mem_cons.mpr ⟨ck_122_337, List.forall_mem_cons.mpr ⟨ck_122_351, List.forall_mem_cons.mpr ⟨ck_122_355, List.forall_mem_cons.mpr ⟨ck_122_356, List.forall_mem_cons.mpr ⟨ck_122_365, List.forall_mem_cons.mpr ⟨ck_122_374, List.forall_mem_cons.mpr ⟨ck_122_378, List.forall_mem_cons.mpr ⟨ck_122_379, List.forall_mem_cons.mpr ⟨ck_122_398, List.forall_mem_cons.mpr ⟨ck_122_417, List.forall_mem_cons.mpr ⟨ck_122_421, List.forall_mem_cons.mpr ⟨ck_122_422, List.forall_mem_cons.mpr ⟨ck_122_431, List.forall_mem_cons.mpr ⟨ck_122_440, List.forall_mem_cons.mpr ⟨ck_122_444, List.forall_mem_cons.mpr ⟨ck_122_445, List.forall_mem_cons.mpr ⟨ck_122_454, List.forall_mem_cons.mpr ⟨ck_122_463, List.forall_mem_cons.mpr ⟨ck_122_467, List.forall_mem_cons.mpr ⟨ck_122_468, List.forall_mem_cons.mpr ⟨ck_122_482, List.forall_mem_cons.mpr ⟨ck_122_496, List.forall_mem_cons.mpr ⟨ck_122_500, List.forall_mem_cons.mpr ⟨ck_122_501, List.forall_mem_cons.mpr ⟨ck_122_515, List.forall_mem_cons.mpr ⟨ck_122_529, List.forall_mem_cons.mpr ⟨ck_122_533, List.forall_mem_cons.mpr ⟨ck_122_534, List.forall_mem_cons.mpr ⟨ck_122_538, List.forall_mem_cons.mpr ⟨ck_122_542, List.forall_mem_cons.mpr ⟨ck_122_546, List.forall_mem_cons.mpr ⟨ck_122_547, List.forall_mem_cons.mpr ⟨ck_122_556, List.forall_mem_cons.mpr ⟨ck_122_565, List.forall_mem_cons.mpr ⟨ck_122_569, List.forall_mem_cons.mpr ⟨ck_122_570, List.forall_mem_cons.mpr ⟨ck_122_579, List.forall_mem_cons.mpr ⟨ck_122_588, List.forall_mem_cons.mpr ⟨ck_122_592, List.forall_mem_cons.mpr ⟨ck_122_593, List.forall_mem_cons.mpr ⟨ck_122_597, List.forall_mem_cons.mpr ⟨ck_122_601, List.forall_mem_cons.mpr ⟨ck_122_605, List.forall_mem_cons.mpr ⟨ck_122_606, List.forall_mem_cons.mpr ⟨ck_122_612, List.forall_mem_cons.mpr ⟨ck_122_613, fun _ h => absurd h List.not_mem_nil⟩⟩⟩⟩⟩⟩⟩⟩⟩⟩⟩⟩⟩⟩⟩⟩⟩⟩⟩⟩⟩⟩⟩⟩⟩⟩⟩⟩⟩⟩⟩⟩⟩⟩⟩⟩⟩⟩⟩⟩⟩⟩⟩⟩⟩⟩⟩⟩⟩⟩⟩⟩⟩⟩⟩⟩⟩⟩⟩⟩⟩⟩⟩⟩⟩⟩⟩⟩⟩⟩⟩⟩⟩⟩⟩⟩⟩⟩⟩⟩⟩
