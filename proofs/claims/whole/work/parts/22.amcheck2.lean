set_option maxRecDepth 100000 in
theorem ck_36_0 : am_cok am_T0 me_36 cd_36_0 0 := ⟨rfl, .inr ⟨dX2_bendX_0, rfl⟩, rfl, .inr ⟨dX2_bendX_1, rfl⟩, rfl, .inr ⟨dX2_bendX_4, rfl⟩, rfl, .inr ⟨dX2_bendX_5, rfl⟩, rfl, .inr ⟨dX2_bendX_8, rfl⟩, rfl, .inr ⟨dX2_bendX_9, rfl⟩, rfl, .inr ⟨dX2_bendX_10, rfl⟩, rfl, .inr ⟨dX2_bendX_11, rfl⟩, rfl, .inr ⟨dX2_bendX_14, rfl⟩, rfl, .inr ⟨dX2_bendX_15, rfl⟩, trivial⟩
set_option maxRecDepth 100000 in
theorem ck_36_18 : am_cok am_T0 me_36 cd_36_18 18 := ⟨rfl, .inr ⟨dX2_bendX_18, rfl⟩, rfl, .inl ⟨rfl, rfl⟩, trivial⟩
set_option maxRecDepth 100000 in
theorem ck_36_19 : am_cok am_T0 me_36 cd_36_19 19 := ⟨rfl, .inr ⟨dX2_bendX_19, rfl⟩, rfl, .inr ⟨dX2_bendX_20, rfl⟩, rfl, .inr ⟨dX2_bendX_21, rfl⟩, rfl, .inr ⟨dX2_bendX_22, rfl⟩, trivial⟩
set_option maxRecDepth 100000 in
theorem ck_36 : ∀ p ∈ bl_36, am_cok am_T0 me_36 p.2 p.1 := List.forall_mem_cons.mpr ⟨ck_36_0, List.forall_mem_cons.mpr ⟨ck_36_18, List.forall_mem_cons.mpr ⟨ck_36_19, fun _ h => absurd h List.not_mem_nil⟩⟩⟩
set_option maxRecDepth 100000 in
theorem ck_37_0 : am_cok am_T0 me_37 cd_37_0 0 := ⟨rfl, .inr ⟨dX2_bendY_0, rfl⟩, rfl, .inr ⟨dX2_bendY_1, rfl⟩, rfl, .inr ⟨dX2_bendY_4, rfl⟩, rfl, .inr ⟨dX2_bendY_5, rfl⟩, rfl, .inr ⟨dX2_bendY_8, rfl⟩, rfl, .inr ⟨dX2_bendY_9, rfl⟩, rfl, .inr ⟨dX2_bendY_10, rfl⟩, rfl, .inr ⟨dX2_bendY_11, rfl⟩, rfl, .inr ⟨dX2_bendY_14, rfl⟩, rfl, .inr ⟨dX2_bendY_15, rfl⟩, trivial⟩
set_option maxRecDepth 100000 in
theorem ck_37_18 : am_cok am_T0 me_37 cd_37_18 18 := ⟨rfl, .inr ⟨dX2_bendY_18, rfl⟩, rfl, .inl ⟨rfl, rfl⟩, trivial⟩
set_option maxRecDepth 100000 in
theorem ck_37_19 : am_cok am_T0 me_37 cd_37_19 19 := ⟨rfl, .inr ⟨dX2_bendY_19, rfl⟩, rfl, .inr ⟨dX2_bendY_20, rfl⟩, rfl, .inr ⟨dX2_bendY_21, rfl⟩, rfl, .inr ⟨dX2_bendY_22, rfl⟩, trivial⟩
set_option maxRecDepth 100000 in
theorem ck_37 : ∀ p ∈ bl_37, am_cok am_T0 me_37 p.2 p.1 := List.forall_mem_cons.mpr ⟨ck_37_0, List.forall_mem_cons.mpr ⟨ck_37_18, List.forall_mem_cons.mpr ⟨ck_37_19, fun _ h => absurd h List.not_mem_nil⟩⟩⟩
set_option maxRecDepth 100000 in
theorem ck_38_0 : am_cok am_T0 me_38 cd_38_0 0 := ⟨rfl, .inr ⟨dX2_turnOver_0, rfl⟩, rfl, .inr ⟨dX2_turnOver_1, rfl⟩, rfl, .inr ⟨dX2_turnOver_4, rfl⟩, rfl, .inr ⟨dX2_turnOver_5, rfl⟩, rfl, .inr ⟨dX2_turnOver_6, rfl⟩, rfl, .inr ⟨dX2_turnOver_7, rfl⟩, rfl, .inr ⟨dX2_turnOver_8, rfl⟩, rfl, .inr ⟨dX2_turnOver_9, rfl⟩, rfl, .inr ⟨dX2_turnOver_10, rfl⟩, rfl, .inl ⟨rfl, rfl⟩, trivial⟩
set_option maxRecDepth 100000 in
theorem ck_38_11 : am_cok am_T0 me_38 cd_38_11 11 := ⟨rfl, .inr ⟨dX2_turnOver_11, rfl⟩, rfl, .inr ⟨dX2_turnOver_12, rfl⟩, rfl, .inr ⟨dX2_turnOver_13, rfl⟩, rfl, .inr ⟨dX2_turnOver_16, rfl⟩, rfl, .inr ⟨dX2_turnOver_19, rfl⟩, rfl, .inr ⟨dX2_turnOver_20, rfl⟩, rfl, .inr ⟨dX2_turnOver_23, rfl⟩, rfl, .inr ⟨dX2_turnOver_24, rfl⟩, rfl, .inr ⟨dX2_turnOver_25, rfl⟩, rfl, .inr ⟨dX2_turnOver_26, rfl⟩, rfl, .inr ⟨dX2_turnOver_27, rfl⟩, rfl, .inr ⟨dX2_turnOver_28, rfl⟩, rfl, .inr ⟨dX2_turnOver_29, rfl⟩, rfl, .inr ⟨dX2_turnOver_32, rfl⟩, rfl, .inr ⟨dX2_turnOver_33, rfl⟩, rfl, .inr ⟨dX2_turnOver_34, rfl⟩, rfl, .inr ⟨dX2_turnOver_35, rfl⟩, rfl, .inr ⟨dX2_turnOver_36, rfl⟩, rfl, .inl ⟨rfl, rfl⟩, trivial⟩
set_option maxRecDepth 100000 in
theorem ck_38_37 : am_cok am_T0 me_38 cd_38_37 37 := ⟨rfl, .inr ⟨dX2_turnOver_37, rfl⟩, rfl, .inr ⟨dX2_turnOver_40, rfl⟩, rfl, .inr ⟨dX2_turnOver_41, rfl⟩, rfl, .inr ⟨dX2_turnOver_42, rfl⟩, rfl, .inr ⟨dX2_turnOver_43, rfl⟩, rfl, .inr ⟨dX2_turnOver_44, rfl⟩, rfl, .inr ⟨dX2_turnOver_45, rfl⟩, rfl, .inr ⟨dX2_turnOver_46, rfl⟩, rfl, .inr ⟨dX2_turnOver_47, rfl⟩, rfl, .inr ⟨dX2_turnOver_50, rfl⟩, rfl, .inr ⟨dX2_turnOver_51, rfl⟩, rfl, .inr ⟨dX2_turnOver_52, rfl⟩, rfl, .inr ⟨dX2_turnOver_53, rfl⟩, rfl, .inr ⟨dX2_turnOver_54, rfl⟩, rfl, .inr ⟨dX2_turnOver_55, rfl⟩, rfl, .inl ⟨rfl, rfl⟩, trivial⟩
set_option maxRecDepth 100000 in
theorem ck_38_56 : am_cok am_T0 me_38 cd_38_56 56 := ⟨rfl, .inr ⟨dX2_turnOver_56, rfl⟩, rfl, .inr ⟨dX2_turnOver_57, rfl⟩, rfl, .inr ⟨dX2_turnOver_58, rfl⟩, rfl, .inr ⟨dX2_turnOver_61, rfl⟩, rfl, .inr ⟨dX2_turnOver_62, rfl⟩, rfl, .inr ⟨dX2_turnOver_63, rfl⟩, rfl, .inr ⟨dX2_turnOver_66, rfl⟩, rfl, .inr ⟨dX2_turnOver_67, rfl⟩, rfl, .inr ⟨dX2_turnOver_68, rfl⟩, rfl, .inr ⟨dX2_turnOver_70, rfl⟩, rfl, .inr ⟨dX2_turnOver_71, rfl⟩, rfl, .inr ⟨dX2_turnOver_72, rfl⟩, rfl, .inr ⟨dX2_turnOver_75, rfl⟩, rfl, .inr ⟨dX2_turnOver_76, rfl⟩, rfl, .inr ⟨dX2_turnOver_77, rfl⟩, rfl, .inr ⟨dX2_turnOver_78, rfl⟩, rfl, .inr ⟨dX2_turnOver_79, rfl⟩, rfl, .inr ⟨dX2_turnOver_80, rfl⟩, rfl, .inl ⟨rfl, rfl⟩, trivial⟩
set_option maxRecDepth 100000 in
theorem ck_38_81 : am_cok am_T0 me_38 cd_38_81 81 := ⟨rfl, .inr ⟨dX2_turnOver_81, rfl⟩, rfl, .inr ⟨dX2_turnOver_82, rfl⟩, rfl, .inr ⟨dX2_turnOver_83, rfl⟩, rfl, .inr ⟨dX2_turnOver_84, rfl⟩, rfl, .inr ⟨dX2_turnOver_85, rfl⟩, rfl, .inr ⟨dX2_turnOver_88, rfl⟩, rfl, .inr ⟨dX2_turnOver_89, rfl⟩, rfl, .inr ⟨dX2_turnOver_90, rfl⟩, rfl, .inr ⟨dX2_turnOver_91, rfl⟩, rfl, .inr ⟨dX2_turnOver_92, rfl⟩, rfl, .inr ⟨dX2_turnOver_93, rfl⟩, rfl, .inr ⟨dX2_turnOver_94, rfl⟩, rfl, .inr ⟨dX2_turnOver_95, rfl⟩, rfl, .inr ⟨dX2_turnOver_96, rfl⟩, rfl, .inr ⟨dX2_turnOver_97, rfl⟩, rfl, .inr ⟨dX2_turnOver_98, rfl⟩, rfl, .inr ⟨dX2_turnOver_99, rfl⟩, rfl, .inr ⟨dX2_turnOver_102, rfl⟩, rfl, .inr ⟨dX2_turnOver_103, rfl⟩, rfl, .inr ⟨dX2_turnOver_106, rfl⟩, rfl, .inr ⟨dX2_turnOver_107, rfl⟩, rfl, .inl ⟨rfl, rfl⟩, trivial⟩
set_option maxRecDepth 100000 in
theorem ck_38_108 : am_cok am_T0 me_38 cd_38_108 108 := ⟨rfl, .inr ⟨dX2_turnOver_108, rfl⟩, rfl, .inr ⟨dX2_turnOver_111, rfl⟩, rfl, .inr ⟨dX2_turnOver_112, rfl⟩, rfl, .inr ⟨dX2_turnOver_113, rfl⟩, rfl, .inl ⟨rfl, rfl⟩, trivial⟩
set_option maxRecDepth 100000 in
theorem ck_38_116 : am_cok am_T0 me_38 cd_38_116 116 := ⟨rfl, .inr ⟨dX2_turnOver_116, rfl⟩, rfl, .inr ⟨dX2_turnOver_119, rfl⟩, rfl, .inr ⟨dX2_turnOver_120, rfl⟩, rfl, .inr ⟨dX2_turnOver_123, rfl⟩, rfl, .inr ⟨dX2_turnOver_124, rfl⟩, rfl, .inr ⟨dX2_turnOver_125, rfl⟩, rfl, .inl ⟨rfl, rfl⟩, trivial⟩
set_option maxRecDepth 100000 in
theorem ck_38_128 : am_cok am_T0 me_38 cd_38_128 128 := ⟨rfl, .inr ⟨dX2_turnOver_128, rfl⟩, trivial⟩
set_option maxRecDepth 100000 in
theorem ck_38_131 : am_cok am_T0 me_38 cd_38_131 131 := ⟨rfl, .inr ⟨dX2_turnOver_131, rfl⟩, rfl, .inr ⟨dX2_turnOver_132, rfl⟩, rfl, .inr ⟨dX2_turnOver_135, rfl⟩, rfl, .inr ⟨dX2_turnOver_136, rfl⟩, rfl, .inl ⟨rfl, rfl⟩, trivial⟩
set_option maxRecDepth 100000 in
theorem ck_38_137 : am_cok am_T0 me_38 cd_38_137 137 := ⟨rfl, .inr ⟨dX2_turnOver_137, rfl⟩, rfl, .inr ⟨dX2_turnOver_138, rfl⟩, rfl, .inr ⟨dX2_turnOver_139, rfl⟩, rfl, .inr ⟨dX2_turnOver_142, rfl⟩, rfl, .inr ⟨dX2_turnOver_143, rfl⟩, rfl, .inr ⟨dX2_turnOver_144, rfl⟩, rfl, .inr ⟨dX2_turnOver_147, rfl⟩, rfl, .inr ⟨dX2_turnOver_148, rfl⟩, rfl, .inr ⟨dX2_turnOver_149, rfl⟩, rfl, .inr ⟨dX2_turnOver_152, rfl⟩, rfl, .inr ⟨dX2_turnOver_153, rfl⟩, trivial⟩
set_option maxRecDepth 100000 in
theorem ck_38_156 : am_cok am_T0 me_38 cd_38_156 156 := ⟨rfl, .inr ⟨dX2_turnOver_156, rfl⟩, rfl, .inl ⟨rfl, rfl⟩, trivial⟩
set_option maxRecDepth 100000 in
theorem ck_38_157 : am_cok am_T0 me_38 cd_38_157 157 := ⟨rfl, .inr ⟨dX2_turnOver_157, rfl⟩, rfl, .inl ⟨rfl, rfl⟩, trivial⟩
set_option maxRecDepth 100000 in
theorem ck_38_158 : am_cok am_T0 me_38 cd_38_158 158 := ⟨rfl, .inr ⟨dX2_turnOver_158, rfl⟩, rfl, .inr ⟨dX2_turnOver_161, rfl⟩, trivial⟩
set_option maxRecDepth 100000 in
theorem ck_38_164 : am_cok am_T0 me_38 cd_38_164 164 := ⟨rfl, .inr ⟨dX2_turnOver_164, rfl⟩, trivial⟩
set_option maxRecDepth 100000 in
theorem ck_38 : ∀ p ∈ bl_38, am_cok am_T0 me_38 p.2 p.1 := List.forall_mem_cons.mpr ⟨ck_38_0, List.forall_mem_cons.mpr ⟨ck_38_11, List.forall_mem_cons.mpr ⟨ck_38_37, List.forall_mem_cons.mpr ⟨ck_38_56, List.forall_mem_cons.mpr ⟨ck_38_81, List.forall_mem_cons.mpr ⟨ck_38_108, List.forall_mem_cons.mpr ⟨ck_38_116, List.forall_mem_cons.mpr ⟨ck_38_128, List.forall_mem_cons.mpr ⟨ck_38_131, List.forall_mem_cons.mpr ⟨ck_38_137, List.forall_mem_cons.mpr ⟨ck_38_156, List.forall_mem_cons.mpr ⟨ck_38_157, List.forall_mem_cons.mpr ⟨ck_38_158, List.forall_mem_cons.mpr ⟨ck_38_164, fun _ h => absurd h List.not_mem_nil⟩⟩⟩⟩⟩⟩⟩⟩⟩⟩⟩⟩⟩⟩
set_option maxRecDepth 100000 in
theorem ck_39_0 : am_cok am_T0 me_39 cd_39_0 0 := ⟨rfl, .inr ⟨dX2_branchOf_0, rfl⟩, rfl, .inr ⟨dX2_branchOf_1, rfl⟩, rfl, .inr ⟨dX2_branchOf_2, rfl⟩, rfl, .inr ⟨dX2_branchOf_3, rfl⟩, rfl, .inr ⟨dX2_branchOf_4, rfl⟩, rfl, .inr ⟨dX2_branchOf_5, rfl⟩, rfl, .inr ⟨dX2_branchOf_6, rfl⟩, rfl, .inr ⟨dX2_branchOf_7, rfl⟩, rfl, .inl ⟨rfl, rfl⟩, trivial⟩
set_option maxRecDepth 100000 in
theorem ck_39_8 : am_cok am_T0 me_39 cd_39_8 8 := ⟨rfl, .inr ⟨dX2_branchOf_8, rfl⟩, rfl, .inr ⟨dX2_branchOf_9, rfl⟩, rfl, .inr ⟨dX2_branchOf_10, rfl⟩, rfl, .inr ⟨dX2_branchOf_13, rfl⟩, rfl, .inr ⟨dX2_branchOf_16, rfl⟩, rfl, .inr ⟨dX2_branchOf_17, rfl⟩, rfl, .inr ⟨dX2_branchOf_18, rfl⟩, rfl, .inr ⟨dX2_branchOf_21, rfl⟩, rfl, .inr ⟨dX2_branchOf_22, rfl⟩, rfl, .inr ⟨dX2_branchOf_23, rfl⟩, rfl, .inr ⟨dX2_branchOf_24, rfl⟩, rfl, .inr ⟨dX2_branchOf_25, rfl⟩, rfl, .inr ⟨dX2_branchOf_26, rfl⟩, rfl, .inr ⟨dX2_branchOf_27, rfl⟩, rfl, .inr ⟨dX2_branchOf_30, rfl⟩, rfl, .inr ⟨dX2_branchOf_31, rfl⟩, rfl, .inr ⟨dX2_branchOf_32, rfl⟩, rfl, .inr ⟨dX2_branchOf_33, rfl⟩, rfl, .inr ⟨dX2_branchOf_34, rfl⟩, rfl, .inr ⟨dX2_branchOf_35, rfl⟩, rfl, .inl ⟨rfl, rfl⟩, trivial⟩
set_option maxRecDepth 100000 in
theorem ck_39_36 : am_cok am_T0 me_39 cd_39_36 36 := ⟨rfl, .inr ⟨dX2_branchOf_36, rfl⟩, rfl, .inr ⟨dX2_branchOf_39, rfl⟩, trivial⟩
set_option maxRecDepth 100000 in
theorem ck_39_42 : am_cok am_T0 me_39 cd_39_42 42 := ⟨rfl, .inr ⟨dX2_branchOf_42, rfl⟩, rfl, .inr ⟨dX2_branchOf_43, rfl⟩, trivial⟩
set_option maxRecDepth 100000 in
theorem ck_39 : ∀ p ∈ bl_39, am_cok am_T0 me_39 p.2 p.1 := List.forall_mem_cons.mpr ⟨ck_39_0, List.forall_mem_cons.mpr ⟨ck_39_8, List.forall_mem_cons.mpr ⟨ck_39_36, List.forall_mem_cons.mpr ⟨ck_39_42, fun _ h => absurd h List.not_mem_nil⟩⟩⟩⟩
set_option maxRecDepth 100000 in
theorem ck_40_0 : am_cok am_T0 me_40 cd_40_0 0 := ⟨rfl, .inr ⟨dX2_movingWith_0, rfl⟩, rfl, .inr ⟨dX2_movingWith_1, rfl⟩, rfl, .inr ⟨dX2_movingWith_2, rfl⟩, rfl, .inl ⟨rfl, rfl⟩, trivial⟩
set_option maxRecDepth 100000 in
theorem ck_40_5 : am_cok am_T0 me_40 cd_40_5 5 := ⟨rfl, .inr ⟨dX2_movingWith_5, rfl⟩, rfl, .inr ⟨dX2_movingWith_6, rfl⟩, rfl, .inr ⟨dX2_movingWith_7, rfl⟩, rfl, .inl ⟨rfl, rfl⟩, trivial⟩
set_option maxRecDepth 100000 in
theorem ck_40_10 : am_cok am_T0 me_40 cd_40_10 10 := ⟨rfl, .inr ⟨dX2_movingWith_10, rfl⟩, rfl, .inr ⟨dX2_movingWith_11, rfl⟩, rfl, .inr ⟨dX2_movingWith_12, rfl⟩, rfl, .inr ⟨dX2_movingWith_13, rfl⟩, rfl, .inr ⟨dX2_movingWith_16, rfl⟩, rfl, .inr ⟨dX2_movingWith_17, rfl⟩, rfl, .inr ⟨dX2_movingWith_18, rfl⟩, rfl, .inr ⟨dX2_movingWith_21, rfl⟩, rfl, .inr ⟨dX2_movingWith_22, rfl⟩, trivial⟩
set_option maxRecDepth 100000 in
theorem ck_40_25 : am_cok am_T0 me_40 cd_40_25 25 := ⟨rfl, .inr ⟨dX2_movingWith_25, rfl⟩, rfl, .inr ⟨dX2_movingWith_26, rfl⟩, rfl, .inr ⟨dX2_movingWith_27, rfl⟩, rfl, .inr ⟨dX2_movingWith_30, rfl⟩, rfl, .inr ⟨dX2_movingWith_31, rfl⟩, rfl, .inr ⟨dX2_movingWith_32, rfl⟩, rfl, .inr ⟨dX2_movingWith_33, rfl⟩, rfl, .inr ⟨dX2_movingWith_34, rfl⟩, rfl, .inr ⟨dX2_movingWith_35, rfl⟩, rfl, .inr ⟨dX2_movingWith_36, rfl⟩, rfl, .inl ⟨rfl, rfl⟩, trivial⟩
set_option maxRecDepth 100000 in
theorem ck_40_37 : am_cok am_T0 me_40 cd_40_37 37 := ⟨rfl, .inr ⟨dX2_movingWith_37, rfl⟩, trivial⟩
set_option maxRecDepth 100000 in
theorem ck_40 : ∀ p ∈ bl_40, am_cok am_T0 me_40 p.2 p.1 := List.forall_mem_cons.mpr ⟨ck_40_0, List.forall_mem_cons.mpr ⟨ck_40_5, List.forall_mem_cons.mpr ⟨ck_40_10, List.forall_mem_cons.mpr ⟨ck_40_25, List.forall_mem_cons.mpr ⟨ck_40_37, fun _ h => absurd h List.not_mem_nil⟩⟩⟩⟩⟩
set_option maxRecDepth 100000 in
theorem ck_41_0 : am_cok am_T0 me_41 cd_41_0 0 := ⟨rfl, .inr ⟨dX3_init_0, rfl⟩, rfl, .inr ⟨dX3_init_1, rfl⟩, rfl, .inr ⟨dX3_init_4, rfl⟩, rfl, .inr ⟨dX3_init_5, rfl⟩, rfl, .inr ⟨dX3_init_6, rfl⟩, rfl, .inr ⟨dX3_init_8, rfl⟩, rfl, .inr ⟨dX3_init_11, rfl⟩, rfl, .inr ⟨dX3_init_12, rfl⟩, rfl, .inr ⟨dX3_init_13, rfl⟩, rfl, .inr ⟨dX3_init_16, rfl⟩, rfl, .inr ⟨dX3_init_17, rfl⟩, rfl, .inr ⟨dX3_init_18, rfl⟩, rfl, .inr ⟨dX3_init_20, rfl⟩, rfl, .inr ⟨dX3_init_23, rfl⟩, rfl, .inr ⟨dX3_init_24, rfl⟩, rfl, .inr ⟨dX3_init_25, rfl⟩, rfl, .inr ⟨dX3_init_27, rfl⟩, rfl, .inr ⟨dX3_init_31, rfl⟩, rfl, .inr ⟨dX3_init_34, rfl⟩, rfl, .inr ⟨dX3_init_35, rfl⟩, rfl, .inr ⟨dX3_init_36, rfl⟩, rfl, .inr ⟨dX3_init_38, rfl⟩, rfl, .inr ⟨dX3_init_42, rfl⟩, rfl, .inr ⟨dX3_init_45, rfl⟩, trivial⟩
set_option maxRecDepth 100000 in
theorem ck_41 : ∀ p ∈ bl_41, am_cok am_T0 me_41 p.2 p.1 := List.forall_mem_cons.mpr ⟨ck_41_0, fun _ h => absurd h List.not_mem_nil⟩
set_option maxRecDepth 100000 in
theorem ck_42_0 : am_cok am_T0 me_42 cd_42_0 0 := ⟨rfl, .inr ⟨dX3_isFree_0, rfl⟩, rfl, .inr ⟨dX3_isFree_1, rfl⟩, rfl, .inr ⟨dX3_isFree_2, rfl⟩, rfl, .inr ⟨dX3_isFree_3, rfl⟩, rfl, .inr ⟨dX3_isFree_4, rfl⟩, rfl, .inl ⟨rfl, rfl⟩, trivial⟩
set_option maxRecDepth 100000 in
theorem ck_42_7 : am_cok am_T0 me_42 cd_42_7 7 := ⟨rfl, .inr ⟨dX3_isFree_7, rfl⟩, rfl, .inr ⟨dX3_isFree_8, rfl⟩, rfl, .inl ⟨rfl, rfl⟩, trivial⟩
set_option maxRecDepth 100000 in
theorem ck_42_10 : am_cok am_T0 me_42 cd_42_10 10 := ⟨rfl, .inr ⟨dX3_isFree_10, rfl⟩, rfl, .inr ⟨dX3_isFree_12, rfl⟩, rfl, .inr ⟨dX3_isFree_13, rfl⟩, rfl, .inr ⟨dX3_isFree_16, rfl⟩, rfl, .inr ⟨dX3_isFree_19, rfl⟩, rfl, .inr ⟨dX3_isFree_20, rfl⟩, rfl, .inr ⟨dX3_isFree_21, rfl⟩, rfl, .inr ⟨dX3_isFree_22, rfl⟩, rfl, .inr ⟨dX3_isFree_25, rfl⟩, rfl, .inr ⟨dX3_isFree_26, rfl⟩, rfl, .inr ⟨dX3_isFree_27, rfl⟩, rfl, .inr ⟨dX3_isFree_29, rfl⟩, rfl, .inl ⟨rfl, rfl⟩, trivial⟩
set_option maxRecDepth 100000 in
theorem ck_42_32 : am_cok am_T0 me_42 cd_42_32 32 := ⟨rfl, .inr ⟨dX3_isFree_32, rfl⟩, rfl, .inr ⟨dX3_isFree_35, rfl⟩, trivial⟩
set_option maxRecDepth 100000 in
theorem ck_42_38 : am_cok am_T0 me_42 cd_42_38 38 := ⟨rfl, .inr ⟨dX3_isFree_38, rfl⟩, rfl, .inr ⟨dX3_isFree_39, rfl⟩, rfl, .inr ⟨dX3_isFree_40, rfl⟩, rfl, .inl ⟨rfl, rfl⟩, trivial⟩
set_option maxRecDepth 100000 in
theorem ck_42_43 : am_cok am_T0 me_42 cd_42_43 43 := ⟨rfl, .inr ⟨dX3_isFree_43, rfl⟩, rfl, .inr ⟨dX3_isFree_45, rfl⟩, rfl, .inr ⟨dX3_isFree_47, rfl⟩, rfl, .inr ⟨dX3_isFree_48, rfl⟩, rfl, .inr ⟨dX3_isFree_49, rfl⟩, rfl, .inr ⟨dX3_isFree_50, rfl⟩, rfl, .inr ⟨dX3_isFree_51, rfl⟩, rfl, .inr ⟨dX3_isFree_52, rfl⟩, rfl, .inr ⟨dX3_isFree_55, rfl⟩, rfl, .inr ⟨dX3_isFree_56, rfl⟩, trivial⟩
set_option maxRecDepth 100000 in
theorem ck_42_59 : am_cok am_T0 me_42 cd_42_59 59 := ⟨rfl, .inr ⟨dX3_isFree_59, rfl⟩, rfl, .inl ⟨rfl, rfl⟩, trivial⟩
set_option maxRecDepth 100000 in
theorem ck_42_60 : am_cok am_T0 me_42 cd_42_60 60 := ⟨rfl, .inr ⟨dX3_isFree_60, rfl⟩, rfl, .inr ⟨dX3_isFree_62, rfl⟩, rfl, .inr ⟨dX3_isFree_63, rfl⟩, rfl, .inl ⟨rfl, rfl⟩, trivial⟩
set_option maxRecDepth 100000 in
theorem ck_42_65 : am_cok am_T0 me_42 cd_42_65 65 := ⟨rfl, .inr ⟨dX3_isFree_65, rfl⟩, rfl, .inr ⟨dX3_isFree_67, rfl⟩, rfl, .inr ⟨dX3_isFree_68, rfl⟩, rfl, .inr ⟨dX3_isFree_71, rfl⟩, rfl, .inr ⟨dX3_isFree_74, rfl⟩, rfl, .inr ⟨dX3_isFree_76, rfl⟩, rfl, .inr ⟨dX3_isFree_78, rfl⟩, rfl, .inr ⟨dX3_isFree_79, rfl⟩, rfl, .inr ⟨dX3_isFree_80, rfl⟩, rfl, .inr ⟨dX3_isFree_81, rfl⟩, rfl, .inr ⟨dX3_isFree_82, rfl⟩, rfl, .inr ⟨dX3_isFree_85, rfl⟩, rfl, .inr ⟨dX3_isFree_86, rfl⟩, rfl, .inr ⟨dX3_isFree_87, rfl⟩, rfl, .inr ⟨dX3_isFree_88, rfl⟩, rfl, .inr ⟨dX3_isFree_89, rfl⟩, rfl, .inr ⟨dX3_isFree_91, rfl⟩, rfl, .inr ⟨dX3_isFree_93, rfl⟩, rfl, .inr ⟨dX3_isFree_95, rfl⟩, rfl, .inl ⟨rfl, rfl⟩, trivial⟩
set_option maxRecDepth 100000 in
theorem ck_42_98 : am_cok am_T0 me_42 cd_42_98 98 := ⟨rfl, .inr ⟨dX3_isFree_98, rfl⟩, rfl, .inr ⟨dX3_isFree_101, rfl⟩, rfl, .inl ⟨rfl, rfl⟩, trivial⟩
set_option maxRecDepth 100000 in
theorem ck_42_102 : am_cok am_T0 me_42 cd_42_102 102 := ⟨rfl, .inr ⟨dX3_isFree_102, rfl⟩, trivial⟩
set_option maxRecDepth 100000 in
theorem ck_42_103 : am_cok am_T0 me_42 cd_42_103 103 := ⟨rfl, .inr ⟨dX3_isFree_103, rfl⟩, rfl, .inr ⟨dX3_isFree_106, rfl⟩, trivial⟩
set_option maxRecDepth 100000 in
theorem ck_42_109 : am_cok am_T0 me_42 cd_42_109 109 := ⟨rfl, .inr ⟨dX3_isFree_109, rfl⟩, rfl, .inl ⟨rfl, rfl⟩, trivial⟩
set_option maxRecDepth 100000 in
theorem ck_42_110 : am_cok am_T0 me_42 cd_42_110 110 := ⟨rfl, .inr ⟨dX3_isFree_110, rfl⟩, trivial⟩
set_option maxRecDepth 100000 in
theorem ck_42 : ∀ p ∈ bl_42, am_cok am_T0 me_42 p.2 p.1 := List.forall_mem_cons.mpr ⟨ck_42_0, List.forall_mem_cons.mpr ⟨ck_42_7, List.forall_mem_cons.mpr ⟨ck_42_10, List.forall_mem_cons.mpr ⟨ck_42_32, List.forall_mem_cons.mpr ⟨ck_42_38, List.forall_mem_cons.mpr ⟨ck_42_43, List.forall_mem_cons.mpr ⟨ck_42_59, List.forall_mem_cons.mpr ⟨ck_42_60, List.forall_mem_cons.mpr ⟨ck_42_65, List.forall_mem_cons.mpr ⟨ck_42_98, List.forall_mem_cons.mpr ⟨ck_42_102, List.forall_mem_cons.mpr ⟨ck_42_103, List.forall_mem_cons.mpr ⟨ck_42_109, List.forall_mem_cons.mpr ⟨ck_42_110, fun _ h => absurd h List.not_mem_nil⟩⟩⟩⟩⟩⟩⟩⟩⟩⟩⟩⟩⟩⟩
set_option maxRecDepth 100000 in
theorem ck_43_0 : am_cok am_T0 me_43 cd_43_0 0 := ⟨rfl, .inr ⟨dX3_setDirections_0, rfl⟩, rfl, .inr ⟨dX3_setDirections_1, rfl⟩, rfl, .inr ⟨dX3_setDirections_4, rfl⟩, rfl, .inr ⟨dX3_setDirections_5, rfl⟩, rfl, .inr ⟨dX3_setDirections_6, rfl⟩, rfl, .inr ⟨dX3_setDirections_8, rfl⟩, rfl, .inr ⟨dX3_setDirections_9, rfl⟩, rfl, .inr ⟨dX3_setDirections_11, rfl⟩, rfl, .inr ⟨dX3_setDirections_12, rfl⟩, rfl, .inr ⟨dX3_setDirections_15, rfl⟩, rfl, .inr ⟨dX3_setDirections_16, rfl⟩, rfl, .inr ⟨dX3_setDirections_17, rfl⟩, rfl, .inl ⟨rfl, rfl⟩, trivial⟩
set_option maxRecDepth 100000 in
theorem ck_43_20 : am_cok am_T0 me_43 cd_43_20 20 := ⟨rfl, .inr ⟨dX3_setDirections_20, rfl⟩, rfl, .inr ⟨dX3_setDirections_22, rfl⟩, rfl, .inr ⟨dX3_setDirections_23, rfl⟩, rfl, .inr ⟨dX3_setDirections_26, rfl⟩, rfl, .inr ⟨dX3_setDirections_27, rfl⟩, rfl, .inr ⟨dX3_setDirections_28, rfl⟩, rfl, .inr ⟨dX3_setDirections_31, rfl⟩, rfl, .inr ⟨dX3_setDirections_32, rfl⟩, rfl, .inr ⟨dX3_setDirections_35, rfl⟩, rfl, .inr ⟨dX3_setDirections_37, rfl⟩, rfl, .inr ⟨dX3_setDirections_38, rfl⟩, trivial⟩
set_option maxRecDepth 100000 in
theorem ck_43_41 : am_cok am_T0 me_43 cd_43_41 41 := ⟨rfl, .inr ⟨dX3_setDirections_41, rfl⟩, rfl, .inr ⟨dX3_setDirections_42, rfl⟩, rfl, .inr ⟨dX3_setDirections_45, rfl⟩, rfl, .inr ⟨dX3_setDirections_47, rfl⟩, rfl, .inr ⟨dX3_setDirections_48, rfl⟩, rfl, .inl ⟨rfl, rfl⟩, trivial⟩
set_option maxRecDepth 100000 in
theorem ck_43_49 : am_cok am_T0 me_43 cd_43_49 49 := ⟨rfl, .inr ⟨dX3_setDirections_49, rfl⟩, rfl, .inr ⟨dX3_setDirections_51, rfl⟩, rfl, .inr ⟨dX3_setDirections_52, rfl⟩, rfl, .inr ⟨dX3_setDirections_55, rfl⟩, rfl, .inr ⟨dX3_setDirections_56, rfl⟩, rfl, .inr ⟨dX3_setDirections_58, rfl⟩, rfl, .inr ⟨dX3_setDirections_59, rfl⟩, rfl, .inr ⟨dX3_setDirections_60, rfl⟩, rfl, .inr ⟨dX3_setDirections_63, rfl⟩, rfl, .inr ⟨dX3_setDirections_64, rfl⟩, rfl, .inr ⟨dX3_setDirections_66, rfl⟩, rfl, .inr ⟨dX3_setDirections_67, rfl⟩, rfl, .inr ⟨dX3_setDirections_68, rfl⟩, rfl, .inr ⟨dX3_setDirections_71, rfl⟩, rfl, .inr ⟨dX3_setDirections_72, rfl⟩, rfl, .inr ⟨dX3_setDirections_74, rfl⟩, rfl, .inr ⟨dX3_setDirections_75, rfl⟩, rfl, .inr ⟨dX3_setDirections_76, rfl⟩, rfl, .inl ⟨rfl, rfl⟩, trivial⟩
set_option maxRecDepth 100000 in
theorem ck_43_77 : am_cok am_T0 me_43 cd_43_77 77 := ⟨rfl, .inr ⟨dX3_setDirections_77, rfl⟩, rfl, .inr ⟨dX3_setDirections_80, rfl⟩, rfl, .inr ⟨dX3_setDirections_81, rfl⟩, rfl, .inr ⟨dX3_setDirections_83, rfl⟩, rfl, .inr ⟨dX3_setDirections_84, rfl⟩, rfl, .inr ⟨dX3_setDirections_85, rfl⟩, rfl, .inr ⟨dX3_setDirections_86, rfl⟩, rfl, .inr ⟨dX3_setDirections_87, rfl⟩, rfl, .inr ⟨dX3_setDirections_89, rfl⟩, rfl, .inr ⟨dX3_setDirections_90, rfl⟩, rfl, .inr ⟨dX3_setDirections_93, rfl⟩, rfl, .inr ⟨dX3_setDirections_94, rfl⟩, rfl, .inr ⟨dX3_setDirections_95, rfl⟩, rfl, .inl ⟨rfl, rfl⟩, trivial⟩
set_option maxRecDepth 100000 in
theorem ck_43_98 : am_cok am_T0 me_43 cd_43_98 98 := ⟨rfl, .inr ⟨dX3_setDirections_98, rfl⟩, rfl, .inr ⟨dX3_setDirections_101, rfl⟩, trivial⟩
set_option maxRecDepth 100000 in
theorem ck_43 : ∀ p ∈ bl_43, am_cok am_T0 me_43 p.2 p.1 := List.forall_mem_cons.mpr ⟨ck_43_0, List.forall_mem_cons.mpr ⟨ck_43_20, List.forall_mem_cons.mpr ⟨ck_43_41, List.forall_mem_cons.mpr ⟨ck_43_49, List.forall_mem_cons.mpr ⟨ck_43_77, List.forall_mem_cons.mpr ⟨ck_43_98, fun _ h => absurd h List.not_mem_nil⟩⟩⟩⟩⟩⟩
set_option maxRecDepth 100000 in
theorem ck_44_0 : am_cok am_T0 me_44 cd_44_0 0 := ⟨rfl, .inr ⟨dX3_setBands_0, rfl⟩, rfl, .inr ⟨dX3_setBands_1, rfl⟩, rfl, .inr ⟨dX3_setBands_2, rfl⟩, rfl, .inr ⟨dX3_setBands_3, rfl⟩, rfl, .inr ⟨dX3_setBands_6, rfl⟩, rfl, .inr ⟨dX3_setBands_7, rfl⟩, rfl, .inr ⟨dX3_setBands_8, rfl⟩, rfl, .inl ⟨rfl, rfl⟩, trivial⟩
set_option maxRecDepth 100000 in
theorem ck_44_11 : am_cok am_T0 me_44 cd_44_11 11 := ⟨rfl, .inr ⟨dX3_setBands_11, rfl⟩, rfl, .inr ⟨dX3_setBands_13, rfl⟩, rfl, .inr ⟨dX3_setBands_14, rfl⟩, rfl, .inr ⟨dX3_setBands_15, rfl⟩, rfl, .inr ⟨dX3_setBands_16, rfl⟩, rfl, .inr ⟨dX3_setBands_19, rfl⟩, rfl, .inr ⟨dX3_setBands_20, rfl⟩, rfl, .inr ⟨dX3_setBands_21, rfl⟩, rfl, .inl ⟨rfl, rfl⟩, trivial⟩
set_option maxRecDepth 100000 in
theorem ck_44_24 : am_cok am_T0 me_44 cd_44_24 24 := ⟨rfl, .inr ⟨dX3_setBands_24, rfl⟩, rfl, .inr ⟨dX3_setBands_26, rfl⟩, rfl, .inr ⟨dX3_setBands_27, rfl⟩, rfl, .inr ⟨dX3_setBands_30, rfl⟩, rfl, .inr ⟨dX3_setBands_31, rfl⟩, rfl, .inr ⟨dX3_setBands_32, rfl⟩, rfl, .inr ⟨dX3_setBands_33, rfl⟩, rfl, .inr ⟨dX3_setBands_34, rfl⟩, rfl, .inr ⟨dX3_setBands_37, rfl⟩, rfl, .inr ⟨dX3_setBands_38, rfl⟩, rfl, .inr ⟨dX3_setBands_39, rfl⟩, rfl, .inl ⟨rfl, rfl⟩, trivial⟩
set_option maxRecDepth 100000 in
theorem ck_44_42 : am_cok am_T0 me_44 cd_44_42 42 := ⟨rfl, .inr ⟨dX3_setBands_42, rfl⟩, rfl, .inr ⟨dX3_setBands_44, rfl⟩, rfl, .inr ⟨dX3_setBands_45, rfl⟩, rfl, .inr ⟨dX3_setBands_46, rfl⟩, rfl, .inr ⟨dX3_setBands_47, rfl⟩, rfl, .inr ⟨dX3_setBands_50, rfl⟩, rfl, .inr ⟨dX3_setBands_51, rfl⟩, rfl, .inr ⟨dX3_setBands_52, rfl⟩, rfl, .inr ⟨dX3_setBands_53, rfl⟩, rfl, .inr ⟨dX3_setBands_54, rfl⟩, rfl, .inr ⟨dX3_setBands_57, rfl⟩, rfl, .inr ⟨dX3_setBands_58, rfl⟩, rfl, .inr ⟨dX3_setBands_59, rfl⟩, rfl, .inl ⟨rfl, rfl⟩, trivial⟩
set_option maxRecDepth 100000 in
theorem ck_44_62 : am_cok am_T0 me_44 cd_44_62 62 := ⟨rfl, .inr ⟨dX3_setBands_62, rfl⟩, rfl, .inr ⟨dX3_setBands_64, rfl⟩, rfl, .inr ⟨dX3_setBands_65, rfl⟩, rfl, .inr ⟨dX3_setBands_66, rfl⟩, rfl, .inr ⟨dX3_setBands_67, rfl⟩, rfl, .inr ⟨dX3_setBands_70, rfl⟩, rfl, .inr ⟨dX3_setBands_71, rfl⟩, rfl, .inr ⟨dX3_setBands_72, rfl⟩, rfl, .inr ⟨dX3_setBands_73, rfl⟩, rfl, .inr ⟨dX3_setBands_74, rfl⟩, rfl, .inr ⟨dX3_setBands_77, rfl⟩, rfl, .inr ⟨dX3_setBands_78, rfl⟩, rfl, .inr ⟨dX3_setBands_79, rfl⟩, rfl, .inl ⟨rfl, rfl⟩, trivial⟩
set_option maxRecDepth 100000 in
theorem ck_44_82 : am_cok am_T0 me_44 cd_44_82 82 := ⟨rfl, .inr ⟨dX3_setBands_82, rfl⟩, rfl, .inr ⟨dX3_setBands_84, rfl⟩, rfl, .inr ⟨dX3_setBands_85, rfl⟩, rfl, .inr ⟨dX3_setBands_86, rfl⟩, rfl, .inr ⟨dX3_setBands_87, rfl⟩, rfl, .inr ⟨dX3_setBands_90, rfl⟩, rfl, .inr ⟨dX3_setBands_91, rfl⟩, rfl, .inr ⟨dX3_setBands_92, rfl⟩, rfl, .inr ⟨dX3_setBands_93, rfl⟩, rfl, .inr ⟨dX3_setBands_94, rfl⟩, rfl, .inr ⟨dX3_setBands_97, rfl⟩, rfl, .inr ⟨dX3_setBands_98, rfl⟩, rfl, .inr ⟨dX3_setBands_99, rfl⟩, rfl, .inl ⟨rfl, rfl⟩, trivial⟩
set_option maxRecDepth 100000 in
theorem ck_44_102 : am_cok am_T0 me_44 cd_44_102 102 := ⟨rfl, .inr ⟨dX3_setBands_102, rfl⟩, rfl, .inr ⟨dX3_setBands_104, rfl⟩, rfl, .inr ⟨dX3_setBands_105, rfl⟩, rfl, .inr ⟨dX3_setBands_106, rfl⟩, rfl, .inr ⟨dX3_setBands_107, rfl⟩, rfl, .inl ⟨rfl, rfl⟩, trivial⟩
set_option maxRecDepth 100000 in
theorem ck_44_109 : am_cok am_T0 me_44 cd_44_109 109 := ⟨rfl, .inr ⟨dX3_setBands_109, rfl⟩, rfl, .inr ⟨dX3_setBands_111, rfl⟩, rfl, .inr ⟨dX3_setBands_112, rfl⟩, rfl, .inr ⟨dX3_setBands_115, rfl⟩, rfl, .inr ⟨dX3_setBands_116, rfl⟩, rfl, .inr ⟨dX3_setBands_119, rfl⟩, rfl, .inr ⟨dX3_setBands_121, rfl⟩, rfl, .inr ⟨dX3_setBands_122, rfl⟩, rfl, .inr ⟨dX3_setBands_124, rfl⟩, rfl, .inr ⟨dX3_setBands_125, rfl⟩, rfl, .inr ⟨dX3_setBands_128, rfl⟩, rfl, .inr ⟨dX3_setBands_130, rfl⟩, rfl, .inr ⟨dX3_setBands_131, rfl⟩, rfl, .inr ⟨dX3_setBands_132, rfl⟩, rfl, .inr ⟨dX3_setBands_133, rfl⟩, rfl, .inr ⟨dX3_setBands_134, rfl⟩, rfl, .inr ⟨dX3_setBands_135, rfl⟩, rfl, .inr ⟨dX3_setBands_137, rfl⟩, rfl, .inr ⟨dX3_setBands_139, rfl⟩, rfl, .inr ⟨dX3_setBands_142, rfl⟩, rfl, .inr ⟨dX3_setBands_144, rfl⟩, rfl, .inl ⟨rfl, rfl⟩, trivial⟩
set_option maxRecDepth 100000 in
theorem ck_44_147 : am_cok am_T0 me_44 cd_44_147 147 := ⟨rfl, .inr ⟨dX3_setBands_147, rfl⟩, rfl, .inr ⟨dX3_setBands_148, rfl⟩, trivial⟩
set_option maxRecDepth 100000 in
theorem ck_44_151 : am_cok am_T0 me_44 cd_44_151 151 := ⟨rfl, .inr ⟨dX3_setBands_151, rfl⟩, rfl, .inl ⟨rfl, rfl⟩, trivial⟩
set_option maxRecDepth 100000 in
theorem ck_44_152 : am_cok am_T0 me_44 cd_44_152 152 := ⟨rfl, .inr ⟨dX3_setBands_152, rfl⟩, rfl, .inr ⟨dX3_setBands_154, rfl⟩, rfl, .inr ⟨dX3_setBands_155, rfl⟩, rfl, .inr ⟨dX3_setBands_156, rfl⟩, rfl, .inr ⟨dX3_setBands_159, rfl⟩, rfl, .inr ⟨dX3_setBands_161, rfl⟩, rfl, .inr ⟨dX3_setBands_162, rfl⟩, rfl, .inr ⟨dX3_setBands_163, rfl⟩, rfl, .inr ⟨dX3_setBands_164, rfl⟩, rfl, .inr ⟨dX3_setBands_165, rfl⟩, rfl, .inr ⟨dX3_setBands_166, rfl⟩, rfl, .inr ⟨dX3_setBands_167, rfl⟩, rfl, .inl ⟨rfl, rfl⟩, trivial⟩
set_option maxRecDepth 100000 in
theorem ck_44_170 : am_cok am_T0 me_44 cd_44_170 170 := ⟨rfl, .inr ⟨dX3_setBands_170, rfl⟩, rfl, .inr ⟨dX3_setBands_172, rfl⟩, rfl, .inr ⟨dX3_setBands_173, rfl⟩, rfl, .inr ⟨dX3_setBands_174, rfl⟩, rfl, .inr ⟨dX3_setBands_177, rfl⟩, rfl, .inr ⟨dX3_setBands_179, rfl⟩, rfl, .inr ⟨dX3_setBands_180, rfl⟩, rfl, .inr ⟨dX3_setBands_181, rfl⟩, rfl, .inr ⟨dX3_setBands_182, rfl⟩, rfl, .inr ⟨dX3_setBands_183, rfl⟩, rfl, .inr ⟨dX3_setBands_184, rfl⟩, rfl, .inr ⟨dX3_setBands_185, rfl⟩, rfl, .inl ⟨rfl, rfl⟩, trivial⟩
set_option maxRecDepth 100000 in
theorem ck_44_188 : am_cok am_T0 me_44 cd_44_188 188 := ⟨rfl, .inr ⟨dX3_setBands_188, rfl⟩, rfl, .inr ⟨dX3_setBands_190, rfl⟩, rfl, .inr ⟨dX3_setBands_191, rfl⟩, rfl, .inr ⟨dX3_setBands_194, rfl⟩, rfl, .inr ⟨dX3_setBands_196, rfl⟩, rfl, .inr ⟨dX3_setBands_197, rfl⟩, rfl, .inr ⟨dX3_setBands_198, rfl⟩, rfl, .inr ⟨dX3_setBands_200, rfl⟩, rfl, .inr ⟨dX3_setBands_203, rfl⟩, rfl, .inr ⟨dX3_setBands_205, rfl⟩, rfl, .inr ⟨dX3_setBands_207, rfl⟩, rfl, .inr ⟨dX3_setBands_208, rfl⟩, rfl, .inr ⟨dX3_setBands_210, rfl⟩, rfl, .inr ⟨dX3_setBands_212, rfl⟩, rfl, .inr ⟨dX3_setBands_213, rfl⟩, rfl, .inr ⟨dX3_setBands_214, rfl⟩, trivial⟩
set_option maxRecDepth 100000 in
theorem ck_44_217 : am_cok am_T0 me_44 cd_44_217 217 := ⟨rfl, .inr ⟨dX3_setBands_217, rfl⟩, rfl, .inl ⟨rfl, rfl⟩, trivial⟩
set_option maxRecDepth 100000 in
theorem ck_44_218 : am_cok am_T0 me_44 cd_44_218 218 := ⟨rfl, .inr ⟨dX3_setBands_218, rfl⟩, rfl, .inr ⟨dX3_setBands_219, rfl⟩, rfl, .inr ⟨dX3_setBands_220, rfl⟩, rfl, .inr ⟨dX3_setBands_223, rfl⟩, rfl, .inr ⟨dX3_setBands_225, rfl⟩, rfl, .inr ⟨dX3_setBands_226, rfl⟩, rfl, .inr ⟨dX3_setBands_227, rfl⟩, rfl, .inr ⟨dX3_setBands_229, rfl⟩, rfl, .inr ⟨dX3_setBands_232, rfl⟩, rfl, .inr ⟨dX3_setBands_234, rfl⟩, rfl, .inr ⟨dX3_setBands_236, rfl⟩, rfl, .inr ⟨dX3_setBands_237, rfl⟩, rfl, .inr ⟨dX3_setBands_239, rfl⟩, rfl, .inr ⟨dX3_setBands_241, rfl⟩, rfl, .inr ⟨dX3_setBands_242, rfl⟩, rfl, .inr ⟨dX3_setBands_243, rfl⟩, trivial⟩
set_option maxRecDepth 100000 in
theorem ck_44_246 : am_cok am_T0 me_44 cd_44_246 246 := ⟨rfl, .inr ⟨dX3_setBands_246, rfl⟩, rfl, .inl ⟨rfl, rfl⟩, trivial⟩
set_option maxRecDepth 100000 in
theorem ck_44_247 : am_cok am_T0 me_44 cd_44_247 247 := ⟨rfl, .inr ⟨dX3_setBands_247, rfl⟩, rfl, .inr ⟨dX3_setBands_248, rfl⟩, rfl, .inr ⟨dX3_setBands_251, rfl⟩, trivial⟩
set_option maxRecDepth 100000 in
theorem ck_44_254 : am_cok am_T0 me_44 cd_44_254 254 := ⟨rfl, .inr ⟨dX3_setBands_254, rfl⟩, trivial⟩
set_option maxRecDepth 100000 in
theorem ck_44 : ∀ p ∈ bl_44, am_cok am_T0 me_44 p.2 p.1 := List.forall_mem_cons.mpr ⟨ck_44_0, List.forall_mem_cons.mpr ⟨ck_44_11, List.forall_mem_cons.mpr ⟨ck_44_24, List.forall_mem_cons.mpr ⟨ck_44_42, List.forall_mem_cons.mpr ⟨ck_44_62, List.forall_mem_cons.mpr ⟨ck_44_82, List.forall_mem_cons.mpr ⟨ck_44_102, List.forall_mem_cons.mpr ⟨ck_44_109, List.forall_mem_cons.mpr ⟨ck_44_147, List.forall_mem_cons.mpr ⟨ck_44_151, List.forall_mem_cons.mpr ⟨ck_44_152, List.forall_mem_cons.mpr ⟨ck_44_170, List.forall_mem_cons.mpr ⟨ck_44_188, List.forall_mem_cons.mpr ⟨ck_44_217, List.forall_mem_cons.mpr ⟨ck_44_218, List.forall_mem_cons.mpr ⟨ck_44_246, List.forall_mem_cons.mpr ⟨ck_44_247, List.forall_mem_cons.mpr ⟨ck_44_254, fun _ h => absurd h List.not_mem_nil⟩⟩⟩⟩⟩⟩⟩⟩⟩⟩⟩⟩⟩⟩⟩⟩⟩⟩
set_option maxRecDepth 100000 in
theorem ck_45_0 : am_cok am_T0 me_45 cd_45_0 0 := ⟨rfl, .inr ⟨dX3_hitsFixed_0, rfl⟩, rfl, .inr ⟨dX3_hitsFixed_1, rfl⟩, rfl, .inl ⟨rfl, rfl⟩, trivial⟩
set_option maxRecDepth 100000 in
theorem ck_45_3 : am_cok am_T0 me_45 cd_45_3 3 := ⟨rfl, .inr ⟨dX3_hitsFixed_3, rfl⟩, rfl, .inr ⟨dX3_hitsFixed_5, rfl⟩, rfl, .inr ⟨dX3_hitsFixed_6, rfl⟩, rfl, .inr ⟨dX3_hitsFixed_9, rfl⟩, rfl, .inr ⟨dX3_hitsFixed_12, rfl⟩, rfl, .inr ⟨dX3_hitsFixed_14, rfl⟩, rfl, .inr ⟨dX3_hitsFixed_15, rfl⟩, rfl, .inr ⟨dX3_hitsFixed_18, rfl⟩, rfl, .inr ⟨dX3_hitsFixed_20, rfl⟩, rfl, .inr ⟨dX3_hitsFixed_21, rfl⟩, rfl, .inr ⟨dX3_hitsFixed_24, rfl⟩, rfl, .inr ⟨dX3_hitsFixed_25, rfl⟩, rfl, .inr ⟨dX3_hitsFixed_26, rfl⟩, rfl, .inl ⟨rfl, rfl⟩, trivial⟩
set_option maxRecDepth 100000 in
theorem ck_45_29 : am_cok am_T0 me_45 cd_45_29 29 := ⟨rfl, .inr ⟨dX3_hitsFixed_29, rfl⟩, rfl, .inr ⟨dX3_hitsFixed_31, rfl⟩, rfl, .inr ⟨dX3_hitsFixed_32, rfl⟩, rfl, .inr ⟨dX3_hitsFixed_35, rfl⟩, rfl, .inr ⟨dX3_hitsFixed_37, rfl⟩, rfl, .inr ⟨dX3_hitsFixed_38, rfl⟩, rfl, .inr ⟨dX3_hitsFixed_41, rfl⟩, rfl, .inr ⟨dX3_hitsFixed_42, rfl⟩, rfl, .inr ⟨dX3_hitsFixed_43, rfl⟩, rfl, .inl ⟨rfl, rfl⟩, trivial⟩
set_option maxRecDepth 100000 in
theorem ck_45_46 : am_cok am_T0 me_45 cd_45_46 46 := ⟨rfl, .inr ⟨dX3_hitsFixed_46, rfl⟩, rfl, .inr ⟨dX3_hitsFixed_47, rfl⟩, trivial⟩
set_option maxRecDepth 100000 in
theorem ck_45_50 : am_cok am_T0 me_45 cd_45_50 50 := ⟨rfl, .inr ⟨dX3_hitsFixed_50, rfl⟩, rfl, .inl ⟨rfl, rfl⟩, trivial⟩
set_option maxRecDepth 100000 in
theorem ck_45_51 : am_cok am_T0 me_45 cd_45_51 51 := ⟨rfl, .inr ⟨dX3_hitsFixed_51, rfl⟩, rfl, .inr ⟨dX3_hitsFixed_53, rfl⟩, rfl, .inr ⟨dX3_hitsFixed_55, rfl⟩, rfl, .inr ⟨dX3_hitsFixed_57, rfl⟩, rfl, .inr ⟨dX3_hitsFixed_58, rfl⟩, rfl, .inr ⟨dX3_hitsFixed_59, rfl⟩, rfl, .inr ⟨dX3_hitsFixed_60, rfl⟩, rfl, .inr ⟨dX3_hitsFixed_63, rfl⟩, rfl, .inr ⟨dX3_hitsFixed_65, rfl⟩, rfl, .inr ⟨dX3_hitsFixed_68, rfl⟩, rfl, .inr ⟨dX3_hitsFixed_69, rfl⟩, rfl, .inr ⟨dX3_hitsFixed_70, rfl⟩, rfl, .inr ⟨dX3_hitsFixed_72, rfl⟩, rfl, .inr ⟨dX3_hitsFixed_74, rfl⟩, rfl, .inl ⟨rfl, rfl⟩, trivial⟩
set_option maxRecDepth 100000 in
theorem ck_45_77 : am_cok am_T0 me_45 cd_45_77 77 := ⟨rfl, .inr ⟨dX3_hitsFixed_77, rfl⟩, rfl, .inr ⟨dX3_hitsFixed_80, rfl⟩, rfl, .inr ⟨dX3_hitsFixed_81, rfl⟩, rfl, .inr ⟨dX3_hitsFixed_83, rfl⟩, rfl, .inr ⟨dX3_hitsFixed_85, rfl⟩, rfl, .inr ⟨dX3_hitsFixed_87, rfl⟩, rfl, .inl ⟨rfl, rfl⟩, trivial⟩
set_option maxRecDepth 100000 in
theorem ck_45_90 : am_cok am_T0 me_45 cd_45_90 90 := ⟨rfl, .inr ⟨dX3_hitsFixed_90, rfl⟩, rfl, .inr ⟨dX3_hitsFixed_93, rfl⟩, rfl, .inl ⟨rfl, rfl⟩, trivial⟩
set_option maxRecDepth 100000 in
theorem ck_45_94 : am_cok am_T0 me_45 cd_45_94 94 := ⟨rfl, .inr ⟨dX3_hitsFixed_94, rfl⟩, trivial⟩
set_option maxRecDepth 100000 in
theorem ck_45_95 : am_cok am_T0 me_45 cd_45_95 95 := ⟨rfl, .inr ⟨dX3_hitsFixed_95, rfl⟩, rfl, .inr ⟨dX3_hitsFixed_98, rfl⟩, trivial⟩
set_option maxRecDepth 100000 in
theorem ck_45_101 : am_cok am_T0 me_45 cd_45_101 101 := ⟨rfl, .inr ⟨dX3_hitsFixed_101, rfl⟩, rfl, .inl ⟨rfl, rfl⟩, trivial⟩
set_option maxRecDepth 100000 in
theorem ck_45_102 : am_cok am_T0 me_45 cd_45_102 102 := ⟨rfl, .inr ⟨dX3_hitsFixed_102, rfl⟩, trivial⟩
set_option maxRecDepth 100000 in
theorem ck_45 : ∀ p ∈ bl_45, am_cok am_T0 me_45 p.2 p.1 := List.forall_mem_cons.mpr ⟨ck_45_0, List.forall_mem_cons.mpr ⟨ck_45_3, List.forall_mem_cons.mpr ⟨ck_45_29, List.forall_mem_cons.mpr ⟨ck_45_46, List.forall_mem_cons.mpr ⟨ck_45_50, List.forall_mem_cons.mpr ⟨ck_45_51, List.forall_mem_cons.mpr ⟨ck_45_77, List.forall_mem_cons.mpr ⟨ck_45_90, List.forall_mem_cons.mpr ⟨ck_45_94, List.forall_mem_cons.mpr ⟨ck_45_95, List.forall_mem_cons.mpr ⟨ck_45_101, List.forall_mem_cons.mpr ⟨ck_45_102, fun _ h => absurd h List.not_mem_nil⟩⟩⟩⟩⟩⟩⟩⟩⟩⟩⟩⟩
set_option maxRecDepth 100000 in
theorem ck_46_0 : am_cok am_T0 me_46 cd_46_0 0 := ⟨rfl, .inr ⟨dX3_isBeside_0, rfl⟩, rfl, .inr ⟨dX3_isBeside_1, rfl⟩, rfl, .inr ⟨dX3_isBeside_4, rfl⟩, rfl, .inr ⟨dX3_isBeside_5, rfl⟩, rfl, .inr ⟨dX3_isBeside_8, rfl⟩, rfl, .inr ⟨dX3_isBeside_9, rfl⟩, rfl, .inr ⟨dX3_isBeside_10, rfl⟩, rfl, .inr ⟨dX3_isBeside_11, rfl⟩, rfl, .inr ⟨dX3_isBeside_13, rfl⟩, rfl, .inr ⟨dX3_isBeside_14, rfl⟩, rfl, .inr ⟨dX3_isBeside_17, rfl⟩, rfl, .inr ⟨dX3_isBeside_18, rfl⟩, rfl, .inr ⟨dX3_isBeside_21, rfl⟩, rfl, .inr ⟨dX3_isBeside_22, rfl⟩, rfl, .inr ⟨dX3_isBeside_23, rfl⟩, rfl, .inl ⟨rfl, rfl⟩, trivial⟩
set_option maxRecDepth 100000 in
theorem ck_46_24 : am_cok am_T0 me_46 cd_46_24 24 := ⟨rfl, .inr ⟨dX3_isBeside_24, rfl⟩, rfl, .inr ⟨dX3_isBeside_26, rfl⟩, rfl, .inr ⟨dX3_isBeside_27, rfl⟩, rfl, .inr ⟨dX3_isBeside_30, rfl⟩, rfl, .inr ⟨dX3_isBeside_31, rfl⟩, rfl, .inr ⟨dX3_isBeside_34, rfl⟩, rfl, .inr ⟨dX3_isBeside_35, rfl⟩, rfl, .inr ⟨dX3_isBeside_36, rfl⟩, rfl, .inr ⟨dX3_isBeside_37, rfl⟩, rfl, .inr ⟨dX3_isBeside_39, rfl⟩, rfl, .inr ⟨dX3_isBeside_40, rfl⟩, rfl, .inr ⟨dX3_isBeside_43, rfl⟩, rfl, .inr ⟨dX3_isBeside_44, rfl⟩, rfl, .inr ⟨dX3_isBeside_47, rfl⟩, rfl, .inr ⟨dX3_isBeside_48, rfl⟩, rfl, .inr ⟨dX3_isBeside_49, rfl⟩, rfl, .inl ⟨rfl, rfl⟩, trivial⟩
set_option maxRecDepth 100000 in
theorem ck_46_50 : am_cok am_T0 me_46 cd_46_50 50 := ⟨rfl, .inr ⟨dX3_isBeside_50, rfl⟩, rfl, .inr ⟨dX3_isBeside_52, rfl⟩, rfl, .inr ⟨dX3_isBeside_54, rfl⟩, rfl, .inr ⟨dX3_isBeside_56, rfl⟩, rfl, .inr ⟨dX3_isBeside_59, rfl⟩, rfl, .inr ⟨dX3_isBeside_61, rfl⟩, rfl, .inr ⟨dX3_isBeside_63, rfl⟩, rfl, .inr ⟨dX3_isBeside_66, rfl⟩, rfl, .inr ⟨dX3_isBeside_68, rfl⟩, rfl, .inr ⟨dX3_isBeside_70, rfl⟩, rfl, .inr ⟨dX3_isBeside_73, rfl⟩, rfl, .inr ⟨dX3_isBeside_74, rfl⟩, trivial⟩
set_option maxRecDepth 100000 in
theorem ck_46_77 : am_cok am_T0 me_46 cd_46_77 77 := ⟨rfl, .inr ⟨dX3_isBeside_77, rfl⟩, rfl, .inl ⟨rfl, rfl⟩, trivial⟩
set_option maxRecDepth 100000 in
theorem ck_46_78 : am_cok am_T0 me_46 cd_46_78 78 := ⟨rfl, .inr ⟨dX3_isBeside_78, rfl⟩, trivial⟩
set_option maxRecDepth 100000 in
theorem ck_46_79 : am_cok am_T0 me_46 cd_46_79 79 := ⟨rfl, .inr ⟨dX3_isBeside_79, rfl⟩, rfl, .inr ⟨dX3_isBeside_81, rfl⟩, rfl, .inr ⟨dX3_isBeside_83, rfl⟩, rfl, .inr ⟨dX3_isBeside_86, rfl⟩, rfl, .inr ⟨dX3_isBeside_88, rfl⟩, rfl, .inr ⟨dX3_isBeside_90, rfl⟩, rfl, .inr ⟨dX3_isBeside_93, rfl⟩, rfl, .inr ⟨dX3_isBeside_94, rfl⟩, trivial⟩
set_option maxRecDepth 100000 in
theorem ck_46_97 : am_cok am_T0 me_46 cd_46_97 97 := ⟨rfl, .inr ⟨dX3_isBeside_97, rfl⟩, rfl, .inl ⟨rfl, rfl⟩, trivial⟩
set_option maxRecDepth 100000 in
theorem ck_46_98 : am_cok am_T0 me_46 cd_46_98 98 := ⟨rfl, .inr ⟨dX3_isBeside_98, rfl⟩, trivial⟩
set_option maxRecDepth 100000 in
theorem ck_46 : ∀ p ∈ bl_46, am_cok am_T0 me_46 p.2 p.1 := List.forall_mem_cons.mpr ⟨ck_46_0, List.forall_mem_cons.mpr ⟨ck_46_24, List.forall_mem_cons.mpr ⟨ck_46_50, List.forall_mem_cons.mpr ⟨ck_46_77, List.forall_mem_cons.mpr ⟨ck_46_78, List.forall_mem_cons.mpr ⟨ck_46_79, List.forall_mem_cons.mpr ⟨ck_46_97, List.forall_mem_cons.mpr ⟨ck_46_98, fun _ h => absurd h List.not_mem_nil⟩⟩⟩⟩⟩⟩⟩⟩
set_option maxRecDepth 100000 in
theorem ck_47_0 : am_cok am_T0 me_47 cd_47_0 0 := ⟨rfl, .inr ⟨dX3_areBandsCommon_0, rfl⟩, rfl, .inr ⟨dX3_areBandsCommon_1, rfl⟩, rfl, .inl ⟨rfl, rfl⟩, trivial⟩
set_option maxRecDepth 100000 in
theorem ck_47_3 : am_cok am_T0 me_47 cd_47_3 3 := ⟨rfl, .inr ⟨dX3_areBandsCommon_3, rfl⟩, rfl, .inr ⟨dX3_areBandsCommon_5, rfl⟩, rfl, .inr ⟨dX3_areBandsCommon_6, rfl⟩, rfl, .inr ⟨dX3_areBandsCommon_9, rfl⟩, rfl, .inr ⟨dX3_areBandsCommon_11, rfl⟩, rfl, .inr ⟨dX3_areBandsCommon_12, rfl⟩, rfl, .inr ⟨dX3_areBandsCommon_13, rfl⟩, rfl, .inr ⟨dX3_areBandsCommon_14, rfl⟩, rfl, .inr ⟨dX3_areBandsCommon_15, rfl⟩, rfl, .inr ⟨dX3_areBandsCommon_17, rfl⟩, rfl, .inr ⟨dX3_areBandsCommon_18, rfl⟩, rfl, .inr ⟨dX3_areBandsCommon_21, rfl⟩, rfl, .inr ⟨dX3_areBandsCommon_23, rfl⟩, rfl, .inr ⟨dX3_areBandsCommon_24, rfl⟩, rfl, .inr ⟨dX3_areBandsCommon_25, rfl⟩, rfl, .inr ⟨dX3_areBandsCommon_26, rfl⟩, rfl, .inr ⟨dX3_areBandsCommon_28, rfl⟩, rfl, .inr ⟨dX3_areBandsCommon_29, rfl⟩, rfl, .inr ⟨dX3_areBandsCommon_32, rfl⟩, rfl, .inr ⟨dX3_areBandsCommon_34, rfl⟩, rfl, .inl ⟨rfl, rfl⟩, trivial⟩
set_option maxRecDepth 100000 in
theorem ck_47_35 : am_cok am_T0 me_47 cd_47_35 35 := ⟨rfl, .inr ⟨dX3_areBandsCommon_35, rfl⟩, rfl, .inr ⟨dX3_areBandsCommon_36, rfl⟩, rfl, .inr ⟨dX3_areBandsCommon_37, rfl⟩, rfl, .inr ⟨dX3_areBandsCommon_39, rfl⟩, rfl, .inr ⟨dX3_areBandsCommon_41, rfl⟩, rfl, .inr ⟨dX3_areBandsCommon_42, rfl⟩, rfl, .inr ⟨dX3_areBandsCommon_45, rfl⟩, rfl, .inr ⟨dX3_areBandsCommon_47, rfl⟩, rfl, .inr ⟨dX3_areBandsCommon_48, rfl⟩, rfl, .inr ⟨dX3_areBandsCommon_49, rfl⟩, rfl, .inr ⟨dX3_areBandsCommon_50, rfl⟩, rfl, .inl ⟨rfl, rfl⟩, trivial⟩
set_option maxRecDepth 100000 in
theorem ck_47_53 : am_cok am_T0 me_47 cd_47_53 53 := ⟨rfl, .inr ⟨dX3_areBandsCommon_53, rfl⟩, rfl, .inr ⟨dX3_areBandsCommon_55, rfl⟩, rfl, .inr ⟨dX3_areBandsCommon_56, rfl⟩, rfl, .inr ⟨dX3_areBandsCommon_59, rfl⟩, rfl, .inr ⟨dX3_areBandsCommon_61, rfl⟩, rfl, .inr ⟨dX3_areBandsCommon_62, rfl⟩, rfl, .inr ⟨dX3_areBandsCommon_63, rfl⟩, rfl, .inr ⟨dX3_areBandsCommon_64, rfl⟩, rfl, .inl ⟨rfl, rfl⟩, trivial⟩
set_option maxRecDepth 100000 in
theorem ck_47_67 : am_cok am_T0 me_47 cd_47_67 67 := ⟨rfl, .inr ⟨dX3_areBandsCommon_67, rfl⟩, rfl, .inr ⟨dX3_areBandsCommon_70, rfl⟩, rfl, .inr ⟨dX3_areBandsCommon_72, rfl⟩, rfl, .inr ⟨dX3_areBandsCommon_73, rfl⟩, rfl, .inr ⟨dX3_areBandsCommon_76, rfl⟩, rfl, .inr ⟨dX3_areBandsCommon_78, rfl⟩, rfl, .inr ⟨dX3_areBandsCommon_79, rfl⟩, rfl, .inr ⟨dX3_areBandsCommon_80, rfl⟩, rfl, .inr ⟨dX3_areBandsCommon_81, rfl⟩, rfl, .inl ⟨rfl, rfl⟩, trivial⟩
set_option maxRecDepth 100000 in
theorem ck_47_84 : am_cok am_T0 me_47 cd_47_84 84 := ⟨rfl, .inr ⟨dX3_areBandsCommon_84, rfl⟩, rfl, .inr ⟨dX3_areBandsCommon_86, rfl⟩, rfl, .inr ⟨dX3_areBandsCommon_87, rfl⟩, rfl, .inr ⟨dX3_areBandsCommon_90, rfl⟩, rfl, .inr ⟨dX3_areBandsCommon_92, rfl⟩, rfl, .inr ⟨dX3_areBandsCommon_93, rfl⟩, rfl, .inr ⟨dX3_areBandsCommon_94, rfl⟩, rfl, .inr ⟨dX3_areBandsCommon_95, rfl⟩, rfl, .inl ⟨rfl, rfl⟩, trivial⟩
set_option maxRecDepth 100000 in
theorem ck_47_98 : am_cok am_T0 me_47 cd_47_98 98 := ⟨rfl, .inr ⟨dX3_areBandsCommon_98, rfl⟩, rfl, .inl ⟨rfl, rfl⟩, trivial⟩
set_option maxRecDepth 100000 in
theorem ck_47_101 : am_cok am_T0 me_47 cd_47_101 101 := ⟨rfl, .inr ⟨dX3_areBandsCommon_101, rfl⟩, rfl, .inl ⟨rfl, rfl⟩, trivial⟩
set_option maxRecDepth 100000 in
theorem ck_47_102 : am_cok am_T0 me_47 cd_47_102 102 := ⟨rfl, .inr ⟨dX3_areBandsCommon_102, rfl⟩, trivial⟩
set_option maxRecDepth 100000 in
theorem ck_47_103 : am_cok am_T0 me_47 cd_47_103 103 := ⟨rfl, .inr ⟨dX3_areBandsCommon_103, rfl⟩, rfl, .inr ⟨dX3_areBandsCommon_106, rfl⟩, trivial⟩
set_option maxRecDepth 100000 in
theorem ck_47_109 : am_cok am_T0 me_47 cd_47_109 109 := ⟨rfl, .inr ⟨dX3_areBandsCommon_109, rfl⟩, rfl, .inl ⟨rfl, rfl⟩, trivial⟩
set_option maxRecDepth 100000 in
theorem ck_47_110 : am_cok am_T0 me_47 cd_47_110 110 := ⟨rfl, .inr ⟨dX3_areBandsCommon_110, rfl⟩, trivial⟩
set_option maxRecDepth 100000 in
theorem ck_47 : ∀ p ∈ bl_47, am_cok am_T0 me_47 p.2 p.1 := List.forall_mem_cons.mpr ⟨ck_47_0, List.forall_mem_cons.mpr ⟨ck_47_3, List.forall_mem_cons.mpr ⟨ck_47_35, List.forall_mem_cons.mpr ⟨ck_47_53, List.forall_mem_cons.mpr ⟨ck_47_67, List.forall_mem_cons.mpr ⟨ck_47_84, List.forall_mem_cons.mpr ⟨ck_47_98, List.forall_mem_cons.mpr ⟨ck_47_101, List.forall_mem_cons.mpr ⟨ck_47_102, List.forall_mem_cons.mpr ⟨ck_47_103, List.forall_mem_cons.mpr ⟨ck_47_109, List.forall_mem_cons.mpr ⟨ck_47_110, fun _ h => absurd h List.not_mem_nil⟩⟩⟩⟩⟩⟩⟩⟩⟩⟩⟩⟩
set_option maxRecDepth 100000 in
theorem ck_48_0 : am_cok am_T0 me_48 cd_48_0 0 := ⟨rfl, .inr ⟨dX4_init_0, rfl⟩, rfl, .inr ⟨dX4_init_1, rfl⟩, rfl, .inr ⟨dX4_init_4, rfl⟩, rfl, .inr ⟨dX4_init_5, rfl⟩, rfl, .inr ⟨dX4_init_8, rfl⟩, rfl, .inr ⟨dX4_init_9, rfl⟩, rfl, .inl ⟨rfl, rfl⟩, trivial⟩
set_option maxRecDepth 100000 in
theorem ck_48_12 : am_cok am_T0 me_48 cd_48_12 12 := ⟨rfl, .inr ⟨dX4_init_12, rfl⟩, rfl, .inr ⟨dX4_init_15, rfl⟩, rfl, .inr ⟨dX4_init_16, rfl⟩, rfl, .inr ⟨dX4_init_19, rfl⟩, rfl, .inr ⟨dX4_init_20, rfl⟩, rfl, .inl ⟨rfl, rfl⟩, trivial⟩
set_option maxRecDepth 100000 in
theorem ck_48_23 : am_cok am_T0 me_48 cd_48_23 23 := ⟨rfl, .inr ⟨dX4_init_23, rfl⟩, rfl, .inr ⟨dX4_init_26, rfl⟩, rfl, .inr ⟨dX4_init_27, rfl⟩, rfl, .inr ⟨dX4_init_30, rfl⟩, rfl, .inr ⟨dX4_init_31, rfl⟩, rfl, .inl ⟨rfl, rfl⟩, trivial⟩
set_option maxRecDepth 100000 in
theorem ck_48_34 : am_cok am_T0 me_48 cd_48_34 34 := ⟨rfl, .inr ⟨dX4_init_34, rfl⟩, rfl, .inr ⟨dX4_init_37, rfl⟩, rfl, .inr ⟨dX4_init_38, rfl⟩, rfl, .inr ⟨dX4_init_41, rfl⟩, rfl, .inr ⟨dX4_init_42, rfl⟩, rfl, .inl ⟨rfl, rfl⟩, trivial⟩
set_option maxRecDepth 100000 in
theorem ck_48_45 : am_cok am_T0 me_48 cd_48_45 45 := ⟨rfl, .inr ⟨dX4_init_45, rfl⟩, rfl, .inr ⟨dX4_init_48, rfl⟩, rfl, .inr ⟨dX4_init_49, rfl⟩, rfl, .inr ⟨dX4_init_50, rfl⟩, rfl, .inr ⟨dX4_init_53, rfl⟩, rfl, .inr ⟨dX4_init_54, rfl⟩, rfl, .inr ⟨dX4_init_56, rfl⟩, rfl, .inr ⟨dX4_init_59, rfl⟩, rfl, .inr ⟨dX4_init_60, rfl⟩, rfl, .inr ⟨dX4_init_61, rfl⟩, rfl, .inr ⟨dX4_init_64, rfl⟩, rfl, .inr ⟨dX4_init_65, rfl⟩, rfl, .inr ⟨dX4_init_66, rfl⟩, rfl, .inr ⟨dX4_init_69, rfl⟩, rfl, .inr ⟨dX4_init_70, rfl⟩, rfl, .inr ⟨dX4_init_73, rfl⟩, rfl, .inr ⟨dX4_init_75, rfl⟩, rfl, .inr ⟨dX4_init_78, rfl⟩, rfl, .inr ⟨dX4_init_79, rfl⟩, rfl, .inr ⟨dX4_init_80, rfl⟩, rfl, .inr ⟨dX4_init_83, rfl⟩, trivial⟩
set_option maxRecDepth 100000 in
theorem ck_48 : ∀ p ∈ bl_48, am_cok am_T0 me_48 p.2 p.1 := List.forall_mem_cons.mpr ⟨ck_48_0, List.forall_mem_cons.mpr ⟨ck_48_12, List.forall_mem_cons.mpr ⟨ck_48_23, List.forall_mem_cons.mpr ⟨ck_48_34, List.forall_mem_cons.mpr ⟨ck_48_45, fun _ h => absurd h List.not_mem_nil⟩⟩⟩⟩⟩
set_option maxRecDepth 100000 in
theorem ck_49_0 : am_cok am_T0 me_49 cd_49_0 0 := ⟨rfl, .inr ⟨dX4_base_0, rfl⟩, rfl, .inr ⟨dX4_base_1, rfl⟩, rfl, .inr ⟨dX4_base_2, rfl⟩, rfl, .inr ⟨dX4_base_5, rfl⟩, rfl, .inl ⟨rfl, rfl⟩, trivial⟩
set_option maxRecDepth 100000 in
theorem ck_49_8 : am_cok am_T0 me_49 cd_49_8 8 := ⟨rfl, .inr ⟨dX4_base_8, rfl⟩, rfl, .inr ⟨dX4_base_11, rfl⟩, rfl, .inr ⟨dX4_base_12, rfl⟩, rfl, .inr ⟨dX4_base_13, rfl⟩, rfl, .inr ⟨dX4_base_16, rfl⟩, rfl, .inl ⟨rfl, rfl⟩, trivial⟩
set_option maxRecDepth 100000 in
theorem ck_49_19 : am_cok am_T0 me_49 cd_49_19 19 := ⟨rfl, .inr ⟨dX4_base_19, rfl⟩, rfl, .inl ⟨rfl, rfl⟩, trivial⟩
set_option maxRecDepth 100000 in
theorem ck_49_22 : am_cok am_T0 me_49 cd_49_22 22 := ⟨rfl, .inr ⟨dX4_base_22, rfl⟩, rfl, .inr ⟨dX4_base_23, rfl⟩, trivial⟩
set_option maxRecDepth 100000 in
theorem ck_49_24 : am_cok am_T0 me_49 cd_49_24 24 := ⟨rfl, .inr ⟨dX4_base_24, rfl⟩, rfl, .inr ⟨dX4_base_25, rfl⟩, rfl, .inr ⟨dX4_base_28, rfl⟩, rfl, .inr ⟨dX4_base_29, rfl⟩, rfl, .inr ⟨dX4_base_30, rfl⟩, rfl, .inl ⟨rfl, rfl⟩, trivial⟩
set_option maxRecDepth 100000 in
theorem ck_49_33 : am_cok am_T0 me_49 cd_49_33 33 := ⟨rfl, .inr ⟨dX4_base_33, rfl⟩, rfl, .inr ⟨dX4_base_34, rfl⟩, rfl, .inr ⟨dX4_base_35, rfl⟩, rfl, .inr ⟨dX4_base_38, rfl⟩, rfl, .inr ⟨dX4_base_39, rfl⟩, trivial⟩
set_option maxRecDepth 100000 in
theorem ck_49 : ∀ p ∈ bl_49, am_cok am_T0 me_49 p.2 p.1 := List.forall_mem_cons.mpr ⟨ck_49_0, List.forall_mem_cons.mpr ⟨ck_49_8, List.forall_mem_cons.mpr ⟨ck_49_19, List.forall_mem_cons.mpr ⟨ck_49_22, List.forall_mem_cons.mpr ⟨ck_49_24, List.forall_mem_cons.mpr ⟨ck_49_33, fun _ h => absurd h List.not_mem_nil⟩⟩⟩⟩⟩⟩
set_option maxRecDepth 100000 in
theorem ck_50_0 : am_cok am_T0 me_50 cd_50_0 0 := ⟨rfl, .inr ⟨dX4_panel_0, rfl⟩, rfl, .inr ⟨dX4_panel_1, rfl⟩, rfl, .inr ⟨dX4_panel_4, rfl⟩, rfl, .inr ⟨dX4_panel_7, rfl⟩, rfl, .inr ⟨dX4_panel_9, rfl⟩, rfl, .inr ⟨dX4_panel_12, rfl⟩, rfl, .inr ⟨dX4_panel_14, rfl⟩, rfl, .inr ⟨dX4_panel_15, rfl⟩, rfl, .inr ⟨dX4_panel_16, rfl⟩, rfl, .inl ⟨rfl, rfl⟩, trivial⟩
set_option maxRecDepth 100000 in
theorem ck_50_19 : am_cok am_T0 me_50 cd_50_19 19 := ⟨rfl, .inr ⟨dX4_panel_19, rfl⟩, rfl, .inr ⟨dX4_panel_22, rfl⟩, rfl, .inr ⟨dX4_panel_23, rfl⟩, rfl, .inr ⟨dX4_panel_26, rfl⟩, rfl, .inr ⟨dX4_panel_27, rfl⟩, rfl, .inr ⟨dX4_panel_28, rfl⟩, rfl, .inl ⟨rfl, rfl⟩, trivial⟩
set_option maxRecDepth 100000 in
theorem ck_50_31 : am_cok am_T0 me_50 cd_50_31 31 := ⟨rfl, .inr ⟨dX4_panel_31, rfl⟩, rfl, .inl ⟨rfl, rfl⟩, trivial⟩
set_option maxRecDepth 100000 in
theorem ck_50_34 : am_cok am_T0 me_50 cd_50_34 34 := ⟨rfl, .inr ⟨dX4_panel_34, rfl⟩, rfl, .inr ⟨dX4_panel_35, rfl⟩, trivial⟩
set_option maxRecDepth 100000 in
theorem ck_50_36 : am_cok am_T0 me_50 cd_50_36 36 := ⟨rfl, .inr ⟨dX4_panel_36, rfl⟩, rfl, .inr ⟨dX4_panel_38, rfl⟩, rfl, .inr ⟨dX4_panel_39, rfl⟩, rfl, .inr ⟨dX4_panel_42, rfl⟩, rfl, .inl ⟨rfl, rfl⟩, trivial⟩
set_option maxRecDepth 100000 in
theorem ck_50_45 : am_cok am_T0 me_50 cd_50_45 45 := ⟨rfl, .inr ⟨dX4_panel_45, rfl⟩, rfl, .inr ⟨dX4_panel_48, rfl⟩, rfl, .inr ⟨dX4_panel_50, rfl⟩, rfl, .inr ⟨dX4_panel_51, rfl⟩, rfl, .inr ⟨dX4_panel_54, rfl⟩, rfl, .inl ⟨rfl, rfl⟩, trivial⟩
set_option maxRecDepth 100000 in
theorem ck_50_57 : am_cok am_T0 me_50 cd_50_57 57 := ⟨rfl, .inr ⟨dX4_panel_57, rfl⟩, rfl, .inl ⟨rfl, rfl⟩, trivial⟩
set_option maxRecDepth 100000 in
theorem ck_50_60 : am_cok am_T0 me_50 cd_50_60 60 := ⟨rfl, .inr ⟨dX4_panel_60, rfl⟩, rfl, .inr ⟨dX4_panel_61, rfl⟩, trivial⟩
set_option maxRecDepth 100000 in
theorem ck_50_62 : am_cok am_T0 me_50 cd_50_62 62 := ⟨rfl, .inr ⟨dX4_panel_62, rfl⟩, rfl, .inr ⟨dX4_panel_63, rfl⟩, rfl, .inr ⟨dX4_panel_64, rfl⟩, rfl, .inr ⟨dX4_panel_65, rfl⟩, rfl, .inr ⟨dX4_panel_68, rfl⟩, rfl, .inr ⟨dX4_panel_69, rfl⟩, rfl, .inr ⟨dX4_panel_70, rfl⟩, rfl, .inl ⟨rfl, rfl⟩, trivial⟩
set_option maxRecDepth 100000 in
theorem ck_50_73 : am_cok am_T0 me_50 cd_50_73 73 := ⟨rfl, .inr ⟨dX4_panel_73, rfl⟩, rfl, .inr ⟨dX4_panel_75, rfl⟩, rfl, .inr ⟨dX4_panel_76, rfl⟩, rfl, .inl ⟨rfl, rfl⟩, trivial⟩
set_option maxRecDepth 100000 in
theorem ck_50_79 : am_cok am_T0 me_50 cd_50_79 79 := ⟨rfl, .inr ⟨dX4_panel_79, rfl⟩, rfl, .inr ⟨dX4_panel_82, rfl⟩, rfl, .inr ⟨dX4_panel_83, rfl⟩, trivial⟩
set_option maxRecDepth 100000 in
theorem ck_50_84 : am_cok am_T0 me_50 cd_50_84 84 := ⟨rfl, .inr ⟨dX4_panel_84, rfl⟩, rfl, .inr ⟨dX4_panel_85, rfl⟩, rfl, .inr ⟨dX4_panel_86, rfl⟩, rfl, .inr ⟨dX4_panel_89, rfl⟩, rfl, .inr ⟨dX4_panel_90, rfl⟩, rfl, .inr ⟨dX4_panel_93, rfl⟩, rfl, .inr ⟨dX4_panel_94, rfl⟩, rfl, .inr ⟨dX4_panel_95, rfl⟩, rfl, .inr ⟨dX4_panel_96, rfl⟩, rfl, .inr ⟨dX4_panel_98, rfl⟩, rfl, .inr ⟨dX4_panel_100, rfl⟩, rfl, .inr ⟨dX4_panel_102, rfl⟩, rfl, .inr ⟨dX4_panel_103, rfl⟩, rfl, .inr ⟨dX4_panel_106, rfl⟩, rfl, .inr ⟨dX4_panel_107, rfl⟩, trivial⟩
set_option maxRecDepth 100000 in
theorem ck_50_110 : am_cok am_T0 me_50 cd_50_110 110 := ⟨rfl, .inr ⟨dX4_panel_110, rfl⟩, rfl, .inl ⟨rfl, rfl⟩, trivial⟩
set_option maxRecDepth 100000 in
theorem ck_50_111 : am_cok am_T0 me_50 cd_50_111 111 := ⟨rfl, .inr ⟨dX4_panel_111, rfl⟩, rfl, .inl ⟨rfl, rfl⟩, trivial⟩
set_option maxRecDepth 100000 in
theorem ck_50_114 : am_cok am_T0 me_50 cd_50_114 114 := ⟨rfl, .inr ⟨dX4_panel_114, rfl⟩, trivial⟩
set_option maxRecDepth 100000 in
theorem ck_50 : ∀ p ∈ bl_50, am_cok am_T0 me_50 p.2 p.1 := List.forall_mem_cons.mpr ⟨ck_50_0, List.forall_mem_cons.mpr ⟨ck_50_19, List.forall_mem_cons.mpr ⟨ck_50_31, List.forall_mem_cons.mpr ⟨ck_50_34, List.forall_mem_cons.mpr ⟨ck_50_36, List.forall_mem_cons.mpr ⟨ck_50_45, List.forall_mem_cons.mpr ⟨ck_50_57, List.forall_mem_cons.mpr ⟨ck_50_60, List.forall_mem_cons.mpr ⟨ck_50_62, List.forall_mem_cons.mpr ⟨ck_50_73, List.forall_mem_cons.mpr ⟨ck_50_79, List.forall_mem_cons.mpr ⟨ck_50_84, List.forall_mem_cons.mpr ⟨ck_50_110, List.forall_mem_cons.mpr ⟨ck_50_111, List.forall_mem_cons.mpr ⟨ck_50_114, fun _ h => absurd h List.not_mem_nil⟩⟩⟩⟩⟩⟩⟩⟩⟩⟩⟩⟩⟩⟩⟩
set_option maxRecDepth 100000 in
theorem ck_51_0 : am_cok am_T0 me_51 cd_51_0 0 := ⟨rfl, .inr ⟨dX4_deduction_0, rfl⟩, rfl, .inr ⟨dX4_deduction_1, rfl⟩, rfl, .inr ⟨dX4_deduction_2, rfl⟩, rfl, .inr ⟨dX4_deduction_5, rfl⟩, rfl, .inl ⟨rfl, rfl⟩, trivial⟩
set_option maxRecDepth 100000 in
theorem ck_51_8 : am_cok am_T0 me_51 cd_51_8 8 := ⟨rfl, .inr ⟨dX4_deduction_8, rfl⟩, rfl, .inr ⟨dX4_deduction_11, rfl⟩, rfl, .inr ⟨dX4_deduction_12, rfl⟩, rfl, .inr ⟨dX4_deduction_13, rfl⟩, rfl, .inr ⟨dX4_deduction_14, rfl⟩, rfl, .inl ⟨rfl, rfl⟩, trivial⟩
set_option maxRecDepth 100000 in
theorem ck_51_17 : am_cok am_T0 me_51 cd_51_17 17 := ⟨rfl, .inr ⟨dX4_deduction_17, rfl⟩, rfl, .inr ⟨dX4_deduction_18, rfl⟩, trivial⟩
set_option maxRecDepth 100000 in
theorem ck_51_19 : am_cok am_T0 me_51 cd_51_19 19 := ⟨rfl, .inr ⟨dX4_deduction_19, rfl⟩, rfl, .inr ⟨dX4_deduction_20, rfl⟩, rfl, .inr ⟨dX4_deduction_21, rfl⟩, rfl, .inr ⟨dX4_deduction_24, rfl⟩, rfl, .inr ⟨dX4_deduction_25, rfl⟩, trivial⟩
set_option maxRecDepth 100000 in
theorem ck_51 : ∀ p ∈ bl_51, am_cok am_T0 me_51 p.2 p.1 := List.forall_mem_cons.mpr ⟨ck_51_0, List.forall_mem_cons.mpr ⟨ck_51_8, List.forall_mem_cons.mpr ⟨ck_51_17, List.forall_mem_cons.mpr ⟨ck_51_19, fun _ h => absurd h List.not_mem_nil⟩⟩⟩⟩
set_option maxRecDepth 100000 in
theorem ck_52_0 : am_cok am_T0 me_52 cd_52_0 0 := ⟨rfl, .inr ⟨dX4_gauge_0, rfl⟩, rfl, .inr ⟨dX4_gauge_1, rfl⟩, rfl, .inr ⟨dX4_gauge_2, rfl⟩, rfl, .inr ⟨dX4_gauge_5, rfl⟩, rfl, .inl ⟨rfl, rfl⟩, trivial⟩
set_option maxRecDepth 100000 in
theorem ck_52_8 : am_cok am_T0 me_52 cd_52_8 8 := ⟨rfl, .inr ⟨dX4_gauge_8, rfl⟩, rfl, .inr ⟨dX4_gauge_11, rfl⟩, rfl, .inr ⟨dX4_gauge_12, rfl⟩, trivial⟩
set_option maxRecDepth 100000 in
theorem ck_52_13 : am_cok am_T0 me_52 cd_52_13 13 := ⟨rfl, .inr ⟨dX4_gauge_13, rfl⟩, rfl, .inr ⟨dX4_gauge_14, rfl⟩, rfl, .inr ⟨dX4_gauge_15, rfl⟩, rfl, .inr ⟨dX4_gauge_18, rfl⟩, rfl, .inr ⟨dX4_gauge_19, rfl⟩, rfl, .inr ⟨dX4_gauge_20, rfl⟩, rfl, .inr ⟨dX4_gauge_23, rfl⟩, rfl, .inr ⟨dX4_gauge_24, rfl⟩, trivial⟩
set_option maxRecDepth 100000 in
theorem ck_52 : ∀ p ∈ bl_52, am_cok am_T0 me_52 p.2 p.1 := List.forall_mem_cons.mpr ⟨ck_52_0, List.forall_mem_cons.mpr ⟨ck_52_8, List.forall_mem_cons.mpr ⟨ck_52_13, fun _ h => absurd h List.not_mem_nil⟩⟩⟩
set_option maxRecDepth 100000 in
theorem ck_53_0 : am_cok am_T0 me_53 cd_53_0 0 := ⟨rfl, .inr ⟨dX4_over_0, rfl⟩, rfl, .inr ⟨dX4_over_1, rfl⟩, rfl, .inr ⟨dX4_over_4, rfl⟩, rfl, .inr ⟨dX4_over_7, rfl⟩, rfl, .inr ⟨dX4_over_10, rfl⟩, rfl, .inr ⟨dX4_over_11, rfl⟩, trivial⟩
set_option maxRecDepth 100000 in
theorem ck_53_12 : am_cok am_T0 me_53 cd_53_12 12 := ⟨rfl, .inr ⟨dX4_over_12, rfl⟩, rfl, .inr ⟨dX4_over_13, rfl⟩, rfl, .inr ⟨dX4_over_16, rfl⟩, rfl, .inl ⟨rfl, rfl⟩, trivial⟩
set_option maxRecDepth 100000 in
theorem ck_53_19 : am_cok am_T0 me_53 cd_53_19 19 := ⟨rfl, .inr ⟨dX4_over_19, rfl⟩, rfl, .inr ⟨dX4_over_20, rfl⟩, rfl, .inr ⟨dX4_over_21, rfl⟩, rfl, .inr ⟨dX4_over_24, rfl⟩, rfl, .inr ⟨dX4_over_25, rfl⟩, trivial⟩
set_option maxRecDepth 100000 in
theorem ck_53 : ∀ p ∈ bl_53, am_cok am_T0 me_53 p.2 p.1 := List.forall_mem_cons.mpr ⟨ck_53_0, List.forall_mem_cons.mpr ⟨ck_53_12, List.forall_mem_cons.mpr ⟨ck_53_19, fun _ h => absurd h List.not_mem_nil⟩⟩⟩
set_option maxRecDepth 100000 in
theorem ck_54_0 : am_cok am_T0 me_54 cd_54_0 0 := ⟨rfl, .inr ⟨dX4_flat_0, rfl⟩, rfl, .inr ⟨dX4_flat_1, rfl⟩, rfl, .inr ⟨dX4_flat_4, rfl⟩, rfl, .inr ⟨dX4_flat_7, rfl⟩, rfl, .inr ⟨dX4_flat_10, rfl⟩, rfl, .inr ⟨dX4_flat_11, rfl⟩, trivial⟩
set_option maxRecDepth 100000 in
theorem ck_54_12 : am_cok am_T0 me_54 cd_54_12 12 := ⟨rfl, .inr ⟨dX4_flat_12, rfl⟩, rfl, .inr ⟨dX4_flat_13, rfl⟩, rfl, .inr ⟨dX4_flat_16, rfl⟩, rfl, .inr ⟨dX4_flat_17, rfl⟩, rfl, .inr ⟨dX4_flat_20, rfl⟩, rfl, .inr ⟨dX4_flat_21, rfl⟩, rfl, .inr ⟨dX4_flat_24, rfl⟩, rfl, .inl ⟨rfl, rfl⟩, trivial⟩
set_option maxRecDepth 100000 in
theorem ck_54_27 : am_cok am_T0 me_54 cd_54_27 27 := ⟨rfl, .inr ⟨dX4_flat_27, rfl⟩, rfl, .inr ⟨dX4_flat_28, rfl⟩, rfl, .inr ⟨dX4_flat_29, rfl⟩, rfl, .inr ⟨dX4_flat_32, rfl⟩, rfl, .inl ⟨rfl, rfl⟩, trivial⟩
set_option maxRecDepth 100000 in
theorem ck_54_35 : am_cok am_T0 me_54 cd_54_35 35 := ⟨rfl, .inr ⟨dX4_flat_35, rfl⟩, rfl, .inr ⟨dX4_flat_38, rfl⟩, rfl, .inr ⟨dX4_flat_39, rfl⟩, rfl, .inr ⟨dX4_flat_40, rfl⟩, rfl, .inr ⟨dX4_flat_43, rfl⟩, rfl, .inr ⟨dX4_flat_44, rfl⟩, rfl, .inr ⟨dX4_flat_47, rfl⟩, rfl, .inr ⟨dX4_flat_48, rfl⟩, rfl, .inr ⟨dX4_flat_51, rfl⟩, rfl, .inr ⟨dX4_flat_52, rfl⟩, trivial⟩
set_option maxRecDepth 100000 in
theorem ck_54_53 : am_cok am_T0 me_54 cd_54_53 53 := ⟨rfl, .inr ⟨dX4_flat_53, rfl⟩, rfl, .inr ⟨dX4_flat_54, rfl⟩, rfl, .inl ⟨rfl, rfl⟩, trivial⟩
set_option maxRecDepth 100000 in
theorem ck_54_55 : am_cok am_T0 me_54 cd_54_55 55 := ⟨rfl, .inr ⟨dX4_flat_55, rfl⟩, rfl, .inr ⟨dX4_flat_56, rfl⟩, rfl, .inr ⟨dX4_flat_57, rfl⟩, rfl, .inr ⟨dX4_flat_60, rfl⟩, rfl, .inr ⟨dX4_flat_63, rfl⟩, rfl, .inr ⟨dX4_flat_66, rfl⟩, rfl, .inr ⟨dX4_flat_67, rfl⟩, rfl, .inr ⟨dX4_flat_70, rfl⟩, rfl, .inr ⟨dX4_flat_71, rfl⟩, rfl, .inl ⟨rfl, rfl⟩, trivial⟩
set_option maxRecDepth 100000 in
theorem ck_54_74 : am_cok am_T0 me_54 cd_54_74 74 := ⟨rfl, .inr ⟨dX4_flat_74, rfl⟩, rfl, .inr ⟨dX4_flat_75, rfl⟩, rfl, .inr ⟨dX4_flat_76, rfl⟩, rfl, .inr ⟨dX4_flat_77, rfl⟩, rfl, .inr ⟨dX4_flat_80, rfl⟩, rfl, .inr ⟨dX4_flat_81, rfl⟩, rfl, .inr ⟨dX4_flat_82, rfl⟩, rfl, .inr ⟨dX4_flat_85, rfl⟩, rfl, .inr ⟨dX4_flat_86, rfl⟩, rfl, .inr ⟨dX4_flat_87, rfl⟩, rfl, .inr ⟨dX4_flat_90, rfl⟩, rfl, .inr ⟨dX4_flat_91, rfl⟩, trivial⟩
set_option maxRecDepth 100000 in
theorem ck_54_92 : am_cok am_T0 me_54 cd_54_92 92 := ⟨rfl, .inr ⟨dX4_flat_92, rfl⟩, rfl, .inr ⟨dX4_flat_95, rfl⟩, trivial⟩
set_option maxRecDepth 100000 in
theorem ck_54_98 : am_cok am_T0 me_54 cd_54_98 98 := ⟨rfl, .inr ⟨dX4_flat_98, rfl⟩, rfl, .inr ⟨dX4_flat_99, rfl⟩, trivial⟩
set_option maxRecDepth 100000 in
theorem ck_54 : ∀ p ∈ bl_54, am_cok am_T0 me_54 p.2 p.1 := List.forall_mem_cons.mpr ⟨ck_54_0, List.forall_mem_cons.mpr ⟨ck_54_12, List.forall_mem_cons.mpr ⟨ck_54_27, List.forall_mem_cons.mpr ⟨ck_54_35, List.forall_mem_cons.mpr ⟨ck_54_53, List.forall_mem_cons.mpr ⟨ck_54_55, List.forall_mem_cons.mpr ⟨ck_54_74, List.forall_mem_cons.mpr ⟨ck_54_92, List.forall_mem_cons.mpr ⟨ck_54_98, fun _ h => absurd h List.not_mem_nil⟩⟩⟩⟩⟩⟩⟩⟩⟩
set_option maxRecDepth 100000 in
theorem ck_55_0 : am_cok am_T0 me_55 cd_55_0 0 := ⟨rfl, .inr ⟨dX4_wrong_0, rfl⟩, rfl, .inr ⟨dX4_wrong_1, rfl⟩, rfl, .inr ⟨dX4_wrong_4, rfl⟩, rfl, .inr ⟨dX4_wrong_5, rfl⟩, rfl, .inr ⟨dX4_wrong_8, rfl⟩, trivial⟩
set_option maxRecDepth 100000 in
theorem ck_55_9 : am_cok am_T0 me_55 cd_55_9 9 := ⟨rfl, .inr ⟨dX4_wrong_9, rfl⟩, rfl, .inr ⟨dX4_wrong_10, rfl⟩, rfl, .inr ⟨dX4_wrong_11, rfl⟩, rfl, .inr ⟨dX4_wrong_14, rfl⟩, rfl, .inr ⟨dX4_wrong_15, rfl⟩, rfl, .inr ⟨dX4_wrong_18, rfl⟩, trivial⟩
set_option maxRecDepth 100000 in
theorem ck_55_21 : am_cok am_T0 me_55 cd_55_21 21 := ⟨rfl, .inr ⟨dX4_wrong_21, rfl⟩, rfl, .inl ⟨rfl, rfl⟩, trivial⟩
set_option maxRecDepth 100000 in
theorem ck_55_22 : am_cok am_T0 me_55 cd_55_22 22 := ⟨rfl, .inr ⟨dX4_wrong_22, rfl⟩, trivial⟩
set_option maxRecDepth 100000 in
theorem ck_55 : ∀ p ∈ bl_55, am_cok am_T0 me_55 p.2 p.1 := List.forall_mem_cons.mpr ⟨ck_55_0, List.forall_mem_cons.mpr ⟨ck_55_9, List.forall_mem_cons.mpr ⟨ck_55_21, List.forall_mem_cons.mpr ⟨ck_55_22, fun _ h => absurd h List.not_mem_nil⟩⟩⟩⟩
set_option maxRecDepth 100000 in
theorem ck_56_0 : am_cok am_T0 me_56 cd_56_0 0 := ⟨rfl, .inr ⟨dX4_flatOf_0, rfl⟩, rfl, .inr ⟨dX4_flatOf_1, rfl⟩, rfl, .inr ⟨dX4_flatOf_4, rfl⟩, rfl, .inr ⟨dX4_flatOf_5, rfl⟩, rfl, .inl ⟨rfl, rfl⟩, trivial⟩
set_option maxRecDepth 100000 in
theorem ck_56_8 : am_cok am_T0 me_56 cd_56_8 8 := ⟨rfl, .inr ⟨dX4_flatOf_8, rfl⟩, rfl, .inr ⟨dX4_flatOf_11, rfl⟩, rfl, .inr ⟨dX4_flatOf_12, rfl⟩, rfl, .inr ⟨dX4_flatOf_13, rfl⟩, rfl, .inr ⟨dX4_flatOf_14, rfl⟩, rfl, .inl ⟨rfl, rfl⟩, trivial⟩
set_option maxRecDepth 100000 in
theorem ck_56_17 : am_cok am_T0 me_56 cd_56_17 17 := ⟨rfl, .inr ⟨dX4_flatOf_17, rfl⟩, rfl, .inl ⟨rfl, rfl⟩, trivial⟩
set_option maxRecDepth 100000 in
theorem ck_56_20 : am_cok am_T0 me_56 cd_56_20 20 := ⟨rfl, .inr ⟨dX4_flatOf_20, rfl⟩, rfl, .inr ⟨dX4_flatOf_22, rfl⟩, trivial⟩
set_option maxRecDepth 100000 in
theorem ck_56_23 : am_cok am_T0 me_56 cd_56_23 23 := ⟨rfl, .inr ⟨dX4_flatOf_23, rfl⟩, rfl, .inr ⟨dX4_flatOf_24, rfl⟩, rfl, .inr ⟨dX4_flatOf_27, rfl⟩, rfl, .inr ⟨dX4_flatOf_28, rfl⟩, rfl, .inr ⟨dX4_flatOf_31, rfl⟩, rfl, .inr ⟨dX4_flatOf_32, rfl⟩, rfl, .inr ⟨dX4_flatOf_35, rfl⟩, rfl, .inl ⟨rfl, rfl⟩, trivial⟩
set_option maxRecDepth 100000 in
theorem ck_56_38 : am_cok am_T0 me_56 cd_56_38 38 := ⟨rfl, .inr ⟨dX4_flatOf_38, rfl⟩, rfl, .inr ⟨dX4_flatOf_39, rfl⟩, rfl, .inr ⟨dX4_flatOf_42, rfl⟩, rfl, .inr ⟨dX4_flatOf_45, rfl⟩, rfl, .inr ⟨dX4_flatOf_46, rfl⟩, rfl, .inl ⟨rfl, rfl⟩, trivial⟩
set_option maxRecDepth 100000 in
theorem ck_56_49 : am_cok am_T0 me_56 cd_56_49 49 := ⟨rfl, .inr ⟨dX4_flatOf_49, rfl⟩, rfl, .inr ⟨dX4_flatOf_50, rfl⟩, rfl, .inr ⟨dX4_flatOf_51, rfl⟩, rfl, .inr ⟨dX4_flatOf_52, rfl⟩, trivial⟩
set_option maxRecDepth 100000 in
theorem ck_56 : ∀ p ∈ bl_56, am_cok am_T0 me_56 p.2 p.1 := List.forall_mem_cons.mpr ⟨ck_56_0, List.forall_mem_cons.mpr ⟨ck_56_8, List.forall_mem_cons.mpr ⟨ck_56_17, List.forall_mem_cons.mpr ⟨ck_56_20, List.forall_mem_cons.mpr ⟨ck_56_23, List.forall_mem_cons.mpr ⟨ck_56_38, List.forall_mem_cons.mpr ⟨ck_56_49, fun _ h => absurd h List.not_mem_nil⟩⟩⟩⟩⟩⟩⟩
set_option maxRecDepth 100000 in
theorem ck_57_0 : am_cok am_T0 me_57 cd_57_0 0 := ⟨rfl, .inr ⟨dX4_size_0, rfl⟩, rfl, .inr ⟨dX4_size_1, rfl⟩, rfl, .inr ⟨dX4_size_4, rfl⟩, rfl, .inr ⟨dX4_size_7, rfl⟩, rfl, .inr ⟨dX4_size_10, rfl⟩, rfl, .inr ⟨dX4_size_11, rfl⟩, rfl, .inr ⟨dX4_size_12, rfl⟩, rfl, .inr ⟨dX4_size_13, rfl⟩, rfl, .inl ⟨rfl, rfl⟩, trivial⟩
set_option maxRecDepth 100000 in
theorem ck_57_16 : am_cok am_T0 me_57 cd_57_16 16 := ⟨rfl, .inr ⟨dX4_size_16, rfl⟩, rfl, .inl ⟨rfl, rfl⟩, trivial⟩
set_option maxRecDepth 100000 in
theorem ck_57_19 : am_cok am_T0 me_57 cd_57_19 19 := ⟨rfl, .inr ⟨dX4_size_19, rfl⟩, rfl, .inr ⟨dX4_size_21, rfl⟩, trivial⟩
set_option maxRecDepth 100000 in
theorem ck_57_22 : am_cok am_T0 me_57 cd_57_22 22 := ⟨rfl, .inr ⟨dX4_size_22, rfl⟩, rfl, .inr ⟨dX4_size_23, rfl⟩, rfl, .inr ⟨dX4_size_26, rfl⟩, rfl, .inr ⟨dX4_size_27, rfl⟩, rfl, .inr ⟨dX4_size_30, rfl⟩, rfl, .inr ⟨dX4_size_31, rfl⟩, rfl, .inr ⟨dX4_size_34, rfl⟩, rfl, .inl ⟨rfl, rfl⟩, trivial⟩
set_option maxRecDepth 100000 in
theorem ck_57_37 : am_cok am_T0 me_57 cd_57_37 37 := ⟨rfl, .inr ⟨dX4_size_37, rfl⟩, rfl, .inr ⟨dX4_size_38, rfl⟩, rfl, .inr ⟨dX4_size_41, rfl⟩, rfl, .inr ⟨dX4_size_42, rfl⟩, rfl, .inr ⟨dX4_size_45, rfl⟩, rfl, .inr ⟨dX4_size_46, rfl⟩, trivial⟩
set_option maxRecDepth 100000 in
theorem ck_57_49 : am_cok am_T0 me_57 cd_57_49 49 := ⟨rfl, .inr ⟨dX4_size_49, rfl⟩, rfl, .inl ⟨rfl, rfl⟩, trivial⟩
set_option maxRecDepth 100000 in
theorem ck_57_50 : am_cok am_T0 me_57 cd_57_50 50 := ⟨rfl, .inr ⟨dX4_size_50, rfl⟩, rfl, .inl ⟨rfl, rfl⟩, trivial⟩
set_option maxRecDepth 100000 in
theorem ck_57_53 : am_cok am_T0 me_57 cd_57_53 53 := ⟨rfl, .inr ⟨dX4_size_53, rfl⟩, trivial⟩
set_option maxRecDepth 100000 in
theorem ck_57 : ∀ p ∈ bl_57, am_cok am_T0 me_57 p.2 p.1 := List.forall_mem_cons.mpr ⟨ck_57_0, List.forall_mem_cons.mpr ⟨ck_57_16, List.forall_mem_cons.mpr ⟨ck_57_19, List.forall_mem_cons.mpr ⟨ck_57_22, List.forall_mem_cons.mpr ⟨ck_57_37, List.forall_mem_cons.mpr ⟨ck_57_49, List.forall_mem_cons.mpr ⟨ck_57_50, List.forall_mem_cons.mpr ⟨ck_57_53, fun _ h => absurd h List.not_mem_nil⟩⟩⟩⟩⟩⟩⟩⟩
set_option maxRecDepth 100000 in
theorem ck_58_0 : am_cok am_T0 me_58 cd_58_0 0 := ⟨rfl, .inr ⟨dX4_place_0, rfl⟩, rfl, .inr ⟨dX4_place_1, rfl⟩, rfl, .inr ⟨dX4_place_4, rfl⟩, rfl, .inr ⟨dX4_place_5, rfl⟩, rfl, .inl ⟨rfl, rfl⟩, trivial⟩
set_option maxRecDepth 100000 in
theorem ck_58_8 : am_cok am_T0 me_58 cd_58_8 8 := ⟨rfl, .inr ⟨dX4_place_8, rfl⟩, rfl, .inr ⟨dX4_place_11, rfl⟩, rfl, .inr ⟨dX4_place_12, rfl⟩, rfl, .inr ⟨dX4_place_15, rfl⟩, rfl, .inr ⟨dX4_place_16, rfl⟩, rfl, .inl ⟨rfl, rfl⟩, trivial⟩
set_option maxRecDepth 100000 in
theorem ck_58_19 : am_cok am_T0 me_58 cd_58_19 19 := ⟨rfl, .inr ⟨dX4_place_19, rfl⟩, rfl, .inr ⟨dX4_place_22, rfl⟩, rfl, .inr ⟨dX4_place_23, rfl⟩, rfl, .inr ⟨dX4_place_24, rfl⟩, rfl, .inr ⟨dX4_place_25, rfl⟩, rfl, .inl ⟨rfl, rfl⟩, trivial⟩
set_option maxRecDepth 100000 in
theorem ck_58_28 : am_cok am_T0 me_58 cd_58_28 28 := ⟨rfl, .inr ⟨dX4_place_28, rfl⟩, rfl, .inl ⟨rfl, rfl⟩, trivial⟩
set_option maxRecDepth 100000 in
theorem ck_58_31 : am_cok am_T0 me_58 cd_58_31 31 := ⟨rfl, .inr ⟨dX4_place_31, rfl⟩, rfl, .inr ⟨dX4_place_33, rfl⟩, trivial⟩
set_option maxRecDepth 100000 in
theorem ck_58_34 : am_cok am_T0 me_58 cd_58_34 34 := ⟨rfl, .inr ⟨dX4_place_34, rfl⟩, rfl, .inr ⟨dX4_place_35, rfl⟩, rfl, .inr ⟨dX4_place_38, rfl⟩, rfl, .inr ⟨dX4_place_39, rfl⟩, rfl, .inr ⟨dX4_place_42, rfl⟩, rfl, .inr ⟨dX4_place_43, rfl⟩, rfl, .inl ⟨rfl, rfl⟩, trivial⟩
set_option maxRecDepth 100000 in
theorem ck_58_46 : am_cok am_T0 me_58 cd_58_46 46 := ⟨rfl, .inr ⟨dX4_place_46, rfl⟩, rfl, .inr ⟨dX4_place_47, rfl⟩, rfl, .inr ⟨dX4_place_48, rfl⟩, rfl, .inr ⟨dX4_place_51, rfl⟩, rfl, .inr ⟨dX4_place_52, rfl⟩, rfl, .inr ⟨dX4_place_55, rfl⟩, rfl, .inr ⟨dX4_place_58, rfl⟩, rfl, .inr ⟨dX4_place_59, rfl⟩, rfl, .inr ⟨dX4_place_60, rfl⟩, rfl, .inr ⟨dX4_place_61, rfl⟩, rfl, .inr ⟨dX4_place_62, rfl⟩, trivial⟩
set_option maxRecDepth 100000 in
theorem ck_58_65 : am_cok am_T0 me_58 cd_58_65 65 := ⟨rfl, .inr ⟨dX4_place_65, rfl⟩, rfl, .inr ⟨dX4_place_66, rfl⟩, rfl, .inr ⟨dX4_place_69, rfl⟩, rfl, .inr ⟨dX4_place_72, rfl⟩, rfl, .inr ⟨dX4_place_73, rfl⟩, rfl, .inr ⟨dX4_place_74, rfl⟩, rfl, .inr ⟨dX4_place_75, rfl⟩, rfl, .inr ⟨dX4_place_76, rfl⟩, rfl, .inr ⟨dX4_place_77, rfl⟩, rfl, .inl ⟨rfl, rfl⟩, trivial⟩
set_option maxRecDepth 100000 in
theorem ck_58_78 : am_cok am_T0 me_58 cd_58_78 78 := ⟨rfl, .inr ⟨dX4_place_78, rfl⟩, trivial⟩
set_option maxRecDepth 100000 in
theorem ck_58 : ∀ p ∈ bl_58, am_cok am_T0 me_58 p.2 p.1 := List.forall_mem_cons.mpr ⟨ck_58_0, List.forall_mem_cons.mpr ⟨ck_58_8, List.forall_mem_cons.mpr ⟨ck_58_19, List.forall_mem_cons.mpr ⟨ck_58_28, List.forall_mem_cons.mpr ⟨ck_58_31, List.forall_mem_cons.mpr ⟨ck_58_34, List.forall_mem_cons.mpr ⟨ck_58_46, List.forall_mem_cons.mpr ⟨ck_58_65, List.forall_mem_cons.mpr ⟨ck_58_78, fun _ h => absurd h List.not_mem_nil⟩⟩⟩⟩⟩⟩⟩⟩⟩
set_option maxRecDepth 100000 in
theorem ck_59_0 : am_cok am_T0 me_59 cd_59_0 0 := ⟨rfl, .inr ⟨dX4_meets_0, rfl⟩, rfl, .inr ⟨dX4_meets_1, rfl⟩, rfl, .inr ⟨dX4_meets_4, rfl⟩, rfl, .inr ⟨dX4_meets_7, rfl⟩, rfl, .inr ⟨dX4_meets_10, rfl⟩, rfl, .inr ⟨dX4_meets_11, rfl⟩, rfl, .inr ⟨dX4_meets_14, rfl⟩, rfl, .inr ⟨dX4_meets_15, rfl⟩, rfl, .inl ⟨rfl, rfl⟩, trivial⟩
set_option maxRecDepth 100000 in
theorem ck_59_18 : am_cok am_T0 me_59 cd_59_18 18 := ⟨rfl, .inr ⟨dX4_meets_18, rfl⟩, rfl, .inl ⟨rfl, rfl⟩, trivial⟩
set_option maxRecDepth 100000 in
theorem ck_59_21 : am_cok am_T0 me_59 cd_59_21 21 := ⟨rfl, .inr ⟨dX4_meets_21, rfl⟩, rfl, .inr ⟨dX4_meets_22, rfl⟩, trivial⟩
set_option maxRecDepth 100000 in
theorem ck_59_23 : am_cok am_T0 me_59 cd_59_23 23 := ⟨rfl, .inr ⟨dX4_meets_23, rfl⟩, rfl, .inr ⟨dX4_meets_24, rfl⟩, rfl, .inr ⟨dX4_meets_27, rfl⟩, rfl, .inr ⟨dX4_meets_28, rfl⟩, rfl, .inr ⟨dX4_meets_31, rfl⟩, rfl, .inr ⟨dX4_meets_32, rfl⟩, rfl, .inl ⟨rfl, rfl⟩, trivial⟩
set_option maxRecDepth 100000 in
theorem ck_59_35 : am_cok am_T0 me_59 cd_59_35 35 := ⟨rfl, .inr ⟨dX4_meets_35, rfl⟩, rfl, .inr ⟨dX4_meets_36, rfl⟩, rfl, .inr ⟨dX4_meets_37, rfl⟩, rfl, .inr ⟨dX4_meets_38, rfl⟩, rfl, .inl ⟨rfl, rfl⟩, trivial⟩
set_option maxRecDepth 100000 in
theorem ck_59_39 : am_cok am_T0 me_59 cd_59_39 39 := ⟨rfl, .inr ⟨dX4_meets_39, rfl⟩, rfl, .inr ⟨dX4_meets_40, rfl⟩, rfl, .inr ⟨dX4_meets_41, rfl⟩, rfl, .inr ⟨dX4_meets_44, rfl⟩, rfl, .inr ⟨dX4_meets_47, rfl⟩, rfl, .inr ⟨dX4_meets_50, rfl⟩, rfl, .inr ⟨dX4_meets_51, rfl⟩, rfl, .inr ⟨dX4_meets_52, rfl⟩, rfl, .inr ⟨dX4_meets_53, rfl⟩, rfl, .inl ⟨rfl, rfl⟩, trivial⟩
set_option maxRecDepth 100000 in
theorem ck_59_55 : am_cok am_T0 me_59 cd_59_55 55 := ⟨rfl, .inr ⟨dX4_meets_55, rfl⟩, rfl, .inr ⟨dX4_meets_57, rfl⟩, rfl, .inr ⟨dX4_meets_58, rfl⟩, rfl, .inr ⟨dX4_meets_61, rfl⟩, rfl, .inr ⟨dX4_meets_64, rfl⟩, rfl, .inr ⟨dX4_meets_67, rfl⟩, rfl, .inr ⟨dX4_meets_68, rfl⟩, rfl, .inr ⟨dX4_meets_71, rfl⟩, rfl, .inr ⟨dX4_meets_74, rfl⟩, rfl, .inr ⟨dX4_meets_76, rfl⟩, rfl, .inr ⟨dX4_meets_77, rfl⟩, rfl, .inr ⟨dX4_meets_78, rfl⟩, rfl, .inr ⟨dX4_meets_81, rfl⟩, rfl, .inr ⟨dX4_meets_82, rfl⟩, rfl, .inr ⟨dX4_meets_85, rfl⟩, rfl, .inr ⟨dX4_meets_86, rfl⟩, rfl, .inr ⟨dX4_meets_88, rfl⟩, rfl, .inl ⟨rfl, rfl⟩, trivial⟩
set_option maxRecDepth 100000 in
theorem ck_59_91 : am_cok am_T0 me_59 cd_59_91 91 := ⟨rfl, .inr ⟨dX4_meets_91, rfl⟩, rfl, .inr ⟨dX4_meets_94, rfl⟩, rfl, .inr ⟨dX4_meets_95, rfl⟩, rfl, .inr ⟨dX4_meets_98, rfl⟩, rfl, .inr ⟨dX4_meets_100, rfl⟩, rfl, .inr ⟨dX4_meets_101, rfl⟩, rfl, .inl ⟨rfl, rfl⟩, trivial⟩
set_option maxRecDepth 100000 in
theorem ck_59_104 : am_cok am_T0 me_59 cd_59_104 104 := ⟨rfl, .inr ⟨dX4_meets_104, rfl⟩, rfl, .inl ⟨rfl, rfl⟩, trivial⟩
set_option maxRecDepth 100000 in
theorem ck_59_107 : am_cok am_T0 me_59 cd_59_107 107 := ⟨rfl, .inr ⟨dX4_meets_107, rfl⟩, rfl, .inl ⟨rfl, rfl⟩, trivial⟩
set_option maxRecDepth 100000 in
theorem ck_59_110 : am_cok am_T0 me_59 cd_59_110 110 := ⟨rfl, .inr ⟨dX4_meets_110, rfl⟩, rfl, .inr ⟨dX4_meets_113, rfl⟩, trivial⟩
set_option maxRecDepth 100000 in
theorem ck_59_116 : am_cok am_T0 me_59 cd_59_116 116 := ⟨rfl, .inr ⟨dX4_meets_116, rfl⟩, rfl, .inr ⟨dX4_meets_119, rfl⟩, trivial⟩
set_option maxRecDepth 100000 in
theorem ck_59_122 : am_cok am_T0 me_59 cd_59_122 122 := ⟨rfl, .inr ⟨dX4_meets_122, rfl⟩, rfl, .inr ⟨dX4_meets_123, rfl⟩, trivial⟩
set_option maxRecDepth 100000 in
theorem ck_59 : ∀ p ∈ bl_59, am_cok am_T0 me_59 p.2 p.1 := List.forall_mem_cons.mpr ⟨ck_59_0, List.forall_mem_cons.mpr ⟨ck_59_18, List.forall_mem_cons.mpr ⟨ck_59_21, List.forall_mem_cons.mpr ⟨ck_59_23, List.forall_mem_cons.mpr ⟨ck_59_35, List.forall_mem_cons.mpr ⟨ck_59_39, List.forall_mem_cons.mpr ⟨ck_59_55, List.forall_mem_cons.mpr ⟨ck_59_91, List.forall_mem_cons.mpr ⟨ck_59_104, List.forall_mem_cons.mpr ⟨ck_59_107, List.forall_mem_cons.mpr ⟨ck_59_110, List.forall_mem_cons.mpr ⟨ck_59_116, List.forall_mem_cons.mpr ⟨ck_59_122, fun _ h => absurd h List.not_mem_nil⟩⟩⟩⟩⟩⟩⟩⟩⟩⟩⟩⟩⟩
set_option maxRecDepth 100000 in
theorem ck_60_0 : am_cok am_T0 me_60 cd_60_0 0 := ⟨rfl, .inr ⟨dX4_moves_0, rfl⟩, rfl, .inr ⟨dX4_moves_1, rfl⟩, rfl, .inr ⟨dX4_moves_4, rfl⟩, rfl, .inr ⟨dX4_moves_5, rfl⟩, rfl, .inl ⟨rfl, rfl⟩, trivial⟩
set_option maxRecDepth 100000 in
theorem ck_60_8 : am_cok am_T0 me_60 cd_60_8 8 := ⟨rfl, .inr ⟨dX4_moves_8, rfl⟩, rfl, .inr ⟨dX4_moves_11, rfl⟩, rfl, .inr ⟨dX4_moves_12, rfl⟩, rfl, .inr ⟨dX4_moves_15, rfl⟩, rfl, .inr ⟨dX4_moves_16, rfl⟩, rfl, .inl ⟨rfl, rfl⟩, trivial⟩
set_option maxRecDepth 100000 in
theorem ck_60_19 : am_cok am_T0 me_60 cd_60_19 19 := ⟨rfl, .inr ⟨dX4_moves_19, rfl⟩, trivial⟩
set_option maxRecDepth 100000 in
theorem ck_60_22 : am_cok am_T0 me_60 cd_60_22 22 := ⟨rfl, .inr ⟨dX4_moves_22, rfl⟩, rfl, .inl ⟨rfl, rfl⟩, trivial⟩
set_option maxRecDepth 100000 in
theorem ck_60_23 : am_cok am_T0 me_60 cd_60_23 23 := ⟨rfl, .inr ⟨dX4_moves_23, rfl⟩, trivial⟩
set_option maxRecDepth 100000 in
theorem ck_60 : ∀ p ∈ bl_60, am_cok am_T0 me_60 p.2 p.1 := List.forall_mem_cons.mpr ⟨ck_60_0, List.forall_mem_cons.mpr ⟨ck_60_8, List.forall_mem_cons.mpr ⟨ck_60_19, List.forall_mem_cons.mpr ⟨ck_60_22, List.forall_mem_cons.mpr ⟨ck_60_23, fun _ h => absurd h List.not_mem_nil⟩⟩⟩⟩⟩
set_option maxRecDepth 100000 in
theorem ck_61_0 : am_cok am_T0 me_61 cd_61_0 0 := ⟨rfl, .inr ⟨dX4_clear_0, rfl⟩, rfl, .inr ⟨dX4_clear_1, rfl⟩, rfl, .inr ⟨dX4_clear_2, rfl⟩, rfl, .inr ⟨dX4_clear_3, rfl⟩, rfl, .inl ⟨rfl, rfl⟩, trivial⟩
set_option maxRecDepth 100000 in
theorem ck_61_6 : am_cok am_T0 me_61 cd_61_6 6 := ⟨rfl, .inr ⟨dX4_clear_6, rfl⟩, rfl, .inr ⟨dX4_clear_9, rfl⟩, rfl, .inr ⟨dX4_clear_10, rfl⟩, trivial⟩
set_option maxRecDepth 100000 in
theorem ck_61_11 : am_cok am_T0 me_61 cd_61_11 11 := ⟨rfl, .inr ⟨dX4_clear_11, rfl⟩, rfl, .inr ⟨dX4_clear_12, rfl⟩, rfl, .inr ⟨dX4_clear_15, rfl⟩, rfl, .inr ⟨dX4_clear_16, rfl⟩, rfl, .inr ⟨dX4_clear_19, rfl⟩, rfl, .inr ⟨dX4_clear_20, rfl⟩, rfl, .inl ⟨rfl, rfl⟩, trivial⟩
set_option maxRecDepth 100000 in
theorem ck_61_23 : am_cok am_T0 me_61 cd_61_23 23 := ⟨rfl, .inr ⟨dX4_clear_23, rfl⟩, rfl, .inr ⟨dX4_clear_24, rfl⟩, rfl, .inr ⟨dX4_clear_27, rfl⟩, rfl, .inr ⟨dX4_clear_28, rfl⟩, rfl, .inr ⟨dX4_clear_31, rfl⟩, rfl, .inr ⟨dX4_clear_32, rfl⟩, rfl, .inr ⟨dX4_clear_35, rfl⟩, rfl, .inr ⟨dX4_clear_36, rfl⟩, rfl, .inl ⟨rfl, rfl⟩, trivial⟩
set_option maxRecDepth 100000 in
theorem ck_61_39 : am_cok am_T0 me_61 cd_61_39 39 := ⟨rfl, .inr ⟨dX4_clear_39, rfl⟩, rfl, .inr ⟨dX4_clear_42, rfl⟩, rfl, .inr ⟨dX4_clear_43, rfl⟩, trivial⟩
set_option maxRecDepth 100000 in
theorem ck_61_46 : am_cok am_T0 me_61 cd_61_46 46 := ⟨rfl, .inr ⟨dX4_clear_46, rfl⟩, rfl, .inl ⟨rfl, rfl⟩, trivial⟩
set_option maxRecDepth 100000 in
theorem ck_61_47 : am_cok am_T0 me_61 cd_61_47 47 := ⟨rfl, .inr ⟨dX4_clear_47, rfl⟩, trivial⟩
set_option maxRecDepth 100000 in
theorem ck_61 : ∀ p ∈ bl_61, am_cok am_T0 me_61 p.2 p.1 := List.forall_mem_cons.mpr ⟨ck_61_0, List.forall_mem_cons.mpr ⟨ck_61_6, List.forall_mem_cons.mpr ⟨ck_61_11, List.forall_mem_cons.mpr ⟨ck_61_23, List.forall_mem_cons.mpr ⟨ck_61_39, List.forall_mem_cons.mpr ⟨ck_61_46, List.forall_mem_cons.mpr ⟨ck_61_47, fun _ h => absurd h List.not_mem_nil⟩⟩⟩⟩⟩⟩⟩
set_option maxRecDepth 100000 in
theorem ck_62_0 : am_cok am_T0 me_62 cd_62_0 0 := ⟨rfl, .inr ⟨dX4_edge_0, rfl⟩, rfl, .inr ⟨dX4_edge_1, rfl⟩, rfl, .inr ⟨dX4_edge_2, rfl⟩, rfl, .inr ⟨dX4_edge_3, rfl⟩, rfl, .inl ⟨rfl, rfl⟩, trivial⟩
set_option maxRecDepth 100000 in
theorem ck_62_6 : am_cok am_T0 me_62 cd_62_6 6 := ⟨rfl, .inr ⟨dX4_edge_6, rfl⟩, rfl, .inr ⟨dX4_edge_9, rfl⟩, rfl, .inr ⟨dX4_edge_10, rfl⟩, trivial⟩
set_option maxRecDepth 100000 in
theorem ck_62_11 : am_cok am_T0 me_62 cd_62_11 11 := ⟨rfl, .inr ⟨dX4_edge_11, rfl⟩, rfl, .inr ⟨dX4_edge_12, rfl⟩, rfl, .inr ⟨dX4_edge_15, rfl⟩, rfl, .inr ⟨dX4_edge_16, rfl⟩, rfl, .inr ⟨dX4_edge_19, rfl⟩, rfl, .inr ⟨dX4_edge_20, rfl⟩, rfl, .inl ⟨rfl, rfl⟩, trivial⟩
set_option maxRecDepth 100000 in
theorem ck_62_23 : am_cok am_T0 me_62 cd_62_23 23 := ⟨rfl, .inr ⟨dX4_edge_23, rfl⟩, rfl, .inr ⟨dX4_edge_24, rfl⟩, rfl, .inr ⟨dX4_edge_27, rfl⟩, rfl, .inr ⟨dX4_edge_28, rfl⟩, rfl, .inr ⟨dX4_edge_31, rfl⟩, rfl, .inr ⟨dX4_edge_32, rfl⟩, rfl, .inr ⟨dX4_edge_33, rfl⟩, rfl, .inr ⟨dX4_edge_36, rfl⟩, rfl, .inl ⟨rfl, rfl⟩, trivial⟩
set_option maxRecDepth 100000 in
theorem ck_62_39 : am_cok am_T0 me_62 cd_62_39 39 := ⟨rfl, .inr ⟨dX4_edge_39, rfl⟩, trivial⟩
set_option maxRecDepth 100000 in
theorem ck_62 : ∀ p ∈ bl_62, am_cok am_T0 me_62 p.2 p.1 := List.forall_mem_cons.mpr ⟨ck_62_0, List.forall_mem_cons.mpr ⟨ck_62_6, List.forall_mem_cons.mpr ⟨ck_62_11, List.forall_mem_cons.mpr ⟨ck_62_23, List.forall_mem_cons.mpr ⟨ck_62_39, fun _ h => absurd h List.not_mem_nil⟩⟩⟩⟩⟩
set_option maxRecDepth 100000 in
theorem ck_63_0 : am_cok am_T0 me_63 cd_63_0 0 := ⟨rfl, .inr ⟨dX4_order_0, rfl⟩, rfl, .inr ⟨dX4_order_1, rfl⟩, rfl, .inr ⟨dX4_order_4, rfl⟩, rfl, .inr ⟨dX4_order_7, rfl⟩, rfl, .inr ⟨dX4_order_10, rfl⟩, rfl, .inr ⟨dX4_order_11, rfl⟩, trivial⟩
set_option maxRecDepth 100000 in
theorem ck_63_12 : am_cok am_T0 me_63 cd_63_12 12 := ⟨rfl, .inr ⟨dX4_order_12, rfl⟩, rfl, .inr ⟨dX4_order_13, rfl⟩, rfl, .inl ⟨rfl, rfl⟩, trivial⟩
set_option maxRecDepth 100000 in
theorem ck_63_16 : am_cok am_T0 me_63 cd_63_16 16 := ⟨rfl, .inr ⟨dX4_order_16, rfl⟩, rfl, .inr ⟨dX4_order_17, rfl⟩, rfl, .inr ⟨dX4_order_20, rfl⟩, rfl, .inr ⟨dX4_order_21, rfl⟩, rfl, .inr ⟨dX4_order_22, rfl⟩, rfl, .inr ⟨dX4_order_23, rfl⟩, rfl, .inr ⟨dX4_order_26, rfl⟩, rfl, .inr ⟨dX4_order_27, rfl⟩, trivial⟩
set_option maxRecDepth 100000 in
theorem ck_63_30 : am_cok am_T0 me_63 cd_63_30 30 := ⟨rfl, .inr ⟨dX4_order_30, rfl⟩, rfl, .inr ⟨dX4_order_31, rfl⟩, rfl, .inr ⟨dX4_order_34, rfl⟩, rfl, .inr ⟨dX4_order_37, rfl⟩, rfl, .inr ⟨dX4_order_38, rfl⟩, rfl, .inl ⟨rfl, rfl⟩, trivial⟩
set_option maxRecDepth 100000 in
theorem ck_63_39 : am_cok am_T0 me_63 cd_63_39 39 := ⟨rfl, .inr ⟨dX4_order_39, rfl⟩, trivial⟩
set_option maxRecDepth 100000 in
theorem ck_63 : ∀ p ∈ bl_63, am_cok am_T0 me_63 p.2 p.1 := List.forall_mem_cons.mpr ⟨ck_63_0, List.forall_mem_cons.mpr ⟨ck_63_12, List.forall_mem_cons.mpr ⟨ck_63_16, List.forall_mem_cons.mpr ⟨ck_63_30, List.forall_mem_cons.mpr ⟨ck_63_39, fun _ h => absurd h List.not_mem_nil⟩⟩⟩⟩⟩
set_option maxRecDepth 100000 in
theorem ck_64_0 : am_cok am_T0 me_64 cd_64_0 0 := ⟨rfl, .inr ⟨dX4_step_0, rfl⟩, rfl, .inr ⟨dX4_step_1, rfl⟩, rfl, .inr ⟨dX4_step_4, rfl⟩, rfl, .inr ⟨dX4_step_7, rfl⟩, rfl, .inr ⟨dX4_step_10, rfl⟩, rfl, .inr ⟨dX4_step_11, rfl⟩, rfl, .inr ⟨dX4_step_12, rfl⟩, rfl, .inr ⟨dX4_step_13, rfl⟩, rfl, .inr ⟨dX4_step_16, rfl⟩, rfl, .inr ⟨dX4_step_19, rfl⟩, rfl, .inr ⟨dX4_step_20, rfl⟩, rfl, .inr ⟨dX4_step_21, rfl⟩, rfl, .inl ⟨rfl, rfl⟩, trivial⟩
set_option maxRecDepth 100000 in
theorem ck_64_24 : am_cok am_T0 me_64 cd_64_24 24 := ⟨rfl, .inr ⟨dX4_step_24, rfl⟩, rfl, .inl ⟨rfl, rfl⟩, trivial⟩
set_option maxRecDepth 100000 in
theorem ck_64_27 : am_cok am_T0 me_64 cd_64_27 27 := ⟨rfl, .inr ⟨dX4_step_27, rfl⟩, rfl, .inr ⟨dX4_step_28, rfl⟩, trivial⟩
set_option maxRecDepth 100000 in
theorem ck_64_29 : am_cok am_T0 me_64 cd_64_29 29 := ⟨rfl, .inr ⟨dX4_step_29, rfl⟩, rfl, .inr ⟨dX4_step_30, rfl⟩, rfl, .inl ⟨rfl, rfl⟩, trivial⟩
set_option maxRecDepth 100000 in
theorem ck_64_33 : am_cok am_T0 me_64 cd_64_33 33 := ⟨rfl, .inr ⟨dX4_step_33, rfl⟩, rfl, .inr ⟨dX4_step_34, rfl⟩, rfl, .inr ⟨dX4_step_35, rfl⟩, rfl, .inr ⟨dX4_step_36, rfl⟩, rfl, .inr ⟨dX4_step_39, rfl⟩, rfl, .inr ⟨dX4_step_40, rfl⟩, rfl, .inr ⟨dX4_step_41, rfl⟩, rfl, .inr ⟨dX4_step_42, rfl⟩, rfl, .inr ⟨dX4_step_43, rfl⟩, rfl, .inl ⟨rfl, rfl⟩, trivial⟩
set_option maxRecDepth 100000 in
theorem ck_64_45 : am_cok am_T0 me_64 cd_64_45 45 := ⟨rfl, .inr ⟨dX4_step_45, rfl⟩, rfl, .inr ⟨dX4_step_47, rfl⟩, rfl, .inr ⟨dX4_step_48, rfl⟩, rfl, .inr ⟨dX4_step_51, rfl⟩, rfl, .inr ⟨dX4_step_52, rfl⟩, rfl, .inr ⟨dX4_step_53, rfl⟩, rfl, .inr ⟨dX4_step_56, rfl⟩, rfl, .inr ⟨dX4_step_57, rfl⟩, rfl, .inr ⟨dX4_step_58, rfl⟩, rfl, .inr ⟨dX4_step_59, rfl⟩, rfl, .inr ⟨dX4_step_60, rfl⟩, rfl, .inr ⟨dX4_step_61, rfl⟩, rfl, .inr ⟨dX4_step_62, rfl⟩, rfl, .inr ⟨dX4_step_63, rfl⟩, rfl, .inr ⟨dX4_step_66, rfl⟩, rfl, .inr ⟨dX4_step_67, rfl⟩, rfl, .inr ⟨dX4_step_68, rfl⟩, rfl, .inr ⟨dX4_step_69, rfl⟩, rfl, .inr ⟨dX4_step_70, rfl⟩, rfl, .inr ⟨dX4_step_71, rfl⟩, rfl, .inr ⟨dX4_step_74, rfl⟩, trivial⟩
set_option maxRecDepth 100000 in
theorem ck_64_77 : am_cok am_T0 me_64 cd_64_77 77 := ⟨rfl, .inr ⟨dX4_step_77, rfl⟩, rfl, .inr ⟨dX4_step_78, rfl⟩, trivial⟩
set_option maxRecDepth 100000 in
theorem ck_64 : ∀ p ∈ bl_64, am_cok am_T0 me_64 p.2 p.1 := List.forall_mem_cons.mpr ⟨ck_64_0, List.forall_mem_cons.mpr ⟨ck_64_24, List.forall_mem_cons.mpr ⟨ck_64_27, List.forall_mem_cons.mpr ⟨ck_64_29, List.forall_mem_cons.mpr ⟨ck_64_33, List.forall_mem_cons.mpr ⟨ck_64_45, List.forall_mem_cons.mpr ⟨ck_64_77, fun _ h => absurd h List.not_mem_nil⟩⟩⟩⟩⟩⟩⟩
set_option maxRecDepth 100000 in
theorem ck_65_0 : am_cok am_T0 me_65 cd_65_0 0 := ⟨rfl, .inr ⟨dX4_count_0, rfl⟩, rfl, .inr ⟨dX4_count_1, rfl⟩, rfl, .inr ⟨dX4_count_4, rfl⟩, rfl, .inr ⟨dX4_count_5, rfl⟩, rfl, .inr ⟨dX4_count_8, rfl⟩, rfl, .inr ⟨dX4_count_11, rfl⟩, trivial⟩
set_option maxRecDepth 100000 in
theorem ck_65_12 : am_cok am_T0 me_65 cd_65_12 12 := ⟨rfl, .inr ⟨dX4_count_12, rfl⟩, rfl, .inr ⟨dX4_count_13, rfl⟩, rfl, .inr ⟨dX4_count_14, rfl⟩, rfl, .inr ⟨dX4_count_17, rfl⟩, rfl, .inr ⟨dX4_count_18, rfl⟩, trivial⟩
set_option maxRecDepth 100000 in
theorem ck_65_19 : am_cok am_T0 me_65 cd_65_19 19 := ⟨rfl, .inr ⟨dX4_count_19, rfl⟩, rfl, .inr ⟨dX4_count_20, rfl⟩, rfl, .inr ⟨dX4_count_23, rfl⟩, rfl, .inr ⟨dX4_count_26, rfl⟩, rfl, .inr ⟨dX4_count_29, rfl⟩, rfl, .inr ⟨dX4_count_30, rfl⟩, trivial⟩
set_option maxRecDepth 100000 in
theorem ck_65_31 : am_cok am_T0 me_65 cd_65_31 31 := ⟨rfl, .inr ⟨dX4_count_31, rfl⟩, rfl, .inr ⟨dX4_count_32, rfl⟩, rfl, .inl ⟨rfl, rfl⟩, trivial⟩
set_option maxRecDepth 100000 in
theorem ck_65_35 : am_cok am_T0 me_65 cd_65_35 35 := ⟨rfl, .inr ⟨dX4_count_35, rfl⟩, rfl, .inr ⟨dX4_count_36, rfl⟩, rfl, .inr ⟨dX4_count_37, rfl⟩, rfl, .inr ⟨dX4_count_38, rfl⟩, rfl, .inr ⟨dX4_count_41, rfl⟩, rfl, .inl ⟨rfl, rfl⟩, trivial⟩
set_option maxRecDepth 100000 in
theorem ck_65_44 : am_cok am_T0 me_65 cd_65_44 44 := ⟨rfl, .inr ⟨dX4_count_44, rfl⟩, rfl, .inl ⟨rfl, rfl⟩, trivial⟩
set_option maxRecDepth 100000 in
theorem ck_65_45 : am_cok am_T0 me_65 cd_65_45 45 := ⟨rfl, .inr ⟨dX4_count_45, rfl⟩, rfl, .inr ⟨dX4_count_46, rfl⟩, rfl, .inr ⟨dX4_count_49, rfl⟩, rfl, .inr ⟨dX4_count_50, rfl⟩, rfl, .inr ⟨dX4_count_53, rfl⟩, rfl, .inr ⟨dX4_count_54, rfl⟩, rfl, .inr ⟨dX4_count_55, rfl⟩, rfl, .inr ⟨dX4_count_56, rfl⟩, rfl, .inr ⟨dX4_count_57, rfl⟩, rfl, .inr ⟨dX4_count_58, rfl⟩, rfl, .inr ⟨dX4_count_61, rfl⟩, rfl, .inl ⟨rfl, rfl⟩, trivial⟩
set_option maxRecDepth 100000 in
theorem ck_65_64 : am_cok am_T0 me_65 cd_65_64 64 := ⟨rfl, .inr ⟨dX4_count_64, rfl⟩, rfl, .inr ⟨dX4_count_67, rfl⟩, trivial⟩
set_option maxRecDepth 100000 in
theorem ck_65_70 : am_cok am_T0 me_65 cd_65_70 70 := ⟨rfl, .inr ⟨dX4_count_70, rfl⟩, rfl, .inr ⟨dX4_count_71, rfl⟩, trivial⟩
set_option maxRecDepth 100000 in
theorem ck_65 : ∀ p ∈ bl_65, am_cok am_T0 me_65 p.2 p.1 := List.forall_mem_cons.mpr ⟨ck_65_0, List.forall_mem_cons.mpr ⟨ck_65_12, List.forall_mem_cons.mpr ⟨ck_65_19, List.forall_mem_cons.mpr ⟨ck_65_31, List.forall_mem_cons.mpr ⟨ck_65_35, List.forall_mem_cons.mpr ⟨ck_65_44, List.forall_mem_cons.mpr ⟨ck_65_45, List.forall_mem_cons.mpr ⟨ck_65_64, List.forall_mem_cons.mpr ⟨ck_65_70, fun _ h => absurd h List.not_mem_nil⟩⟩⟩⟩⟩⟩⟩⟩⟩
set_option maxRecDepth 100000 in
theorem ck_66_0 : am_cok am_T0 me_66 cd_66_0 0 := ⟨rfl, .inr ⟨dX4_check_0, rfl⟩, rfl, .inr ⟨dX4_check_1, rfl⟩, rfl, .inr ⟨dX4_check_4, rfl⟩, rfl, .inr ⟨dX4_check_5, rfl⟩, rfl, .inr ⟨dX4_check_8, rfl⟩, rfl, .inr ⟨dX4_check_9, rfl⟩, rfl, .inl ⟨rfl, rfl⟩, trivial⟩
set_option maxRecDepth 100000 in
theorem ck_66_12 : am_cok am_T0 me_66 cd_66_12 12 := ⟨rfl, .inr ⟨dX4_check_12, rfl⟩, rfl, .inr ⟨dX4_check_13, rfl⟩, rfl, .inr ⟨dX4_check_16, rfl⟩, rfl, .inr ⟨dX4_check_17, rfl⟩, rfl, .inr ⟨dX4_check_20, rfl⟩, rfl, .inl ⟨rfl, rfl⟩, trivial⟩
set_option maxRecDepth 100000 in
theorem ck_66_23 : am_cok am_T0 me_66 cd_66_23 23 := ⟨rfl, .inr ⟨dX4_check_23, rfl⟩, rfl, .inr ⟨dX4_check_26, rfl⟩, rfl, .inr ⟨dX4_check_27, rfl⟩, trivial⟩
set_option maxRecDepth 100000 in
theorem ck_66_28 : am_cok am_T0 me_66 cd_66_28 28 := ⟨rfl, .inr ⟨dX4_check_28, rfl⟩, rfl, .inr ⟨dX4_check_29, rfl⟩, rfl, .inr ⟨dX4_check_32, rfl⟩, rfl, .inr ⟨dX4_check_33, rfl⟩, rfl, .inr ⟨dX4_check_36, rfl⟩, rfl, .inr ⟨dX4_check_37, rfl⟩, rfl, .inr ⟨dX4_check_40, rfl⟩, rfl, .inl ⟨rfl, rfl⟩, trivial⟩
set_option maxRecDepth 100000 in
theorem ck_66_43 : am_cok am_T0 me_66 cd_66_43 43 := ⟨rfl, .inr ⟨dX4_check_43, rfl⟩, rfl, .inl ⟨rfl, rfl⟩, trivial⟩
set_option maxRecDepth 100000 in
theorem ck_66_46 : am_cok am_T0 me_66 cd_66_46 46 := ⟨rfl, .inr ⟨dX4_check_46, rfl⟩, rfl, .inr ⟨dX4_check_47, rfl⟩, rfl, .inr ⟨dX4_check_50, rfl⟩, rfl, .inr ⟨dX4_check_51, rfl⟩, rfl, .inr ⟨dX4_check_54, rfl⟩, rfl, .inl ⟨rfl, rfl⟩, trivial⟩
set_option maxRecDepth 100000 in
theorem ck_66_57 : am_cok am_T0 me_66 cd_66_57 57 := ⟨rfl, .inr ⟨dX4_check_57, rfl⟩, rfl, .inr ⟨dX4_check_60, rfl⟩, rfl, .inr ⟨dX4_check_61, rfl⟩, trivial⟩
set_option maxRecDepth 100000 in
theorem ck_66_64 : am_cok am_T0 me_66 cd_66_64 64 := ⟨rfl, .inr ⟨dX4_check_64, rfl⟩, rfl, .inl ⟨rfl, rfl⟩, trivial⟩
set_option maxRecDepth 100000 in
theorem ck_66_65 : am_cok am_T0 me_66 cd_66_65 65 := ⟨rfl, .inr ⟨dX4_check_65, rfl⟩, trivial⟩
set_option maxRecDepth 100000 in
theorem ck_66 : ∀ p ∈ bl_66, am_cok am_T0 me_66 p.2 p.1 := List.forall_mem_cons.mpr ⟨ck_66_0, List.forall_mem_cons.mpr ⟨ck_66_12, List.forall_mem_cons.mpr ⟨ck_66_23, List.forall_mem_cons.mpr ⟨ck_66_28, List.forall_mem_cons.mpr ⟨ck_66_43, List.forall_mem_cons.mpr ⟨ck_66_46, List.forall_mem_cons.mpr ⟨ck_66_57, List.forall_mem_cons.mpr ⟨ck_66_64, List.forall_mem_cons.mpr ⟨ck_66_65, fun _ h => absurd h List.not_mem_nil⟩⟩⟩⟩⟩⟩⟩⟩⟩
set_option maxRecDepth 100000 in
theorem ck_67_0 : am_cok am_T0 me_67 cd_67_0 0 := ⟨rfl, .inr ⟨dX4_isWithin_0, rfl⟩, rfl, .inr ⟨dX4_isWithin_1, rfl⟩, rfl, .inr ⟨dX4_isWithin_2, rfl⟩, rfl, .inr ⟨dX4_isWithin_5, rfl⟩, rfl, .inr ⟨dX4_isWithin_6, rfl⟩, rfl, .inr ⟨dX4_isWithin_7, rfl⟩, rfl, .inr ⟨dX4_isWithin_10, rfl⟩, rfl, .inr ⟨dX4_isWithin_11, rfl⟩, trivial⟩
set_option maxRecDepth 100000 in
theorem ck_67_14 : am_cok am_T0 me_67 cd_67_14 14 := ⟨rfl, .inr ⟨dX4_isWithin_14, rfl⟩, rfl, .inl ⟨rfl, rfl⟩, trivial⟩
set_option maxRecDepth 100000 in
theorem ck_67_15 : am_cok am_T0 me_67 cd_67_15 15 := ⟨rfl, .inr ⟨dX4_isWithin_15, rfl⟩, trivial⟩
set_option maxRecDepth 100000 in
theorem ck_67 : ∀ p ∈ bl_67, am_cok am_T0 me_67 p.2 p.1 := List.forall_mem_cons.mpr ⟨ck_67_0, List.forall_mem_cons.mpr ⟨ck_67_14, List.forall_mem_cons.mpr ⟨ck_67_15, fun _ h => absurd h List.not_mem_nil⟩⟩⟩
set_option maxRecDepth 100000 in
theorem ck_68_0 : am_cok am_T0 me_68 cd_68_0 0 := ⟨rfl, .inr ⟨dX4_opposite_0, rfl⟩, rfl, .inr ⟨dX4_opposite_1, rfl⟩, rfl, .inr ⟨dX4_opposite_2, rfl⟩, rfl, .inr ⟨dX4_opposite_3, rfl⟩, rfl, .inr ⟨dX4_opposite_4, rfl⟩, rfl, .inr ⟨dX4_opposite_5, rfl⟩, trivial⟩
set_option maxRecDepth 100000 in
theorem ck_68 : ∀ p ∈ bl_68, am_cok am_T0 me_68 p.2 p.1 := List.forall_mem_cons.mpr ⟨ck_68_0, fun _ h => absurd h List.not_mem_nil⟩
set_option maxRecDepth 100000 in
theorem ck_69_0 : am_cok am_T0 me_69 cd_69_0 0 := ⟨rfl, .inr ⟨dX4_isGreatest_0, rfl⟩, rfl, .inr ⟨dX4_isGreatest_1, rfl⟩, rfl, .inr ⟨dX4_isGreatest_4, rfl⟩, rfl, .inr ⟨dX4_isGreatest_5, rfl⟩, rfl, .inr ⟨dX4_isGreatest_6, rfl⟩, rfl, .inl ⟨rfl, rfl⟩, trivial⟩
set_option maxRecDepth 100000 in
theorem ck_69_9 : am_cok am_T0 me_69 cd_69_9 9 := ⟨rfl, .inr ⟨dX4_isGreatest_9, rfl⟩, rfl, .inr ⟨dX4_isGreatest_10, rfl⟩, trivial⟩
set_option maxRecDepth 100000 in
theorem ck_69_13 : am_cok am_T0 me_69 cd_69_13 13 := ⟨rfl, .inr ⟨dX4_isGreatest_13, rfl⟩, rfl, .inl ⟨rfl, rfl⟩, trivial⟩
set_option maxRecDepth 100000 in
theorem ck_69_14 : am_cok am_T0 me_69 cd_69_14 14 := ⟨rfl, .inr ⟨dX4_isGreatest_14, rfl⟩, trivial⟩
set_option maxRecDepth 100000 in
theorem ck_69 : ∀ p ∈ bl_69, am_cok am_T0 me_69 p.2 p.1 := List.forall_mem_cons.mpr ⟨ck_69_0, List.forall_mem_cons.mpr ⟨ck_69_9, List.forall_mem_cons.mpr ⟨ck_69_13, List.forall_mem_cons.mpr ⟨ck_69_14, fun _ h => absurd h List.not_mem_nil⟩⟩⟩⟩
