set_option maxRecDepth 100000 in
theorem ck_70_0 : am_cok am_T0 me_70 cd_70_0 0 := ⟨rfl, .inr ⟨dX4_isAcrossX_0, rfl⟩, rfl, .inr ⟨dX4_isAcrossX_1, rfl⟩, rfl, .inr ⟨dX4_isAcrossX_4, rfl⟩, rfl, .inr ⟨dX4_isAcrossX_5, rfl⟩, rfl, .inr ⟨dX4_isAcrossX_6, rfl⟩, rfl, .inl ⟨rfl, rfl⟩, trivial⟩
set_option maxRecDepth 100000 in
theorem ck_70_9 : am_cok am_T0 me_70 cd_70_9 9 := ⟨rfl, .inr ⟨dX4_isAcrossX_9, rfl⟩, rfl, .inr ⟨dX4_isAcrossX_10, rfl⟩, trivial⟩
set_option maxRecDepth 100000 in
theorem ck_70_13 : am_cok am_T0 me_70 cd_70_13 13 := ⟨rfl, .inr ⟨dX4_isAcrossX_13, rfl⟩, rfl, .inl ⟨rfl, rfl⟩, trivial⟩
set_option maxRecDepth 100000 in
theorem ck_70_14 : am_cok am_T0 me_70 cd_70_14 14 := ⟨rfl, .inr ⟨dX4_isAcrossX_14, rfl⟩, trivial⟩
set_option maxRecDepth 100000 in
theorem ck_70 : ∀ p ∈ bl_70, am_cok am_T0 me_70 p.2 p.1 := List.forall_mem_cons.mpr ⟨ck_70_0, List.forall_mem_cons.mpr ⟨ck_70_9, List.forall_mem_cons.mpr ⟨ck_70_13, List.forall_mem_cons.mpr ⟨ck_70_14, fun _ h => absurd h List.not_mem_nil⟩⟩⟩⟩
set_option maxRecDepth 100000 in
theorem ck_71_0 : am_cok am_T0 me_71 cd_71_0 0 := ⟨rfl, .inr ⟨dX4_canBeAsked_0, rfl⟩, rfl, .inr ⟨dX4_canBeAsked_1, rfl⟩, rfl, .inr ⟨dX4_canBeAsked_4, rfl⟩, rfl, .inr ⟨dX4_canBeAsked_5, rfl⟩, rfl, .inl ⟨rfl, rfl⟩, trivial⟩
set_option maxRecDepth 100000 in
theorem ck_71_8 : am_cok am_T0 me_71 cd_71_8 8 := ⟨rfl, .inr ⟨dX4_canBeAsked_8, rfl⟩, rfl, .inr ⟨dX4_canBeAsked_11, rfl⟩, rfl, .inr ⟨dX4_canBeAsked_12, rfl⟩, rfl, .inr ⟨dX4_canBeAsked_15, rfl⟩, rfl, .inr ⟨dX4_canBeAsked_16, rfl⟩, rfl, .inl ⟨rfl, rfl⟩, trivial⟩
set_option maxRecDepth 100000 in
theorem ck_71_19 : am_cok am_T0 me_71 cd_71_19 19 := ⟨rfl, .inr ⟨dX4_canBeAsked_19, rfl⟩, rfl, .inr ⟨dX4_canBeAsked_22, rfl⟩, rfl, .inr ⟨dX4_canBeAsked_23, rfl⟩, rfl, .inr ⟨dX4_canBeAsked_24, rfl⟩, rfl, .inr ⟨dX4_canBeAsked_25, rfl⟩, rfl, .inr ⟨dX4_canBeAsked_26, rfl⟩, rfl, .inr ⟨dX4_canBeAsked_27, rfl⟩, rfl, .inr ⟨dX4_canBeAsked_30, rfl⟩, rfl, .inr ⟨dX4_canBeAsked_31, rfl⟩, trivial⟩
set_option maxRecDepth 100000 in
theorem ck_71_34 : am_cok am_T0 me_71 cd_71_34 34 := ⟨rfl, .inr ⟨dX4_canBeAsked_34, rfl⟩, rfl, .inl ⟨rfl, rfl⟩, trivial⟩
set_option maxRecDepth 100000 in
theorem ck_71_35 : am_cok am_T0 me_71 cd_71_35 35 := ⟨rfl, .inr ⟨dX4_canBeAsked_35, rfl⟩, trivial⟩
set_option maxRecDepth 100000 in
theorem ck_71 : ∀ p ∈ bl_71, am_cok am_T0 me_71 p.2 p.1 := List.forall_mem_cons.mpr ⟨ck_71_0, List.forall_mem_cons.mpr ⟨ck_71_8, List.forall_mem_cons.mpr ⟨ck_71_19, List.forall_mem_cons.mpr ⟨ck_71_34, List.forall_mem_cons.mpr ⟨ck_71_35, fun _ h => absurd h List.not_mem_nil⟩⟩⟩⟩⟩
set_option maxRecDepth 100000 in
theorem ck_72_0 : am_cok am_T0 me_72 cd_72_0 0 := ⟨rfl, .inr ⟨dX4_learnOrders_0, rfl⟩, rfl, .inr ⟨dX4_learnOrders_1, rfl⟩, rfl, .inr ⟨dX4_learnOrders_4, rfl⟩, rfl, .inr ⟨dX4_learnOrders_7, rfl⟩, trivial⟩
set_option maxRecDepth 100000 in
theorem ck_72_8 : am_cok am_T0 me_72 cd_72_8 8 := ⟨rfl, .inr ⟨dX4_learnOrders_8, rfl⟩, rfl, .inr ⟨dX4_learnOrders_9, rfl⟩, rfl, .inr ⟨dX4_learnOrders_12, rfl⟩, rfl, .inl ⟨rfl, rfl⟩, trivial⟩
set_option maxRecDepth 100000 in
theorem ck_72_15 : am_cok am_T0 me_72 cd_72_15 15 := ⟨rfl, .inr ⟨dX4_learnOrders_15, rfl⟩, rfl, .inr ⟨dX4_learnOrders_16, rfl⟩, rfl, .inr ⟨dX4_learnOrders_17, rfl⟩, rfl, .inr ⟨dX4_learnOrders_20, rfl⟩, rfl, .inr ⟨dX4_learnOrders_21, rfl⟩, rfl, .inr ⟨dX4_learnOrders_22, rfl⟩, rfl, .inr ⟨dX4_learnOrders_23, rfl⟩, rfl, .inr ⟨dX4_learnOrders_24, rfl⟩, rfl, .inr ⟨dX4_learnOrders_25, rfl⟩, rfl, .inr ⟨dX4_learnOrders_26, rfl⟩, rfl, .inr ⟨dX4_learnOrders_27, rfl⟩, rfl, .inr ⟨dX4_learnOrders_28, rfl⟩, rfl, .inl ⟨rfl, rfl⟩, trivial⟩
set_option maxRecDepth 100000 in
theorem ck_72_29 : am_cok am_T0 me_72 cd_72_29 29 := ⟨rfl, .inr ⟨dX4_learnOrders_29, rfl⟩, rfl, .inr ⟨dX4_learnOrders_30, rfl⟩, rfl, .inr ⟨dX4_learnOrders_33, rfl⟩, rfl, .inr ⟨dX4_learnOrders_34, rfl⟩, rfl, .inr ⟨dX4_learnOrders_37, rfl⟩, rfl, .inr ⟨dX4_learnOrders_38, rfl⟩, rfl, .inr ⟨dX4_learnOrders_39, rfl⟩, rfl, .inr ⟨dX4_learnOrders_40, rfl⟩, rfl, .inr ⟨dX4_learnOrders_41, rfl⟩, rfl, .inr ⟨dX4_learnOrders_42, rfl⟩, rfl, .inl ⟨rfl, rfl⟩, trivial⟩
set_option maxRecDepth 100000 in
theorem ck_72_45 : am_cok am_T0 me_72 cd_72_45 45 := ⟨rfl, .inr ⟨dX4_learnOrders_45, rfl⟩, rfl, .inr ⟨dX4_learnOrders_46, rfl⟩, rfl, .inr ⟨dX4_learnOrders_49, rfl⟩, trivial⟩
set_option maxRecDepth 100000 in
theorem ck_72_52 : am_cok am_T0 me_72 cd_72_52 52 := ⟨rfl, .inr ⟨dX4_learnOrders_52, rfl⟩, rfl, .inr ⟨dX4_learnOrders_53, rfl⟩, rfl, .inr ⟨dX4_learnOrders_54, rfl⟩, rfl, .inr ⟨dX4_learnOrders_57, rfl⟩, trivial⟩
set_option maxRecDepth 100000 in
theorem ck_72 : ∀ p ∈ bl_72, am_cok am_T0 me_72 p.2 p.1 := List.forall_mem_cons.mpr ⟨ck_72_0, List.forall_mem_cons.mpr ⟨ck_72_8, List.forall_mem_cons.mpr ⟨ck_72_15, List.forall_mem_cons.mpr ⟨ck_72_29, List.forall_mem_cons.mpr ⟨ck_72_45, List.forall_mem_cons.mpr ⟨ck_72_52, fun _ h => absurd h List.not_mem_nil⟩⟩⟩⟩⟩⟩
set_option maxRecDepth 100000 in
theorem ck_73_0 : am_cok am_T0 me_73 cd_73_0 0 := ⟨rfl, .inr ⟨dX4_leastThatGoesOn_0, rfl⟩, rfl, .inr ⟨dX4_leastThatGoesOn_1, rfl⟩, rfl, .inr ⟨dX4_leastThatGoesOn_2, rfl⟩, rfl, .inr ⟨dX4_leastThatGoesOn_3, rfl⟩, rfl, .inl ⟨rfl, rfl⟩, trivial⟩
set_option maxRecDepth 100000 in
theorem ck_73_4 : am_cok am_T0 me_73 cd_73_4 4 := ⟨rfl, .inr ⟨dX4_leastThatGoesOn_4, rfl⟩, rfl, .inr ⟨dX4_leastThatGoesOn_5, rfl⟩, rfl, .inr ⟨dX4_leastThatGoesOn_6, rfl⟩, rfl, .inr ⟨dX4_leastThatGoesOn_9, rfl⟩, rfl, .inr ⟨dX4_leastThatGoesOn_12, rfl⟩, rfl, .inr ⟨dX4_leastThatGoesOn_15, rfl⟩, rfl, .inr ⟨dX4_leastThatGoesOn_16, rfl⟩, rfl, .inr ⟨dX4_leastThatGoesOn_17, rfl⟩, rfl, .inr ⟨dX4_leastThatGoesOn_18, rfl⟩, rfl, .inr ⟨dX4_leastThatGoesOn_19, rfl⟩, rfl, .inr ⟨dX4_leastThatGoesOn_20, rfl⟩, rfl, .inr ⟨dX4_leastThatGoesOn_22, rfl⟩, rfl, .inr ⟨dX4_leastThatGoesOn_24, rfl⟩, rfl, .inr ⟨dX4_leastThatGoesOn_25, rfl⟩, rfl, .inr ⟨dX4_leastThatGoesOn_28, rfl⟩, rfl, .inr ⟨dX4_leastThatGoesOn_29, rfl⟩, rfl, .inr ⟨dX4_leastThatGoesOn_32, rfl⟩, rfl, .inr ⟨dX4_leastThatGoesOn_34, rfl⟩, rfl, .inr ⟨dX4_leastThatGoesOn_35, rfl⟩, rfl, .inr ⟨dX4_leastThatGoesOn_36, rfl⟩, rfl, .inr ⟨dX4_leastThatGoesOn_37, rfl⟩, rfl, .inr ⟨dX4_leastThatGoesOn_38, rfl⟩, rfl, .inr ⟨dX4_leastThatGoesOn_41, rfl⟩, trivial⟩
set_option maxRecDepth 100000 in
theorem ck_73_44 : am_cok am_T0 me_73 cd_73_44 44 := ⟨rfl, .inr ⟨dX4_leastThatGoesOn_44, rfl⟩, rfl, .inr ⟨dX4_leastThatGoesOn_45, rfl⟩, rfl, .inr ⟨dX4_leastThatGoesOn_48, rfl⟩, rfl, .inr ⟨dX4_leastThatGoesOn_49, rfl⟩, rfl, .inr ⟨dX4_leastThatGoesOn_52, rfl⟩, rfl, .inr ⟨dX4_leastThatGoesOn_53, rfl⟩, rfl, .inr ⟨dX4_leastThatGoesOn_56, rfl⟩, rfl, .inr ⟨dX4_leastThatGoesOn_57, rfl⟩, rfl, .inl ⟨rfl, rfl⟩, trivial⟩
set_option maxRecDepth 100000 in
theorem ck_73_60 : am_cok am_T0 me_73 cd_73_60 60 := ⟨rfl, .inr ⟨dX4_leastThatGoesOn_60, rfl⟩, rfl, .inr ⟨dX4_leastThatGoesOn_61, rfl⟩, rfl, .inl ⟨rfl, rfl⟩, trivial⟩
set_option maxRecDepth 100000 in
theorem ck_73_62 : am_cok am_T0 me_73 cd_73_62 62 := ⟨rfl, .inr ⟨dX4_leastThatGoesOn_62, rfl⟩, rfl, .inr ⟨dX4_leastThatGoesOn_63, rfl⟩, rfl, .inr ⟨dX4_leastThatGoesOn_66, rfl⟩, rfl, .inr ⟨dX4_leastThatGoesOn_67, rfl⟩, rfl, .inr ⟨dX4_leastThatGoesOn_70, rfl⟩, rfl, .inr ⟨dX4_leastThatGoesOn_71, rfl⟩, rfl, .inr ⟨dX4_leastThatGoesOn_72, rfl⟩, rfl, .inr ⟨dX4_leastThatGoesOn_75, rfl⟩, rfl, .inl ⟨rfl, rfl⟩, trivial⟩
set_option maxRecDepth 100000 in
theorem ck_73_78 : am_cok am_T0 me_73 cd_73_78 78 := ⟨rfl, .inr ⟨dX4_leastThatGoesOn_78, rfl⟩, rfl, .inr ⟨dX4_leastThatGoesOn_79, rfl⟩, rfl, .inr ⟨dX4_leastThatGoesOn_82, rfl⟩, rfl, .inr ⟨dX4_leastThatGoesOn_83, rfl⟩, rfl, .inr ⟨dX4_leastThatGoesOn_86, rfl⟩, rfl, .inr ⟨dX4_leastThatGoesOn_87, rfl⟩, rfl, .inr ⟨dX4_leastThatGoesOn_90, rfl⟩, rfl, .inr ⟨dX4_leastThatGoesOn_91, rfl⟩, rfl, .inr ⟨dX4_leastThatGoesOn_94, rfl⟩, rfl, .inr ⟨dX4_leastThatGoesOn_95, rfl⟩, rfl, .inl ⟨rfl, rfl⟩, trivial⟩
set_option maxRecDepth 100000 in
theorem ck_73_98 : am_cok am_T0 me_73 cd_73_98 98 := ⟨rfl, .inr ⟨dX4_leastThatGoesOn_98, rfl⟩, rfl, .inr ⟨dX4_leastThatGoesOn_101, rfl⟩, rfl, .inr ⟨dX4_leastThatGoesOn_102, rfl⟩, trivial⟩
set_option maxRecDepth 100000 in
theorem ck_73_103 : am_cok am_T0 me_73 cd_73_103 103 := ⟨rfl, .inr ⟨dX4_leastThatGoesOn_103, rfl⟩, rfl, .inr ⟨dX4_leastThatGoesOn_106, rfl⟩, trivial⟩
set_option maxRecDepth 100000 in
theorem ck_73_109 : am_cok am_T0 me_73 cd_73_109 109 := ⟨rfl, .inr ⟨dX4_leastThatGoesOn_109, rfl⟩, rfl, .inr ⟨dX4_leastThatGoesOn_110, rfl⟩, trivial⟩
set_option maxRecDepth 100000 in
theorem ck_73 : ∀ p ∈ bl_73, am_cok am_T0 me_73 p.2 p.1 := List.forall_mem_cons.mpr ⟨ck_73_0, List.forall_mem_cons.mpr ⟨ck_73_4, List.forall_mem_cons.mpr ⟨ck_73_44, List.forall_mem_cons.mpr ⟨ck_73_60, List.forall_mem_cons.mpr ⟨ck_73_62, List.forall_mem_cons.mpr ⟨ck_73_78, List.forall_mem_cons.mpr ⟨ck_73_98, List.forall_mem_cons.mpr ⟨ck_73_103, List.forall_mem_cons.mpr ⟨ck_73_109, fun _ h => absurd h List.not_mem_nil⟩⟩⟩⟩⟩⟩⟩⟩⟩
set_option maxRecDepth 100000 in
theorem ck_74_0 : am_cok am_T0 me_74 cd_74_0 0 := ⟨rfl, .inr ⟨dX5_init_0, rfl⟩, rfl, .inr ⟨dX5_init_1, rfl⟩, rfl, .inr ⟨dX5_init_4, rfl⟩, rfl, .inr ⟨dX5_init_5, rfl⟩, rfl, .inr ⟨dX5_init_7, rfl⟩, rfl, .inr ⟨dX5_init_10, rfl⟩, rfl, .inr ⟨dX5_init_11, rfl⟩, rfl, .inr ⟨dX5_init_13, rfl⟩, rfl, .inr ⟨dX5_init_15, rfl⟩, rfl, .inr ⟨dX5_init_18, rfl⟩, rfl, .inr ⟨dX5_init_19, rfl⟩, rfl, .inr ⟨dX5_init_21, rfl⟩, rfl, .inr ⟨dX5_init_23, rfl⟩, rfl, .inr ⟨dX5_init_26, rfl⟩, rfl, .inr ⟨dX5_init_27, rfl⟩, rfl, .inr ⟨dX5_init_29, rfl⟩, rfl, .inr ⟨dX5_init_31, rfl⟩, rfl, .inr ⟨dX5_init_34, rfl⟩, rfl, .inr ⟨dX5_init_35, rfl⟩, rfl, .inr ⟨dX5_init_37, rfl⟩, rfl, .inr ⟨dX5_init_39, rfl⟩, rfl, .inr ⟨dX5_init_42, rfl⟩, rfl, .inr ⟨dX5_init_43, rfl⟩, rfl, .inr ⟨dX5_init_45, rfl⟩, rfl, .inr ⟨dX5_init_47, rfl⟩, rfl, .inr ⟨dX5_init_50, rfl⟩, rfl, .inr ⟨dX5_init_51, rfl⟩, rfl, .inl ⟨rfl, rfl⟩, trivial⟩
set_option maxRecDepth 100000 in
theorem ck_74_52 : am_cok am_T0 me_74 cd_74_52 52 := ⟨rfl, .inr ⟨dX5_init_52, rfl⟩, rfl, .inr ⟨dX5_init_55, rfl⟩, rfl, .inr ⟨dX5_init_56, rfl⟩, rfl, .inr ⟨dX5_init_57, rfl⟩, rfl, .inr ⟨dX5_init_60, rfl⟩, rfl, .inr ⟨dX5_init_61, rfl⟩, rfl, .inr ⟨dX5_init_63, rfl⟩, rfl, .inr ⟨dX5_init_65, rfl⟩, rfl, .inr ⟨dX5_init_68, rfl⟩, rfl, .inr ⟨dX5_init_69, rfl⟩, rfl, .inr ⟨dX5_init_71, rfl⟩, rfl, .inr ⟨dX5_init_73, rfl⟩, rfl, .inr ⟨dX5_init_76, rfl⟩, rfl, .inr ⟨dX5_init_77, rfl⟩, rfl, .inr ⟨dX5_init_79, rfl⟩, rfl, .inr ⟨dX5_init_81, rfl⟩, rfl, .inr ⟨dX5_init_84, rfl⟩, rfl, .inr ⟨dX5_init_85, rfl⟩, rfl, .inr ⟨dX5_init_87, rfl⟩, rfl, .inr ⟨dX5_init_89, rfl⟩, rfl, .inr ⟨dX5_init_92, rfl⟩, rfl, .inr ⟨dX5_init_93, rfl⟩, rfl, .inr ⟨dX5_init_95, rfl⟩, rfl, .inr ⟨dX5_init_97, rfl⟩, rfl, .inr ⟨dX5_init_100, rfl⟩, rfl, .inr ⟨dX5_init_101, rfl⟩, rfl, .inr ⟨dX5_init_104, rfl⟩, rfl, .inl ⟨rfl, rfl⟩, trivial⟩
set_option maxRecDepth 100000 in
theorem ck_74_106 : am_cok am_T0 me_74 cd_74_106 106 := ⟨rfl, .inr ⟨dX5_init_106, rfl⟩, rfl, .inr ⟨dX5_init_109, rfl⟩, rfl, .inr ⟨dX5_init_110, rfl⟩, rfl, .inr ⟨dX5_init_112, rfl⟩, rfl, .inr ⟨dX5_init_114, rfl⟩, rfl, .inr ⟨dX5_init_117, rfl⟩, rfl, .inr ⟨dX5_init_118, rfl⟩, rfl, .inr ⟨dX5_init_120, rfl⟩, rfl, .inr ⟨dX5_init_122, rfl⟩, rfl, .inr ⟨dX5_init_125, rfl⟩, rfl, .inr ⟨dX5_init_126, rfl⟩, rfl, .inr ⟨dX5_init_128, rfl⟩, rfl, .inr ⟨dX5_init_130, rfl⟩, rfl, .inr ⟨dX5_init_133, rfl⟩, trivial⟩
set_option maxRecDepth 100000 in
theorem ck_74 : ∀ p ∈ bl_74, am_cok am_T0 me_74 p.2 p.1 := List.forall_mem_cons.mpr ⟨ck_74_0, List.forall_mem_cons.mpr ⟨ck_74_52, List.forall_mem_cons.mpr ⟨ck_74_106, fun _ h => absurd h List.not_mem_nil⟩⟩⟩
set_option maxRecDepth 100000 in
theorem ck_75_0 : am_cok am_T0 me_75 cd_75_0 0 := ⟨rfl, .inr ⟨dX5_isIn_0, rfl⟩, rfl, .inr ⟨dX5_isIn_1, rfl⟩, rfl, .inr ⟨dX5_isIn_2, rfl⟩, rfl, .inr ⟨dX5_isIn_3, rfl⟩, rfl, .inr ⟨dX5_isIn_6, rfl⟩, rfl, .inr ⟨dX5_isIn_7, rfl⟩, rfl, .inr ⟨dX5_isIn_9, rfl⟩, rfl, .inr ⟨dX5_isIn_10, rfl⟩, rfl, .inr ⟨dX5_isIn_13, rfl⟩, rfl, .inr ⟨dX5_isIn_14, rfl⟩, trivial⟩
set_option maxRecDepth 100000 in
theorem ck_75_17 : am_cok am_T0 me_75 cd_75_17 17 := ⟨rfl, .inr ⟨dX5_isIn_17, rfl⟩, rfl, .inl ⟨rfl, rfl⟩, trivial⟩
set_option maxRecDepth 100000 in
theorem ck_75_18 : am_cok am_T0 me_75 cd_75_18 18 := ⟨rfl, .inr ⟨dX5_isIn_18, rfl⟩, trivial⟩
set_option maxRecDepth 100000 in
theorem ck_75 : ∀ p ∈ bl_75, am_cok am_T0 me_75 p.2 p.1 := List.forall_mem_cons.mpr ⟨ck_75_0, List.forall_mem_cons.mpr ⟨ck_75_17, List.forall_mem_cons.mpr ⟨ck_75_18, fun _ h => absurd h List.not_mem_nil⟩⟩⟩
set_option maxRecDepth 100000 in
theorem ck_76_0 : am_cok am_T0 me_76 cd_76_0 0 := ⟨rfl, .inr ⟨dX5_base_0, rfl⟩, rfl, .inr ⟨dX5_base_1, rfl⟩, rfl, .inr ⟨dX5_base_2, rfl⟩, rfl, .inr ⟨dX5_base_5, rfl⟩, rfl, .inr ⟨dX5_base_6, rfl⟩, rfl, .inr ⟨dX5_base_7, rfl⟩, rfl, .inr ⟨dX5_base_8, rfl⟩, rfl, .inr ⟨dX5_base_11, rfl⟩, rfl, .inl ⟨rfl, rfl⟩, trivial⟩
set_option maxRecDepth 100000 in
theorem ck_76_14 : am_cok am_T0 me_76 cd_76_14 14 := ⟨rfl, .inr ⟨dX5_base_14, rfl⟩, rfl, .inr ⟨dX5_base_17, rfl⟩, rfl, .inr ⟨dX5_base_18, rfl⟩, rfl, .inr ⟨dX5_base_19, rfl⟩, rfl, .inr ⟨dX5_base_20, rfl⟩, rfl, .inr ⟨dX5_base_23, rfl⟩, rfl, .inl ⟨rfl, rfl⟩, trivial⟩
set_option maxRecDepth 100000 in
theorem ck_76_26 : am_cok am_T0 me_76 cd_76_26 26 := ⟨rfl, .inr ⟨dX5_base_26, rfl⟩, rfl, .inl ⟨rfl, rfl⟩, trivial⟩
set_option maxRecDepth 100000 in
theorem ck_76_29 : am_cok am_T0 me_76 cd_76_29 29 := ⟨rfl, .inr ⟨dX5_base_29, rfl⟩, rfl, .inr ⟨dX5_base_30, rfl⟩, trivial⟩
set_option maxRecDepth 100000 in
theorem ck_76_31 : am_cok am_T0 me_76 cd_76_31 31 := ⟨rfl, .inr ⟨dX5_base_31, rfl⟩, rfl, .inr ⟨dX5_base_32, rfl⟩, rfl, .inr ⟨dX5_base_33, rfl⟩, rfl, .inr ⟨dX5_base_36, rfl⟩, rfl, .inr ⟨dX5_base_37, rfl⟩, rfl, .inr ⟨dX5_base_40, rfl⟩, rfl, .inr ⟨dX5_base_41, rfl⟩, rfl, .inr ⟨dX5_base_42, rfl⟩, rfl, .inr ⟨dX5_base_43, rfl⟩, rfl, .inr ⟨dX5_base_44, rfl⟩, rfl, .inr ⟨dX5_base_47, rfl⟩, rfl, .inr ⟨dX5_base_48, rfl⟩, rfl, .inr ⟨dX5_base_49, rfl⟩, rfl, .inr ⟨dX5_base_50, rfl⟩, rfl, .inr ⟨dX5_base_51, rfl⟩, rfl, .inr ⟨dX5_base_54, rfl⟩, rfl, .inr ⟨dX5_base_55, rfl⟩, rfl, .inr ⟨dX5_base_56, rfl⟩, rfl, .inl ⟨rfl, rfl⟩, trivial⟩
set_option maxRecDepth 100000 in
theorem ck_76_57 : am_cok am_T0 me_76 cd_76_57 57 := ⟨rfl, .inr ⟨dX5_base_57, rfl⟩, rfl, .inr ⟨dX5_base_58, rfl⟩, rfl, .inr ⟨dX5_base_61, rfl⟩, rfl, .inr ⟨dX5_base_62, rfl⟩, rfl, .inr ⟨dX5_base_63, rfl⟩, rfl, .inr ⟨dX5_base_64, rfl⟩, rfl, .inr ⟨dX5_base_65, rfl⟩, rfl, .inr ⟨dX5_base_68, rfl⟩, rfl, .inr ⟨dX5_base_69, rfl⟩, rfl, .inr ⟨dX5_base_70, rfl⟩, rfl, .inr ⟨dX5_base_71, rfl⟩, rfl, .inr ⟨dX5_base_72, rfl⟩, rfl, .inr ⟨dX5_base_75, rfl⟩, rfl, .inr ⟨dX5_base_76, rfl⟩, rfl, .inr ⟨dX5_base_77, rfl⟩, rfl, .inr ⟨dX5_base_78, rfl⟩, rfl, .inr ⟨dX5_base_79, rfl⟩, rfl, .inr ⟨dX5_base_80, rfl⟩, rfl, .inl ⟨rfl, rfl⟩, trivial⟩
set_option maxRecDepth 100000 in
theorem ck_76_83 : am_cok am_T0 me_76 cd_76_83 83 := ⟨rfl, .inr ⟨dX5_base_83, rfl⟩, rfl, .inr ⟨dX5_base_84, rfl⟩, trivial⟩
set_option maxRecDepth 100000 in
theorem ck_76 : ∀ p ∈ bl_76, am_cok am_T0 me_76 p.2 p.1 := List.forall_mem_cons.mpr ⟨ck_76_0, List.forall_mem_cons.mpr ⟨ck_76_14, List.forall_mem_cons.mpr ⟨ck_76_26, List.forall_mem_cons.mpr ⟨ck_76_29, List.forall_mem_cons.mpr ⟨ck_76_31, List.forall_mem_cons.mpr ⟨ck_76_57, List.forall_mem_cons.mpr ⟨ck_76_83, fun _ h => absurd h List.not_mem_nil⟩⟩⟩⟩⟩⟩⟩
set_option maxRecDepth 100000 in
theorem ck_77_0 : am_cok am_T0 me_77 cd_77_0 0 := ⟨rfl, .inr ⟨dX5_panel_0, rfl⟩, rfl, .inr ⟨dX5_panel_1, rfl⟩, rfl, .inr ⟨dX5_panel_2, rfl⟩, rfl, .inr ⟨dX5_panel_5, rfl⟩, rfl, .inr ⟨dX5_panel_6, rfl⟩, rfl, .inr ⟨dX5_panel_7, rfl⟩, rfl, .inr ⟨dX5_panel_8, rfl⟩, rfl, .inr ⟨dX5_panel_9, rfl⟩, rfl, .inr ⟨dX5_panel_12, rfl⟩, rfl, .inr ⟨dX5_panel_13, rfl⟩, rfl, .inr ⟨dX5_panel_14, rfl⟩, rfl, .inr ⟨dX5_panel_15, rfl⟩, rfl, .inl ⟨rfl, rfl⟩, trivial⟩
set_option maxRecDepth 100000 in
theorem ck_77_18 : am_cok am_T0 me_77 cd_77_18 18 := ⟨rfl, .inr ⟨dX5_panel_18, rfl⟩, rfl, .inr ⟨dX5_panel_21, rfl⟩, rfl, .inr ⟨dX5_panel_22, rfl⟩, rfl, .inr ⟨dX5_panel_23, rfl⟩, rfl, .inr ⟨dX5_panel_24, rfl⟩, rfl, .inr ⟨dX5_panel_27, rfl⟩, rfl, .inl ⟨rfl, rfl⟩, trivial⟩
set_option maxRecDepth 100000 in
theorem ck_77_30 : am_cok am_T0 me_77 cd_77_30 30 := ⟨rfl, .inr ⟨dX5_panel_30, rfl⟩, rfl, .inr ⟨dX5_panel_33, rfl⟩, rfl, .inr ⟨dX5_panel_35, rfl⟩, rfl, .inr ⟨dX5_panel_36, rfl⟩, rfl, .inr ⟨dX5_panel_37, rfl⟩, rfl, .inr ⟨dX5_panel_38, rfl⟩, rfl, .inl ⟨rfl, rfl⟩, trivial⟩
set_option maxRecDepth 100000 in
theorem ck_77_41 : am_cok am_T0 me_77 cd_77_41 41 := ⟨rfl, .inr ⟨dX5_panel_41, rfl⟩, rfl, .inr ⟨dX5_panel_44, rfl⟩, rfl, .inr ⟨dX5_panel_45, rfl⟩, rfl, .inr ⟨dX5_panel_48, rfl⟩, rfl, .inr ⟨dX5_panel_50, rfl⟩, rfl, .inl ⟨rfl, rfl⟩, trivial⟩
set_option maxRecDepth 100000 in
theorem ck_77_53 : am_cok am_T0 me_77 cd_77_53 53 := ⟨rfl, .inr ⟨dX5_panel_53, rfl⟩, rfl, .inr ⟨dX5_panel_54, rfl⟩, trivial⟩
set_option maxRecDepth 100000 in
theorem ck_77_55 : am_cok am_T0 me_77 cd_77_55 55 := ⟨rfl, .inr ⟨dX5_panel_55, rfl⟩, rfl, .inr ⟨dX5_panel_56, rfl⟩, rfl, .inr ⟨dX5_panel_59, rfl⟩, rfl, .inr ⟨dX5_panel_60, rfl⟩, rfl, .inr ⟨dX5_panel_61, rfl⟩, rfl, .inr ⟨dX5_panel_64, rfl⟩, rfl, .inr ⟨dX5_panel_65, rfl⟩, rfl, .inr ⟨dX5_panel_66, rfl⟩, rfl, .inr ⟨dX5_panel_67, rfl⟩, rfl, .inr ⟨dX5_panel_68, rfl⟩, rfl, .inr ⟨dX5_panel_69, rfl⟩, rfl, .inr ⟨dX5_panel_70, rfl⟩, rfl, .inr ⟨dX5_panel_73, rfl⟩, rfl, .inr ⟨dX5_panel_74, rfl⟩, trivial⟩
set_option maxRecDepth 100000 in
theorem ck_77_75 : am_cok am_T0 me_77 cd_77_75 75 := ⟨rfl, .inr ⟨dX5_panel_75, rfl⟩, rfl, .inr ⟨dX5_panel_76, rfl⟩, rfl, .inr ⟨dX5_panel_77, rfl⟩, rfl, .inr ⟨dX5_panel_78, rfl⟩, rfl, .inr ⟨dX5_panel_80, rfl⟩, rfl, .inr ⟨dX5_panel_81, rfl⟩, rfl, .inr ⟨dX5_panel_82, rfl⟩, rfl, .inr ⟨dX5_panel_83, rfl⟩, rfl, .inr ⟨dX5_panel_86, rfl⟩, rfl, .inr ⟨dX5_panel_87, rfl⟩, trivial⟩
set_option maxRecDepth 100000 in
theorem ck_77_90 : am_cok am_T0 me_77 cd_77_90 90 := ⟨rfl, .inr ⟨dX5_panel_90, rfl⟩, rfl, .inl ⟨rfl, rfl⟩, trivial⟩
set_option maxRecDepth 100000 in
theorem ck_77_91 : am_cok am_T0 me_77 cd_77_91 91 := ⟨rfl, .inr ⟨dX5_panel_91, rfl⟩, rfl, .inr ⟨dX5_panel_93, rfl⟩, rfl, .inr ⟨dX5_panel_95, rfl⟩, rfl, .inr ⟨dX5_panel_98, rfl⟩, rfl, .inr ⟨dX5_panel_99, rfl⟩, rfl, .inr ⟨dX5_panel_102, rfl⟩, rfl, .inr ⟨dX5_panel_104, rfl⟩, rfl, .inr ⟨dX5_panel_105, rfl⟩, rfl, .inr ⟨dX5_panel_106, rfl⟩, rfl, .inr ⟨dX5_panel_107, rfl⟩, rfl, .inr ⟨dX5_panel_108, rfl⟩, rfl, .inr ⟨dX5_panel_111, rfl⟩, rfl, .inr ⟨dX5_panel_113, rfl⟩, rfl, .inr ⟨dX5_panel_114, rfl⟩, rfl, .inr ⟨dX5_panel_115, rfl⟩, rfl, .inr ⟨dX5_panel_116, rfl⟩, rfl, .inr ⟨dX5_panel_117, rfl⟩, trivial⟩
set_option maxRecDepth 100000 in
theorem ck_77_120 : am_cok am_T0 me_77 cd_77_120 120 := ⟨rfl, .inr ⟨dX5_panel_120, rfl⟩, rfl, .inr ⟨dX5_panel_121, rfl⟩, rfl, .inr ⟨dX5_panel_124, rfl⟩, rfl, .inr ⟨dX5_panel_126, rfl⟩, rfl, .inr ⟨dX5_panel_127, rfl⟩, rfl, .inr ⟨dX5_panel_128, rfl⟩, rfl, .inr ⟨dX5_panel_129, rfl⟩, rfl, .inr ⟨dX5_panel_130, rfl⟩, rfl, .inr ⟨dX5_panel_133, rfl⟩, rfl, .inr ⟨dX5_panel_135, rfl⟩, rfl, .inr ⟨dX5_panel_136, rfl⟩, rfl, .inl ⟨rfl, rfl⟩, trivial⟩
set_option maxRecDepth 100000 in
theorem ck_77_137 : am_cok am_T0 me_77 cd_77_137 137 := ⟨rfl, .inr ⟨dX5_panel_137, rfl⟩, rfl, .inr ⟨dX5_panel_139, rfl⟩, rfl, .inr ⟨dX5_panel_141, rfl⟩, rfl, .inr ⟨dX5_panel_142, rfl⟩, rfl, .inr ⟨dX5_panel_143, rfl⟩, rfl, .inr ⟨dX5_panel_146, rfl⟩, rfl, .inl ⟨rfl, rfl⟩, trivial⟩
set_option maxRecDepth 100000 in
theorem ck_77_149 : am_cok am_T0 me_77 cd_77_149 149 := ⟨rfl, .inr ⟨dX5_panel_149, rfl⟩, rfl, .inr ⟨dX5_panel_152, rfl⟩, rfl, .inr ⟨dX5_panel_154, rfl⟩, rfl, .inr ⟨dX5_panel_155, rfl⟩, rfl, .inr ⟨dX5_panel_156, rfl⟩, rfl, .inr ⟨dX5_panel_159, rfl⟩, rfl, .inl ⟨rfl, rfl⟩, trivial⟩
set_option maxRecDepth 100000 in
theorem ck_77_162 : am_cok am_T0 me_77 cd_77_162 162 := ⟨rfl, .inr ⟨dX5_panel_162, rfl⟩, rfl, .inr ⟨dX5_panel_165, rfl⟩, rfl, .inr ⟨dX5_panel_166, rfl⟩, rfl, .inr ⟨dX5_panel_169, rfl⟩, rfl, .inr ⟨dX5_panel_170, rfl⟩, rfl, .inr ⟨dX5_panel_171, rfl⟩, rfl, .inr ⟨dX5_panel_173, rfl⟩, rfl, .inr ⟨dX5_panel_174, rfl⟩, rfl, .inr ⟨dX5_panel_175, rfl⟩, rfl, .inr ⟨dX5_panel_177, rfl⟩, rfl, .inr ⟨dX5_panel_178, rfl⟩, rfl, .inr ⟨dX5_panel_179, rfl⟩, rfl, .inl ⟨rfl, rfl⟩, trivial⟩
set_option maxRecDepth 100000 in
theorem ck_77_182 : am_cok am_T0 me_77 cd_77_182 182 := ⟨rfl, .inr ⟨dX5_panel_182, rfl⟩, rfl, .inr ⟨dX5_panel_183, rfl⟩, trivial⟩
set_option maxRecDepth 100000 in
theorem ck_77_184 : am_cok am_T0 me_77 cd_77_184 184 := ⟨rfl, .inr ⟨dX5_panel_184, rfl⟩, rfl, .inr ⟨dX5_panel_185, rfl⟩, rfl, .inr ⟨dX5_panel_188, rfl⟩, rfl, .inr ⟨dX5_panel_190, rfl⟩, rfl, .inr ⟨dX5_panel_191, rfl⟩, rfl, .inr ⟨dX5_panel_194, rfl⟩, rfl, .inr ⟨dX5_panel_196, rfl⟩, rfl, .inr ⟨dX5_panel_197, rfl⟩, rfl, .inr ⟨dX5_panel_198, rfl⟩, rfl, .inr ⟨dX5_panel_199, rfl⟩, rfl, .inr ⟨dX5_panel_202, rfl⟩, rfl, .inr ⟨dX5_panel_204, rfl⟩, rfl, .inr ⟨dX5_panel_205, rfl⟩, rfl, .inr ⟨dX5_panel_206, rfl⟩, rfl, .inr ⟨dX5_panel_207, rfl⟩, rfl, .inr ⟨dX5_panel_210, rfl⟩, rfl, .inr ⟨dX5_panel_212, rfl⟩, rfl, .inr ⟨dX5_panel_214, rfl⟩, rfl, .inr ⟨dX5_panel_215, rfl⟩, rfl, .inr ⟨dX5_panel_218, rfl⟩, rfl, .inr ⟨dX5_panel_219, rfl⟩, trivial⟩
set_option maxRecDepth 100000 in
theorem ck_77_222 : am_cok am_T0 me_77 cd_77_222 222 := ⟨rfl, .inr ⟨dX5_panel_222, rfl⟩, rfl, .inl ⟨rfl, rfl⟩, trivial⟩
set_option maxRecDepth 100000 in
theorem ck_77_223 : am_cok am_T0 me_77 cd_77_223 223 := ⟨rfl, .inr ⟨dX5_panel_223, rfl⟩, rfl, .inr ⟨dX5_panel_224, rfl⟩, rfl, .inr ⟨dX5_panel_226, rfl⟩, rfl, .inr ⟨dX5_panel_229, rfl⟩, rfl, .inr ⟨dX5_panel_230, rfl⟩, rfl, .inr ⟨dX5_panel_233, rfl⟩, rfl, .inr ⟨dX5_panel_234, rfl⟩, rfl, .inr ⟨dX5_panel_236, rfl⟩, rfl, .inr ⟨dX5_panel_237, rfl⟩, rfl, .inr ⟨dX5_panel_238, rfl⟩, rfl, .inr ⟨dX5_panel_241, rfl⟩, rfl, .inr ⟨dX5_panel_242, rfl⟩, rfl, .inr ⟨dX5_panel_245, rfl⟩, rfl, .inr ⟨dX5_panel_247, rfl⟩, rfl, .inr ⟨dX5_panel_248, rfl⟩, rfl, .inr ⟨dX5_panel_249, rfl⟩, rfl, .inr ⟨dX5_panel_250, rfl⟩, trivial⟩
set_option maxRecDepth 100000 in
theorem ck_77_253 : am_cok am_T0 me_77 cd_77_253 253 := ⟨rfl, .inr ⟨dX5_panel_253, rfl⟩, rfl, .inr ⟨dX5_panel_254, rfl⟩, rfl, .inr ⟨dX5_panel_257, rfl⟩, rfl, .inr ⟨dX5_panel_259, rfl⟩, rfl, .inr ⟨dX5_panel_260, rfl⟩, rfl, .inr ⟨dX5_panel_262, rfl⟩, rfl, .inl ⟨rfl, rfl⟩, trivial⟩
set_option maxRecDepth 100000 in
theorem ck_77_263 : am_cok am_T0 me_77 cd_77_263 263 := ⟨rfl, .inr ⟨dX5_panel_263, rfl⟩, rfl, .inr ⟨dX5_panel_264, rfl⟩, rfl, .inr ⟨dX5_panel_265, rfl⟩, rfl, .inr ⟨dX5_panel_268, rfl⟩, rfl, .inr ⟨dX5_panel_269, rfl⟩, rfl, .inr ⟨dX5_panel_271, rfl⟩, rfl, .inr ⟨dX5_panel_272, rfl⟩, rfl, .inr ⟨dX5_panel_273, rfl⟩, rfl, .inr ⟨dX5_panel_274, rfl⟩, rfl, .inr ⟨dX5_panel_275, rfl⟩, rfl, .inr ⟨dX5_panel_278, rfl⟩, rfl, .inr ⟨dX5_panel_280, rfl⟩, rfl, .inr ⟨dX5_panel_281, rfl⟩, rfl, .inr ⟨dX5_panel_282, rfl⟩, rfl, .inr ⟨dX5_panel_283, rfl⟩, rfl, .inr ⟨dX5_panel_284, rfl⟩, rfl, .inr ⟨dX5_panel_285, rfl⟩, rfl, .inr ⟨dX5_panel_286, rfl⟩, rfl, .inl ⟨rfl, rfl⟩, trivial⟩
set_option maxRecDepth 100000 in
theorem ck_77_287 : am_cok am_T0 me_77 cd_77_287 287 := ⟨rfl, .inr ⟨dX5_panel_287, rfl⟩, rfl, .inr ⟨dX5_panel_290, rfl⟩, rfl, .inr ⟨dX5_panel_291, rfl⟩, rfl, .inr ⟨dX5_panel_293, rfl⟩, rfl, .inr ⟨dX5_panel_294, rfl⟩, rfl, .inr ⟨dX5_panel_295, rfl⟩, rfl, .inr ⟨dX5_panel_296, rfl⟩, rfl, .inr ⟨dX5_panel_297, rfl⟩, rfl, .inr ⟨dX5_panel_300, rfl⟩, rfl, .inr ⟨dX5_panel_301, rfl⟩, rfl, .inr ⟨dX5_panel_303, rfl⟩, rfl, .inr ⟨dX5_panel_304, rfl⟩, rfl, .inr ⟨dX5_panel_305, rfl⟩, rfl, .inr ⟨dX5_panel_307, rfl⟩, rfl, .inr ⟨dX5_panel_308, rfl⟩, rfl, .inr ⟨dX5_panel_309, rfl⟩, rfl, .inr ⟨dX5_panel_310, rfl⟩, rfl, .inr ⟨dX5_panel_313, rfl⟩, rfl, .inr ⟨dX5_panel_314, rfl⟩, rfl, .inr ⟨dX5_panel_316, rfl⟩, rfl, .inr ⟨dX5_panel_317, rfl⟩, rfl, .inl ⟨rfl, rfl⟩, trivial⟩
set_option maxRecDepth 100000 in
theorem ck_77_318 : am_cok am_T0 me_77 cd_77_318 318 := ⟨rfl, .inr ⟨dX5_panel_318, rfl⟩, rfl, .inr ⟨dX5_panel_319, rfl⟩, rfl, .inr ⟨dX5_panel_320, rfl⟩, rfl, .inr ⟨dX5_panel_323, rfl⟩, rfl, .inr ⟨dX5_panel_324, rfl⟩, rfl, .inr ⟨dX5_panel_326, rfl⟩, rfl, .inr ⟨dX5_panel_327, rfl⟩, rfl, .inr ⟨dX5_panel_328, rfl⟩, rfl, .inr ⟨dX5_panel_329, rfl⟩, rfl, .inr ⟨dX5_panel_330, rfl⟩, rfl, .inr ⟨dX5_panel_332, rfl⟩, rfl, .inr ⟨dX5_panel_333, rfl⟩, rfl, .inr ⟨dX5_panel_334, rfl⟩, trivial⟩
set_option maxRecDepth 100000 in
theorem ck_77_337 : am_cok am_T0 me_77 cd_77_337 337 := ⟨rfl, .inr ⟨dX5_panel_337, rfl⟩, rfl, .inr ⟨dX5_panel_338, rfl⟩, rfl, .inr ⟨dX5_panel_341, rfl⟩, rfl, .inr ⟨dX5_panel_342, rfl⟩, rfl, .inr ⟨dX5_panel_344, rfl⟩, rfl, .inr ⟨dX5_panel_345, rfl⟩, rfl, .inr ⟨dX5_panel_346, rfl⟩, rfl, .inr ⟨dX5_panel_349, rfl⟩, rfl, .inr ⟨dX5_panel_351, rfl⟩, rfl, .inr ⟨dX5_panel_352, rfl⟩, rfl, .inr ⟨dX5_panel_353, rfl⟩, rfl, .inr ⟨dX5_panel_354, rfl⟩, rfl, .inr ⟨dX5_panel_355, rfl⟩, rfl, .inr ⟨dX5_panel_356, rfl⟩, rfl, .inr ⟨dX5_panel_359, rfl⟩, rfl, .inr ⟨dX5_panel_360, rfl⟩, rfl, .inr ⟨dX5_panel_362, rfl⟩, rfl, .inr ⟨dX5_panel_363, rfl⟩, rfl, .inr ⟨dX5_panel_364, rfl⟩, rfl, .inr ⟨dX5_panel_365, rfl⟩, rfl, .inr ⟨dX5_panel_366, rfl⟩, rfl, .inl ⟨rfl, rfl⟩, trivial⟩
set_option maxRecDepth 100000 in
theorem ck_77_367 : am_cok am_T0 me_77 cd_77_367 367 := ⟨rfl, .inr ⟨dX5_panel_367, rfl⟩, rfl, .inr ⟨dX5_panel_370, rfl⟩, rfl, .inr ⟨dX5_panel_371, rfl⟩, rfl, .inr ⟨dX5_panel_374, rfl⟩, rfl, .inr ⟨dX5_panel_376, rfl⟩, rfl, .inr ⟨dX5_panel_377, rfl⟩, rfl, .inr ⟨dX5_panel_378, rfl⟩, rfl, .inr ⟨dX5_panel_379, rfl⟩, trivial⟩
set_option maxRecDepth 100000 in
theorem ck_77_382 : am_cok am_T0 me_77 cd_77_382 382 := ⟨rfl, .inr ⟨dX5_panel_382, rfl⟩, rfl, .inr ⟨dX5_panel_383, rfl⟩, rfl, .inr ⟨dX5_panel_386, rfl⟩, rfl, .inr ⟨dX5_panel_388, rfl⟩, rfl, .inr ⟨dX5_panel_389, rfl⟩, rfl, .inr ⟨dX5_panel_390, rfl⟩, rfl, .inr ⟨dX5_panel_391, rfl⟩, rfl, .inr ⟨dX5_panel_393, rfl⟩, rfl, .inl ⟨rfl, rfl⟩, trivial⟩
set_option maxRecDepth 100000 in
theorem ck_77_394 : am_cok am_T0 me_77 cd_77_394 394 := ⟨rfl, .inr ⟨dX5_panel_394, rfl⟩, rfl, .inr ⟨dX5_panel_395, rfl⟩, rfl, .inr ⟨dX5_panel_396, rfl⟩, rfl, .inr ⟨dX5_panel_399, rfl⟩, rfl, .inr ⟨dX5_panel_400, rfl⟩, rfl, .inr ⟨dX5_panel_402, rfl⟩, rfl, .inr ⟨dX5_panel_403, rfl⟩, rfl, .inr ⟨dX5_panel_404, rfl⟩, rfl, .inr ⟨dX5_panel_405, rfl⟩, rfl, .inr ⟨dX5_panel_406, rfl⟩, rfl, .inr ⟨dX5_panel_409, rfl⟩, rfl, .inr ⟨dX5_panel_410, rfl⟩, rfl, .inr ⟨dX5_panel_412, rfl⟩, rfl, .inr ⟨dX5_panel_413, rfl⟩, rfl, .inr ⟨dX5_panel_414, rfl⟩, rfl, .inr ⟨dX5_panel_416, rfl⟩, rfl, .inr ⟨dX5_panel_417, rfl⟩, rfl, .inr ⟨dX5_panel_418, rfl⟩, rfl, .inl ⟨rfl, rfl⟩, trivial⟩
set_option maxRecDepth 100000 in
theorem ck_77_419 : am_cok am_T0 me_77 cd_77_419 419 := ⟨rfl, .inr ⟨dX5_panel_419, rfl⟩, rfl, .inr ⟨dX5_panel_422, rfl⟩, rfl, .inr ⟨dX5_panel_423, rfl⟩, rfl, .inr ⟨dX5_panel_425, rfl⟩, rfl, .inr ⟨dX5_panel_426, rfl⟩, rfl, .inr ⟨dX5_panel_427, rfl⟩, rfl, .inr ⟨dX5_panel_428, rfl⟩, rfl, .inr ⟨dX5_panel_429, rfl⟩, rfl, .inr ⟨dX5_panel_432, rfl⟩, rfl, .inr ⟨dX5_panel_433, rfl⟩, rfl, .inr ⟨dX5_panel_435, rfl⟩, rfl, .inr ⟨dX5_panel_436, rfl⟩, rfl, .inr ⟨dX5_panel_437, rfl⟩, rfl, .inr ⟨dX5_panel_438, rfl⟩, rfl, .inr ⟨dX5_panel_439, rfl⟩, rfl, .inr ⟨dX5_panel_441, rfl⟩, rfl, .inr ⟨dX5_panel_442, rfl⟩, rfl, .inl ⟨rfl, rfl⟩, trivial⟩
set_option maxRecDepth 100000 in
theorem ck_77_443 : am_cok am_T0 me_77 cd_77_443 443 := ⟨rfl, .inr ⟨dX5_panel_443, rfl⟩, rfl, .inr ⟨dX5_panel_444, rfl⟩, rfl, .inr ⟨dX5_panel_445, rfl⟩, rfl, .inr ⟨dX5_panel_448, rfl⟩, rfl, .inr ⟨dX5_panel_449, rfl⟩, rfl, .inr ⟨dX5_panel_450, rfl⟩, rfl, .inr ⟨dX5_panel_453, rfl⟩, rfl, .inr ⟨dX5_panel_454, rfl⟩, rfl, .inr ⟨dX5_panel_455, rfl⟩, rfl, .inr ⟨dX5_panel_458, rfl⟩, rfl, .inr ⟨dX5_panel_460, rfl⟩, trivial⟩
set_option maxRecDepth 100000 in
theorem ck_77 : ∀ p ∈ bl_77, am_cok am_T0 me_77 p.2 p.1 := List.forall_mem_cons.mpr ⟨ck_77_0, List.forall_mem_cons.mpr ⟨ck_77_18, List.forall_mem_cons.mpr ⟨ck_77_30, List.forall_mem_cons.mpr ⟨ck_77_41, List.forall_mem_cons.mpr ⟨ck_77_53, List.forall_mem_cons.mpr ⟨ck_77_55, List.forall_mem_cons.mpr ⟨ck_77_75, List.forall_mem_cons.mpr ⟨ck_77_90, List.forall_mem_cons.mpr ⟨ck_77_91, List.forall_mem_cons.mpr ⟨ck_77_120, List.forall_mem_cons.mpr ⟨ck_77_137, List.forall_mem_cons.mpr ⟨ck_77_149, List.forall_mem_cons.mpr ⟨ck_77_162, List.forall_mem_cons.mpr ⟨ck_77_182, List.forall_mem_cons.mpr ⟨ck_77_184, List.forall_mem_cons.mpr ⟨ck_77_222, List.forall_mem_cons.mpr ⟨ck_77_223, List.forall_mem_cons.mpr ⟨ck_77_253, List.forall_mem_cons.mpr ⟨ck_77_263, List.forall_mem_cons.mpr ⟨ck_77_287, List.forall_mem_cons.mpr ⟨ck_77_318, List.forall_mem_cons.mpr ⟨ck_77_337, List.forall_mem_cons.mpr ⟨ck_77_367, List.forall_mem_cons.mpr ⟨ck_77_382, List.forall_mem_cons.mpr ⟨ck_77_394, List.forall_mem_cons.mpr ⟨ck_77_419, List.forall_mem_cons.mpr ⟨ck_77_443, fun _ h => absurd h List.not_mem_nil⟩⟩⟩⟩⟩⟩⟩⟩⟩⟩⟩⟩⟩⟩⟩⟩⟩⟩⟩⟩⟩⟩⟩⟩⟩⟩⟩
set_option maxRecDepth 100000 in
theorem ck_78_0 : am_cok am_T0 me_78 cd_78_0 0 := ⟨rfl, .inr ⟨dX5_deduction_0, rfl⟩, rfl, .inr ⟨dX5_deduction_1, rfl⟩, rfl, .inr ⟨dX5_deduction_2, rfl⟩, rfl, .inr ⟨dX5_deduction_5, rfl⟩, rfl, .inr ⟨dX5_deduction_6, rfl⟩, rfl, .inr ⟨dX5_deduction_7, rfl⟩, rfl, .inr ⟨dX5_deduction_8, rfl⟩, rfl, .inr ⟨dX5_deduction_11, rfl⟩, rfl, .inl ⟨rfl, rfl⟩, trivial⟩
set_option maxRecDepth 100000 in
theorem ck_78_14 : am_cok am_T0 me_78 cd_78_14 14 := ⟨rfl, .inr ⟨dX5_deduction_14, rfl⟩, rfl, .inr ⟨dX5_deduction_17, rfl⟩, rfl, .inr ⟨dX5_deduction_18, rfl⟩, rfl, .inr ⟨dX5_deduction_19, rfl⟩, rfl, .inr ⟨dX5_deduction_20, rfl⟩, rfl, .inl ⟨rfl, rfl⟩, trivial⟩
set_option maxRecDepth 100000 in
theorem ck_78_23 : am_cok am_T0 me_78 cd_78_23 23 := ⟨rfl, .inr ⟨dX5_deduction_23, rfl⟩, rfl, .inr ⟨dX5_deduction_24, rfl⟩, trivial⟩
set_option maxRecDepth 100000 in
theorem ck_78_25 : am_cok am_T0 me_78 cd_78_25 25 := ⟨rfl, .inr ⟨dX5_deduction_25, rfl⟩, rfl, .inr ⟨dX5_deduction_26, rfl⟩, rfl, .inr ⟨dX5_deduction_27, rfl⟩, rfl, .inr ⟨dX5_deduction_30, rfl⟩, rfl, .inr ⟨dX5_deduction_31, rfl⟩, trivial⟩
set_option maxRecDepth 100000 in
theorem ck_78 : ∀ p ∈ bl_78, am_cok am_T0 me_78 p.2 p.1 := List.forall_mem_cons.mpr ⟨ck_78_0, List.forall_mem_cons.mpr ⟨ck_78_14, List.forall_mem_cons.mpr ⟨ck_78_23, List.forall_mem_cons.mpr ⟨ck_78_25, fun _ h => absurd h List.not_mem_nil⟩⟩⟩⟩
set_option maxRecDepth 100000 in
theorem ck_79_0 : am_cok am_T0 me_79 cd_79_0 0 := ⟨rfl, .inr ⟨dX5_gauge_0, rfl⟩, rfl, .inr ⟨dX5_gauge_1, rfl⟩, rfl, .inr ⟨dX5_gauge_2, rfl⟩, rfl, .inr ⟨dX5_gauge_5, rfl⟩, rfl, .inr ⟨dX5_gauge_6, rfl⟩, rfl, .inr ⟨dX5_gauge_7, rfl⟩, rfl, .inr ⟨dX5_gauge_8, rfl⟩, rfl, .inr ⟨dX5_gauge_11, rfl⟩, rfl, .inl ⟨rfl, rfl⟩, trivial⟩
set_option maxRecDepth 100000 in
theorem ck_79_14 : am_cok am_T0 me_79 cd_79_14 14 := ⟨rfl, .inr ⟨dX5_gauge_14, rfl⟩, rfl, .inr ⟨dX5_gauge_17, rfl⟩, rfl, .inr ⟨dX5_gauge_18, rfl⟩, trivial⟩
set_option maxRecDepth 100000 in
theorem ck_79_19 : am_cok am_T0 me_79 cd_79_19 19 := ⟨rfl, .inr ⟨dX5_gauge_19, rfl⟩, rfl, .inr ⟨dX5_gauge_20, rfl⟩, rfl, .inr ⟨dX5_gauge_21, rfl⟩, rfl, .inr ⟨dX5_gauge_24, rfl⟩, rfl, .inr ⟨dX5_gauge_25, rfl⟩, rfl, .inr ⟨dX5_gauge_26, rfl⟩, rfl, .inr ⟨dX5_gauge_29, rfl⟩, rfl, .inr ⟨dX5_gauge_30, rfl⟩, trivial⟩
set_option maxRecDepth 100000 in
theorem ck_79 : ∀ p ∈ bl_79, am_cok am_T0 me_79 p.2 p.1 := List.forall_mem_cons.mpr ⟨ck_79_0, List.forall_mem_cons.mpr ⟨ck_79_14, List.forall_mem_cons.mpr ⟨ck_79_19, fun _ h => absurd h List.not_mem_nil⟩⟩⟩
set_option maxRecDepth 100000 in
theorem ck_80_0 : am_cok am_T0 me_80 cd_80_0 0 := ⟨rfl, .inr ⟨dX5_over_0, rfl⟩, rfl, .inr ⟨dX5_over_1, rfl⟩, rfl, .inr ⟨dX5_over_2, rfl⟩, rfl, .inr ⟨dX5_over_5, rfl⟩, rfl, .inr ⟨dX5_over_6, rfl⟩, rfl, .inr ⟨dX5_over_9, rfl⟩, rfl, .inr ⟨dX5_over_12, rfl⟩, rfl, .inr ⟨dX5_over_13, rfl⟩, trivial⟩
set_option maxRecDepth 100000 in
theorem ck_80_14 : am_cok am_T0 me_80 cd_80_14 14 := ⟨rfl, .inr ⟨dX5_over_14, rfl⟩, rfl, .inr ⟨dX5_over_15, rfl⟩, rfl, .inr ⟨dX5_over_18, rfl⟩, rfl, .inr ⟨dX5_over_19, rfl⟩, rfl, .inr ⟨dX5_over_20, rfl⟩, rfl, .inr ⟨dX5_over_21, rfl⟩, rfl, .inr ⟨dX5_over_22, rfl⟩, rfl, .inl ⟨rfl, rfl⟩, trivial⟩
set_option maxRecDepth 100000 in
theorem ck_80_23 : am_cok am_T0 me_80 cd_80_23 23 := ⟨rfl, .inr ⟨dX5_over_23, rfl⟩, rfl, .inr ⟨dX5_over_24, rfl⟩, rfl, .inr ⟨dX5_over_25, rfl⟩, rfl, .inr ⟨dX5_over_28, rfl⟩, rfl, .inr ⟨dX5_over_31, rfl⟩, rfl, .inr ⟨dX5_over_32, rfl⟩, rfl, .inr ⟨dX5_over_35, rfl⟩, rfl, .inr ⟨dX5_over_36, rfl⟩, rfl, .inr ⟨dX5_over_37, rfl⟩, rfl, .inr ⟨dX5_over_38, rfl⟩, rfl, .inr ⟨dX5_over_39, rfl⟩, rfl, .inr ⟨dX5_over_40, rfl⟩, rfl, .inr ⟨dX5_over_41, rfl⟩, rfl, .inr ⟨dX5_over_44, rfl⟩, rfl, .inr ⟨dX5_over_45, rfl⟩, rfl, .inr ⟨dX5_over_46, rfl⟩, rfl, .inr ⟨dX5_over_47, rfl⟩, rfl, .inr ⟨dX5_over_48, rfl⟩, rfl, .inr ⟨dX5_over_49, rfl⟩, rfl, .inr ⟨dX5_over_52, rfl⟩, rfl, .inr ⟨dX5_over_53, rfl⟩, rfl, .inr ⟨dX5_over_54, rfl⟩, rfl, .inr ⟨dX5_over_55, rfl⟩, rfl, .inr ⟨dX5_over_56, rfl⟩, rfl, .inl ⟨rfl, rfl⟩, trivial⟩
set_option maxRecDepth 100000 in
theorem ck_80_57 : am_cok am_T0 me_80 cd_80_57 57 := ⟨rfl, .inr ⟨dX5_over_57, rfl⟩, rfl, .inr ⟨dX5_over_58, rfl⟩, rfl, .inr ⟨dX5_over_59, rfl⟩, rfl, .inr ⟨dX5_over_60, rfl⟩, rfl, .inr ⟨dX5_over_61, rfl⟩, rfl, .inr ⟨dX5_over_64, rfl⟩, rfl, .inr ⟨dX5_over_65, rfl⟩, rfl, .inr ⟨dX5_over_66, rfl⟩, rfl, .inr ⟨dX5_over_67, rfl⟩, rfl, .inr ⟨dX5_over_68, rfl⟩, rfl, .inr ⟨dX5_over_69, rfl⟩, rfl, .inr ⟨dX5_over_70, rfl⟩, rfl, .inr ⟨dX5_over_71, rfl⟩, rfl, .inr ⟨dX5_over_72, rfl⟩, rfl, .inr ⟨dX5_over_73, rfl⟩, rfl, .inr ⟨dX5_over_74, rfl⟩, rfl, .inr ⟨dX5_over_77, rfl⟩, rfl, .inr ⟨dX5_over_78, rfl⟩, rfl, .inl ⟨rfl, rfl⟩, trivial⟩
set_option maxRecDepth 100000 in
theorem ck_80_79 : am_cok am_T0 me_80 cd_80_79 79 := ⟨rfl, .inr ⟨dX5_over_79, rfl⟩, rfl, .inr ⟨dX5_over_82, rfl⟩, rfl, .inr ⟨dX5_over_83, rfl⟩, rfl, .inr ⟨dX5_over_84, rfl⟩, rfl, .inr ⟨dX5_over_87, rfl⟩, rfl, .inr ⟨dX5_over_88, rfl⟩, trivial⟩
set_option maxRecDepth 100000 in
theorem ck_80_91 : am_cok am_T0 me_80 cd_80_91 91 := ⟨rfl, .inr ⟨dX5_over_91, rfl⟩, rfl, .inl ⟨rfl, rfl⟩, trivial⟩
set_option maxRecDepth 100000 in
theorem ck_80_92 : am_cok am_T0 me_80 cd_80_92 92 := ⟨rfl, .inr ⟨dX5_over_92, rfl⟩, rfl, .inr ⟨dX5_over_93, rfl⟩, rfl, .inr ⟨dX5_over_94, rfl⟩, rfl, .inr ⟨dX5_over_97, rfl⟩, rfl, .inr ⟨dX5_over_98, rfl⟩, rfl, .inr ⟨dX5_over_99, rfl⟩, rfl, .inr ⟨dX5_over_102, rfl⟩, rfl, .inr ⟨dX5_over_103, rfl⟩, rfl, .inr ⟨dX5_over_106, rfl⟩, rfl, .inr ⟨dX5_over_107, rfl⟩, rfl, .inr ⟨dX5_over_108, rfl⟩, rfl, .inr ⟨dX5_over_109, rfl⟩, rfl, .inr ⟨dX5_over_110, rfl⟩, rfl, .inr ⟨dX5_over_113, rfl⟩, rfl, .inr ⟨dX5_over_114, rfl⟩, rfl, .inr ⟨dX5_over_115, rfl⟩, rfl, .inr ⟨dX5_over_118, rfl⟩, rfl, .inr ⟨dX5_over_119, rfl⟩, rfl, .inl ⟨rfl, rfl⟩, trivial⟩
set_option maxRecDepth 100000 in
theorem ck_80_120 : am_cok am_T0 me_80 cd_80_120 120 := ⟨rfl, .inr ⟨dX5_over_120, rfl⟩, rfl, .inr ⟨dX5_over_121, rfl⟩, trivial⟩
set_option maxRecDepth 100000 in
theorem ck_80_124 : am_cok am_T0 me_80 cd_80_124 124 := ⟨rfl, .inr ⟨dX5_over_124, rfl⟩, rfl, .inr ⟨dX5_over_125, rfl⟩, rfl, .inr ⟨dX5_over_128, rfl⟩, rfl, .inr ⟨dX5_over_129, rfl⟩, rfl, .inl ⟨rfl, rfl⟩, trivial⟩
set_option maxRecDepth 100000 in
theorem ck_80_130 : am_cok am_T0 me_80 cd_80_130 130 := ⟨rfl, .inr ⟨dX5_over_130, rfl⟩, rfl, .inr ⟨dX5_over_131, rfl⟩, rfl, .inr ⟨dX5_over_134, rfl⟩, trivial⟩
set_option maxRecDepth 100000 in
theorem ck_80_137 : am_cok am_T0 me_80 cd_80_137 137 := ⟨rfl, .inr ⟨dX5_over_137, rfl⟩, rfl, .inr ⟨dX5_over_138, rfl⟩, rfl, .inr ⟨dX5_over_139, rfl⟩, rfl, .inr ⟨dX5_over_142, rfl⟩, rfl, .inr ⟨dX5_over_143, rfl⟩, trivial⟩
set_option maxRecDepth 100000 in
theorem ck_80 : ∀ p ∈ bl_80, am_cok am_T0 me_80 p.2 p.1 := List.forall_mem_cons.mpr ⟨ck_80_0, List.forall_mem_cons.mpr ⟨ck_80_14, List.forall_mem_cons.mpr ⟨ck_80_23, List.forall_mem_cons.mpr ⟨ck_80_57, List.forall_mem_cons.mpr ⟨ck_80_79, List.forall_mem_cons.mpr ⟨ck_80_91, List.forall_mem_cons.mpr ⟨ck_80_92, List.forall_mem_cons.mpr ⟨ck_80_120, List.forall_mem_cons.mpr ⟨ck_80_124, List.forall_mem_cons.mpr ⟨ck_80_130, List.forall_mem_cons.mpr ⟨ck_80_137, fun _ h => absurd h List.not_mem_nil⟩⟩⟩⟩⟩⟩⟩⟩⟩⟩⟩
set_option maxRecDepth 100000 in
theorem ck_81_0 : am_cok am_T0 me_81 cd_81_0 0 := ⟨rfl, .inr ⟨dX5_hasBend_0, rfl⟩, rfl, .inr ⟨dX5_hasBend_1, rfl⟩, rfl, .inr ⟨dX5_hasBend_4, rfl⟩, rfl, .inr ⟨dX5_hasBend_5, rfl⟩, rfl, .inr ⟨dX5_hasBend_6, rfl⟩, rfl, .inr ⟨dX5_hasBend_9, rfl⟩, rfl, .inr ⟨dX5_hasBend_10, rfl⟩, rfl, .inr ⟨dX5_hasBend_11, rfl⟩, rfl, .inr ⟨dX5_hasBend_12, rfl⟩, rfl, .inr ⟨dX5_hasBend_13, rfl⟩, rfl, .inr ⟨dX5_hasBend_14, rfl⟩, rfl, .inr ⟨dX5_hasBend_15, rfl⟩, rfl, .inr ⟨dX5_hasBend_18, rfl⟩, rfl, .inr ⟨dX5_hasBend_19, rfl⟩, trivial⟩
set_option maxRecDepth 100000 in
theorem ck_81_22 : am_cok am_T0 me_81 cd_81_22 22 := ⟨rfl, .inr ⟨dX5_hasBend_22, rfl⟩, rfl, .inl ⟨rfl, rfl⟩, trivial⟩
set_option maxRecDepth 100000 in
theorem ck_81_23 : am_cok am_T0 me_81 cd_81_23 23 := ⟨rfl, .inr ⟨dX5_hasBend_23, rfl⟩, rfl, .inr ⟨dX5_hasBend_24, rfl⟩, rfl, .inr ⟨dX5_hasBend_25, rfl⟩, rfl, .inl ⟨rfl, rfl⟩, trivial⟩
set_option maxRecDepth 100000 in
theorem ck_81_27 : am_cok am_T0 me_81 cd_81_27 27 := ⟨rfl, .inr ⟨dX5_hasBend_27, rfl⟩, rfl, .inr ⟨dX5_hasBend_29, rfl⟩, rfl, .inr ⟨dX5_hasBend_30, rfl⟩, rfl, .inr ⟨dX5_hasBend_33, rfl⟩, rfl, .inr ⟨dX5_hasBend_36, rfl⟩, rfl, .inr ⟨dX5_hasBend_37, rfl⟩, rfl, .inr ⟨dX5_hasBend_40, rfl⟩, rfl, .inr ⟨dX5_hasBend_41, rfl⟩, rfl, .inr ⟨dX5_hasBend_44, rfl⟩, rfl, .inr ⟨dX5_hasBend_46, rfl⟩, rfl, .inr ⟨dX5_hasBend_47, rfl⟩, rfl, .inr ⟨dX5_hasBend_48, rfl⟩, rfl, .inr ⟨dX5_hasBend_51, rfl⟩, rfl, .inr ⟨dX5_hasBend_52, rfl⟩, rfl, .inr ⟨dX5_hasBend_55, rfl⟩, rfl, .inr ⟨dX5_hasBend_57, rfl⟩, rfl, .inr ⟨dX5_hasBend_58, rfl⟩, rfl, .inr ⟨dX5_hasBend_59, rfl⟩, rfl, .inl ⟨rfl, rfl⟩, trivial⟩
set_option maxRecDepth 100000 in
theorem ck_81_62 : am_cok am_T0 me_81 cd_81_62 62 := ⟨rfl, .inr ⟨dX5_hasBend_62, rfl⟩, rfl, .inr ⟨dX5_hasBend_63, rfl⟩, trivial⟩
set_option maxRecDepth 100000 in
theorem ck_81_66 : am_cok am_T0 me_81 cd_81_66 66 := ⟨rfl, .inr ⟨dX5_hasBend_66, rfl⟩, rfl, .inl ⟨rfl, rfl⟩, trivial⟩
set_option maxRecDepth 100000 in
theorem ck_81_67 : am_cok am_T0 me_81 cd_81_67 67 := ⟨rfl, .inr ⟨dX5_hasBend_67, rfl⟩, rfl, .inr ⟨dX5_hasBend_68, rfl⟩, rfl, .inr ⟨dX5_hasBend_71, rfl⟩, trivial⟩
set_option maxRecDepth 100000 in
theorem ck_81_74 : am_cok am_T0 me_81 cd_81_74 74 := ⟨rfl, .inr ⟨dX5_hasBend_74, rfl⟩, rfl, .inl ⟨rfl, rfl⟩, trivial⟩
set_option maxRecDepth 100000 in
theorem ck_81_75 : am_cok am_T0 me_81 cd_81_75 75 := ⟨rfl, .inr ⟨dX5_hasBend_75, rfl⟩, trivial⟩
set_option maxRecDepth 100000 in
theorem ck_81 : ∀ p ∈ bl_81, am_cok am_T0 me_81 p.2 p.1 := List.forall_mem_cons.mpr ⟨ck_81_0, List.forall_mem_cons.mpr ⟨ck_81_22, List.forall_mem_cons.mpr ⟨ck_81_23, List.forall_mem_cons.mpr ⟨ck_81_27, List.forall_mem_cons.mpr ⟨ck_81_62, List.forall_mem_cons.mpr ⟨ck_81_66, List.forall_mem_cons.mpr ⟨ck_81_67, List.forall_mem_cons.mpr ⟨ck_81_74, List.forall_mem_cons.mpr ⟨ck_81_75, fun _ h => absurd h List.not_mem_nil⟩⟩⟩⟩⟩⟩⟩⟩⟩
set_option maxRecDepth 100000 in
theorem ck_82_0 : am_cok am_T0 me_82 cd_82_0 0 := ⟨rfl, .inr ⟨dX5_layFlat_0, rfl⟩, rfl, .inr ⟨dX5_layFlat_1, rfl⟩, rfl, .inr ⟨dX5_layFlat_4, rfl⟩, rfl, .inr ⟨dX5_layFlat_5, rfl⟩, rfl, .inr ⟨dX5_layFlat_6, rfl⟩, rfl, .inr ⟨dX5_layFlat_7, rfl⟩, rfl, .inr ⟨dX5_layFlat_8, rfl⟩, rfl, .inl ⟨rfl, rfl⟩, trivial⟩
set_option maxRecDepth 100000 in
theorem ck_82_9 : am_cok am_T0 me_82 cd_82_9 9 := ⟨rfl, .inr ⟨dX5_layFlat_9, rfl⟩, rfl, .inr ⟨dX5_layFlat_10, rfl⟩, rfl, .inr ⟨dX5_layFlat_11, rfl⟩, rfl, .inr ⟨dX5_layFlat_14, rfl⟩, rfl, .inr ⟨dX5_layFlat_17, rfl⟩, rfl, .inr ⟨dX5_layFlat_18, rfl⟩, rfl, .inr ⟨dX5_layFlat_21, rfl⟩, rfl, .inr ⟨dX5_layFlat_22, rfl⟩, rfl, .inr ⟨dX5_layFlat_23, rfl⟩, rfl, .inr ⟨dX5_layFlat_24, rfl⟩, rfl, .inr ⟨dX5_layFlat_25, rfl⟩, rfl, .inr ⟨dX5_layFlat_28, rfl⟩, rfl, .inr ⟨dX5_layFlat_29, rfl⟩, rfl, .inr ⟨dX5_layFlat_30, rfl⟩, rfl, .inr ⟨dX5_layFlat_31, rfl⟩, rfl, .inr ⟨dX5_layFlat_32, rfl⟩, rfl, .inr ⟨dX5_layFlat_33, rfl⟩, rfl, .inr ⟨dX5_layFlat_34, rfl⟩, rfl, .inr ⟨dX5_layFlat_35, rfl⟩, rfl, .inl ⟨rfl, rfl⟩, trivial⟩
set_option maxRecDepth 100000 in
theorem ck_82_38 : am_cok am_T0 me_82 cd_82_38 38 := ⟨rfl, .inr ⟨dX5_layFlat_38, rfl⟩, rfl, .inr ⟨dX5_layFlat_41, rfl⟩, rfl, .inr ⟨dX5_layFlat_42, rfl⟩, trivial⟩
set_option maxRecDepth 100000 in
theorem ck_82_45 : am_cok am_T0 me_82 cd_82_45 45 := ⟨rfl, .inr ⟨dX5_layFlat_45, rfl⟩, rfl, .inl ⟨rfl, rfl⟩, trivial⟩
set_option maxRecDepth 100000 in
theorem ck_82_46 : am_cok am_T0 me_82 cd_82_46 46 := ⟨rfl, .inr ⟨dX5_layFlat_46, rfl⟩, rfl, .inr ⟨dX5_layFlat_47, rfl⟩, rfl, .inr ⟨dX5_layFlat_48, rfl⟩, rfl, .inr ⟨dX5_layFlat_49, rfl⟩, rfl, .inr ⟨dX5_layFlat_52, rfl⟩, rfl, .inr ⟨dX5_layFlat_53, rfl⟩, rfl, .inr ⟨dX5_layFlat_54, rfl⟩, rfl, .inr ⟨dX5_layFlat_55, rfl⟩, rfl, .inr ⟨dX5_layFlat_56, rfl⟩, rfl, .inr ⟨dX5_layFlat_57, rfl⟩, rfl, .inr ⟨dX5_layFlat_58, rfl⟩, rfl, .inr ⟨dX5_layFlat_61, rfl⟩, rfl, .inr ⟨dX5_layFlat_62, rfl⟩, rfl, .inr ⟨dX5_layFlat_63, rfl⟩, rfl, .inr ⟨dX5_layFlat_64, rfl⟩, rfl, .inr ⟨dX5_layFlat_65, rfl⟩, rfl, .inr ⟨dX5_layFlat_66, rfl⟩, rfl, .inr ⟨dX5_layFlat_67, rfl⟩, rfl, .inr ⟨dX5_layFlat_68, rfl⟩, rfl, .inr ⟨dX5_layFlat_69, rfl⟩, rfl, .inr ⟨dX5_layFlat_70, rfl⟩, rfl, .inl ⟨rfl, rfl⟩, trivial⟩
set_option maxRecDepth 100000 in
theorem ck_82_73 : am_cok am_T0 me_82 cd_82_73 73 := ⟨rfl, .inr ⟨dX5_layFlat_73, rfl⟩, rfl, .inr ⟨dX5_layFlat_76, rfl⟩, rfl, .inr ⟨dX5_layFlat_77, rfl⟩, trivial⟩
set_option maxRecDepth 100000 in
theorem ck_82_80 : am_cok am_T0 me_82 cd_82_80 80 := ⟨rfl, .inr ⟨dX5_layFlat_80, rfl⟩, rfl, .inl ⟨rfl, rfl⟩, trivial⟩
set_option maxRecDepth 100000 in
theorem ck_82_81 : am_cok am_T0 me_82 cd_82_81 81 := ⟨rfl, .inr ⟨dX5_layFlat_81, rfl⟩, rfl, .inr ⟨dX5_layFlat_82, rfl⟩, rfl, .inr ⟨dX5_layFlat_83, rfl⟩, rfl, .inr ⟨dX5_layFlat_84, rfl⟩, rfl, .inr ⟨dX5_layFlat_87, rfl⟩, rfl, .inr ⟨dX5_layFlat_88, rfl⟩, rfl, .inr ⟨dX5_layFlat_89, rfl⟩, rfl, .inr ⟨dX5_layFlat_90, rfl⟩, rfl, .inr ⟨dX5_layFlat_91, rfl⟩, rfl, .inr ⟨dX5_layFlat_92, rfl⟩, rfl, .inr ⟨dX5_layFlat_93, rfl⟩, rfl, .inr ⟨dX5_layFlat_96, rfl⟩, rfl, .inr ⟨dX5_layFlat_97, rfl⟩, rfl, .inr ⟨dX5_layFlat_98, rfl⟩, rfl, .inr ⟨dX5_layFlat_99, rfl⟩, rfl, .inr ⟨dX5_layFlat_100, rfl⟩, rfl, .inr ⟨dX5_layFlat_101, rfl⟩, rfl, .inr ⟨dX5_layFlat_102, rfl⟩, rfl, .inr ⟨dX5_layFlat_103, rfl⟩, rfl, .inr ⟨dX5_layFlat_104, rfl⟩, rfl, .inr ⟨dX5_layFlat_105, rfl⟩, rfl, .inl ⟨rfl, rfl⟩, trivial⟩
set_option maxRecDepth 100000 in
theorem ck_82_108 : am_cok am_T0 me_82 cd_82_108 108 := ⟨rfl, .inr ⟨dX5_layFlat_108, rfl⟩, rfl, .inr ⟨dX5_layFlat_111, rfl⟩, rfl, .inr ⟨dX5_layFlat_112, rfl⟩, trivial⟩
set_option maxRecDepth 100000 in
theorem ck_82_115 : am_cok am_T0 me_82 cd_82_115 115 := ⟨rfl, .inr ⟨dX5_layFlat_115, rfl⟩, rfl, .inl ⟨rfl, rfl⟩, trivial⟩
set_option maxRecDepth 100000 in
theorem ck_82_116 : am_cok am_T0 me_82 cd_82_116 116 := ⟨rfl, .inr ⟨dX5_layFlat_116, rfl⟩, rfl, .inr ⟨dX5_layFlat_117, rfl⟩, rfl, .inr ⟨dX5_layFlat_118, rfl⟩, rfl, .inr ⟨dX5_layFlat_119, rfl⟩, rfl, .inr ⟨dX5_layFlat_122, rfl⟩, rfl, .inr ⟨dX5_layFlat_123, rfl⟩, rfl, .inr ⟨dX5_layFlat_124, rfl⟩, rfl, .inr ⟨dX5_layFlat_125, rfl⟩, rfl, .inr ⟨dX5_layFlat_126, rfl⟩, rfl, .inr ⟨dX5_layFlat_127, rfl⟩, rfl, .inr ⟨dX5_layFlat_128, rfl⟩, rfl, .inr ⟨dX5_layFlat_131, rfl⟩, rfl, .inr ⟨dX5_layFlat_132, rfl⟩, rfl, .inr ⟨dX5_layFlat_133, rfl⟩, rfl, .inr ⟨dX5_layFlat_134, rfl⟩, rfl, .inr ⟨dX5_layFlat_135, rfl⟩, rfl, .inr ⟨dX5_layFlat_136, rfl⟩, rfl, .inr ⟨dX5_layFlat_137, rfl⟩, rfl, .inr ⟨dX5_layFlat_138, rfl⟩, rfl, .inr ⟨dX5_layFlat_139, rfl⟩, rfl, .inr ⟨dX5_layFlat_140, rfl⟩, rfl, .inl ⟨rfl, rfl⟩, trivial⟩
set_option maxRecDepth 100000 in
theorem ck_82_143 : am_cok am_T0 me_82 cd_82_143 143 := ⟨rfl, .inr ⟨dX5_layFlat_143, rfl⟩, rfl, .inr ⟨dX5_layFlat_146, rfl⟩, rfl, .inr ⟨dX5_layFlat_147, rfl⟩, trivial⟩
set_option maxRecDepth 100000 in
theorem ck_82_150 : am_cok am_T0 me_82 cd_82_150 150 := ⟨rfl, .inr ⟨dX5_layFlat_150, rfl⟩, rfl, .inl ⟨rfl, rfl⟩, trivial⟩
set_option maxRecDepth 100000 in
theorem ck_82_151 : am_cok am_T0 me_82 cd_82_151 151 := ⟨rfl, .inr ⟨dX5_layFlat_151, rfl⟩, rfl, .inr ⟨dX5_layFlat_152, rfl⟩, rfl, .inr ⟨dX5_layFlat_153, rfl⟩, rfl, .inr ⟨dX5_layFlat_154, rfl⟩, rfl, .inl ⟨rfl, rfl⟩, trivial⟩
set_option maxRecDepth 100000 in
theorem ck_82_155 : am_cok am_T0 me_82 cd_82_155 155 := ⟨rfl, .inr ⟨dX5_layFlat_155, rfl⟩, rfl, .inr ⟨dX5_layFlat_156, rfl⟩, rfl, .inr ⟨dX5_layFlat_159, rfl⟩, rfl, .inr ⟨dX5_layFlat_160, rfl⟩, rfl, .inr ⟨dX5_layFlat_163, rfl⟩, rfl, .inr ⟨dX5_layFlat_164, rfl⟩, rfl, .inr ⟨dX5_layFlat_165, rfl⟩, rfl, .inr ⟨dX5_layFlat_168, rfl⟩, rfl, .inr ⟨dX5_layFlat_169, rfl⟩, rfl, .inr ⟨dX5_layFlat_172, rfl⟩, rfl, .inr ⟨dX5_layFlat_173, rfl⟩, trivial⟩
set_option maxRecDepth 100000 in
theorem ck_82_176 : am_cok am_T0 me_82 cd_82_176 176 := ⟨rfl, .inr ⟨dX5_layFlat_176, rfl⟩, rfl, .inr ⟨dX5_layFlat_177, rfl⟩, rfl, .inr ⟨dX5_layFlat_180, rfl⟩, rfl, .inr ⟨dX5_layFlat_181, rfl⟩, rfl, .inr ⟨dX5_layFlat_182, rfl⟩, rfl, .inr ⟨dX5_layFlat_183, rfl⟩, rfl, .inr ⟨dX5_layFlat_186, rfl⟩, rfl, .inr ⟨dX5_layFlat_187, rfl⟩, rfl, .inr ⟨dX5_layFlat_190, rfl⟩, trivial⟩
set_option maxRecDepth 100000 in
theorem ck_82_193 : am_cok am_T0 me_82 cd_82_193 193 := ⟨rfl, .inr ⟨dX5_layFlat_193, rfl⟩, rfl, .inl ⟨rfl, rfl⟩, trivial⟩
set_option maxRecDepth 100000 in
theorem ck_82_194 : am_cok am_T0 me_82 cd_82_194 194 := ⟨rfl, .inr ⟨dX5_layFlat_194, rfl⟩, rfl, .inr ⟨dX5_layFlat_196, rfl⟩, rfl, .inr ⟨dX5_layFlat_197, rfl⟩, rfl, .inr ⟨dX5_layFlat_200, rfl⟩, rfl, .inr ⟨dX5_layFlat_201, rfl⟩, rfl, .inr ⟨dX5_layFlat_202, rfl⟩, rfl, .inr ⟨dX5_layFlat_203, rfl⟩, rfl, .inr ⟨dX5_layFlat_206, rfl⟩, rfl, .inr ⟨dX5_layFlat_207, rfl⟩, rfl, .inr ⟨dX5_layFlat_210, rfl⟩, rfl, .inr ⟨dX5_layFlat_211, rfl⟩, trivial⟩
set_option maxRecDepth 100000 in
theorem ck_82_214 : am_cok am_T0 me_82 cd_82_214 214 := ⟨rfl, .inr ⟨dX5_layFlat_214, rfl⟩, rfl, .inr ⟨dX5_layFlat_215, rfl⟩, rfl, .inr ⟨dX5_layFlat_218, rfl⟩, rfl, .inr ⟨dX5_layFlat_219, rfl⟩, rfl, .inr ⟨dX5_layFlat_220, rfl⟩, rfl, .inr ⟨dX5_layFlat_221, rfl⟩, rfl, .inr ⟨dX5_layFlat_224, rfl⟩, rfl, .inr ⟨dX5_layFlat_225, rfl⟩, rfl, .inr ⟨dX5_layFlat_228, rfl⟩, trivial⟩
set_option maxRecDepth 100000 in
theorem ck_82_231 : am_cok am_T0 me_82 cd_82_231 231 := ⟨rfl, .inr ⟨dX5_layFlat_231, rfl⟩, rfl, .inl ⟨rfl, rfl⟩, trivial⟩
set_option maxRecDepth 100000 in
theorem ck_82_232 : am_cok am_T0 me_82 cd_82_232 232 := ⟨rfl, .inr ⟨dX5_layFlat_232, rfl⟩, rfl, .inr ⟨dX5_layFlat_234, rfl⟩, rfl, .inr ⟨dX5_layFlat_235, rfl⟩, rfl, .inr ⟨dX5_layFlat_238, rfl⟩, rfl, .inr ⟨dX5_layFlat_239, rfl⟩, rfl, .inr ⟨dX5_layFlat_240, rfl⟩, rfl, .inr ⟨dX5_layFlat_241, rfl⟩, rfl, .inr ⟨dX5_layFlat_242, rfl⟩, rfl, .inr ⟨dX5_layFlat_243, rfl⟩, rfl, .inr ⟨dX5_layFlat_245, rfl⟩, rfl, .inr ⟨dX5_layFlat_246, rfl⟩, rfl, .inr ⟨dX5_layFlat_247, rfl⟩, rfl, .inr ⟨dX5_layFlat_248, rfl⟩, rfl, .inr ⟨dX5_layFlat_251, rfl⟩, rfl, .inr ⟨dX5_layFlat_252, rfl⟩, rfl, .inr ⟨dX5_layFlat_253, rfl⟩, rfl, .inr ⟨dX5_layFlat_254, rfl⟩, rfl, .inr ⟨dX5_layFlat_255, rfl⟩, rfl, .inr ⟨dX5_layFlat_256, rfl⟩, rfl, .inr ⟨dX5_layFlat_257, rfl⟩, rfl, .inl ⟨rfl, rfl⟩, trivial⟩
set_option maxRecDepth 100000 in
theorem ck_82_258 : am_cok am_T0 me_82 cd_82_258 258 := ⟨rfl, .inr ⟨dX5_layFlat_258, rfl⟩, rfl, .inr ⟨dX5_layFlat_260, rfl⟩, rfl, .inr ⟨dX5_layFlat_261, rfl⟩, rfl, .inr ⟨dX5_layFlat_262, rfl⟩, rfl, .inr ⟨dX5_layFlat_263, rfl⟩, rfl, .inr ⟨dX5_layFlat_266, rfl⟩, rfl, .inr ⟨dX5_layFlat_267, rfl⟩, rfl, .inr ⟨dX5_layFlat_268, rfl⟩, rfl, .inr ⟨dX5_layFlat_269, rfl⟩, rfl, .inr ⟨dX5_layFlat_270, rfl⟩, rfl, .inr ⟨dX5_layFlat_271, rfl⟩, rfl, .inr ⟨dX5_layFlat_272, rfl⟩, rfl, .inr ⟨dX5_layFlat_273, rfl⟩, rfl, .inr ⟨dX5_layFlat_275, rfl⟩, rfl, .inr ⟨dX5_layFlat_276, rfl⟩, rfl, .inr ⟨dX5_layFlat_277, rfl⟩, rfl, .inr ⟨dX5_layFlat_278, rfl⟩, rfl, .inr ⟨dX5_layFlat_281, rfl⟩, rfl, .inl ⟨rfl, rfl⟩, trivial⟩
set_option maxRecDepth 100000 in
theorem ck_82_282 : am_cok am_T0 me_82 cd_82_282 282 := ⟨rfl, .inr ⟨dX5_layFlat_282, rfl⟩, rfl, .inr ⟨dX5_layFlat_283, rfl⟩, rfl, .inr ⟨dX5_layFlat_284, rfl⟩, rfl, .inr ⟨dX5_layFlat_285, rfl⟩, rfl, .inr ⟨dX5_layFlat_286, rfl⟩, rfl, .inr ⟨dX5_layFlat_287, rfl⟩, rfl, .inr ⟨dX5_layFlat_288, rfl⟩, rfl, .inr ⟨dX5_layFlat_290, rfl⟩, rfl, .inr ⟨dX5_layFlat_291, rfl⟩, rfl, .inr ⟨dX5_layFlat_292, rfl⟩, rfl, .inr ⟨dX5_layFlat_293, rfl⟩, rfl, .inr ⟨dX5_layFlat_296, rfl⟩, rfl, .inr ⟨dX5_layFlat_297, rfl⟩, rfl, .inr ⟨dX5_layFlat_298, rfl⟩, rfl, .inr ⟨dX5_layFlat_299, rfl⟩, trivial⟩
set_option maxRecDepth 100000 in
theorem ck_82_302 : am_cok am_T0 me_82 cd_82_302 302 := ⟨rfl, .inr ⟨dX5_layFlat_302, rfl⟩, rfl, .inr ⟨dX5_layFlat_305, rfl⟩, trivial⟩
set_option maxRecDepth 100000 in
theorem ck_82_308 : am_cok am_T0 me_82 cd_82_308 308 := ⟨rfl, .inr ⟨dX5_layFlat_308, rfl⟩, rfl, .inr ⟨dX5_layFlat_309, rfl⟩, rfl, .inr ⟨dX5_layFlat_312, rfl⟩, rfl, .inr ⟨dX5_layFlat_313, rfl⟩, rfl, .inr ⟨dX5_layFlat_314, rfl⟩, rfl, .inr ⟨dX5_layFlat_315, rfl⟩, rfl, .inr ⟨dX5_layFlat_316, rfl⟩, rfl, .inr ⟨dX5_layFlat_319, rfl⟩, rfl, .inr ⟨dX5_layFlat_320, rfl⟩, rfl, .inr ⟨dX5_layFlat_321, rfl⟩, rfl, .inr ⟨dX5_layFlat_322, rfl⟩, rfl, .inr ⟨dX5_layFlat_323, rfl⟩, rfl, .inl ⟨rfl, rfl⟩, trivial⟩
set_option maxRecDepth 100000 in
theorem ck_82_325 : am_cok am_T0 me_82 cd_82_325 325 := ⟨rfl, .inr ⟨dX5_layFlat_325, rfl⟩, rfl, .inr ⟨dX5_layFlat_327, rfl⟩, rfl, .inr ⟨dX5_layFlat_328, rfl⟩, rfl, .inr ⟨dX5_layFlat_331, rfl⟩, rfl, .inr ⟨dX5_layFlat_334, rfl⟩, rfl, .inr ⟨dX5_layFlat_335, rfl⟩, rfl, .inr ⟨dX5_layFlat_338, rfl⟩, rfl, .inr ⟨dX5_layFlat_339, rfl⟩, rfl, .inr ⟨dX5_layFlat_341, rfl⟩, rfl, .inr ⟨dX5_layFlat_342, rfl⟩, rfl, .inr ⟨dX5_layFlat_343, rfl⟩, rfl, .inr ⟨dX5_layFlat_344, rfl⟩, rfl, .inr ⟨dX5_layFlat_347, rfl⟩, rfl, .inr ⟨dX5_layFlat_348, rfl⟩, rfl, .inr ⟨dX5_layFlat_351, rfl⟩, rfl, .inr ⟨dX5_layFlat_352, rfl⟩, rfl, .inr ⟨dX5_layFlat_354, rfl⟩, rfl, .inr ⟨dX5_layFlat_355, rfl⟩, rfl, .inr ⟨dX5_layFlat_356, rfl⟩, trivial⟩
set_option maxRecDepth 100000 in
theorem ck_82_359 : am_cok am_T0 me_82 cd_82_359 359 := ⟨rfl, .inr ⟨dX5_layFlat_359, rfl⟩, rfl, .inl ⟨rfl, rfl⟩, trivial⟩
set_option maxRecDepth 100000 in
theorem ck_82_360 : am_cok am_T0 me_82 cd_82_360 360 := ⟨rfl, .inr ⟨dX5_layFlat_360, rfl⟩, rfl, .inr ⟨dX5_layFlat_361, rfl⟩, rfl, .inr ⟨dX5_layFlat_362, rfl⟩, rfl, .inr ⟨dX5_layFlat_365, rfl⟩, rfl, .inr ⟨dX5_layFlat_366, rfl⟩, rfl, .inr ⟨dX5_layFlat_368, rfl⟩, rfl, .inr ⟨dX5_layFlat_369, rfl⟩, rfl, .inr ⟨dX5_layFlat_370, rfl⟩, rfl, .inr ⟨dX5_layFlat_371, rfl⟩, rfl, .inr ⟨dX5_layFlat_372, rfl⟩, rfl, .inr ⟨dX5_layFlat_373, rfl⟩, rfl, .inr ⟨dX5_layFlat_376, rfl⟩, rfl, .inr ⟨dX5_layFlat_377, rfl⟩, rfl, .inr ⟨dX5_layFlat_380, rfl⟩, rfl, .inr ⟨dX5_layFlat_381, rfl⟩, rfl, .inr ⟨dX5_layFlat_383, rfl⟩, rfl, .inr ⟨dX5_layFlat_384, rfl⟩, rfl, .inr ⟨dX5_layFlat_385, rfl⟩, rfl, .inr ⟨dX5_layFlat_386, rfl⟩, rfl, .inr ⟨dX5_layFlat_387, rfl⟩, trivial⟩
set_option maxRecDepth 100000 in
theorem ck_82_390 : am_cok am_T0 me_82 cd_82_390 390 := ⟨rfl, .inr ⟨dX5_layFlat_390, rfl⟩, rfl, .inl ⟨rfl, rfl⟩, trivial⟩
set_option maxRecDepth 100000 in
theorem ck_82_391 : am_cok am_T0 me_82 cd_82_391 391 := ⟨rfl, .inr ⟨dX5_layFlat_391, rfl⟩, rfl, .inr ⟨dX5_layFlat_392, rfl⟩, rfl, .inr ⟨dX5_layFlat_395, rfl⟩, trivial⟩
set_option maxRecDepth 100000 in
theorem ck_82_398 : am_cok am_T0 me_82 cd_82_398 398 := ⟨rfl, .inr ⟨dX5_layFlat_398, rfl⟩, rfl, .inr ⟨dX5_layFlat_399, rfl⟩, rfl, .inl ⟨rfl, rfl⟩, trivial⟩
set_option maxRecDepth 100000 in
theorem ck_82_401 : am_cok am_T0 me_82 cd_82_401 401 := ⟨rfl, .inr ⟨dX5_layFlat_401, rfl⟩, rfl, .inr ⟨dX5_layFlat_403, rfl⟩, rfl, .inr ⟨dX5_layFlat_404, rfl⟩, rfl, .inr ⟨dX5_layFlat_407, rfl⟩, rfl, .inr ⟨dX5_layFlat_410, rfl⟩, rfl, .inr ⟨dX5_layFlat_411, rfl⟩, rfl, .inr ⟨dX5_layFlat_414, rfl⟩, rfl, .inr ⟨dX5_layFlat_415, rfl⟩, rfl, .inr ⟨dX5_layFlat_417, rfl⟩, rfl, .inr ⟨dX5_layFlat_418, rfl⟩, rfl, .inr ⟨dX5_layFlat_419, rfl⟩, rfl, .inr ⟨dX5_layFlat_420, rfl⟩, rfl, .inr ⟨dX5_layFlat_421, rfl⟩, rfl, .inr ⟨dX5_layFlat_422, rfl⟩, rfl, .inr ⟨dX5_layFlat_423, rfl⟩, rfl, .inr ⟨dX5_layFlat_424, rfl⟩, rfl, .inr ⟨dX5_layFlat_427, rfl⟩, rfl, .inr ⟨dX5_layFlat_428, rfl⟩, rfl, .inr ⟨dX5_layFlat_430, rfl⟩, rfl, .inr ⟨dX5_layFlat_431, rfl⟩, rfl, .inr ⟨dX5_layFlat_432, rfl⟩, rfl, .inl ⟨rfl, rfl⟩, trivial⟩
set_option maxRecDepth 100000 in
theorem ck_82_433 : am_cok am_T0 me_82 cd_82_433 433 := ⟨rfl, .inr ⟨dX5_layFlat_433, rfl⟩, rfl, .inr ⟨dX5_layFlat_434, rfl⟩, rfl, .inr ⟨dX5_layFlat_435, rfl⟩, rfl, .inr ⟨dX5_layFlat_436, rfl⟩, rfl, .inr ⟨dX5_layFlat_437, rfl⟩, rfl, .inr ⟨dX5_layFlat_438, rfl⟩, rfl, .inr ⟨dX5_layFlat_439, rfl⟩, rfl, .inr ⟨dX5_layFlat_442, rfl⟩, rfl, .inr ⟨dX5_layFlat_443, rfl⟩, rfl, .inr ⟨dX5_layFlat_445, rfl⟩, rfl, .inr ⟨dX5_layFlat_446, rfl⟩, rfl, .inr ⟨dX5_layFlat_447, rfl⟩, rfl, .inr ⟨dX5_layFlat_448, rfl⟩, rfl, .inr ⟨dX5_layFlat_449, rfl⟩, rfl, .inr ⟨dX5_layFlat_450, rfl⟩, rfl, .inr ⟨dX5_layFlat_451, rfl⟩, rfl, .inr ⟨dX5_layFlat_452, rfl⟩, rfl, .inl ⟨rfl, rfl⟩, trivial⟩
set_option maxRecDepth 100000 in
theorem ck_82_453 : am_cok am_T0 me_82 cd_82_453 453 := ⟨rfl, .inr ⟨dX5_layFlat_453, rfl⟩, rfl, .inr ⟨dX5_layFlat_454, rfl⟩, rfl, .inr ⟨dX5_layFlat_457, rfl⟩, rfl, .inr ⟨dX5_layFlat_458, rfl⟩, rfl, .inr ⟨dX5_layFlat_460, rfl⟩, rfl, .inr ⟨dX5_layFlat_461, rfl⟩, rfl, .inr ⟨dX5_layFlat_462, rfl⟩, rfl, .inr ⟨dX5_layFlat_463, rfl⟩, rfl, .inr ⟨dX5_layFlat_464, rfl⟩, rfl, .inr ⟨dX5_layFlat_465, rfl⟩, rfl, .inr ⟨dX5_layFlat_466, rfl⟩, rfl, .inr ⟨dX5_layFlat_467, rfl⟩, rfl, .inr ⟨dX5_layFlat_468, rfl⟩, rfl, .inr ⟨dX5_layFlat_471, rfl⟩, trivial⟩
set_option maxRecDepth 100000 in
theorem ck_82_474 : am_cok am_T0 me_82 cd_82_474 474 := ⟨rfl, .inr ⟨dX5_layFlat_474, rfl⟩, trivial⟩
set_option maxRecDepth 100000 in
theorem ck_82 : ∀ p ∈ bl_82, am_cok am_T0 me_82 p.2 p.1 := List.forall_mem_cons.mpr ⟨ck_82_0, List.forall_mem_cons.mpr ⟨ck_82_9, List.forall_mem_cons.mpr ⟨ck_82_38, List.forall_mem_cons.mpr ⟨ck_82_45, List.forall_mem_cons.mpr ⟨ck_82_46, List.forall_mem_cons.mpr ⟨ck_82_73, List.forall_mem_cons.mpr ⟨ck_82_80, List.forall_mem_cons.mpr ⟨ck_82_81, List.forall_mem_cons.mpr ⟨ck_82_108, List.forall_mem_cons.mpr ⟨ck_82_115, List.forall_mem_cons.mpr ⟨ck_82_116, List.forall_mem_cons.mpr ⟨ck_82_143, List.forall_mem_cons.mpr ⟨ck_82_150, List.forall_mem_cons.mpr ⟨ck_82_151, List.forall_mem_cons.mpr ⟨ck_82_155, List.forall_mem_cons.mpr ⟨ck_82_176, List.forall_mem_cons.mpr ⟨ck_82_193, List.forall_mem_cons.mpr ⟨ck_82_194, List.forall_mem_cons.mpr ⟨ck_82_214, List.forall_mem_cons.mpr ⟨ck_82_231, List.forall_mem_cons.mpr ⟨ck_82_232, List.forall_mem_cons.mpr ⟨ck_82_258, List.forall_mem_cons.mpr ⟨ck_82_282, List.forall_mem_cons.mpr ⟨ck_82_302, List.forall_mem_cons.mpr ⟨ck_82_308, List.forall_mem_cons.mpr ⟨ck_82_325, List.forall_mem_cons.mpr ⟨ck_82_359, List.forall_mem_cons.mpr ⟨ck_82_360, List.forall_mem_cons.mpr ⟨ck_82_390, List.forall_mem_cons.mpr ⟨ck_82_391, List.forall_mem_cons.mpr ⟨ck_82_398, List.forall_mem_cons.mpr ⟨ck_82_401, List.forall_mem_cons.mpr ⟨ck_82_433, List.forall_mem_cons.mpr ⟨ck_82_453, List.forall_mem_cons.mpr ⟨ck_82_474, fun _ h => absurd h List.not_mem_nil⟩⟩⟩⟩⟩⟩⟩⟩⟩⟩⟩⟩⟩⟩⟩⟩⟩⟩⟩⟩⟩⟩⟩⟩⟩⟩⟩⟩⟩⟩⟩⟩⟩⟩⟩
set_option maxRecDepth 100000 in
theorem ck_83_0 : am_cok am_T0 me_83 cd_83_0 0 := ⟨rfl, .inr ⟨dX5_areOver_0, rfl⟩, rfl, .inr ⟨dX5_areOver_1, rfl⟩, rfl, .inr ⟨dX5_areOver_4, rfl⟩, rfl, .inr ⟨dX5_areOver_5, rfl⟩, rfl, .inr ⟨dX5_areOver_6, rfl⟩, rfl, .inr ⟨dX5_areOver_7, rfl⟩, rfl, .inr ⟨dX5_areOver_8, rfl⟩, rfl, .inr ⟨dX5_areOver_9, rfl⟩, rfl, .inr ⟨dX5_areOver_12, rfl⟩, rfl, .inr ⟨dX5_areOver_13, rfl⟩, rfl, .inr ⟨dX5_areOver_14, rfl⟩, rfl, .inr ⟨dX5_areOver_15, rfl⟩, rfl, .inr ⟨dX5_areOver_16, rfl⟩, rfl, .inr ⟨dX5_areOver_17, rfl⟩, rfl, .inr ⟨dX5_areOver_18, rfl⟩, rfl, .inr ⟨dX5_areOver_21, rfl⟩, rfl, .inr ⟨dX5_areOver_22, rfl⟩, rfl, .inr ⟨dX5_areOver_25, rfl⟩, rfl, .inr ⟨dX5_areOver_26, rfl⟩, rfl, .inr ⟨dX5_areOver_27, rfl⟩, rfl, .inr ⟨dX5_areOver_28, rfl⟩, rfl, .inl ⟨rfl, rfl⟩, trivial⟩
set_option maxRecDepth 100000 in
theorem ck_83_29 : am_cok am_T0 me_83 cd_83_29 29 := ⟨rfl, .inr ⟨dX5_areOver_29, rfl⟩, rfl, .inr ⟨dX5_areOver_30, rfl⟩, rfl, .inr ⟨dX5_areOver_33, rfl⟩, rfl, .inr ⟨dX5_areOver_34, rfl⟩, rfl, .inr ⟨dX5_areOver_35, rfl⟩, rfl, .inr ⟨dX5_areOver_36, rfl⟩, rfl, .inr ⟨dX5_areOver_37, rfl⟩, rfl, .inr ⟨dX5_areOver_38, rfl⟩, rfl, .inr ⟨dX5_areOver_39, rfl⟩, rfl, .inr ⟨dX5_areOver_42, rfl⟩, rfl, .inr ⟨dX5_areOver_43, rfl⟩, rfl, .inr ⟨dX5_areOver_46, rfl⟩, rfl, .inr ⟨dX5_areOver_47, rfl⟩, rfl, .inr ⟨dX5_areOver_48, rfl⟩, rfl, .inr ⟨dX5_areOver_49, rfl⟩, rfl, .inr ⟨dX5_areOver_50, rfl⟩, rfl, .inr ⟨dX5_areOver_51, rfl⟩, rfl, .inr ⟨dX5_areOver_52, rfl⟩, rfl, .inr ⟨dX5_areOver_53, rfl⟩, rfl, .inr ⟨dX5_areOver_56, rfl⟩, rfl, .inr ⟨dX5_areOver_57, rfl⟩, rfl, .inl ⟨rfl, rfl⟩, trivial⟩
set_option maxRecDepth 100000 in
theorem ck_83_58 : am_cok am_T0 me_83 cd_83_58 58 := ⟨rfl, .inr ⟨dX5_areOver_58, rfl⟩, rfl, .inr ⟨dX5_areOver_59, rfl⟩, rfl, .inr ⟨dX5_areOver_60, rfl⟩, rfl, .inr ⟨dX5_areOver_61, rfl⟩, rfl, .inr ⟨dX5_areOver_62, rfl⟩, rfl, .inr ⟨dX5_areOver_65, rfl⟩, rfl, .inr ⟨dX5_areOver_66, rfl⟩, rfl, .inr ⟨dX5_areOver_69, rfl⟩, rfl, .inr ⟨dX5_areOver_70, rfl⟩, rfl, .inr ⟨dX5_areOver_71, rfl⟩, rfl, .inr ⟨dX5_areOver_72, rfl⟩, rfl, .inr ⟨dX5_areOver_73, rfl⟩, rfl, .inr ⟨dX5_areOver_74, rfl⟩, rfl, .inr ⟨dX5_areOver_75, rfl⟩, rfl, .inr ⟨dX5_areOver_76, rfl⟩, rfl, .inr ⟨dX5_areOver_79, rfl⟩, rfl, .inr ⟨dX5_areOver_80, rfl⟩, rfl, .inr ⟨dX5_areOver_81, rfl⟩, rfl, .inr ⟨dX5_areOver_82, rfl⟩, rfl, .inr ⟨dX5_areOver_83, rfl⟩, rfl, .inr ⟨dX5_areOver_84, rfl⟩, rfl, .inl ⟨rfl, rfl⟩, trivial⟩
set_option maxRecDepth 100000 in
theorem ck_83_85 : am_cok am_T0 me_83 cd_83_85 85 := ⟨rfl, .inr ⟨dX5_areOver_85, rfl⟩, rfl, .inr ⟨dX5_areOver_88, rfl⟩, rfl, .inr ⟨dX5_areOver_89, rfl⟩, trivial⟩
set_option maxRecDepth 100000 in
theorem ck_83_92 : am_cok am_T0 me_83 cd_83_92 92 := ⟨rfl, .inr ⟨dX5_areOver_92, rfl⟩, rfl, .inl ⟨rfl, rfl⟩, trivial⟩
set_option maxRecDepth 100000 in
theorem ck_83_93 : am_cok am_T0 me_83 cd_83_93 93 := ⟨rfl, .inr ⟨dX5_areOver_93, rfl⟩, trivial⟩
set_option maxRecDepth 100000 in
theorem ck_83 : ∀ p ∈ bl_83, am_cok am_T0 me_83 p.2 p.1 := List.forall_mem_cons.mpr ⟨ck_83_0, List.forall_mem_cons.mpr ⟨ck_83_29, List.forall_mem_cons.mpr ⟨ck_83_58, List.forall_mem_cons.mpr ⟨ck_83_85, List.forall_mem_cons.mpr ⟨ck_83_92, List.forall_mem_cons.mpr ⟨ck_83_93, fun _ h => absurd h List.not_mem_nil⟩⟩⟩⟩⟩⟩
set_option maxRecDepth 100000 in
theorem ck_84_0 : am_cok am_T0 me_84 cd_84_0 0 := ⟨rfl, .inr ⟨dX5_flat_0, rfl⟩, rfl, .inr ⟨dX5_flat_1, rfl⟩, rfl, .inr ⟨dX5_flat_2, rfl⟩, rfl, .inr ⟨dX5_flat_5, rfl⟩, rfl, .inr ⟨dX5_flat_6, rfl⟩, rfl, .inr ⟨dX5_flat_9, rfl⟩, rfl, .inr ⟨dX5_flat_12, rfl⟩, rfl, .inr ⟨dX5_flat_13, rfl⟩, trivial⟩
set_option maxRecDepth 100000 in
theorem ck_84_14 : am_cok am_T0 me_84 cd_84_14 14 := ⟨rfl, .inr ⟨dX5_flat_14, rfl⟩, rfl, .inr ⟨dX5_flat_15, rfl⟩, rfl, .inl ⟨rfl, rfl⟩, trivial⟩
set_option maxRecDepth 100000 in
theorem ck_84_18 : am_cok am_T0 me_84 cd_84_18 18 := ⟨rfl, .inr ⟨dX5_flat_18, rfl⟩, rfl, .inr ⟨dX5_flat_19, rfl⟩, rfl, .inr ⟨dX5_flat_20, rfl⟩, rfl, .inr ⟨dX5_flat_23, rfl⟩, rfl, .inr ⟨dX5_flat_24, rfl⟩, rfl, .inr ⟨dX5_flat_25, rfl⟩, rfl, .inr ⟨dX5_flat_28, rfl⟩, rfl, .inr ⟨dX5_flat_29, rfl⟩, rfl, .inl ⟨rfl, rfl⟩, trivial⟩
set_option maxRecDepth 100000 in
theorem ck_84_30 : am_cok am_T0 me_84 cd_84_30 30 := ⟨rfl, .inr ⟨dX5_flat_30, rfl⟩, rfl, .inr ⟨dX5_flat_31, rfl⟩, rfl, .inr ⟨dX5_flat_32, rfl⟩, rfl, .inr ⟨dX5_flat_35, rfl⟩, rfl, .inr ⟨dX5_flat_38, rfl⟩, rfl, .inr ⟨dX5_flat_39, rfl⟩, rfl, .inr ⟨dX5_flat_42, rfl⟩, rfl, .inr ⟨dX5_flat_43, rfl⟩, rfl, .inr ⟨dX5_flat_44, rfl⟩, rfl, .inr ⟨dX5_flat_45, rfl⟩, rfl, .inr ⟨dX5_flat_46, rfl⟩, rfl, .inr ⟨dX5_flat_47, rfl⟩, rfl, .inr ⟨dX5_flat_50, rfl⟩, rfl, .inr ⟨dX5_flat_51, rfl⟩, rfl, .inr ⟨dX5_flat_52, rfl⟩, rfl, .inr ⟨dX5_flat_53, rfl⟩, rfl, .inr ⟨dX5_flat_54, rfl⟩, rfl, .inr ⟨dX5_flat_55, rfl⟩, rfl, .inr ⟨dX5_flat_56, rfl⟩, rfl, .inr ⟨dX5_flat_59, rfl⟩, rfl, .inr ⟨dX5_flat_60, rfl⟩, rfl, .inl ⟨rfl, rfl⟩, trivial⟩
set_option maxRecDepth 100000 in
theorem ck_84_63 : am_cok am_T0 me_84 cd_84_63 63 := ⟨rfl, .inr ⟨dX5_flat_63, rfl⟩, rfl, .inr ⟨dX5_flat_64, rfl⟩, rfl, .inr ⟨dX5_flat_65, rfl⟩, rfl, .inr ⟨dX5_flat_66, rfl⟩, rfl, .inr ⟨dX5_flat_67, rfl⟩, rfl, .inr ⟨dX5_flat_68, rfl⟩, rfl, .inr ⟨dX5_flat_69, rfl⟩, rfl, .inr ⟨dX5_flat_70, rfl⟩, rfl, .inr ⟨dX5_flat_73, rfl⟩, rfl, .inr ⟨dX5_flat_74, rfl⟩, rfl, .inr ⟨dX5_flat_75, rfl⟩, rfl, .inr ⟨dX5_flat_76, rfl⟩, rfl, .inr ⟨dX5_flat_77, rfl⟩, rfl, .inr ⟨dX5_flat_78, rfl⟩, rfl, .inr ⟨dX5_flat_79, rfl⟩, rfl, .inl ⟨rfl, rfl⟩, trivial⟩
set_option maxRecDepth 100000 in
theorem ck_84_82 : am_cok am_T0 me_84 cd_84_82 82 := ⟨rfl, .inr ⟨dX5_flat_82, rfl⟩, rfl, .inr ⟨dX5_flat_83, rfl⟩, rfl, .inr ⟨dX5_flat_84, rfl⟩, rfl, .inr ⟨dX5_flat_87, rfl⟩, rfl, .inr ⟨dX5_flat_88, rfl⟩, trivial⟩
set_option maxRecDepth 100000 in
theorem ck_84_89 : am_cok am_T0 me_84 cd_84_89 89 := ⟨rfl, .inr ⟨dX5_flat_89, rfl⟩, rfl, .inr ⟨dX5_flat_92, rfl⟩, trivial⟩
set_option maxRecDepth 100000 in
theorem ck_84_95 : am_cok am_T0 me_84 cd_84_95 95 := ⟨rfl, .inr ⟨dX5_flat_95, rfl⟩, rfl, .inr ⟨dX5_flat_96, rfl⟩, rfl, .inl ⟨rfl, rfl⟩, trivial⟩
set_option maxRecDepth 100000 in
theorem ck_84_97 : am_cok am_T0 me_84 cd_84_97 97 := ⟨rfl, .inr ⟨dX5_flat_97, rfl⟩, rfl, .inr ⟨dX5_flat_98, rfl⟩, rfl, .inr ⟨dX5_flat_99, rfl⟩, rfl, .inr ⟨dX5_flat_102, rfl⟩, rfl, .inr ⟨dX5_flat_105, rfl⟩, rfl, .inr ⟨dX5_flat_106, rfl⟩, rfl, .inr ⟨dX5_flat_107, rfl⟩, rfl, .inr ⟨dX5_flat_108, rfl⟩, rfl, .inl ⟨rfl, rfl⟩, trivial⟩
set_option maxRecDepth 100000 in
theorem ck_84_109 : am_cok am_T0 me_84 cd_84_109 109 := ⟨rfl, .inr ⟨dX5_flat_109, rfl⟩, rfl, .inr ⟨dX5_flat_110, rfl⟩, rfl, .inr ⟨dX5_flat_111, rfl⟩, rfl, .inr ⟨dX5_flat_114, rfl⟩, rfl, .inr ⟨dX5_flat_117, rfl⟩, rfl, .inr ⟨dX5_flat_118, rfl⟩, rfl, .inr ⟨dX5_flat_119, rfl⟩, rfl, .inr ⟨dX5_flat_120, rfl⟩, rfl, .inl ⟨rfl, rfl⟩, trivial⟩
set_option maxRecDepth 100000 in
theorem ck_84_123 : am_cok am_T0 me_84 cd_84_123 123 := ⟨rfl, .inr ⟨dX5_flat_123, rfl⟩, rfl, .inr ⟨dX5_flat_126, rfl⟩, rfl, .inr ⟨dX5_flat_127, rfl⟩, rfl, .inr ⟨dX5_flat_128, rfl⟩, rfl, .inr ⟨dX5_flat_131, rfl⟩, rfl, .inr ⟨dX5_flat_132, rfl⟩, rfl, .inr ⟨dX5_flat_133, rfl⟩, rfl, .inr ⟨dX5_flat_136, rfl⟩, rfl, .inr ⟨dX5_flat_137, rfl⟩, trivial⟩
set_option maxRecDepth 100000 in
theorem ck_84_138 : am_cok am_T0 me_84 cd_84_138 138 := ⟨rfl, .inr ⟨dX5_flat_138, rfl⟩, rfl, .inr ⟨dX5_flat_141, rfl⟩, trivial⟩
set_option maxRecDepth 100000 in
theorem ck_84_144 : am_cok am_T0 me_84 cd_84_144 144 := ⟨rfl, .inr ⟨dX5_flat_144, rfl⟩, rfl, .inr ⟨dX5_flat_147, rfl⟩, trivial⟩
set_option maxRecDepth 100000 in
theorem ck_84_150 : am_cok am_T0 me_84 cd_84_150 150 := ⟨rfl, .inr ⟨dX5_flat_150, rfl⟩, rfl, .inr ⟨dX5_flat_151, rfl⟩, trivial⟩
set_option maxRecDepth 100000 in
theorem ck_84 : ∀ p ∈ bl_84, am_cok am_T0 me_84 p.2 p.1 := List.forall_mem_cons.mpr ⟨ck_84_0, List.forall_mem_cons.mpr ⟨ck_84_14, List.forall_mem_cons.mpr ⟨ck_84_18, List.forall_mem_cons.mpr ⟨ck_84_30, List.forall_mem_cons.mpr ⟨ck_84_63, List.forall_mem_cons.mpr ⟨ck_84_82, List.forall_mem_cons.mpr ⟨ck_84_89, List.forall_mem_cons.mpr ⟨ck_84_95, List.forall_mem_cons.mpr ⟨ck_84_97, List.forall_mem_cons.mpr ⟨ck_84_109, List.forall_mem_cons.mpr ⟨ck_84_123, List.forall_mem_cons.mpr ⟨ck_84_138, List.forall_mem_cons.mpr ⟨ck_84_144, List.forall_mem_cons.mpr ⟨ck_84_150, fun _ h => absurd h List.not_mem_nil⟩⟩⟩⟩⟩⟩⟩⟩⟩⟩⟩⟩⟩⟩
set_option maxRecDepth 100000 in
theorem ck_85_0 : am_cok am_T0 me_85 cd_85_0 0 := ⟨rfl, .inr ⟨dX5_wrong_0, rfl⟩, rfl, .inr ⟨dX5_wrong_1, rfl⟩, rfl, .inr ⟨dX5_wrong_2, rfl⟩, rfl, .inr ⟨dX5_wrong_5, rfl⟩, rfl, .inr ⟨dX5_wrong_6, rfl⟩, rfl, .inr ⟨dX5_wrong_9, rfl⟩, rfl, .inr ⟨dX5_wrong_10, rfl⟩, rfl, .inr ⟨dX5_wrong_13, rfl⟩, trivial⟩
set_option maxRecDepth 100000 in
theorem ck_85_16 : am_cok am_T0 me_85 cd_85_16 16 := ⟨rfl, .inr ⟨dX5_wrong_16, rfl⟩, rfl, .inr ⟨dX5_wrong_17, rfl⟩, rfl, .inr ⟨dX5_wrong_18, rfl⟩, rfl, .inr ⟨dX5_wrong_21, rfl⟩, rfl, .inr ⟨dX5_wrong_22, rfl⟩, rfl, .inr ⟨dX5_wrong_25, rfl⟩, trivial⟩
set_option maxRecDepth 100000 in
theorem ck_85_28 : am_cok am_T0 me_85 cd_85_28 28 := ⟨rfl, .inr ⟨dX5_wrong_28, rfl⟩, rfl, .inl ⟨rfl, rfl⟩, trivial⟩
set_option maxRecDepth 100000 in
theorem ck_85_29 : am_cok am_T0 me_85 cd_85_29 29 := ⟨rfl, .inr ⟨dX5_wrong_29, rfl⟩, trivial⟩
set_option maxRecDepth 100000 in
theorem ck_85 : ∀ p ∈ bl_85, am_cok am_T0 me_85 p.2 p.1 := List.forall_mem_cons.mpr ⟨ck_85_0, List.forall_mem_cons.mpr ⟨ck_85_16, List.forall_mem_cons.mpr ⟨ck_85_28, List.forall_mem_cons.mpr ⟨ck_85_29, fun _ h => absurd h List.not_mem_nil⟩⟩⟩⟩
set_option maxRecDepth 100000 in
theorem ck_86_0 : am_cok am_T0 me_86 cd_86_0 0 := ⟨rfl, .inr ⟨dX5_flatOf_0, rfl⟩, rfl, .inr ⟨dX5_flatOf_1, rfl⟩, rfl, .inr ⟨dX5_flatOf_2, rfl⟩, rfl, .inr ⟨dX5_flatOf_5, rfl⟩, rfl, .inr ⟨dX5_flatOf_6, rfl⟩, rfl, .inr ⟨dX5_flatOf_7, rfl⟩, rfl, .inr ⟨dX5_flatOf_8, rfl⟩, rfl, .inr ⟨dX5_flatOf_9, rfl⟩, rfl, .inr ⟨dX5_flatOf_12, rfl⟩, rfl, .inr ⟨dX5_flatOf_13, rfl⟩, rfl, .inr ⟨dX5_flatOf_14, rfl⟩, rfl, .inr ⟨dX5_flatOf_15, rfl⟩, rfl, .inl ⟨rfl, rfl⟩, trivial⟩
set_option maxRecDepth 100000 in
theorem ck_86_18 : am_cok am_T0 me_86 cd_86_18 18 := ⟨rfl, .inr ⟨dX5_flatOf_18, rfl⟩, rfl, .inr ⟨dX5_flatOf_21, rfl⟩, rfl, .inr ⟨dX5_flatOf_22, rfl⟩, rfl, .inr ⟨dX5_flatOf_23, rfl⟩, rfl, .inr ⟨dX5_flatOf_24, rfl⟩, rfl, .inr ⟨dX5_flatOf_27, rfl⟩, rfl, .inl ⟨rfl, rfl⟩, trivial⟩
set_option maxRecDepth 100000 in
theorem ck_86_30 : am_cok am_T0 me_86 cd_86_30 30 := ⟨rfl, .inr ⟨dX5_flatOf_30, rfl⟩, rfl, .inl ⟨rfl, rfl⟩, trivial⟩
set_option maxRecDepth 100000 in
theorem ck_86_33 : am_cok am_T0 me_86 cd_86_33 33 := ⟨rfl, .inr ⟨dX5_flatOf_33, rfl⟩, rfl, .inr ⟨dX5_flatOf_35, rfl⟩, trivial⟩
set_option maxRecDepth 100000 in
theorem ck_86_36 : am_cok am_T0 me_86 cd_86_36 36 := ⟨rfl, .inr ⟨dX5_flatOf_36, rfl⟩, rfl, .inr ⟨dX5_flatOf_37, rfl⟩, rfl, .inl ⟨rfl, rfl⟩, trivial⟩
set_option maxRecDepth 100000 in
theorem ck_86_40 : am_cok am_T0 me_86 cd_86_40 40 := ⟨rfl, .inr ⟨dX5_flatOf_40, rfl⟩, rfl, .inr ⟨dX5_flatOf_41, rfl⟩, rfl, .inr ⟨dX5_flatOf_44, rfl⟩, rfl, .inr ⟨dX5_flatOf_45, rfl⟩, rfl, .inr ⟨dX5_flatOf_46, rfl⟩, rfl, .inr ⟨dX5_flatOf_47, rfl⟩, rfl, .inr ⟨dX5_flatOf_48, rfl⟩, rfl, .inr ⟨dX5_flatOf_49, rfl⟩, rfl, .inr ⟨dX5_flatOf_50, rfl⟩, trivial⟩
set_option maxRecDepth 100000 in
theorem ck_86 : ∀ p ∈ bl_86, am_cok am_T0 me_86 p.2 p.1 := List.forall_mem_cons.mpr ⟨ck_86_0, List.forall_mem_cons.mpr ⟨ck_86_18, List.forall_mem_cons.mpr ⟨ck_86_30, List.forall_mem_cons.mpr ⟨ck_86_33, List.forall_mem_cons.mpr ⟨ck_86_36, List.forall_mem_cons.mpr ⟨ck_86_40, fun _ h => absurd h List.not_mem_nil⟩⟩⟩⟩⟩⟩
set_option maxRecDepth 100000 in
theorem ck_87_0 : am_cok am_T0 me_87 cd_87_0 0 := ⟨rfl, .inr ⟨dX5_size_0, rfl⟩, rfl, .inr ⟨dX5_size_1, rfl⟩, rfl, .inr ⟨dX5_size_2, rfl⟩, rfl, .inr ⟨dX5_size_5, rfl⟩, rfl, .inr ⟨dX5_size_6, rfl⟩, rfl, .inr ⟨dX5_size_9, rfl⟩, rfl, .inr ⟨dX5_size_12, rfl⟩, rfl, .inr ⟨dX5_size_13, rfl⟩, rfl, .inr ⟨dX5_size_14, rfl⟩, rfl, .inr ⟨dX5_size_15, rfl⟩, rfl, .inr ⟨dX5_size_16, rfl⟩, rfl, .inl ⟨rfl, rfl⟩, trivial⟩
set_option maxRecDepth 100000 in
theorem ck_87_19 : am_cok am_T0 me_87 cd_87_19 19 := ⟨rfl, .inr ⟨dX5_size_19, rfl⟩, rfl, .inl ⟨rfl, rfl⟩, trivial⟩
set_option maxRecDepth 100000 in
theorem ck_87_22 : am_cok am_T0 me_87 cd_87_22 22 := ⟨rfl, .inr ⟨dX5_size_22, rfl⟩, rfl, .inr ⟨dX5_size_24, rfl⟩, trivial⟩
set_option maxRecDepth 100000 in
theorem ck_87_25 : am_cok am_T0 me_87 cd_87_25 25 := ⟨rfl, .inr ⟨dX5_size_25, rfl⟩, rfl, .inr ⟨dX5_size_26, rfl⟩, rfl, .inl ⟨rfl, rfl⟩, trivial⟩
set_option maxRecDepth 100000 in
theorem ck_87_29 : am_cok am_T0 me_87 cd_87_29 29 := ⟨rfl, .inr ⟨dX5_size_29, rfl⟩, rfl, .inr ⟨dX5_size_30, rfl⟩, rfl, .inr ⟨dX5_size_33, rfl⟩, rfl, .inr ⟨dX5_size_34, rfl⟩, rfl, .inr ⟨dX5_size_35, rfl⟩, rfl, .inr ⟨dX5_size_36, rfl⟩, rfl, .inr ⟨dX5_size_37, rfl⟩, rfl, .inr ⟨dX5_size_38, rfl⟩, rfl, .inr ⟨dX5_size_39, rfl⟩, rfl, .inl ⟨rfl, rfl⟩, trivial⟩
set_option maxRecDepth 100000 in
theorem ck_87_40 : am_cok am_T0 me_87 cd_87_40 40 := ⟨rfl, .inr ⟨dX5_size_40, rfl⟩, rfl, .inr ⟨dX5_size_41, rfl⟩, rfl, .inr ⟨dX5_size_42, rfl⟩, rfl, .inr ⟨dX5_size_45, rfl⟩, rfl, .inr ⟨dX5_size_48, rfl⟩, rfl, .inr ⟨dX5_size_49, rfl⟩, rfl, .inr ⟨dX5_size_52, rfl⟩, rfl, .inr ⟨dX5_size_53, rfl⟩, rfl, .inr ⟨dX5_size_54, rfl⟩, rfl, .inr ⟨dX5_size_55, rfl⟩, rfl, .inr ⟨dX5_size_56, rfl⟩, rfl, .inr ⟨dX5_size_57, rfl⟩, rfl, .inr ⟨dX5_size_58, rfl⟩, rfl, .inr ⟨dX5_size_59, rfl⟩, rfl, .inr ⟨dX5_size_60, rfl⟩, rfl, .inr ⟨dX5_size_61, rfl⟩, rfl, .inr ⟨dX5_size_64, rfl⟩, rfl, .inr ⟨dX5_size_65, rfl⟩, rfl, .inr ⟨dX5_size_68, rfl⟩, rfl, .inr ⟨dX5_size_69, rfl⟩, rfl, .inr ⟨dX5_size_70, rfl⟩, rfl, .inr ⟨dX5_size_71, rfl⟩, rfl, .inr ⟨dX5_size_72, rfl⟩, rfl, .inr ⟨dX5_size_73, rfl⟩, rfl, .inl ⟨rfl, rfl⟩, trivial⟩
set_option maxRecDepth 100000 in
theorem ck_87_74 : am_cok am_T0 me_87 cd_87_74 74 := ⟨rfl, .inr ⟨dX5_size_74, rfl⟩, rfl, .inr ⟨dX5_size_75, rfl⟩, rfl, .inr ⟨dX5_size_76, rfl⟩, trivial⟩
set_option maxRecDepth 100000 in
theorem ck_87_79 : am_cok am_T0 me_87 cd_87_79 79 := ⟨rfl, .inr ⟨dX5_size_79, rfl⟩, rfl, .inl ⟨rfl, rfl⟩, trivial⟩
set_option maxRecDepth 100000 in
theorem ck_87_80 : am_cok am_T0 me_87 cd_87_80 80 := ⟨rfl, .inr ⟨dX5_size_80, rfl⟩, rfl, .inr ⟨dX5_size_81, rfl⟩, rfl, .inr ⟨dX5_size_84, rfl⟩, trivial⟩
set_option maxRecDepth 100000 in
theorem ck_87_87 : am_cok am_T0 me_87 cd_87_87 87 := ⟨rfl, .inr ⟨dX5_size_87, rfl⟩, rfl, .inr ⟨dX5_size_88, rfl⟩, trivial⟩
set_option maxRecDepth 100000 in
theorem ck_87 : ∀ p ∈ bl_87, am_cok am_T0 me_87 p.2 p.1 := List.forall_mem_cons.mpr ⟨ck_87_0, List.forall_mem_cons.mpr ⟨ck_87_19, List.forall_mem_cons.mpr ⟨ck_87_22, List.forall_mem_cons.mpr ⟨ck_87_25, List.forall_mem_cons.mpr ⟨ck_87_29, List.forall_mem_cons.mpr ⟨ck_87_40, List.forall_mem_cons.mpr ⟨ck_87_74, List.forall_mem_cons.mpr ⟨ck_87_79, List.forall_mem_cons.mpr ⟨ck_87_80, List.forall_mem_cons.mpr ⟨ck_87_87, fun _ h => absurd h List.not_mem_nil⟩⟩⟩⟩⟩⟩⟩⟩⟩⟩
