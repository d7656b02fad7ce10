set_option maxHeartbeats 4000000 in
set_option maxRecDepth 100000 in
theorem am_T0_m : ∀ (i : Nat) (M : am_Me), am_T0.1[i]? = some M → (am_y M).cls = am_cn (am_ow M) ∧ (i + 2 ≤ am_T0.1.length → Cond.code (am_y M) (am_by M) (am_mx M) (am_re M) ∈ lw_good ∧ plainFor (am_y M) = true ∧ Cond.initialized (am_y M).cls ∈ lw_good ∧ ((am_y M).cls ≠ "java/lang/invoke/MethodHandle" ∧ (am_y M).cls ≠ "java/lang/invoke/VarHandle") ∧ (parseMethodDescriptor (am_y M).desc).map (fun d => d.parameters.length) = some (am_np M)) := by
  intro i M h
  have hl : i < 123 := (List.getElem?_eq_some_iff.mp h).1
  match i, hl, h with
  | 0, _, h => cases h; exact ⟨rfl, fun _ => mo_0⟩
  | 1, _, h => cases h; exact ⟨rfl, fun _ => mo_1⟩
  | 2, _, h => cases h; exact ⟨rfl, fun _ => mo_2⟩
  | 3, _, h => cases h; exact ⟨rfl, fun _ => mo_3⟩
  | 4, _, h => cases h; exact ⟨rfl, fun _ => mo_4⟩
  | 5, _, h => cases h; exact ⟨rfl, fun _ => mo_5⟩
  | 6, _, h => cases h; exact ⟨rfl, fun _ => mo_6⟩
  | 7, _, h => cases h; exact ⟨rfl, fun _ => mo_7⟩
  | 8, _, h => cases h; exact ⟨rfl, fun _ => mo_8⟩
  | 9, _, h => cases h; exact ⟨rfl, fun _ => mo_9⟩
  | 10, _, h => cases h; exact ⟨rfl, fun _ => mo_10⟩
  | 11, _, h => cases h; exact ⟨rfl, fun _ => mo_11⟩
  | 12, _, h => cases h; exact ⟨rfl, fun _ => mo_12⟩
  | 13, _, h => cases h; exact ⟨rfl, fun _ => mo_13⟩
  | 14, _, h => cases h; exact ⟨rfl, fun _ => mo_14⟩
  | 15, _, h => cases h; exact ⟨rfl, fun _ => mo_15⟩
  | 16, _, h => cases h; exact ⟨rfl, fun _ => mo_16⟩
  | 17, _, h => cases h; exact ⟨rfl, fun _ => mo_17⟩
  | 18, _, h => cases h; exact ⟨rfl, fun _ => mo_18⟩
  | 19, _, h => cases h; exact ⟨rfl, fun _ => mo_19⟩
  | 20, _, h => cases h; exact ⟨rfl, fun _ => mo_20⟩
  | 21, _, h => cases h; exact ⟨rfl, fun _ => mo_21⟩
  | 22, _, h => cases h; exact ⟨rfl, fun _ => mo_22⟩
  | 23, _, h => cases h; exact ⟨rfl, fun _ => mo_23⟩
  | 24, _, h => cases h; exact ⟨rfl, fun _ => mo_24⟩
  | 25, _, h => cases h; exact ⟨rfl, fun _ => mo_25⟩
  | 26, _, h => cases h; exact ⟨rfl, fun _ => mo_26⟩
  | 27, _, h => cases h; exact ⟨rfl, fun _ => mo_27⟩
  | 28, _, h => cases h; exact ⟨rfl, fun _ => mo_28⟩
  | 29, _, h => cases h; exact ⟨rfl, fun _ => mo_29⟩
  | 30, _, h => cases h; exact ⟨rfl, fun _ => mo_30⟩
  | 31, _, h => cases h; exact ⟨rfl, fun _ => mo_31⟩
  | 32, _, h => cases h; exact ⟨rfl, fun _ => mo_32⟩
  | 33, _, h => cases h; exact ⟨rfl, fun _ => mo_33⟩
  | 34, _, h => cases h; exact ⟨rfl, fun _ => mo_34⟩
  | 35, _, h => cases h; exact ⟨rfl, fun _ => mo_35⟩
  | 36, _, h => cases h; exact ⟨rfl, fun _ => mo_36⟩
  | 37, _, h => cases h; exact ⟨rfl, fun _ => mo_37⟩
  | 38, _, h => cases h; exact ⟨rfl, fun _ => mo_38⟩
  | 39, _, h => cases h; exact ⟨rfl, fun _ => mo_39⟩
  | 40, _, h => cases h; exact ⟨rfl, fun _ => mo_40⟩
  | 41, _, h => cases h; exact ⟨rfl, fun _ => mo_41⟩
  | 42, _, h => cases h; exact ⟨rfl, fun _ => mo_42⟩
  | 43, _, h => cases h; exact ⟨rfl, fun _ => mo_43⟩
  | 44, _, h => cases h; exact ⟨rfl, fun _ => mo_44⟩
  | 45, _, h => cases h; exact ⟨rfl, fun _ => mo_45⟩
  | 46, _, h => cases h; exact ⟨rfl, fun _ => mo_46⟩
  | 47, _, h => cases h; exact ⟨rfl, fun _ => mo_47⟩
  | 48, _, h => cases h; exact ⟨rfl, fun _ => mo_48⟩
  | 49, _, h => cases h; exact ⟨rfl, fun _ => mo_49⟩
  | 50, _, h => cases h; exact ⟨rfl, fun _ => mo_50⟩
  | 51, _, h => cases h; exact ⟨rfl, fun _ => mo_51⟩
  | 52, _, h => cases h; exact ⟨rfl, fun _ => mo_52⟩
  | 53, _, h => cases h; exact ⟨rfl, fun _ => mo_53⟩
  | 54, _, h => cases h; exact ⟨rfl, fun _ => mo_54⟩
  | 55, _, h => cases h; exact ⟨rfl, fun _ => mo_55⟩
  | 56, _, h => cases h; exact ⟨rfl, fun _ => mo_56⟩
  | 57, _, h => cases h; exact ⟨rfl, fun _ => mo_57⟩
  | 58, _, h => cases h; exact ⟨rfl, fun _ => mo_58⟩
  | 59, _, h => cases h; exact ⟨rfl, fun _ => mo_59⟩
  | 60, _, h => cases h; exact ⟨rfl, fun _ => mo_60⟩
  | 61, _, h => cases h; exact ⟨rfl, fun _ => mo_61⟩
  | 62, _, h => cases h; exact ⟨rfl, fun _ => mo_62⟩
  | 63, _, h => cases h; exact ⟨rfl, fun _ => mo_63⟩
  | 64, _, h => cases h; exact ⟨rfl, fun _ => mo_64⟩
  | 65, _, h => cases h; exact ⟨rfl, fun _ => mo_65⟩
  | 66, _, h => cases h; exact ⟨rfl, fun _ => mo_66⟩
  | 67, _, h => cases h; exact ⟨rfl, fun _ => mo_67⟩
  | 68, _, h => cases h; exact ⟨rfl, fun _ => mo_68⟩
  | 69, _, h => cases h; exact ⟨rfl, fun _ => mo_69⟩
  | 70, _, h => cases h; exact ⟨rfl, fun _ => mo_70⟩
  | 71, _, h => cases h; exact ⟨rfl, fun _ => mo_71⟩
  | 72, _, h => cases h; exact ⟨rfl, fun _ => mo_72⟩
  | 73, _, h => cases h; exact ⟨rfl, fun _ => mo_73⟩
  | 74, _, h => cases h; exact ⟨rfl, fun _ => mo_74⟩
  | 75, _, h => cases h; exact ⟨rfl, fun _ => mo_75⟩
  | 76, _, h => cases h; exact ⟨rfl, fun _ => mo_76⟩
  | 77, _, h => cases h; exact ⟨rfl, fun _ => mo_77⟩
  | 78, _, h => cases h; exact ⟨rfl, fun _ => mo_78⟩
  | 79, _, h => cases h; exact ⟨rfl, fun _ => mo_79⟩
  | 80, _, h => cases h; exact ⟨rfl, fun _ => mo_80⟩
  | 81, _, h => cases h; exact ⟨rfl, fun _ => mo_81⟩
  | 82, _, h => cases h; exact ⟨rfl, fun _ => mo_82⟩
  | 83, _, h => cases h; exact ⟨rfl, fun _ => mo_83⟩
  | 84, _, h => cases h; exact ⟨rfl, fun _ => mo_84⟩
  | 85, _, h => cases h; exact ⟨rfl, fun _ => mo_85⟩
  | 86, _, h => cases h; exact ⟨rfl, fun _ => mo_86⟩
  | 87, _, h => cases h; exact ⟨rfl, fun _ => mo_87⟩
  | 88, _, h => cases h; exact ⟨rfl, fun _ => mo_88⟩
  | 89, _, h => cases h; exact ⟨rfl, fun _ => mo_89⟩
  | 90, _, h => cases h; exact ⟨rfl, fun _ => mo_90⟩
  | 91, _, h => cases h; exact ⟨rfl, fun _ => mo_91⟩
  | 92, _, h => cases h; exact ⟨rfl, fun _ => mo_92⟩
  | 93, _, h => cases h; exact ⟨rfl, fun _ => mo_93⟩
  | 94, _, h => cases h; exact ⟨rfl, fun _ => mo_94⟩
  | 95, _, h => cases h; exact ⟨rfl, fun _ => mo_95⟩
  | 96, _, h => cases h; exact ⟨rfl, fun _ => mo_96⟩
  | 97, _, h => cases h; exact ⟨rfl, fun _ => mo_97⟩
  | 98, _, h => cases h; exact ⟨rfl, fun _ => mo_98⟩
  | 99, _, h => cases h; exact ⟨rfl, fun _ => mo_99⟩
  | 100, _, h => cases h; exact ⟨rfl, fun _ => mo_100⟩
  | 101, _, h => cases h; exact ⟨rfl, fun _ => mo_101⟩
  | 102, _, h => cases h; exact ⟨rfl, fun _ => mo_102⟩
  | 103, _, h => cases h; exact ⟨rfl, fun _ => mo_103⟩
  | 104, _, h => cases h; exact ⟨rfl, fun _ => mo_104⟩
  | 105, _, h => cases h; exact ⟨rfl, fun _ => mo_105⟩
  | 106, _, h => cases h; exact ⟨rfl, fun _ => mo_106⟩
  | 107, _, h => cases h; exact ⟨rfl, fun _ => mo_107⟩
  | 108, _, h => cases h; exact ⟨rfl, fun _ => mo_108⟩
  | 109, _, h => cases h; exact ⟨rfl, fun _ => mo_109⟩
  | 110, _, h => cases h; exact ⟨rfl, fun _ => mo_110⟩
  | 111, _, h => cases h; exact ⟨rfl, fun _ => mo_111⟩
  | 112, _, h => cases h; exact ⟨rfl, fun _ => mo_112⟩
  | 113, _, h => cases h; exact ⟨rfl, fun _ => mo_113⟩
  | 114, _, h => cases h; exact ⟨rfl, fun _ => mo_114⟩
  | 115, _, h => cases h; exact ⟨rfl, fun _ => mo_115⟩
  | 116, _, h => cases h; exact ⟨rfl, fun _ => mo_116⟩
  | 117, _, h => cases h; exact ⟨rfl, fun _ => mo_117⟩
  | 118, _, h => cases h; exact ⟨rfl, fun _ => mo_118⟩
  | 119, _, h => cases h; exact ⟨rfl, fun _ => mo_119⟩
  | 120, _, h => cases h; exact ⟨rfl, fun _ => mo_120⟩
  | 121, _, h => cases h; exact ⟨rfl, fun _ => mo_121⟩
  | 122, _, h => cases h; exact ⟨rfl, fun h => absurd h (by decide)⟩
  | i + 123, hl, _ => exact absurd hl (by omega)
set_option maxHeartbeats 4000000 in
set_option maxRecDepth 100000 in
theorem am_T0_ok : am_okT am_T0 := ⟨am_T0_m, List.forall_mem_cons.mpr ⟨fo_0, List.forall_mem_cons.mpr ⟨fo_1, List.forall_mem_cons.mpr ⟨fo_2, List.forall_mem_cons.mpr ⟨fo_3, List.forall_mem_cons.mpr ⟨fo_4, List.forall_mem_cons.mpr ⟨fo_5, List.forall_mem_cons.mpr ⟨fo_6, List.forall_mem_cons.mpr ⟨fo_7, List.forall_mem_cons.mpr ⟨fo_8, List.forall_mem_cons.mpr ⟨fo_9, List.forall_mem_cons.mpr ⟨fo_10, List.forall_mem_cons.mpr ⟨fo_11, List.forall_mem_cons.mpr ⟨fo_12, List.forall_mem_cons.mpr ⟨fo_13, List.forall_mem_cons.mpr ⟨fo_14, List.forall_mem_cons.mpr ⟨fo_15, List.forall_mem_cons.mpr ⟨fo_16, List.forall_mem_cons.mpr ⟨fo_17, List.forall_mem_cons.mpr ⟨fo_18, List.forall_mem_cons.mpr ⟨fo_19, List.forall_mem_cons.mpr ⟨fo_20, List.forall_mem_cons.mpr ⟨fo_21, List.forall_mem_cons.mpr ⟨fo_22, List.forall_mem_cons.mpr ⟨fo_23, List.forall_mem_cons.mpr ⟨fo_24, List.forall_mem_cons.mpr ⟨fo_25, List.forall_mem_cons.mpr ⟨fo_26, List.forall_mem_cons.mpr ⟨fo_27, List.forall_mem_cons.mpr ⟨fo_28, List.forall_mem_cons.mpr ⟨fo_29, List.forall_mem_cons.mpr ⟨fo_30, List.forall_mem_cons.mpr ⟨fo_31, List.forall_mem_cons.mpr ⟨fo_32, List.forall_mem_cons.mpr ⟨fo_33, List.forall_mem_cons.mpr ⟨fo_34, List.forall_mem_cons.mpr ⟨fo_35, List.forall_mem_cons.mpr ⟨fo_36, List.forall_mem_cons.mpr ⟨fo_37, List.forall_mem_cons.mpr ⟨fo_38, List.forall_mem_cons.mpr ⟨fo_39, List.forall_mem_cons.mpr ⟨fo_40, List.forall_mem_cons.mpr ⟨fo_41, List.forall_mem_cons.mpr ⟨fo_42, List.forall_mem_cons.mpr ⟨fo_43, List.forall_mem_cons.mpr ⟨fo_44, List.forall_mem_cons.mpr ⟨fo_45, List.forall_mem_cons.mpr ⟨fo_46, List.forall_mem_cons.mpr ⟨fo_47, List.forall_mem_cons.mpr ⟨fo_48, List.forall_mem_cons.mpr ⟨fo_49, List.forall_mem_cons.mpr ⟨fo_50, List.forall_mem_cons.mpr ⟨fo_51, List.forall_mem_cons.mpr ⟨fo_52, List.forall_mem_cons.mpr ⟨fo_53, List.forall_mem_cons.mpr ⟨fo_54, List.forall_mem_cons.mpr ⟨fo_55, List.forall_mem_cons.mpr ⟨fo_56, List.forall_mem_cons.mpr ⟨fo_57, List.forall_mem_cons.mpr ⟨fo_58, List.forall_mem_cons.mpr ⟨fo_59, List.forall_mem_cons.mpr ⟨fo_60, List.forall_mem_cons.mpr ⟨fo_61, List.forall_mem_cons.mpr ⟨fo_62, List.forall_mem_cons.mpr ⟨fo_63, List.forall_mem_cons.mpr ⟨fo_64, List.forall_mem_cons.mpr ⟨fo_65, List.forall_mem_cons.mpr ⟨fo_66, List.forall_mem_cons.mpr ⟨fo_67, List.forall_mem_cons.mpr ⟨fo_68, List.forall_mem_cons.mpr ⟨fo_69, List.forall_mem_cons.mpr ⟨fo_70, List.forall_mem_cons.mpr ⟨fo_71, List.forall_mem_cons.mpr ⟨fo_72, List.forall_mem_cons.mpr ⟨fo_73, List.forall_mem_cons.mpr ⟨fo_74, List.forall_mem_cons.mpr ⟨fo_75, List.forall_mem_cons.mpr ⟨fo_76, List.forall_mem_cons.mpr ⟨fo_77, fun _ h => absurd h List.not_mem_nil⟩⟩⟩⟩⟩⟩⟩⟩⟩⟩⟩⟩⟩⟩⟩⟩⟩⟩⟩⟩⟩⟩⟩⟩⟩⟩⟩⟩⟩⟩⟩⟩⟩⟩⟩⟩⟩⟩⟩⟩⟩⟩⟩⟩⟩⟩⟩⟩⟩⟩⟩⟩⟩⟩⟩⟩⟩⟩⟩⟩⟩⟩⟩⟩⟩⟩⟩⟩⟩⟩⟩⟩⟩⟩⟩⟩⟩⟩, List.forall_mem_cons.mpr ⟨qo_0, List.forall_mem_cons.mpr ⟨qo_1, List.forall_mem_cons.mpr ⟨qo_2, List.forall_mem_cons.mpr ⟨qo_3, List.forall_mem_cons.mpr ⟨qo_4, List.forall_mem_cons.mpr ⟨qo_5, List.forall_mem_cons.mpr ⟨qo_6, List.forall_mem_cons.mpr ⟨qo_7, List.forall_mem_cons.mpr ⟨qo_8, List.forall_mem_cons.mpr ⟨qo_9, List.forall_mem_cons.mpr ⟨qo_10, List.forall_mem_cons.mpr ⟨qo_11, List.forall_mem_cons.mpr ⟨qo_12, List.forall_mem_cons.mpr ⟨qo_13, List.forall_mem_cons.mpr ⟨qo_14, List.forall_mem_cons.mpr ⟨qo_15, List.forall_mem_cons.mpr ⟨qo_16, List.forall_mem_cons.mpr ⟨qo_17, List.forall_mem_cons.mpr ⟨qo_18, List.forall_mem_cons.mpr ⟨qo_19, List.forall_mem_cons.mpr ⟨qo_20, List.forall_mem_cons.mpr ⟨qo_21, List.forall_mem_cons.mpr ⟨qo_22, List.forall_mem_cons.mpr ⟨qo_23, List.forall_mem_cons.mpr ⟨qo_24, List.forall_mem_cons.mpr ⟨qo_25, List.forall_mem_cons.mpr ⟨qo_26, List.forall_mem_cons.mpr ⟨qo_27, List.forall_mem_cons.mpr ⟨qo_28, List.forall_mem_cons.mpr ⟨qo_29, List.forall_mem_cons.mpr ⟨qo_30, List.forall_mem_cons.mpr ⟨qo_31, List.forall_mem_cons.mpr ⟨qo_32, List.forall_mem_cons.mpr ⟨qo_33, List.forall_mem_cons.mpr ⟨qo_34, List.forall_mem_cons.mpr ⟨qo_35, List.forall_mem_cons.mpr ⟨qo_36, List.forall_mem_cons.mpr ⟨qo_37, List.forall_mem_cons.mpr ⟨qo_38, List.forall_mem_cons.mpr ⟨qo_39, List.forall_mem_cons.mpr ⟨qo_40, List.forall_mem_cons.mpr ⟨qo_41, List.forall_mem_cons.mpr ⟨qo_42, List.forall_mem_cons.mpr ⟨qo_43, List.forall_mem_cons.mpr ⟨qo_44, List.forall_mem_cons.mpr ⟨qo_45, List.forall_mem_cons.mpr ⟨qo_46, List.forall_mem_cons.mpr ⟨qo_47, List.forall_mem_cons.mpr ⟨qo_48, List.forall_mem_cons.mpr ⟨qo_49, List.forall_mem_cons.mpr ⟨qo_50, List.forall_mem_cons.mpr ⟨qo_51, List.forall_mem_cons.mpr ⟨qo_52, List.forall_mem_cons.mpr ⟨qo_53, List.forall_mem_cons.mpr ⟨qo_54, List.forall_mem_cons.mpr ⟨qo_55, List.forall_mem_cons.mpr ⟨qo_56, List.forall_mem_cons.mpr ⟨qo_57, List.forall_mem_cons.mpr ⟨qo_58, List.forall_mem_cons.mpr ⟨qo_59, List.forall_mem_cons.mpr ⟨qo_60, List.forall_mem_cons.mpr ⟨qo_61, List.forall_mem_cons.mpr ⟨qo_62, List.forall_mem_cons.mpr ⟨qo_63, List.forall_mem_cons.mpr ⟨qo_64, List.forall_mem_cons.mpr ⟨qo_65, List.forall_mem_cons.mpr ⟨qo_66, List.forall_mem_cons.mpr ⟨qo_67, List.forall_mem_cons.mpr ⟨qo_68, List.forall_mem_cons.mpr ⟨qo_69, List.forall_mem_cons.mpr ⟨qo_70, List.forall_mem_cons.mpr ⟨qo_71, List.forall_mem_cons.mpr ⟨qo_72, List.forall_mem_cons.mpr ⟨qo_73, List.forall_mem_cons.mpr ⟨qo_74, List.forall_mem_cons.mpr ⟨qo_75, List.forall_mem_cons.mpr ⟨qo_76, List.forall_mem_cons.mpr ⟨qo_77, List.forall_mem_cons.mpr ⟨qo_78, List.forall_mem_cons.mpr ⟨qo_79, List.forall_mem_cons.mpr ⟨qo_80, List.forall_mem_cons.mpr ⟨qo_81, List.forall_mem_cons.mpr ⟨qo_82, List.forall_mem_cons.mpr ⟨qo_83, List.forall_mem_cons.mpr ⟨qo_84, List.forall_mem_cons.mpr ⟨qo_85, List.forall_mem_cons.mpr ⟨qo_86, List.forall_mem_cons.mpr ⟨qo_87, List.forall_mem_cons.mpr ⟨qo_88, List.forall_mem_cons.mpr ⟨qo_89, List.forall_mem_cons.mpr ⟨qo_90, List.forall_mem_cons.mpr ⟨qo_91, List.forall_mem_cons.mpr ⟨qo_92, List.forall_mem_cons.mpr ⟨qo_93, List.forall_mem_cons.mpr ⟨qo_94, List.forall_mem_cons.mpr ⟨qo_95, List.forall_mem_cons.mpr ⟨qo_96, List.forall_mem_cons.mpr ⟨qo_97, List.forall_mem_cons.mpr ⟨qo_98, List.forall_mem_cons.mpr ⟨qo_99, List.forall_mem_cons.mpr ⟨qo_100, List.forall_mem_cons.mpr ⟨qo_101, List.forall_mem_cons.mpr ⟨qo_102, List.forall_mem_cons.mpr ⟨qo_103, List.forall_mem_cons.mpr ⟨qo_104, List.forall_mem_cons.mpr ⟨qo_105, List.forall_mem_cons.mpr ⟨qo_106, List.forall_mem_cons.mpr ⟨qo_107, List.forall_mem_cons.mpr ⟨qo_108, List.forall_mem_cons.mpr ⟨qo_109, List.forall_mem_cons.mpr ⟨qo_110, List.forall_mem_cons.mpr ⟨qo_111, List.forall_mem_cons.mpr ⟨qo_112, List.forall_mem_cons.mpr ⟨qo_113, List.forall_mem_cons.mpr ⟨qo_114, List.forall_mem_cons.mpr ⟨qo_115, List.forall_mem_cons.mpr ⟨qo_116, List.forall_mem_cons.mpr ⟨qo_117, List.forall_mem_cons.mpr ⟨qo_118, List.forall_mem_cons.mpr ⟨qo_119, List.forall_mem_cons.mpr ⟨qo_120, List.forall_mem_cons.mpr ⟨qo_121, List.forall_mem_cons.mpr ⟨qo_122, List.forall_mem_cons.mpr ⟨qo_123, List.forall_mem_cons.mpr ⟨qo_124, List.forall_mem_cons.mpr ⟨qo_125, List.forall_mem_cons.mpr ⟨qo_126, List.forall_mem_cons.mpr ⟨qo_127, List.forall_mem_cons.mpr ⟨qo_128, List.forall_mem_cons.mpr ⟨qo_129, List.forall_mem_cons.mpr ⟨qo_130, List.forall_mem_cons.mpr ⟨qo_131, List.forall_mem_cons.mpr ⟨qo_132, List.forall_mem_cons.mpr ⟨qo_133, List.forall_mem_cons.mpr ⟨qo_134, List.forall_mem_cons.mpr ⟨qo_135, List.forall_mem_cons.mpr ⟨qo_136, List.forall_mem_cons.mpr ⟨qo_137, List.forall_mem_cons.mpr ⟨qo_138, List.forall_mem_cons.mpr ⟨qo_139, List.forall_mem_cons.mpr ⟨qo_140, List.forall_mem_cons.mpr ⟨qo_141, List.forall_mem_cons.mpr ⟨qo_142, List.forall_mem_cons.mpr ⟨qo_143, List.forall_mem_cons.mpr ⟨qo_144, List.forall_mem_cons.mpr ⟨qo_145, List.forall_mem_cons.mpr ⟨qo_146, fun _ h => absurd h List.not_mem_nil⟩⟩⟩⟩⟩⟩⟩⟩⟩⟩⟩⟩⟩⟩⟩⟩⟩⟩⟩⟩⟩⟩⟩⟩⟩⟩⟩⟩⟩⟩⟩⟩⟩⟩⟩⟩⟩⟩⟩⟩⟩⟩⟩⟩⟩⟩⟩⟩⟩⟩⟩⟩⟩⟩⟩⟩⟩⟩⟩⟩⟩⟩⟩⟩⟩⟩⟩⟩⟩⟩⟩⟩⟩⟩⟩⟩⟩⟩⟩⟩⟩⟩⟩⟩⟩⟩⟩⟩⟩⟩⟩⟩⟩⟩⟩⟩⟩⟩⟩⟩⟩⟩⟩⟩⟩⟩⟩⟩⟩⟩⟩⟩⟩⟩⟩⟩⟩⟩⟩⟩⟩⟩⟩⟩⟩⟩⟩⟩⟩⟩⟩⟩⟩⟩⟩⟩⟩⟩⟩⟩⟩⟩⟩⟩⟩⟩⟩, List.forall_mem_cons.mpr ⟨ko_0, List.forall_mem_cons.mpr ⟨ko_1, List.forall_mem_cons.mpr ⟨ko_2, List.forall_mem_cons.mpr ⟨ko_3, List.forall_mem_cons.mpr ⟨ko_4, List.forall_mem_cons.mpr ⟨ko_5, List.forall_mem_cons.mpr ⟨ko_6, List.forall_mem_cons.mpr ⟨ko_7, List.forall_mem_cons.mpr ⟨ko_8, List.forall_mem_cons.mpr ⟨ko_9, List.forall_mem_cons.mpr ⟨ko_10, fun _ h => absurd h List.not_mem_nil⟩⟩⟩⟩⟩⟩⟩⟩⟩⟩⟩, List.forall_mem_cons.mpr ⟨no_0, List.forall_mem_cons.mpr ⟨no_1, List.forall_mem_cons.mpr ⟨no_2, List.forall_mem_cons.mpr ⟨no_3, List.forall_mem_cons.mpr ⟨no_4, List.forall_mem_cons.mpr ⟨no_5, List.forall_mem_cons.mpr ⟨no_6, List.forall_mem_cons.mpr ⟨no_7, List.forall_mem_cons.mpr ⟨no_8, List.forall_mem_cons.mpr ⟨no_9, fun _ h => absurd h List.not_mem_nil⟩⟩⟩⟩⟩⟩⟩⟩⟩⟩⟩
set_option maxHeartbeats 4000000 in
set_option maxRecDepth 100000 in
theorem am_C_ok : am_okC := by
  refine ⟨fun ci hci => ?_, by decide +kernel, am_gd 83 rfl rfl, by decide +kernel, by decide +kernel, by decide +kernel, fun ci hci => ?_⟩
  · rcases (show ci = 0 ∨ ci = 1 ∨ ci = 2 ∨ ci = 3 ∨ ci = 4 ∨ ci = 5 by omega) with rfl | rfl | rfl | rfl | rfl | rfl <;> exact ⟨by decide +kernel, by decide +kernel, by decide +kernel, by decide +kernel, by decide +kernel, by decide +kernel⟩
  · rcases (show ci = 0 ∨ ci = 1 ∨ ci = 2 ∨ ci = 3 ∨ ci = 4 ∨ ci = 5 by omega) with rfl | rfl | rfl | rfl | rfl | rfl <;> decide +kernel
theorem am_ml_ok : ∀ (i : Nat) (M : am_Me), am_T0.1[i]? = some M → am_ml0 i = (am_mx M, am_lg M) := by
  intro i M h
  have h2 : am_ms[i]? = some M := h
  unfold am_ml0
  rw [h2]
