theorem xm_0 : sm_mf 0 := ⟨fun _ => ⟨tw_30, by decide +kernel, by decide, by decide, by decide +kernel, tw_1, rfl⟩, fun h => absurd h (by decide), fun h => absurd h (by decide), fun _ => ⟨tw_29, rfl, rfl⟩⟩
theorem xm_1 : sm_mf 1 := ⟨fun _ => ⟨tw_220, by decide +kernel, by decide, by decide, by decide +kernel, tw_1, rfl⟩, fun _ => ⟨tw_218, tw_219, _, rfl, rfl⟩, fun h => absurd h (by decide), fun h => absurd h (by decide)⟩
theorem xm_2 : sm_mf 2 := ⟨fun _ => ⟨tw_247, by decide +kernel, by decide, by decide, by decide +kernel, tw_1, rfl⟩, fun _ => ⟨tw_245, tw_246, _, rfl, rfl⟩, fun h => absurd h (by decide), fun h => absurd h (by decide)⟩
theorem xm_3 : sm_mf 3 := ⟨fun _ => ⟨tw_252, by decide +kernel, by decide, by decide, by decide +kernel, tw_1, rfl⟩, fun _ => ⟨tw_250, tw_251, _, rfl, rfl⟩, fun h => absurd h (by decide), fun h => absurd h (by decide)⟩
theorem xm_4 : sm_mf 4 := ⟨fun _ => ⟨tw_288, by decide +kernel, by decide, by decide, by decide +kernel, tw_1, rfl⟩, fun _ => ⟨tw_286, tw_287, _, rfl, rfl⟩, fun h => absurd h (by decide), fun h => absurd h (by decide)⟩
theorem xm_5 : sm_mf 5 := ⟨fun _ => ⟨tw_297, by decide +kernel, by decide, by decide, by decide +kernel, tw_1, rfl⟩, fun _ => ⟨tw_295, tw_296, _, rfl, rfl⟩, fun h => absurd h (by decide), fun h => absurd h (by decide)⟩
theorem xm_6 : sm_mf 6 := ⟨fun _ => ⟨tw_388, by decide +kernel, by decide, by decide, by decide +kernel, tw_1, rfl⟩, fun _ => ⟨tw_386, tw_387, _, rfl, rfl⟩, fun h => absurd h (by decide), fun h => absurd h (by decide)⟩
theorem xm_7 : sm_mf 7 := ⟨fun _ => ⟨tw_623, by decide +kernel, by decide, by decide, by decide +kernel, tw_1, rfl⟩, fun _ => ⟨tw_622, pw_34, _, rfl, rfl⟩, fun h => absurd h (by decide), fun h => absurd h (by decide)⟩
theorem xm_8 : sm_mf 8 := ⟨fun _ => ⟨tw_710, by decide +kernel, by decide, by decide, by decide +kernel, tw_1, rfl⟩, fun _ => ⟨tw_708, tw_709, _, rfl, rfl⟩, fun h => absurd h (by decide), fun h => absurd h (by decide)⟩
theorem xm_9 : sm_mf 9 := ⟨fun _ => ⟨tw_725, by decide +kernel, by decide, by decide, by decide +kernel, tw_1, rfl⟩, fun _ => ⟨tw_723, tw_724, _, rfl, rfl⟩, fun h => absurd h (by decide), fun h => absurd h (by decide)⟩
theorem xm_10 : sm_mf 10 := ⟨fun _ => ⟨tw_750, by decide +kernel, by decide, by decide, by decide +kernel, tw_1, rfl⟩, fun _ => ⟨tw_748, tw_749, _, rfl, rfl⟩, fun h => absurd h (by decide), fun h => absurd h (by decide)⟩
theorem xm_11 : sm_mf 11 := ⟨fun _ => ⟨tw_781, by decide +kernel, by decide, by decide, by decide +kernel, tw_1, rfl⟩, fun _ => ⟨tw_779, tw_780, _, rfl, rfl⟩, fun h => absurd h (by decide), fun h => absurd h (by decide)⟩
theorem xm_12 : sm_mf 12 := ⟨fun _ => ⟨tw_791, by decide +kernel, by decide, by decide, by decide +kernel, tw_1, rfl⟩, fun _ => ⟨tw_789, tw_790, _, rfl, rfl⟩, fun h => absurd h (by decide), fun h => absurd h (by decide)⟩
theorem xm_13 : sm_mf 13 := ⟨fun _ => ⟨tw_795, by decide +kernel, by decide, by decide, by decide +kernel, tw_1, rfl⟩, fun _ => ⟨tw_794, pw_53, _, rfl, rfl⟩, fun h => absurd h (by decide), fun h => absurd h (by decide)⟩
theorem xm_14 : sm_mf 14 := ⟨fun _ => ⟨tw_804, by decide +kernel, by decide, by decide, by decide +kernel, tw_1, rfl⟩, fun _ => ⟨tw_802, tw_803, _, rfl, rfl⟩, fun h => absurd h (by decide), fun h => absurd h (by decide)⟩
theorem xm_15 : sm_mf 15 := ⟨fun _ => ⟨tw_826, by decide +kernel, by decide, by decide, by decide +kernel, tw_1, rfl⟩, fun _ => ⟨tw_824, tw_825, _, rfl, rfl⟩, fun h => absurd h (by decide), fun h => absurd h (by decide)⟩
theorem xm_16 : sm_mf 16 := ⟨fun _ => ⟨tw_834, by decide +kernel, by decide, by decide, by decide +kernel, tw_1, rfl⟩, fun _ => ⟨tw_832, tw_833, _, rfl, rfl⟩, fun h => absurd h (by decide), fun h => absurd h (by decide)⟩
theorem xm_17 : sm_mf 17 := ⟨fun _ => ⟨tw_65, by decide +kernel, by decide, by decide, by decide +kernel, tw_5, rfl⟩, fun h => absurd h (by decide), fun h => absurd h (by decide), fun _ => ⟨tw_64, rfl, rfl⟩⟩
theorem xm_18 : sm_mf 18 := ⟨fun _ => ⟨tw_224, by decide +kernel, by decide, by decide, by decide +kernel, tw_5, rfl⟩, fun _ => ⟨tw_223, pw_3, _, rfl, rfl⟩, fun h => absurd h (by decide), fun h => absurd h (by decide)⟩
theorem xm_19 : sm_mf 19 := ⟨fun _ => ⟨tw_576, by decide +kernel, by decide, by decide, by decide +kernel, tw_5, rfl⟩, fun _ => ⟨tw_575, pw_25, _, rfl, rfl⟩, fun h => absurd h (by decide), fun h => absurd h (by decide)⟩
theorem xm_20 : sm_mf 20 := ⟨fun _ => ⟨tw_605, by decide +kernel, by decide, by decide, by decide +kernel, tw_5, rfl⟩, fun _ => ⟨tw_604, pw_30, _, rfl, rfl⟩, fun h => absurd h (by decide), fun h => absurd h (by decide)⟩
theorem xm_21 : sm_mf 21 := ⟨fun _ => ⟨tw_614, by decide +kernel, by decide, by decide, by decide +kernel, tw_5, rfl⟩, fun _ => ⟨tw_613, pw_32, _, rfl, rfl⟩, fun h => absurd h (by decide), fun h => absurd h (by decide)⟩
theorem xm_22 : sm_mf 22 := ⟨fun _ => ⟨tw_618, by decide +kernel, by decide, by decide, by decide +kernel, tw_5, rfl⟩, fun _ => ⟨tw_617, pw_33, _, rfl, rfl⟩, fun h => absurd h (by decide), fun h => absurd h (by decide)⟩
theorem xm_23 : sm_mf 23 := ⟨fun _ => ⟨tw_714, by decide +kernel, by decide, by decide, by decide +kernel, tw_5, rfl⟩, fun _ => ⟨tw_713, pw_48, _, rfl, rfl⟩, fun h => absurd h (by decide), fun h => absurd h (by decide)⟩
theorem xm_24 : sm_mf 24 := ⟨fun _ => ⟨tw_754, by decide +kernel, by decide, by decide, by decide +kernel, tw_5, rfl⟩, fun _ => ⟨tw_753, pw_49, _, rfl, rfl⟩, fun h => absurd h (by decide), fun h => absurd h (by decide)⟩
theorem xm_25 : sm_mf 25 := ⟨fun _ => ⟨tw_810, by decide +kernel, by decide, by decide, by decide +kernel, tw_5, rfl⟩, fun _ => ⟨tw_809, pw_54, _, rfl, rfl⟩, fun h => absurd h (by decide), fun h => absurd h (by decide)⟩
theorem xm_26 : sm_mf 26 := ⟨fun _ => ⟨tw_664, by decide +kernel, by decide, by decide, by decide +kernel, tw_23, rfl⟩, fun h => absurd h (by decide), fun h => absurd h (by decide), fun _ => ⟨tw_663, rfl, rfl⟩⟩
theorem xm_27 : sm_mf 27 := ⟨fun _ => ⟨tw_150, by decide +kernel, by decide, by decide, by decide +kernel, tw_10, rfl⟩, fun h => absurd h (by decide), fun h => absurd h (by decide), fun _ => ⟨tw_149, rfl, rfl⟩⟩
theorem xm_28 : sm_mf 28 := ⟨fun _ => ⟨tw_627, by decide +kernel, by decide, by decide, by decide +kernel, tw_10, rfl⟩, fun _ => ⟨tw_626, pw_35, _, rfl, rfl⟩, fun h => absurd h (by decide), fun h => absurd h (by decide)⟩
theorem xm_29 : sm_mf 29 := ⟨fun _ => ⟨tw_691, by decide +kernel, by decide, by decide, by decide +kernel, tw_10, rfl⟩, fun _ => ⟨tw_690, pw_44, _, rfl, rfl⟩, fun h => absurd h (by decide), fun h => absurd h (by decide)⟩
theorem xm_30 : sm_mf 30 := ⟨fun _ => ⟨tw_580, by decide +kernel, by decide, by decide, by decide +kernel, tw_22, rfl⟩, fun _ => ⟨tw_579, pw_26, _, rfl, rfl⟩, fun h => absurd h (by decide), fun h => absurd h (by decide)⟩
theorem xm_31 : sm_mf 31 := ⟨fun _ => ⟨tw_655, by decide +kernel, by decide, by decide, by decide +kernel, tw_22, rfl⟩, fun _ => ⟨tw_654, pw_40, _, rfl, rfl⟩, fun h => absurd h (by decide), fun h => absurd h (by decide)⟩
theorem xm_32 : sm_mf 32 := ⟨fun _ => ⟨tw_819, by decide +kernel, by decide, by decide, by decide +kernel, tw_22, rfl⟩, fun _ => ⟨tw_818, pw_56, _, rfl, rfl⟩, fun h => absurd h (by decide), fun h => absurd h (by decide)⟩
theorem xm_33 : sm_mf 33 := ⟨fun _ => ⟨tw_635, by decide +kernel, by decide, by decide, by decide +kernel, tw_10, rfl⟩, fun _ => ⟨tw_634, pw_36, _, rfl, rfl⟩, fun h => absurd h (by decide), fun h => absurd h (by decide)⟩
theorem xm_34 : sm_mf 34 := ⟨fun _ => ⟨tw_639, by decide +kernel, by decide, by decide, by decide +kernel, tw_10, rfl⟩, fun _ => ⟨tw_638, pw_37, _, rfl, rfl⟩, fun h => absurd h (by decide), fun h => absurd h (by decide)⟩
theorem xm_35 : sm_mf 35 := ⟨fun _ => ⟨tw_759, by decide +kernel, by decide, by decide, by decide +kernel, tw_10, rfl⟩, fun _ => ⟨tw_758, pw_50, _, rfl, rfl⟩, fun h => absurd h (by decide), fun h => absurd h (by decide)⟩
theorem xm_36 : sm_mf 36 := ⟨fun _ => ⟨tw_699, by decide +kernel, by decide, by decide, by decide +kernel, tw_10, rfl⟩, fun _ => ⟨tw_698, pw_46, _, rfl, rfl⟩, fun h => absurd h (by decide), fun h => absurd h (by decide)⟩
theorem xm_37 : sm_mf 37 := ⟨fun _ => ⟨tw_764, by decide +kernel, by decide, by decide, by decide +kernel, tw_10, rfl⟩, fun _ => ⟨tw_763, pw_51, _, rfl, rfl⟩, fun h => absurd h (by decide), fun h => absurd h (by decide)⟩
theorem xm_38 : sm_mf 38 := ⟨fun _ => ⟨tw_774, by decide +kernel, by decide, by decide, by decide +kernel, tw_10, rfl⟩, fun _ => ⟨tw_773, pw_52, _, rfl, rfl⟩, fun h => absurd h (by decide), fun h => absurd h (by decide)⟩
theorem xm_39 : sm_mf 39 := ⟨fun _ => ⟨tw_169, by decide +kernel, by decide, by decide, by decide +kernel, tw_11, rfl⟩, fun h => absurd h (by decide), fun h => absurd h (by decide), fun _ => ⟨tw_168, rfl, rfl⟩⟩
theorem xm_40 : sm_mf 40 := ⟨fun _ => ⟨tw_643, by decide +kernel, by decide, by decide, by decide +kernel, tw_11, rfl⟩, fun _ => ⟨tw_642, pw_38, _, rfl, rfl⟩, fun h => absurd h (by decide), fun h => absurd h (by decide)⟩
theorem xm_41 : sm_mf 41 := ⟨fun _ => ⟨tw_651, by decide +kernel, by decide, by decide, by decide +kernel, tw_11, rfl⟩, fun _ => ⟨tw_650, pw_39, _, rfl, rfl⟩, fun h => absurd h (by decide), fun h => absurd h (by decide)⟩
theorem xm_42 : sm_mf 42 := ⟨fun _ => ⟨tw_683, by decide +kernel, by decide, by decide, by decide +kernel, tw_11, rfl⟩, fun _ => ⟨tw_682, pw_42, _, rfl, rfl⟩, fun h => absurd h (by decide), fun h => absurd h (by decide)⟩
theorem xm_43 : sm_mf 43 := ⟨fun _ => ⟨tw_280, by decide +kernel, by decide, by decide, by decide +kernel, tw_12, rfl⟩, fun _ => ⟨tw_279, pw_8, _, rfl, rfl⟩, fun h => absurd h (by decide), fun h => absurd h (by decide)⟩
theorem xm_44 : sm_mf 44 := ⟨fun _ => ⟨tw_695, by decide +kernel, by decide, by decide, by decide +kernel, tw_11, rfl⟩, fun _ => ⟨tw_694, pw_45, _, rfl, rfl⟩, fun h => absurd h (by decide), fun h => absurd h (by decide)⟩
theorem xm_45 : sm_mf 45 := ⟨fun _ => ⟨tw_703, by decide +kernel, by decide, by decide, by decide +kernel, tw_11, rfl⟩, fun _ => ⟨tw_702, pw_47, _, rfl, rfl⟩, fun h => absurd h (by decide), fun h => absurd h (by decide)⟩
theorem xm_46 : sm_mf 46 := ⟨fun _ => ⟨tw_838, by decide +kernel, by decide, by decide, by decide +kernel, tw_12, rfl⟩, fun _ => ⟨tw_837, pw_57, _, rfl, rfl⟩, fun h => absurd h (by decide), fun h => absurd h (by decide)⟩
theorem xm_47 : sm_mf 47 := ⟨fun _ => ⟨tw_468, by decide +kernel, by decide, by decide, by decide +kernel, tw_22, rfl⟩, fun h => absurd h (by decide), fun h => absurd h (by decide), fun _ => ⟨tw_467, rfl, rfl⟩⟩
theorem xm_48 : sm_mf 48 := ⟨fun _ => ⟨tw_659, by decide +kernel, by decide, by decide, by decide +kernel, tw_22, rfl⟩, fun _ => ⟨tw_658, pw_41, _, rfl, rfl⟩, fun h => absurd h (by decide), fun h => absurd h (by decide)⟩
theorem xm_49 : sm_mf 49 := ⟨fun _ => ⟨tw_687, by decide +kernel, by decide, by decide, by decide +kernel, tw_22, rfl⟩, fun _ => ⟨tw_686, pw_43, _, rfl, rfl⟩, fun h => absurd h (by decide), fun h => absurd h (by decide)⟩
theorem xm_50 : sm_mf 50 := ⟨fun _ => ⟨tw_815, by decide +kernel, by decide, by decide, by decide +kernel, tw_22, rfl⟩, fun _ => ⟨tw_814, pw_55, _, rfl, rfl⟩, fun h => absurd h (by decide), fun h => absurd h (by decide)⟩
theorem xm_51 : sm_mf 51 := ⟨fun _ => ⟨tw_182, by decide +kernel, by decide, by decide, by decide +kernel, tw_12, rfl⟩, fun h => absurd h (by decide), fun h => absurd h (by decide), fun _ => ⟨tw_181, rfl, rfl⟩⟩
theorem xm_52 : sm_mf 52 := ⟨fun _ => ⟨tw_256, by decide +kernel, by decide, by decide, by decide +kernel, tw_12, rfl⟩, fun _ => ⟨tw_255, pw_4, _, rfl, rfl⟩, fun h => absurd h (by decide), fun h => absurd h (by decide)⟩
theorem xm_53 : sm_mf 53 := ⟨fun _ => ⟨tw_259, by decide +kernel, by decide, by decide, by decide +kernel, tw_12, rfl⟩, fun h => absurd h (by decide), fun _ => tw_258, fun h => absurd h (by decide)⟩
theorem xm_54 : sm_mf 54 := ⟨fun _ => ⟨tw_267, by decide +kernel, by decide, by decide, by decide +kernel, tw_12, rfl⟩, fun _ => ⟨tw_266, pw_5, _, rfl, rfl⟩, fun h => absurd h (by decide), fun h => absurd h (by decide)⟩
theorem xm_55 : sm_mf 55 := ⟨fun _ => ⟨tw_272, by decide +kernel, by decide, by decide, by decide +kernel, tw_12, rfl⟩, fun _ => ⟨tw_271, pw_6, _, rfl, rfl⟩, fun h => absurd h (by decide), fun h => absurd h (by decide)⟩
theorem xm_56 : sm_mf 56 := ⟨fun _ => ⟨tw_276, by decide +kernel, by decide, by decide, by decide +kernel, tw_12, rfl⟩, fun _ => ⟨tw_275, pw_7, _, rfl, rfl⟩, fun h => absurd h (by decide), fun h => absurd h (by decide)⟩
theorem xm_57 : sm_mf 57 := ⟨fun _ => ⟨tw_284, by decide +kernel, by decide, by decide, by decide +kernel, tw_12, rfl⟩, fun _ => ⟨tw_283, pw_9, _, rfl, rfl⟩, fun h => absurd h (by decide), fun h => absurd h (by decide)⟩
theorem xm_58 : sm_mf 58 := ⟨fun _ => ⟨tw_393, by decide +kernel, by decide, by decide, by decide +kernel, tw_19, rfl⟩, fun h => absurd h (by decide), fun h => absurd h (by decide), fun _ => ⟨tw_392, rfl, rfl⟩⟩
theorem xm_59 : sm_mf 59 := ⟨fun _ => ⟨tw_420, by decide +kernel, by decide, by decide, by decide +kernel, tw_19, rfl⟩, fun _ => ⟨tw_419, pw_11, _, rfl, rfl⟩, fun h => absurd h (by decide), fun h => absurd h (by decide)⟩
theorem xm_60 : sm_mf 60 := ⟨fun _ => ⟨tw_424, by decide +kernel, by decide, by decide, by decide +kernel, tw_19, rfl⟩, fun _ => ⟨tw_423, pw_12, _, rfl, rfl⟩, fun h => absurd h (by decide), fun h => absurd h (by decide)⟩
theorem xm_61 : sm_mf 61 := ⟨fun _ => ⟨tw_428, by decide +kernel, by decide, by decide, by decide +kernel, tw_19, rfl⟩, fun _ => ⟨tw_427, pw_13, _, rfl, rfl⟩, fun h => absurd h (by decide), fun h => absurd h (by decide)⟩
theorem xm_62 : sm_mf 62 := ⟨fun _ => ⟨tw_432, by decide +kernel, by decide, by decide, by decide +kernel, tw_19, rfl⟩, fun _ => ⟨tw_431, pw_14, _, rfl, rfl⟩, fun h => absurd h (by decide), fun h => absurd h (by decide)⟩
theorem xm_63 : sm_mf 63 := ⟨fun _ => ⟨tw_436, by decide +kernel, by decide, by decide, by decide +kernel, tw_19, rfl⟩, fun _ => ⟨tw_435, pw_15, _, rfl, rfl⟩, fun h => absurd h (by decide), fun h => absurd h (by decide)⟩
theorem xm_64 : sm_mf 64 := ⟨fun _ => ⟨tw_440, by decide +kernel, by decide, by decide, by decide +kernel, tw_19, rfl⟩, fun _ => ⟨tw_439, pw_16, _, rfl, rfl⟩, fun h => absurd h (by decide), fun h => absurd h (by decide)⟩
theorem xm_65 : sm_mf 65 := ⟨fun _ => ⟨tw_444, by decide +kernel, by decide, by decide, by decide +kernel, tw_19, rfl⟩, fun _ => ⟨tw_443, pw_17, _, rfl, rfl⟩, fun h => absurd h (by decide), fun h => absurd h (by decide)⟩
theorem xm_66 : sm_mf 66 := ⟨fun _ => ⟨tw_447, by decide +kernel, by decide, by decide, by decide +kernel, tw_19, rfl⟩, fun h => absurd h (by decide), fun _ => tw_446, fun h => absurd h (by decide)⟩
theorem xm_67 : sm_mf 67 := ⟨fun _ => ⟨tw_450, by decide +kernel, by decide, by decide, by decide +kernel, tw_19, rfl⟩, fun h => absurd h (by decide), fun _ => tw_449, fun h => absurd h (by decide)⟩
theorem xm_68 : sm_mf 68 := ⟨fun _ => ⟨tw_453, by decide +kernel, by decide, by decide, by decide +kernel, tw_19, rfl⟩, fun h => absurd h (by decide), fun _ => tw_452, fun h => absurd h (by decide)⟩
theorem xm_69 : sm_mf 69 := ⟨fun _ => ⟨tw_458, by decide +kernel, by decide, by decide, by decide +kernel, tw_19, rfl⟩, fun _ => ⟨tw_457, pw_18, _, rfl, rfl⟩, fun h => absurd h (by decide), fun h => absurd h (by decide)⟩
theorem xm_70 : sm_mf 70 := ⟨fun _ => ⟨tw_462, by decide +kernel, by decide, by decide, by decide +kernel, tw_19, rfl⟩, fun _ => ⟨tw_461, pw_19, _, rfl, rfl⟩, fun h => absurd h (by decide), fun h => absurd h (by decide)⟩
theorem xm_71 : sm_mf 71 := ⟨fun _ => ⟨tw_555, by decide +kernel, by decide, by decide, by decide +kernel, tw_19, rfl⟩, fun _ => ⟨tw_554, pw_20, _, rfl, rfl⟩, fun h => absurd h (by decide), fun h => absurd h (by decide)⟩
theorem xm_72 : sm_mf 72 := ⟨fun _ => ⟨tw_560, by decide +kernel, by decide, by decide, by decide +kernel, tw_19, rfl⟩, fun _ => ⟨tw_559, pw_21, _, rfl, rfl⟩, fun h => absurd h (by decide), fun h => absurd h (by decide)⟩
theorem xm_73 : sm_mf 73 := ⟨fun _ => ⟨tw_564, by decide +kernel, by decide, by decide, by decide +kernel, tw_19, rfl⟩, fun _ => ⟨tw_563, pw_22, _, rfl, rfl⟩, fun h => absurd h (by decide), fun h => absurd h (by decide)⟩
theorem xm_74 : sm_mf 74 := ⟨fun _ => ⟨tw_568, by decide +kernel, by decide, by decide, by decide +kernel, tw_19, rfl⟩, fun _ => ⟨tw_567, pw_23, _, rfl, rfl⟩, fun h => absurd h (by decide), fun h => absurd h (by decide)⟩
theorem xm_75 : sm_mf 75 := ⟨fun _ => ⟨tw_572, by decide +kernel, by decide, by decide, by decide +kernel, tw_19, rfl⟩, fun _ => ⟨tw_571, pw_24, _, rfl, rfl⟩, fun h => absurd h (by decide), fun h => absurd h (by decide)⟩
theorem xm_76 : sm_mf 76 := ⟨fun _ => ⟨tw_584, by decide +kernel, by decide, by decide, by decide +kernel, tw_19, rfl⟩, fun _ => ⟨tw_583, pw_27, _, rfl, rfl⟩, fun h => absurd h (by decide), fun h => absurd h (by decide)⟩
theorem xm_77 : sm_mf 77 := ⟨fun _ => ⟨tw_588, by decide +kernel, by decide, by decide, by decide +kernel, tw_19, rfl⟩, fun _ => ⟨tw_587, pw_28, _, rfl, rfl⟩, fun h => absurd h (by decide), fun h => absurd h (by decide)⟩
theorem xm_78 : sm_mf 78 := ⟨fun _ => ⟨tw_592, by decide +kernel, by decide, by decide, by decide +kernel, tw_19, rfl⟩, fun _ => ⟨tw_591, pw_29, _, rfl, rfl⟩, fun h => absurd h (by decide), fun h => absurd h (by decide)⟩
theorem xm_79 : sm_mf 79 := ⟨fun _ => ⟨tw_610, by decide +kernel, by decide, by decide, by decide +kernel, tw_19, rfl⟩, fun _ => ⟨tw_609, pw_31, _, rfl, rfl⟩, fun h => absurd h (by decide), fun h => absurd h (by decide)⟩
theorem xm_80 : sm_mf 80 := ⟨fun _ => ⟨tw_844, by decide +kernel, by decide, by decide, by decide +kernel, tw_13, rfl⟩, fun h => absurd h (by decide), fun h => absurd h (by decide), fun _ => ⟨tw_843, rfl, rfl⟩⟩
theorem xm_81 : sm_mf 81 := ⟨fun _ => ⟨tw_1053, by decide +kernel, by decide, by decide, by decide +kernel, tw_13, rfl⟩, fun _ => ⟨tw_1051, tw_1052, _, rfl, rfl⟩, fun h => absurd h (by decide), fun h => absurd h (by decide)⟩
theorem xm_82 : sm_mf 82 := ⟨fun _ => ⟨tw_1057, by decide +kernel, by decide, by decide, by decide +kernel, tw_13, rfl⟩, fun _ => ⟨tw_1055, tw_1056, _, rfl, rfl⟩, fun h => absurd h (by decide), fun h => absurd h (by decide)⟩
theorem xm_83 : sm_mf 83 := ⟨fun _ => ⟨tw_1060, by decide +kernel, by decide, by decide, by decide +kernel, tw_13, rfl⟩, fun h => absurd h (by decide), fun _ => tw_1059, fun h => absurd h (by decide)⟩
theorem xm_84 : sm_mf 84 := ⟨fun _ => ⟨tw_1064, by decide +kernel, by decide, by decide, by decide +kernel, tw_13, rfl⟩, fun _ => ⟨tw_1062, tw_1063, _, rfl, rfl⟩, fun h => absurd h (by decide), fun h => absurd h (by decide)⟩
theorem xm_85 : sm_mf 85 := ⟨fun _ => ⟨tw_1068, by decide +kernel, by decide, by decide, by decide +kernel, tw_13, rfl⟩, fun _ => ⟨tw_1067, pw_58, _, rfl, rfl⟩, fun h => absurd h (by decide), fun h => absurd h (by decide)⟩
theorem xm_86 : sm_mf 86 := ⟨fun _ => ⟨tw_1072, by decide +kernel, by decide, by decide, by decide +kernel, tw_13, rfl⟩, fun _ => ⟨tw_1071, pw_59, _, rfl, rfl⟩, fun h => absurd h (by decide), fun h => absurd h (by decide)⟩
theorem xm_87 : sm_mf 87 := ⟨fun _ => ⟨tw_1075, by decide +kernel, by decide, by decide, by decide +kernel, tw_13, rfl⟩, fun h => absurd h (by decide), fun _ => tw_1074, fun h => absurd h (by decide)⟩
theorem xm_88 : sm_mf 88 := ⟨fun _ => ⟨tw_1079, by decide +kernel, by decide, by decide, by decide +kernel, tw_13, rfl⟩, fun _ => ⟨tw_1078, pw_60, _, rfl, rfl⟩, fun h => absurd h (by decide), fun h => absurd h (by decide)⟩
theorem xm_89 : sm_mf 89 := ⟨fun _ => ⟨tw_1083, by decide +kernel, by decide, by decide, by decide +kernel, tw_13, rfl⟩, fun _ => ⟨tw_1082, pw_61, _, rfl, rfl⟩, fun h => absurd h (by decide), fun h => absurd h (by decide)⟩
theorem xm_90 : sm_mf 90 := ⟨fun _ => ⟨tw_1087, by decide +kernel, by decide, by decide, by decide +kernel, tw_13, rfl⟩, fun _ => ⟨tw_1086, pw_62, _, rfl, rfl⟩, fun h => absurd h (by decide), fun h => absurd h (by decide)⟩
theorem xm_91 : sm_mf 91 := ⟨fun _ => ⟨tw_1091, by decide +kernel, by decide, by decide, by decide +kernel, tw_13, rfl⟩, fun _ => ⟨tw_1090, pw_63, _, rfl, rfl⟩, fun h => absurd h (by decide), fun h => absurd h (by decide)⟩
theorem xm_92 : sm_mf 92 := ⟨fun _ => ⟨tw_1095, by decide +kernel, by decide, by decide, by decide +kernel, tw_13, rfl⟩, fun _ => ⟨tw_1094, pw_64, _, rfl, rfl⟩, fun h => absurd h (by decide), fun h => absurd h (by decide)⟩
theorem xm_93 : sm_mf 93 := ⟨fun _ => ⟨tw_1099, by decide +kernel, by decide, by decide, by decide +kernel, tw_13, rfl⟩, fun _ => ⟨tw_1098, pw_65, _, rfl, rfl⟩, fun h => absurd h (by decide), fun h => absurd h (by decide)⟩
theorem xm_94 : sm_mf 94 := ⟨fun _ => ⟨tw_1103, by decide +kernel, by decide, by decide, by decide +kernel, tw_13, rfl⟩, fun _ => ⟨tw_1102, pw_66, _, rfl, rfl⟩, fun h => absurd h (by decide), fun h => absurd h (by decide)⟩
theorem xm_95 : sm_mf 95 := ⟨fun _ => ⟨tw_1107, by decide +kernel, by decide, by decide, by decide +kernel, tw_13, rfl⟩, fun _ => ⟨tw_1106, pw_67, _, rfl, rfl⟩, fun h => absurd h (by decide), fun h => absurd h (by decide)⟩
theorem xm_96 : sm_mf 96 := ⟨fun _ => ⟨tw_1111, by decide +kernel, by decide, by decide, by decide +kernel, tw_13, rfl⟩, fun _ => ⟨tw_1110, pw_68, _, rfl, rfl⟩, fun h => absurd h (by decide), fun h => absurd h (by decide)⟩
theorem xm_97 : sm_mf 97 := ⟨fun _ => ⟨tw_1115, by decide +kernel, by decide, by decide, by decide +kernel, tw_13, rfl⟩, fun _ => ⟨tw_1114, pw_69, _, rfl, rfl⟩, fun h => absurd h (by decide), fun h => absurd h (by decide)⟩
theorem xm_98 : sm_mf 98 := ⟨fun _ => ⟨tw_1119, by decide +kernel, by decide, by decide, by decide +kernel, tw_13, rfl⟩, fun _ => ⟨tw_1118, pw_70, _, rfl, rfl⟩, fun h => absurd h (by decide), fun h => absurd h (by decide)⟩
theorem xm_99 : sm_mf 99 := ⟨fun _ => ⟨tw_1127, by decide +kernel, by decide, by decide, by decide +kernel, tw_13, rfl⟩, fun _ => ⟨tw_1126, pw_71, _, rfl, rfl⟩, fun h => absurd h (by decide), fun h => absurd h (by decide)⟩
theorem xm_100 : sm_mf 100 := ⟨fun _ => ⟨tw_1131, by decide +kernel, by decide, by decide, by decide +kernel, tw_13, rfl⟩, fun _ => ⟨tw_1130, pw_72, _, rfl, rfl⟩, fun h => absurd h (by decide), fun h => absurd h (by decide)⟩
theorem xm_101 : sm_mf 101 := ⟨fun _ => ⟨tw_1135, by decide +kernel, by decide, by decide, by decide +kernel, tw_13, rfl⟩, fun _ => ⟨tw_1134, pw_73, _, rfl, rfl⟩, fun h => absurd h (by decide), fun h => absurd h (by decide)⟩
theorem xm_102 : sm_mf 102 := ⟨fun _ => ⟨tw_1139, by decide +kernel, by decide, by decide, by decide +kernel, tw_13, rfl⟩, fun _ => ⟨tw_1138, pw_74, _, rfl, rfl⟩, fun h => absurd h (by decide), fun h => absurd h (by decide)⟩
theorem xm_103 : sm_mf 103 := ⟨fun _ => ⟨tw_1143, by decide +kernel, by decide, by decide, by decide +kernel, tw_13, rfl⟩, fun _ => ⟨tw_1142, pw_75, _, rfl, rfl⟩, fun h => absurd h (by decide), fun h => absurd h (by decide)⟩
theorem xm_104 : sm_mf 104 := ⟨fun _ => ⟨tw_1147, by decide +kernel, by decide, by decide, by decide +kernel, tw_13, rfl⟩, fun _ => ⟨tw_1146, pw_76, _, rfl, rfl⟩, fun h => absurd h (by decide), fun h => absurd h (by decide)⟩
theorem xm_105 : sm_mf 105 := ⟨fun _ => ⟨tw_1151, by decide +kernel, by decide, by decide, by decide +kernel, tw_13, rfl⟩, fun _ => ⟨tw_1150, pw_77, _, rfl, rfl⟩, fun h => absurd h (by decide), fun h => absurd h (by decide)⟩
theorem xm_106 : sm_mf 106 := ⟨fun _ => ⟨tw_1155, by decide +kernel, by decide, by decide, by decide +kernel, tw_13, rfl⟩, fun _ => ⟨tw_1154, pw_78, _, rfl, rfl⟩, fun h => absurd h (by decide), fun h => absurd h (by decide)⟩
theorem xm_107 : sm_mf 107 := ⟨fun _ => ⟨tw_1159, by decide +kernel, by decide, by decide, by decide +kernel, tw_13, rfl⟩, fun _ => ⟨tw_1158, pw_79, _, rfl, rfl⟩, fun h => absurd h (by decide), fun h => absurd h (by decide)⟩
theorem xm_108 : sm_mf 108 := ⟨fun _ => ⟨tw_1163, by decide +kernel, by decide, by decide, by decide +kernel, tw_13, rfl⟩, fun _ => ⟨tw_1161, tw_1162, _, rfl, rfl⟩, fun h => absurd h (by decide), fun h => absurd h (by decide)⟩
theorem xm_109 : sm_mf 109 := ⟨fun _ => ⟨tw_1167, by decide +kernel, by decide, by decide, by decide +kernel, tw_13, rfl⟩, fun _ => ⟨tw_1166, pw_80, _, rfl, rfl⟩, fun h => absurd h (by decide), fun h => absurd h (by decide)⟩
theorem xm_110 : sm_mf 110 := ⟨fun _ => ⟨tw_1171, by decide +kernel, by decide, by decide, by decide +kernel, tw_13, rfl⟩, fun _ => ⟨tw_1170, pw_81, _, rfl, rfl⟩, fun h => absurd h (by decide), fun h => absurd h (by decide)⟩
theorem xm_111 : sm_mf 111 := ⟨fun _ => ⟨tw_1175, by decide +kernel, by decide, by decide, by decide +kernel, tw_13, rfl⟩, fun _ => ⟨tw_1174, pw_82, _, rfl, rfl⟩, fun h => absurd h (by decide), fun h => absurd h (by decide)⟩
theorem xm_112 : sm_mf 112 := ⟨fun _ => ⟨tw_1179, by decide +kernel, by decide, by decide, by decide +kernel, tw_13, rfl⟩, fun _ => ⟨tw_1178, pw_83, _, rfl, rfl⟩, fun h => absurd h (by decide), fun h => absurd h (by decide)⟩
theorem xm_113 : sm_mf 113 := ⟨fun _ => ⟨tw_1183, by decide +kernel, by decide, by decide, by decide +kernel, tw_13, rfl⟩, fun _ => ⟨tw_1181, tw_1182, _, rfl, rfl⟩, fun h => absurd h (by decide), fun h => absurd h (by decide)⟩
theorem xm_114 : sm_mf 114 := ⟨fun _ => ⟨tw_1187, by decide +kernel, by decide, by decide, by decide +kernel, tw_13, rfl⟩, fun _ => ⟨tw_1185, tw_1186, _, rfl, rfl⟩, fun h => absurd h (by decide), fun h => absurd h (by decide)⟩
theorem xm_115 : sm_mf 115 := ⟨fun _ => ⟨tw_1191, by decide +kernel, by decide, by decide, by decide +kernel, tw_13, rfl⟩, fun _ => ⟨tw_1190, pw_84, _, rfl, rfl⟩, fun h => absurd h (by decide), fun h => absurd h (by decide)⟩
theorem xm_116 : sm_mf 116 := ⟨fun _ => ⟨tw_1195, by decide +kernel, by decide, by decide, by decide +kernel, tw_13, rfl⟩, fun _ => ⟨tw_1194, pw_85, _, rfl, rfl⟩, fun h => absurd h (by decide), fun h => absurd h (by decide)⟩
theorem xm_117 : sm_mf 117 := ⟨fun _ => ⟨tw_1199, by decide +kernel, by decide, by decide, by decide +kernel, tw_13, rfl⟩, fun _ => ⟨tw_1198, pw_86, _, rfl, rfl⟩, fun h => absurd h (by decide), fun h => absurd h (by decide)⟩
theorem xm_118 : sm_mf 118 := ⟨fun _ => ⟨tw_1203, by decide +kernel, by decide, by decide, by decide +kernel, tw_13, rfl⟩, fun _ => ⟨tw_1202, pw_87, _, rfl, rfl⟩, fun h => absurd h (by decide), fun h => absurd h (by decide)⟩
theorem xm_119 : sm_mf 119 := ⟨fun _ => ⟨tw_1207, by decide +kernel, by decide, by decide, by decide +kernel, tw_13, rfl⟩, fun _ => ⟨tw_1206, pw_88, _, rfl, rfl⟩, fun h => absurd h (by decide), fun h => absurd h (by decide)⟩
theorem xm_120 : sm_mf 120 := ⟨fun _ => ⟨tw_1211, by decide +kernel, by decide, by decide, by decide +kernel, tw_13, rfl⟩, fun _ => ⟨tw_1210, pw_89, _, rfl, rfl⟩, fun h => absurd h (by decide), fun h => absurd h (by decide)⟩
theorem xm_121 : sm_mf 121 := ⟨fun _ => ⟨tw_1215, by decide +kernel, by decide, by decide, by decide +kernel, tw_13, rfl⟩, fun _ => ⟨tw_1214, pw_90, _, rfl, rfl⟩, fun h => absurd h (by decide), fun h => absurd h (by decide)⟩
theorem xm_122 : sm_mf 122 := ⟨fun _ => ⟨tw_1219, by decide +kernel, by decide, by decide, by decide +kernel, tw_13, rfl⟩, fun _ => ⟨tw_1218, pw_91, _, rfl, rfl⟩, fun h => absurd h (by decide), fun h => absurd h (by decide)⟩
theorem xm_123 : sm_mf 123 := ⟨fun _ => ⟨tw_1223, by decide +kernel, by decide, by decide, by decide +kernel, tw_13, rfl⟩, fun _ => ⟨tw_1222, pw_92, _, rfl, rfl⟩, fun h => absurd h (by decide), fun h => absurd h (by decide)⟩
theorem xm_124 : sm_mf 124 := ⟨fun _ => ⟨tw_1227, by decide +kernel, by decide, by decide, by decide +kernel, tw_13, rfl⟩, fun _ => ⟨tw_1226, pw_93, _, rfl, rfl⟩, fun h => absurd h (by decide), fun h => absurd h (by decide)⟩
theorem xm_125 : sm_mf 125 := ⟨fun _ => ⟨tw_1231, by decide +kernel, by decide, by decide, by decide +kernel, tw_13, rfl⟩, fun _ => ⟨tw_1230, pw_94, _, rfl, rfl⟩, fun h => absurd h (by decide), fun h => absurd h (by decide)⟩
theorem xm_126 : sm_mf 126 := ⟨fun _ => ⟨tw_1235, by decide +kernel, by decide, by decide, by decide +kernel, tw_13, rfl⟩, fun _ => ⟨tw_1234, pw_95, _, rfl, rfl⟩, fun h => absurd h (by decide), fun h => absurd h (by decide)⟩
theorem xm_127 : sm_mf 127 := ⟨fun _ => ⟨tw_1239, by decide +kernel, by decide, by decide, by decide +kernel, tw_13, rfl⟩, fun _ => ⟨tw_1237, tw_1238, _, rfl, rfl⟩, fun h => absurd h (by decide), fun h => absurd h (by decide)⟩
theorem xm_128 : sm_mf 128 := ⟨fun _ => ⟨tw_1243, by decide +kernel, by decide, by decide, by decide +kernel, tw_13, rfl⟩, fun _ => ⟨tw_1241, tw_1242, _, rfl, rfl⟩, fun h => absurd h (by decide), fun h => absurd h (by decide)⟩
theorem xm_129 : sm_mf 129 := ⟨fun _ => ⟨tw_1247, by decide +kernel, by decide, by decide, by decide +kernel, tw_13, rfl⟩, fun _ => ⟨tw_1246, pw_96, _, rfl, rfl⟩, fun h => absurd h (by decide), fun h => absurd h (by decide)⟩
theorem xm_130 : sm_mf 130 := ⟨fun _ => ⟨tw_1251, by decide +kernel, by decide, by decide, by decide +kernel, tw_13, rfl⟩, fun _ => ⟨tw_1249, tw_1250, _, rfl, rfl⟩, fun h => absurd h (by decide), fun h => absurd h (by decide)⟩
theorem xm_131 : sm_mf 131 := ⟨fun _ => ⟨tw_1255, by decide +kernel, by decide, by decide, by decide +kernel, tw_13, rfl⟩, fun _ => ⟨tw_1253, tw_1254, _, rfl, rfl⟩, fun h => absurd h (by decide), fun h => absurd h (by decide)⟩
theorem xm_132 : sm_mf 132 := ⟨fun _ => ⟨tw_1259, by decide +kernel, by decide, by decide, by decide +kernel, tw_13, rfl⟩, fun _ => ⟨tw_1258, pw_97, _, rfl, rfl⟩, fun h => absurd h (by decide), fun h => absurd h (by decide)⟩
theorem xm_133 : sm_mf 133 := ⟨fun _ => ⟨tw_1263, by decide +kernel, by decide, by decide, by decide +kernel, tw_13, rfl⟩, fun _ => ⟨tw_1261, tw_1262, _, rfl, rfl⟩, fun h => absurd h (by decide), fun h => absurd h (by decide)⟩
theorem xm_134 : sm_mf 134 := ⟨fun _ => ⟨tw_1267, by decide +kernel, by decide, by decide, by decide +kernel, tw_13, rfl⟩, fun _ => ⟨tw_1266, pw_98, _, rfl, rfl⟩, fun h => absurd h (by decide), fun h => absurd h (by decide)⟩
theorem xm_135 : sm_mf 135 := ⟨fun _ => ⟨tw_1271, by decide +kernel, by decide, by decide, by decide +kernel, tw_13, rfl⟩, fun _ => ⟨tw_1269, tw_1270, _, rfl, rfl⟩, fun h => absurd h (by decide), fun h => absurd h (by decide)⟩
theorem xm_136 : sm_mf 136 := ⟨fun _ => ⟨tw_1275, by decide +kernel, by decide, by decide, by decide +kernel, tw_13, rfl⟩, fun _ => ⟨tw_1273, tw_1274, _, rfl, rfl⟩, fun h => absurd h (by decide), fun h => absurd h (by decide)⟩
theorem xm_137 : sm_mf 137 := ⟨fun _ => ⟨tw_1279, by decide +kernel, by decide, by decide, by decide +kernel, tw_13, rfl⟩, fun _ => ⟨tw_1278, pw_99, _, rfl, rfl⟩, fun h => absurd h (by decide), fun h => absurd h (by decide)⟩
theorem xm_138 : sm_mf 138 := ⟨fun _ => ⟨tw_1283, by decide +kernel, by decide, by decide, by decide +kernel, tw_13, rfl⟩, fun _ => ⟨tw_1282, pw_100, _, rfl, rfl⟩, fun h => absurd h (by decide), fun h => absurd h (by decide)⟩
theorem xm_139 : sm_mf 139 := ⟨fun _ => ⟨tw_1287, by decide +kernel, by decide, by decide, by decide +kernel, tw_13, rfl⟩, fun _ => ⟨tw_1286, pw_101, _, rfl, rfl⟩, fun h => absurd h (by decide), fun h => absurd h (by decide)⟩
theorem xm_140 : sm_mf 140 := ⟨fun _ => ⟨tw_1290, by decide +kernel, by decide, by decide, by decide +kernel, tw_13, rfl⟩, fun h => absurd h (by decide), fun _ => tw_1289, fun h => absurd h (by decide)⟩
theorem xm_141 : sm_mf 141 := ⟨fun _ => ⟨tw_1293, by decide +kernel, by decide, by decide, by decide +kernel, tw_13, rfl⟩, fun h => absurd h (by decide), fun _ => tw_1292, fun h => absurd h (by decide)⟩
theorem xm_142 : sm_mf 142 := ⟨fun _ => ⟨tw_1297, by decide +kernel, by decide, by decide, by decide +kernel, tw_13, rfl⟩, fun _ => ⟨tw_1295, tw_1296, _, rfl, rfl⟩, fun h => absurd h (by decide), fun h => absurd h (by decide)⟩
theorem xm_143 : sm_mf 143 := ⟨fun _ => ⟨tw_1301, by decide +kernel, by decide, by decide, by decide +kernel, tw_13, rfl⟩, fun _ => ⟨tw_1299, tw_1300, _, rfl, rfl⟩, fun h => absurd h (by decide), fun h => absurd h (by decide)⟩
theorem xm_144 : sm_mf 144 := ⟨fun _ => ⟨tw_38, by decide +kernel, by decide, by decide, by decide +kernel, tw_4, rfl⟩, fun h => absurd h (by decide), fun h => absurd h (by decide), fun _ => ⟨tw_37, rfl, rfl⟩⟩
theorem xm_145 : sm_mf 145 := ⟨fun _ => ⟨tw_89, by decide +kernel, by decide, by decide, by decide +kernel, tw_4, rfl⟩, fun _ => ⟨tw_87, tw_88, _, rfl, rfl⟩, fun h => absurd h (by decide), fun h => absurd h (by decide)⟩
theorem xm_146 : sm_mf 146 := ⟨fun _ => ⟨tw_93, by decide +kernel, by decide, by decide, by decide +kernel, tw_4, rfl⟩, fun _ => ⟨tw_92, pw_0, _, rfl, rfl⟩, fun h => absurd h (by decide), fun h => absurd h (by decide)⟩
theorem xm_147 : sm_mf 147 := ⟨fun _ => ⟨tw_97, by decide +kernel, by decide, by decide, by decide +kernel, tw_4, rfl⟩, fun _ => ⟨tw_96, pw_1, _, rfl, rfl⟩, fun h => absurd h (by decide), fun h => absurd h (by decide)⟩
theorem xm_148 : sm_mf 148 := ⟨fun _ => ⟨tw_101, by decide +kernel, by decide, by decide, by decide +kernel, tw_4, rfl⟩, fun _ => ⟨tw_100, pw_2, _, rfl, rfl⟩, fun h => absurd h (by decide), fun h => absurd h (by decide)⟩
theorem xm_149 : sm_mf 149 := ⟨fun _ => ⟨tw_228, by decide +kernel, by decide, by decide, by decide +kernel, tw_4, rfl⟩, fun _ => ⟨tw_226, tw_227, _, rfl, rfl⟩, fun h => absurd h (by decide), fun h => absurd h (by decide)⟩
theorem xm_150 : sm_mf 150 := ⟨fun _ => ⟨tw_232, by decide +kernel, by decide, by decide, by decide +kernel, tw_4, rfl⟩, fun _ => ⟨tw_230, tw_231, _, rfl, rfl⟩, fun h => absurd h (by decide), fun h => absurd h (by decide)⟩
theorem xm_151 : sm_mf 151 := ⟨fun _ => ⟨tw_242, by decide +kernel, by decide, by decide, by decide +kernel, tw_4, rfl⟩, fun _ => ⟨tw_240, tw_241, _, rfl, rfl⟩, fun h => absurd h (by decide), fun h => absurd h (by decide)⟩
theorem xm_152 : sm_mf 152 := ⟨fun _ => ⟨tw_596, by decide +kernel, by decide, by decide, by decide +kernel, tw_4, rfl⟩, fun _ => ⟨tw_594, tw_595, _, rfl, rfl⟩, fun h => absurd h (by decide), fun h => absurd h (by decide)⟩
theorem xm_153 : sm_mf 153 := ⟨fun _ => ⟨tw_41, by decide +kernel, by decide, by decide, by decide +kernel, tw_3, rfl⟩, fun h => absurd h (by decide), fun h => absurd h (by decide), fun _ => ⟨tw_40, rfl, rfl⟩⟩
theorem xm_154 : sm_mf 154 := ⟨fun _ => ⟨tw_44, by decide +kernel, by decide, by decide, by decide +kernel, tw_2, rfl⟩, fun h => absurd h (by decide), fun h => absurd h (by decide), fun _ => ⟨tw_43, rfl, rfl⟩⟩
theorem xm_155 : sm_mf 155 := ⟨fun _ => ⟨tw_104, by decide +kernel, by decide, by decide, by decide +kernel, tw_6, rfl⟩, fun h => absurd h (by decide), fun _ => tw_103, fun h => absurd h (by decide)⟩
theorem xm_156 : sm_mf 156 := ⟨fun _ => ⟨tw_235, by decide +kernel, by decide, by decide, by decide +kernel, tw_20, rfl⟩, fun h => absurd h (by decide), fun _ => tw_234, fun h => absurd h (by decide)⟩
theorem xm_157 : sm_mf 157 := ⟨fun _ => ⟨tw_238, by decide +kernel, by decide, by decide, by decide +kernel, tw_21, rfl⟩, fun h => absurd h (by decide), fun _ => tw_237, fun h => absurd h (by decide)⟩
theorem xm_158 : sm_mf 158 := ⟨fun _ => ⟨tw_767, by decide +kernel, by decide, by decide, by decide +kernel, tw_25, rfl⟩, fun h => absurd h (by decide), fun _ => tw_766, fun h => absurd h (by decide)⟩
theorem xm_159 : sm_mf 159 := ⟨fun h => absurd h (by decide), fun h => absurd h (by decide), fun h => absurd h (by decide), fun h => absurd h (by decide)⟩
theorem xm_160 : sm_mf 160 := ⟨fun h => absurd h (by decide), fun h => absurd h (by decide), fun h => absurd h (by decide), fun h => absurd h (by decide)⟩
theorem xm_161 : sm_mf 161 := ⟨fun h => absurd h (by decide), fun h => absurd h (by decide), fun h => absurd h (by decide), fun h => absurd h (by decide)⟩
theorem xm_162 : sm_mf 162 := ⟨fun h => absurd h (by decide), fun h => absurd h (by decide), fun h => absurd h (by decide), fun h => absurd h (by decide)⟩
theorem xm_163 : sm_mf 163 := ⟨fun h => absurd h (by decide), fun h => absurd h (by decide), fun h => absurd h (by decide), fun h => absurd h (by decide)⟩
theorem xm_164 : sm_mf 164 := ⟨fun h => absurd h (by decide), fun h => absurd h (by decide), fun h => absurd h (by decide), fun h => absurd h (by decide)⟩
theorem xm_165 : sm_mf 165 := ⟨fun h => absurd h (by decide), fun h => absurd h (by decide), fun h => absurd h (by decide), fun h => absurd h (by decide)⟩
theorem xm_166 : sm_mf 166 := ⟨fun h => absurd h (by decide), fun h => absurd h (by decide), fun h => absurd h (by decide), fun h => absurd h (by decide)⟩
theorem xm_167 : sm_mf 167 := ⟨fun h => absurd h (by decide), fun h => absurd h (by decide), fun h => absurd h (by decide), fun h => absurd h (by decide)⟩
theorem xm_168 : sm_mf 168 := ⟨fun h => absurd h (by decide), fun h => absurd h (by decide), fun h => absurd h (by decide), fun h => absurd h (by decide)⟩
theorem xm_169 : sm_mf 169 := ⟨fun h => absurd h (by decide), fun h => absurd h (by decide), fun h => absurd h (by decide), fun h => absurd h (by decide)⟩
theorem xm_170 : sm_mf 170 := ⟨fun _ => ⟨tw_600, by decide +kernel, by decide, by decide, by decide +kernel, tw_4, rfl⟩, fun _ => ⟨tw_598, tw_599, _, rfl, rfl⟩, fun h => absurd h (by decide), fun h => absurd h (by decide)⟩
theorem xm_ok (j : Nat) (h : j < 171) : sm_mf j := by
  match j, h with
  | 0, _ => exact xm_0
  | 1, _ => exact xm_1
  | 2, _ => exact xm_2
  | 3, _ => exact xm_3
  | 4, _ => exact xm_4
  | 5, _ => exact xm_5
  | 6, _ => exact xm_6
  | 7, _ => exact xm_7
  | 8, _ => exact xm_8
  | 9, _ => exact xm_9
  | 10, _ => exact xm_10
  | 11, _ => exact xm_11
  | 12, _ => exact xm_12
  | 13, _ => exact xm_13
  | 14, _ => exact xm_14
  | 15, _ => exact xm_15
  | 16, _ => exact xm_16
  | 17, _ => exact xm_17
  | 18, _ => exact xm_18
  | 19, _ => exact xm_19
  | 20, _ => exact xm_20
  | 21, _ => exact xm_21
  | 22, _ => exact xm_22
  | 23, _ => exact xm_23
  | 24, _ => exact xm_24
  | 25, _ => exact xm_25
  | 26, _ => exact xm_26
  | 27, _ => exact xm_27
  | 28, _ => exact xm_28
  | 29, _ => exact xm_29
  | 30, _ => exact xm_30
  | 31, _ => exact xm_31
  | 32, _ => exact xm_32
  | 33, _ => exact xm_33
  | 34, _ => exact xm_34
  | 35, _ => exact xm_35
  | 36, _ => exact xm_36
  | 37, _ => exact xm_37
  | 38, _ => exact xm_38
  | 39, _ => exact xm_39
  | 40, _ => exact xm_40
  | 41, _ => exact xm_41
  | 42, _ => exact xm_42
  | 43, _ => exact xm_43
  | 44, _ => exact xm_44
  | 45, _ => exact xm_45
  | 46, _ => exact xm_46
  | 47, _ => exact xm_47
  | 48, _ => exact xm_48
  | 49, _ => exact xm_49
  | 50, _ => exact xm_50
  | 51, _ => exact xm_51
  | 52, _ => exact xm_52
  | 53, _ => exact xm_53
  | 54, _ => exact xm_54
  | 55, _ => exact xm_55
  | 56, _ => exact xm_56
  | 57, _ => exact xm_57
  | 58, _ => exact xm_58
  | 59, _ => exact xm_59
  | 60, _ => exact xm_60
  | 61, _ => exact xm_61
  | 62, _ => exact xm_62
  | 63, _ => exact xm_63
  | 64, _ => exact xm_64
  | 65, _ => exact xm_65
  | 66, _ => exact xm_66
  | 67, _ => exact xm_67
  | 68, _ => exact xm_68
  | 69, _ => exact xm_69
  | 70, _ => exact xm_70
  | 71, _ => exact xm_71
  | 72, _ => exact xm_72
  | 73, _ => exact xm_73
  | 74, _ => exact xm_74
  | 75, _ => exact xm_75
  | 76, _ => exact xm_76
  | 77, _ => exact xm_77
  | 78, _ => exact xm_78
  | 79, _ => exact xm_79
  | 80, _ => exact xm_80
  | 81, _ => exact xm_81
  | 82, _ => exact xm_82
  | 83, _ => exact xm_83
  | 84, _ => exact xm_84
  | 85, _ => exact xm_85
  | 86, _ => exact xm_86
  | 87, _ => exact xm_87
  | 88, _ => exact xm_88
  | 89, _ => exact xm_89
  | 90, _ => exact xm_90
  | 91, _ => exact xm_91
  | 92, _ => exact xm_92
  | 93, _ => exact xm_93
  | 94, _ => exact xm_94
  | 95, _ => exact xm_95
  | 96, _ => exact xm_96
  | 97, _ => exact xm_97
  | 98, _ => exact xm_98
  | 99, _ => exact xm_99
  | 100, _ => exact xm_100
  | 101, _ => exact xm_101
  | 102, _ => exact xm_102
  | 103, _ => exact xm_103
  | 104, _ => exact xm_104
  | 105, _ => exact xm_105
  | 106, _ => exact xm_106
  | 107, _ => exact xm_107
  | 108, _ => exact xm_108
  | 109, _ => exact xm_109
  | 110, _ => exact xm_110
  | 111, _ => exact xm_111
  | 112, _ => exact xm_112
  | 113, _ => exact xm_113
  | 114, _ => exact xm_114
  | 115, _ => exact xm_115
  | 116, _ => exact xm_116
  | 117, _ => exact xm_117
  | 118, _ => exact xm_118
  | 119, _ => exact xm_119
  | 120, _ => exact xm_120
  | 121, _ => exact xm_121
  | 122, _ => exact xm_122
  | 123, _ => exact xm_123
  | 124, _ => exact xm_124
  | 125, _ => exact xm_125
  | 126, _ => exact xm_126
  | 127, _ => exact xm_127
  | 128, _ => exact xm_128
  | 129, _ => exact xm_129
  | 130, _ => exact xm_130
  | 131, _ => exact xm_131
  | 132, _ => exact xm_132
  | 133, _ => exact xm_133
  | 134, _ => exact xm_134
  | 135, _ => exact xm_135
  | 136, _ => exact xm_136
  | 137, _ => exact xm_137
  | 138, _ => exact xm_138
  | 139, _ => exact xm_139
  | 140, _ => exact xm_140
  | 141, _ => exact xm_141
  | 142, _ => exact xm_142
  | 143, _ => exact xm_143
  | 144, _ => exact xm_144
  | 145, _ => exact xm_145
  | 146, _ => exact xm_146
  | 147, _ => exact xm_147
  | 148, _ => exact xm_148
  | 149, _ => exact xm_149
  | 150, _ => exact xm_150
  | 151, _ => exact xm_151
  | 152, _ => exact xm_152
  | 153, _ => exact xm_153
  | 154, _ => exact xm_154
  | 155, _ => exact xm_155
  | 156, _ => exact xm_156
  | 157, _ => exact xm_157
  | 158, _ => exact xm_158
  | 159, _ => exact xm_159
  | 160, _ => exact xm_160
  | 161, _ => exact xm_161
  | 162, _ => exact xm_162
  | 163, _ => exact xm_163
  | 164, _ => exact xm_164
  | 165, _ => exact xm_165
  | 166, _ => exact xm_166
  | 167, _ => exact xm_167
  | 168, _ => exact xm_168
  | 169, _ => exact xm_169
  | 170, _ => exact xm_170
  | n + 171, h => exact absurd h (by omega)
theorem xkd_lt {j : Nat} (h : xkd j ≠ 9) : j < 171 := by
  rcases Nat.lt_or_ge j 171 with q | q
  · exact q
  · exact absurd (by unfold xkd; rw [List.getD_eq_getElem?_getD, List.getElem?_eq_none (by show xkds.length ≤ j; exact q)]; rfl) h
