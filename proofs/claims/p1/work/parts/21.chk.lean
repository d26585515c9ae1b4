theorem mt_a_0 : ai_mok1 mm_0 = true := by decide +kernel
theorem mt_a_1 : ai_mok1 mm_1 = true := by decide +kernel
theorem mt_a_2 : ai_mok1 mm_2 = true := by decide +kernel
theorem mt_a_3 : ai_mok1 mm_3 = true := by decide +kernel
theorem mt_a_4 : ai_mok1 mm_4 = true := by decide +kernel
theorem mt_a_5 : ai_mok1 mm_5 = true := by decide +kernel
theorem mt_a_6 : ai_mok1 mm_6 = true := by decide +kernel
theorem mt_a_7 : ai_mok1 mm_7 = true := by decide +kernel
theorem mt_a_8 : ai_mok1 mm_8 = true := by decide +kernel
theorem mt_a_9 : ai_mok1 mm_9 = true := by decide +kernel
theorem mt_a_10 : ai_mok1 mm_10 = true := by decide +kernel
theorem mt_a_11 : ai_mok1 mm_11 = true := by decide +kernel
theorem mt_a_12 : ai_mok1 mm_12 = true := by decide +kernel
theorem mt_a_13 : ai_mok1 mm_13 = true := by decide +kernel
theorem mt_a_14 : ai_mok1 mm_14 = true := by decide +kernel
theorem mt_a_15 : ai_mok1 mm_15 = true := by decide +kernel
theorem mt_a_16 : ai_mok1 mm_16 = true := by decide +kernel
theorem mt_a_17 : ai_mok1 mm_17 = true := by decide +kernel
theorem mt_a_18 : ai_mok1 mm_18 = true := by decide +kernel
theorem mt_a_19 : ai_mok1 mm_19 = true := by decide +kernel
theorem mt_a_20 : ai_mok1 mm_20 = true := by decide +kernel
theorem mt_a_21 : ai_mok1 mm_21 = true := by decide +kernel
theorem mt_a_22 : ai_mok1 mm_22 = true := by decide +kernel
theorem mt_a_23 : ai_mok1 mm_23 = true := by decide +kernel
theorem mt_a_24 : ai_mok1 mm_24 = true := by decide +kernel
theorem mt_a_25 : ai_mok1 mm_25 = true := by decide +kernel
theorem mt_a_26 : ai_mok1 mm_26 = true := by decide +kernel
theorem mt_a_27 : ai_mok1 mm_27 = true := by decide +kernel
theorem mt_a_28 : ai_mok1 mm_28 = true := by decide +kernel
theorem mt_a_29 : ai_mok1 mm_29 = true := by decide +kernel
theorem mt_a_30 : ai_mok1 mm_30 = true := by decide +kernel
theorem mt_a_31 : ai_mok1 mm_31 = true := by decide +kernel
theorem mt_a_32 : ai_mok1 mm_32 = true := by decide +kernel
theorem mt_a_33 : ai_mok1 mm_33 = true := by decide +kernel
theorem mt_a_34 : ai_mok1 mm_34 = true := by decide +kernel
theorem mt_a_35 : ai_mok1 mm_35 = true := by decide +kernel
theorem mt_a_36 : ai_mok1 mm_36 = true := by decide +kernel
theorem mt_a_37 : ai_mok1 mm_37 = true := by decide +kernel
theorem mt_a_38 : ai_mok1 mm_38 = true := by decide +kernel
theorem mt_a_39 : ai_mok1 mm_39 = true := by decide +kernel
theorem mt_a_40 : ai_mok1 mm_40 = true := by decide +kernel
theorem mt_a_41 : ai_mok1 mm_41 = true := by decide +kernel
theorem mt_a_42 : ai_mok1 mm_42 = true := by decide +kernel
theorem mt_a_43 : ai_mok1 mm_43 = true := by decide +kernel
theorem mt_a_44 : ai_mok1 mm_44 = true := by decide +kernel
theorem mt_a_45 : ai_mok1 mm_45 = true := by decide +kernel
theorem mt_a_46 : ai_mok1 mm_46 = true := by decide +kernel
theorem mt_a_47 : ai_mok1 mm_47 = true := by decide +kernel
theorem mt_a_48 : ai_mok1 mm_48 = true := by decide +kernel
theorem mt_a_49 : ai_mok1 mm_49 = true := by decide +kernel
theorem mt_a_50 : ai_mok1 mm_50 = true := by decide +kernel
theorem mt_a_51 : ai_mok1 mm_51 = true := by decide +kernel
theorem mt_a_52 : ai_mok1 mm_52 = true := by decide +kernel
theorem mt_a_53 : ai_mok1 mm_53 = true := by decide +kernel
theorem mt_a_54 : ai_mok1 mm_54 = true := by decide +kernel
theorem mt_a_55 : ai_mok1 mm_55 = true := by decide +kernel
theorem mt_a_56 : ai_mok1 mm_56 = true := by decide +kernel
theorem mt_a_57 : ai_mok1 mm_57 = true := by decide +kernel
theorem mt_a_58 : ai_mok1 mm_58 = true := by decide +kernel
theorem mt_a_59 : ai_mok1 mm_59 = true := by decide +kernel
theorem mt_a_60 : ai_mok1 mm_60 = true := by decide +kernel
theorem mt_a_61 : ai_mok1 mm_61 = true := by decide +kernel
theorem mt_a_62 : ai_mok1 mm_62 = true := by decide +kernel
theorem mt_a_63 : ai_mok1 mm_63 = true := by decide +kernel
theorem mt_a_64 : ai_mok1 mm_64 = true := by decide +kernel
theorem mt_a_65 : ai_mok1 mm_65 = true := by decide +kernel
theorem mt_a_66 : ai_mok1 mm_66 = true := by decide +kernel
theorem mt_a_67 : ai_mok1 mm_67 = true := by decide +kernel
theorem mt_a_68 : ai_mok1 mm_68 = true := by decide +kernel
theorem mt_a_69 : ai_mok1 mm_69 = true := by decide +kernel
theorem mt_a_70 : ai_mok1 mm_70 = true := by decide +kernel
theorem mt_a_71 : ai_mok1 mm_71 = true := by decide +kernel
theorem mt_a_72 : ai_mok1 mm_72 = true := by decide +kernel
theorem mt_a_73 : ai_mok1 mm_73 = true := by decide +kernel
theorem mt_a_74 : ai_mok1 mm_74 = true := by decide +kernel
theorem mt_a_75 : ai_mok1 mm_75 = true := by decide +kernel
theorem mt_a_76 : ai_mok1 mm_76 = true := by decide +kernel
theorem mt_a_77 : ai_mok1 mm_77 = true := by decide +kernel
theorem mt_a_78 : ai_mok1 mm_78 = true := by decide +kernel
theorem mt_a_79 : ai_mok1 mm_79 = true := by decide +kernel
theorem mt_a_80 : ai_mok1 mm_80 = true := by decide +kernel
theorem mt_a_81 : ai_mok1 mm_81 = true := by decide +kernel
theorem mt_a_82 : ai_mok1 mm_82 = true := by decide +kernel
theorem mt_a_83 : ai_mok1 mm_83 = true := by decide +kernel
theorem mt_a_84 : ai_mok1 mm_84 = true := by decide +kernel
theorem mt_a_85 : ai_mok1 mm_85 = true := by decide +kernel
theorem mt_a_86 : ai_mok1 mm_86 = true := by decide +kernel
theorem mt_a_87 : ai_mok1 mm_87 = true := by decide +kernel
theorem mt_a_88 : ai_mok1 mm_88 = true := by decide +kernel
theorem mt_a_89 : ai_mok1 mm_89 = true := by decide +kernel
theorem mt_a_90 : ai_mok1 mm_90 = true := by decide +kernel
theorem mt_a_91 : ai_mok1 mm_91 = true := by decide +kernel
theorem mt_a_92 : ai_mok1 mm_92 = true := by decide +kernel
theorem mt_a_93 : ai_mok1 mm_93 = true := by decide +kernel
theorem mt_a_94 : ai_mok1 mm_94 = true := by decide +kernel
theorem mt_a_95 : ai_mok1 mm_95 = true := by decide +kernel
theorem mt_a_96 : ai_mok1 mm_96 = true := by decide +kernel
theorem mt_a_97 : ai_mok1 mm_97 = true := by decide +kernel
theorem mt_a_98 : ai_mok1 mm_98 = true := by decide +kernel
theorem mt_a_99 : ai_mok1 mm_99 = true := by decide +kernel
theorem mt_a_100 : ai_mok1 mm_100 = true := by decide +kernel
theorem mt_a_101 : ai_mok1 mm_101 = true := by decide +kernel
theorem mt_a_102 : ai_mok1 mm_102 = true := by decide +kernel
theorem mt_a_103 : ai_mok1 mm_103 = true := by decide +kernel
theorem mt_a_104 : ai_mok1 mm_104 = true := by decide +kernel
theorem mt_a_105 : ai_mok1 mm_105 = true := by decide +kernel
theorem mt_a_106 : ai_mok1 mm_106 = true := by decide +kernel
theorem mt_a_107 : ai_mok1 mm_107 = true := by decide +kernel
theorem mt_a_108 : ai_mok1 mm_108 = true := by decide +kernel
theorem mt_a_109 : ai_mok1 mm_109 = true := by decide +kernel
theorem mt_a_110 : ai_mok1 mm_110 = true := by decide +kernel
theorem mt_a_111 : ai_mok1 mm_111 = true := by decide +kernel
theorem mt_a_112 : ai_mok1 mm_112 = true := by decide +kernel
theorem mt_ok1 : ∀ M ∈ mt, ai_mok1 M = true := by
  intro M hM
  simp only [mt, List.mem_cons, List.not_mem_nil, or_false] at hM
  rcases hM with rfl | rfl | rfl | rfl | rfl | rfl | rfl | rfl | rfl | rfl | rfl | rfl | rfl | rfl | rfl | rfl | rfl | rfl | rfl | rfl | rfl | rfl | rfl | rfl | rfl | rfl | rfl | rfl | rfl | rfl | rfl | rfl | rfl | rfl | rfl | rfl | rfl | rfl | rfl | rfl | rfl | rfl | rfl | rfl | rfl | rfl | rfl | rfl | rfl | rfl | rfl | rfl | rfl | rfl | rfl | rfl | rfl | rfl | rfl | rfl | rfl | rfl | rfl | rfl | rfl | rfl | rfl | rfl | rfl | rfl | rfl | rfl | rfl | rfl | rfl | rfl | rfl | rfl | rfl | rfl | rfl | rfl | rfl | rfl | rfl | rfl | rfl | rfl | rfl | rfl | rfl | rfl | rfl | rfl | rfl | rfl | rfl | rfl | rfl | rfl | rfl | rfl | rfl | rfl | rfl | rfl | rfl | rfl | rfl | rfl | rfl | rfl | rfl
  · exact mt_a_0
  · exact mt_a_1
  · exact mt_a_2
  · exact mt_a_3
  · exact mt_a_4
  · exact mt_a_5
  · exact mt_a_6
  · exact mt_a_7
  · exact mt_a_8
  · exact mt_a_9
  · exact mt_a_10
  · exact mt_a_11
  · exact mt_a_12
  · exact mt_a_13
  · exact mt_a_14
  · exact mt_a_15
  · exact mt_a_16
  · exact mt_a_17
  · exact mt_a_18
  · exact mt_a_19
  · exact mt_a_20
  · exact mt_a_21
  · exact mt_a_22
  · exact mt_a_23
  · exact mt_a_24
  · exact mt_a_25
  · exact mt_a_26
  · exact mt_a_27
  · exact mt_a_28
  · exact mt_a_29
  · exact mt_a_30
  · exact mt_a_31
  · exact mt_a_32
  · exact mt_a_33
  · exact mt_a_34
  · exact mt_a_35
  · exact mt_a_36
  · exact mt_a_37
  · exact mt_a_38
  · exact mt_a_39
  · exact mt_a_40
  · exact mt_a_41
  · exact mt_a_42
  · exact mt_a_43
  · exact mt_a_44
  · exact mt_a_45
  · exact mt_a_46
  · exact mt_a_47
  · exact mt_a_48
  · exact mt_a_49
  · exact mt_a_50
  · exact mt_a_51
  · exact mt_a_52
  · exact mt_a_53
  · exact mt_a_54
  · exact mt_a_55
  · exact mt_a_56
  · exact mt_a_57
  · exact mt_a_58
  · exact mt_a_59
  · exact mt_a_60
  · exact mt_a_61
  · exact mt_a_62
  · exact mt_a_63
  · exact mt_a_64
  · exact mt_a_65
  · exact mt_a_66
  · exact mt_a_67
  · exact mt_a_68
  · exact mt_a_69
  · exact mt_a_70
  · exact mt_a_71
  · exact mt_a_72
  · exact mt_a_73
  · exact mt_a_74
  · exact mt_a_75
  · exact mt_a_76
  · exact mt_a_77
  · exact mt_a_78
  · exact mt_a_79
  · exact mt_a_80
  · exact mt_a_81
  · exact mt_a_82
  · exact mt_a_83
  · exact mt_a_84
  · exact mt_a_85
  · exact mt_a_86
  · exact mt_a_87
  · exact mt_a_88
  · exact mt_a_89
  · exact mt_a_90
  · exact mt_a_91
  · exact mt_a_92
  · exact mt_a_93
  · exact mt_a_94
  · exact mt_a_95
  · exact mt_a_96
  · exact mt_a_97
  · exact mt_a_98
  · exact mt_a_99
  · exact mt_a_100
  · exact mt_a_101
  · exact mt_a_102
  · exact mt_a_103
  · exact mt_a_104
  · exact mt_a_105
  · exact mt_a_106
  · exact mt_a_107
  · exact mt_a_108
  · exact mt_a_109
  · exact mt_a_110
  · exact mt_a_111
  · exact mt_a_112
