theorem ap_all {f : AQ → Bool} {a b : List AQ} (h : a.all f = true) (k : b.all f = true) : (a ++ b).all f = true := by rw [List.all_append, h, k]; rfl
theorem mt_o_0 : ai_mok2 mt mm_0 = true := by decide +kernel
theorem mt_o_1 : ai_mok2 mt mm_1 = true := by decide +kernel
theorem mt_o_2 : ai_mok2 mt mm_2 = true := by decide +kernel
theorem mt_o_3 : ai_mok2 mt mm_3 = true := by decide +kernel
theorem mt_o_4 : ai_mok2 mt mm_4 = true := by decide +kernel
theorem mt_o_5 : ai_mok2 mt mm_5 = true := by decide +kernel
theorem mt_o_6 : ai_mok2 mt mm_6 = true := by decide +kernel
theorem mt_o_7 : ai_mok2 mt mm_7 = true := by decide +kernel
theorem mt_o_8 : ai_mok2 mt mm_8 = true := by decide +kernel
theorem mt_o_9 : ai_mok2 mt mm_9 = true := by decide +kernel
theorem mt_o_10 : ai_mok2 mt mm_10 = true := by decide +kernel
theorem mt_o_11 : ai_mok2 mt mm_11 = true := by decide +kernel
theorem mt_o_12 : ai_mok2 mt mm_12 = true := by decide +kernel
theorem mt_o_13 : ai_mok2 mt mm_13 = true := by decide +kernel
theorem mt_o_14 : ai_mok2 mt mm_14 = true := by decide +kernel
theorem mt_o_15 : ai_mok2 mt mm_15 = true := by decide +kernel
theorem mt_o_16 : ai_mok2 mt mm_16 = true := by decide +kernel
theorem mt_o_17 : ai_mok2 mt mm_17 = true := by decide +kernel
theorem mt_o_18 : ai_mok2 mt mm_18 = true := by decide +kernel
theorem mt_o_19 : ai_mok2 mt mm_19 = true := by decide +kernel
theorem mt_o_20 : ai_mok2 mt mm_20 = true := by decide +kernel
theorem mt_o_21 : ai_mok2 mt mm_21 = true := by decide +kernel
theorem mt_o_22 : ai_mok2 mt mm_22 = true := by decide +kernel
theorem mt_o_23 : ai_mok2 mt mm_23 = true := by decide +kernel
theorem mt_o_24 : ai_mok2 mt mm_24 = true := by decide +kernel
theorem mt_o_25 : ai_mok2 mt mm_25 = true := by decide +kernel
theorem mt_o_26 : ai_mok2 mt mm_26 = true := by decide +kernel
theorem mt_o_27 : ai_mok2 mt mm_27 = true := by decide +kernel
theorem mt_o_28 : ai_mok2 mt mm_28 = true := by decide +kernel
theorem mt_o_29 : ai_mok2 mt mm_29 = true := by decide +kernel
theorem mt_o_30 : ai_mok2 mt mm_30 = true := by decide +kernel
theorem mt_o_31 : ai_mok2 mt mm_31 = true := by decide +kernel
theorem mt_o_32 : ai_mok2 mt mm_32 = true := by decide +kernel
theorem mt_o_33 : ai_mok2 mt mm_33 = true := by decide +kernel
theorem mt_o_34 : ai_mok2 mt mm_34 = true := by decide +kernel
theorem mt_o_35 : ai_mok2 mt mm_35 = true := by decide +kernel
theorem mt_o_36 : ai_mok2 mt mm_36 = true := by decide +kernel
theorem mt_o_37 : ai_mok2 mt mm_37 = true := by decide +kernel
theorem mt_o_38 : ai_mok2 mt mm_38 = true := by decide +kernel
theorem mt_o_39 : ai_mok2 mt mm_39 = true := by decide +kernel
theorem mt_o_40 : ai_mok2 mt mm_40 = true := by decide +kernel
theorem mt_o_41 : ai_mok2 mt mm_41 = true := by decide +kernel
theorem mt_o_42 : ai_mok2 mt mm_42 = true := by decide +kernel
theorem mt_o_43 : ai_mok2 mt mm_43 = true := by decide +kernel
theorem mt_o_44 : ai_mok2 mt mm_44 = true := by decide +kernel
theorem mt_o_45 : ai_mok2 mt mm_45 = true := by decide +kernel
theorem mt_o_46 : ai_mok2 mt mm_46 = true := by decide +kernel
theorem mt_o_47 : ai_mok2 mt mm_47 = true := by decide +kernel
theorem mt_o_48 : ai_mok2 mt mm_48 = true := by decide +kernel
theorem mt_o_49 : ai_mok2 mt mm_49 = true := by decide +kernel
theorem mt_o_50 : ai_mok2 mt mm_50 = true := by decide +kernel
theorem mt_o_51 : ai_mok2 mt mm_51 = true := by decide +kernel
theorem mt_o_52 : ai_mok2 mt mm_52 = true := by decide +kernel
theorem mt_o_53 : ai_mok2 mt mm_53 = true := by decide +kernel
theorem mt_o_54 : ai_mok2 mt mm_54 = true := by decide +kernel
theorem mt_o_55 : ai_mok2 mt mm_55 = true := by decide +kernel
theorem mt_o_56 : ai_mok2 mt mm_56 = true := by decide +kernel
theorem mt_o_57 : ai_mok2 mt mm_57 = true := by decide +kernel
theorem mt_o_58 : ai_mok2 mt mm_58 = true := by decide +kernel
theorem mt_o_59_0 : mc_59_0.all (ai_row mt mm_59) = true := by decide +kernel
theorem mt_o_59_1 : mc_59_1.all (ai_row mt mm_59) = true := by decide +kernel
theorem mt_o_59 : ai_mok2 mt mm_59 = true := ap_all mt_o_59_0 (mt_o_59_1)
theorem mt_o_60 : ai_mok2 mt mm_60 = true := by decide +kernel
theorem mt_o_61 : ai_mok2 mt mm_61 = true := by decide +kernel
theorem mt_o_62 : ai_mok2 mt mm_62 = true := by decide +kernel
theorem mt_o_63 : ai_mok2 mt mm_63 = true := by decide +kernel
theorem mt_o_64 : ai_mok2 mt mm_64 = true := by decide +kernel
theorem mt_o_65 : ai_mok2 mt mm_65 = true := by decide +kernel
theorem mt_o_66 : ai_mok2 mt mm_66 = true := by decide +kernel
theorem mt_o_67 : ai_mok2 mt mm_67 = true := by decide +kernel
theorem mt_o_68 : ai_mok2 mt mm_68 = true := by decide +kernel
theorem mt_o_69 : ai_mok2 mt mm_69 = true := by decide +kernel
theorem mt_o_70 : ai_mok2 mt mm_70 = true := by decide +kernel
theorem mt_o_71_0 : mc_71_0.all (ai_row mt mm_71) = true := by decide +kernel
theorem mt_o_71_1 : mc_71_1.all (ai_row mt mm_71) = true := by decide +kernel
theorem mt_o_71 : ai_mok2 mt mm_71 = true := ap_all mt_o_71_0 (mt_o_71_1)
theorem mt_o_72 : ai_mok2 mt mm_72 = true := by decide +kernel
theorem mt_o_73 : ai_mok2 mt mm_73 = true := by decide +kernel
theorem mt_o_74 : ai_mok2 mt mm_74 = true := by decide +kernel
theorem mt_o_75_0 : mc_75_0.all (ai_row mt mm_75) = true := by decide +kernel
theorem mt_o_75_1 : mc_75_1.all (ai_row mt mm_75) = true := by decide +kernel
theorem mt_o_75_2 : mc_75_2.all (ai_row mt mm_75) = true := by decide +kernel
theorem mt_o_75 : ai_mok2 mt mm_75 = true := ap_all mt_o_75_0 (ap_all mt_o_75_1 (mt_o_75_2))
theorem mt_o_76 : ai_mok2 mt mm_76 = true := by decide +kernel
theorem mt_o_77 : ai_mok2 mt mm_77 = true := by decide +kernel
theorem mt_o_78 : ai_mok2 mt mm_78 = true := by decide +kernel
theorem mt_o_79_0 : mc_79_0.all (ai_row mt mm_79) = true := by decide +kernel
theorem mt_o_79_1 : mc_79_1.all (ai_row mt mm_79) = true := by decide +kernel
theorem mt_o_79_2 : mc_79_2.all (ai_row mt mm_79) = true := by decide +kernel
theorem mt_o_79 : ai_mok2 mt mm_79 = true := ap_all mt_o_79_0 (ap_all mt_o_79_1 (mt_o_79_2))
theorem mt_o_80 : ai_mok2 mt mm_80 = true := by decide +kernel
theorem mt_o_81 : ai_mok2 mt mm_81 = true := by decide +kernel
theorem mt_o_82 : ai_mok2 mt mm_82 = true := by decide +kernel
theorem mt_o_83 : ai_mok2 mt mm_83 = true := by decide +kernel
theorem mt_o_84_0 : mc_84_0.all (ai_row mt mm_84) = true := by decide +kernel
theorem mt_o_84_1 : mc_84_1.all (ai_row mt mm_84) = true := by decide +kernel
theorem mt_o_84 : ai_mok2 mt mm_84 = true := ap_all mt_o_84_0 (mt_o_84_1)
theorem mt_o_85 : ai_mok2 mt mm_85 = true := by decide +kernel
theorem mt_o_86 : ai_mok2 mt mm_86 = true := by decide +kernel
theorem mt_o_87 : ai_mok2 mt mm_87 = true := by decide +kernel
theorem mt_o_88_0 : mc_88_0.all (ai_row mt mm_88) = true := by decide +kernel
theorem mt_o_88_1 : mc_88_1.all (ai_row mt mm_88) = true := by decide +kernel
theorem mt_o_88 : ai_mok2 mt mm_88 = true := ap_all mt_o_88_0 (mt_o_88_1)
theorem mt_o_89 : ai_mok2 mt mm_89 = true := by decide +kernel
theorem mt_o_90 : ai_mok2 mt mm_90 = true := by decide +kernel
theorem mt_o_91_0 : mc_91_0.all (ai_row mt mm_91) = true := by decide +kernel
theorem mt_o_91_1 : mc_91_1.all (ai_row mt mm_91) = true := by decide +kernel
theorem mt_o_91 : ai_mok2 mt mm_91 = true := ap_all mt_o_91_0 (mt_o_91_1)
theorem mt_o_92 : ai_mok2 mt mm_92 = true := by decide +kernel
theorem mt_o_93_0 : mc_93_0.all (ai_row mt mm_93) = true := by decide +kernel
theorem mt_o_93_1 : mc_93_1.all (ai_row mt mm_93) = true := by decide +kernel
theorem mt_o_93 : ai_mok2 mt mm_93 = true := ap_all mt_o_93_0 (mt_o_93_1)
theorem mt_o_94_0 : mc_94_0.all (ai_row mt mm_94) = true := by decide +kernel
theorem mt_o_94_1 : mc_94_1.all (ai_row mt mm_94) = true := by decide +kernel
theorem mt_o_94 : ai_mok2 mt mm_94 = true := ap_all mt_o_94_0 (mt_o_94_1)
theorem mt_o_95 : ai_mok2 mt mm_95 = true := by decide +kernel
theorem mt_o_96 : ai_mok2 mt mm_96 = true := by decide +kernel
theorem mt_o_97 : ai_mok2 mt mm_97 = true := by decide +kernel
theorem mt_o_98 : ai_mok2 mt mm_98 = true := by decide +kernel
theorem mt_o_99 : ai_mok2 mt mm_99 = true := by decide +kernel
theorem mt_o_100_0 : mc_100_0.all (ai_row mt mm_100) = true := by decide +kernel
theorem mt_o_100_1 : mc_100_1.all (ai_row mt mm_100) = true := by decide +kernel
theorem mt_o_100_2 : mc_100_2.all (ai_row mt mm_100) = true := by decide +kernel
theorem mt_o_100_3 : mc_100_3.all (ai_row mt mm_100) = true := by decide +kernel
theorem mt_o_100 : ai_mok2 mt mm_100 = true := ap_all mt_o_100_0 (ap_all mt_o_100_1 (ap_all mt_o_100_2 (mt_o_100_3)))
theorem mt_o_101_0 : mc_101_0.all (ai_row mt mm_101) = true := by decide +kernel
theorem mt_o_101_1 : mc_101_1.all (ai_row mt mm_101) = true := by decide +kernel
theorem mt_o_101 : ai_mok2 mt mm_101 = true := ap_all mt_o_101_0 (mt_o_101_1)
theorem mt_o_102_0 : mc_102_0.all (ai_row mt mm_102) = true := by decide +kernel
theorem mt_o_102_1 : mc_102_1.all (ai_row mt mm_102) = true := by decide +kernel
theorem mt_o_102 : ai_mok2 mt mm_102 = true := ap_all mt_o_102_0 (mt_o_102_1)
theorem mt_o_103 : ai_mok2 mt mm_103 = true := by decide +kernel
theorem mt_o_104 : ai_mok2 mt mm_104 = true := by decide +kernel
theorem mt_o_105 : ai_mok2 mt mm_105 = true := by decide +kernel
theorem mt_o_106 : ai_mok2 mt mm_106 = true := by decide +kernel
theorem mt_o_107 : ai_mok2 mt mm_107 = true := by decide +kernel
theorem mt_o_108 : ai_mok2 mt mm_108 = true := by decide +kernel
theorem mt_o_109 : ai_mok2 mt mm_109 = true := by decide +kernel
theorem mt_o_110 : ai_mok2 mt mm_110 = true := by decide +kernel
theorem mt_o_111 : ai_mok2 mt mm_111 = true := by decide +kernel
theorem mt_o_112 : ai_mok2 mt mm_112 = true := by decide +kernel
theorem mt_o_113_0 : mc_113_0.all (ai_row mt mm_113) = true := by decide +kernel
theorem mt_o_113_1 : mc_113_1.all (ai_row mt mm_113) = true := by decide +kernel
theorem mt_o_113_2 : mc_113_2.all (ai_row mt mm_113) = true := by decide +kernel
theorem mt_o_113_3 : mc_113_3.all (ai_row mt mm_113) = true := by decide +kernel
theorem mt_o_113_4 : mc_113_4.all (ai_row mt mm_113) = true := by decide +kernel
theorem mt_o_113_5 : mc_113_5.all (ai_row mt mm_113) = true := by decide +kernel
theorem mt_o_113_6 : mc_113_6.all (ai_row mt mm_113) = true := by decide +kernel
theorem mt_o_113_7 : mc_113_7.all (ai_row mt mm_113) = true := by decide +kernel
theorem mt_o_113_8 : mc_113_8.all (ai_row mt mm_113) = true := by decide +kernel
theorem mt_o_113_9 : mc_113_9.all (ai_row mt mm_113) = true := by decide +kernel
theorem mt_o_113_10 : mc_113_10.all (ai_row mt mm_113) = true := by decide +kernel
theorem mt_o_113_11 : mc_113_11.all (ai_row mt mm_113) = true := by decide +kernel
theorem mt_o_113 : ai_mok2 mt mm_113 = true := ap_all mt_o_113_0 (ap_all mt_o_113_1 (ap_all mt_o_113_2 (ap_all mt_o_113_3 (ap_all mt_o_113_4 (ap_all mt_o_113_5 (ap_all mt_o_113_6 (ap_all mt_o_113_7 (ap_all mt_o_113_8 (ap_all mt_o_113_9 (ap_all mt_o_113_10 (mt_o_113_11)))))))))))
theorem mt_ok2 : ∀ M ∈ mt, ai_mok2 mt M = true := by
  intro M hM
  simp only [mt, List.mem_cons, List.not_mem_nil, or_false] at hM
  rcases hM with rfl | rfl | rfl | rfl | rfl | rfl | rfl | rfl | rfl | rfl | rfl | rfl | rfl | rfl | rfl | rfl | rfl | rfl | rfl | rfl | rfl | rfl | rfl | rfl | rfl | rfl | rfl | rfl | rfl | rfl | rfl | rfl | rfl | rfl | rfl | rfl | rfl | rfl | rfl | rfl | rfl | rfl | rfl | rfl | rfl | rfl | rfl | rfl | rfl | rfl | rfl | rfl | rfl | rfl | rfl | rfl | rfl | rfl | rfl | rfl | rfl | rfl | rfl | rfl | rfl | rfl | rfl | rfl | rfl | rfl | rfl | rfl | rfl | rfl | rfl | rfl | rfl | rfl | rfl | rfl | rfl | rfl | rfl | rfl | rfl | rfl | rfl | rfl | rfl | rfl | rfl | rfl | rfl | rfl | rfl | rfl | rfl | rfl | rfl | rfl | rfl | rfl | rfl | rfl | rfl | rfl | rfl | rfl | rfl | rfl | rfl | rfl | rfl
  · exact mt_o_0
  · exact mt_o_1
  · exact mt_o_2
  · exact mt_o_3
  · exact mt_o_4
  · exact mt_o_5
  · exact mt_o_6
  · exact mt_o_7
  · exact mt_o_8
  · exact mt_o_9
  · exact mt_o_10
  · exact mt_o_11
  · exact mt_o_12
  · exact mt_o_13
  · exact mt_o_14
  · exact mt_o_15
  · exact mt_o_16
  · exact mt_o_17
  · exact mt_o_18
  · exact mt_o_19
  · exact mt_o_20
  · exact mt_o_21
  · exact mt_o_22
  · exact mt_o_23
  · exact mt_o_24
  · exact mt_o_25
  · exact mt_o_26
  · exact mt_o_27
  · exact mt_o_28
  · exact mt_o_29
  · exact mt_o_30
  · exact mt_o_31
  · exact mt_o_32
  · exact mt_o_33
  · exact mt_o_34
  · exact mt_o_35
  · exact mt_o_36
  · exact mt_o_37
  · exact mt_o_38
  · exact mt_o_39
  · exact mt_o_40
  · exact mt_o_41
  · exact mt_o_42
  · exact mt_o_43
  · exact mt_o_44
  · exact mt_o_45
  · exact mt_o_46
  · exact mt_o_47
  · exact mt_o_48
  · exact mt_o_49
  · exact mt_o_50
  · exact mt_o_51
  · exact mt_o_52
  · exact mt_o_53
  · exact mt_o_54
  · exact mt_o_55
  · exact mt_o_56
  · exact mt_o_57
  · exact mt_o_58
  · exact mt_o_59
  · exact mt_o_60
  · exact mt_o_61
  · exact mt_o_62
  · exact mt_o_63
  · exact mt_o_64
  · exact mt_o_65
  · exact mt_o_66
  · exact mt_o_67
  · exact mt_o_68
  · exact mt_o_69
  · exact mt_o_70
  · exact mt_o_71
  · exact mt_o_72
  · exact mt_o_73
  · exact mt_o_74
  · exact mt_o_75
  · exact mt_o_76
  · exact mt_o_77
  · exact mt_o_78
  · exact mt_o_79
  · exact mt_o_80
  · exact mt_o_81
  · exact mt_o_82
  · exact mt_o_83
  · exact mt_o_84
  · exact mt_o_85
  · exact mt_o_86
  · exact mt_o_87
  · exact mt_o_88
  · exact mt_o_89
  · exact mt_o_90
  · exact mt_o_91
  · exact mt_o_92
  · exact mt_o_93
  · exact mt_o_94
  · exact mt_o_95
  · exact mt_o_96
  · exact mt_o_97
  · exact mt_o_98
  · exact mt_o_99
  · exact mt_o_100
  · exact mt_o_101
  · exact mt_o_102
  · exact mt_o_103
  · exact mt_o_104
  · exact mt_o_105
  · exact mt_o_106
  · exact mt_o_107
  · exact mt_o_108
  · exact mt_o_109
  · exact mt_o_110
  · exact mt_o_111
  · exact mt_o_112
