section BOK
variable {l : Launch} {D : va_G} {B : BE}
theorem ok_0 (h : l.stackTraces = false) : b_CT mt l D B ct_0 := b_ct (cts := ct_0d) h mt_Mk mt_ok2 (fun C hC => by cases hC) rfl ck_0
theorem ok_1 (h : l.stackTraces = false) : b_CT mt l D B ct_1 := b_ct (cts := ct_1d) h mt_Mk mt_ok2 (fun C hC => by cases hC) rfl ck_1
theorem ok_2 (h : l.stackTraces = false) : b_CT mt l D B ct_2 := b_ct (cts := ct_2d) h mt_Mk mt_ok2 (fun C hC => by
    simp only [ct_2d, List.mem_cons, List.not_mem_nil, or_false] at hC
    rcases hC with rfl | rfl
    · exact ok_0 h
    · exact ok_1 h) rfl ck_2
theorem ok_3 (h : l.stackTraces = false) : b_CT mt l D B ct_3 := b_ct (cts := ct_3d) h mt_Mk mt_ok2 (fun C hC => by
    simp only [ct_3d, List.mem_cons, List.not_mem_nil, or_false] at hC
    rcases hC with rfl
    · exact ok_2 h) rfl ck_3
theorem ok_4 (h : l.stackTraces = false) : b_CT mt l D B ct_4 := b_ct (cts := ct_4d) h mt_Mk mt_ok2 (fun C hC => by cases hC) rfl ck_4
theorem ok_5 (h : l.stackTraces = false) : b_CT mt l D B ct_5 := b_ct (cts := ct_5d) h mt_Mk mt_ok2 (fun C hC => by
    simp only [ct_5d, List.mem_cons, List.not_mem_nil, or_false] at hC
    rcases hC with rfl | rfl
    · exact ok_3 h
    · exact ok_4 h) rfl ck_5
theorem ok_6 (h : l.stackTraces = false) : b_CT mt l D B ct_6 := b_ct (cts := ct_6d) h mt_Mk mt_ok2 (fun C hC => by
    simp only [ct_6d, List.mem_cons, List.not_mem_nil, or_false] at hC
    rcases hC with rfl
    · exact ok_2 h) rfl ck_6
theorem ok_7 (h : l.stackTraces = false) : b_CT mt l D B ct_7 := b_ct (cts := ct_7d) h mt_Mk mt_ok2 (fun C hC => by cases hC) rfl ck_7
theorem ok_8 (h : l.stackTraces = false) : b_CT mt l D B ct_8 := b_ct (cts := ct_8d) h mt_Mk mt_ok2 (fun C hC => by
    simp only [ct_8d, List.mem_cons, List.not_mem_nil, or_false] at hC
    rcases hC with rfl | rfl
    · exact ok_6 h
    · exact ok_7 h) rfl ck_8
theorem ok_9 (h : l.stackTraces = false) : b_CT mt l D B ct_9 := b_ct (cts := ct_9d) h mt_Mk mt_ok2 (fun C hC => by cases hC) rfl ck_9
theorem ok_10 (h : l.stackTraces = false) : b_CT mt l D B ct_10 := b_ct (cts := ct_10d) h mt_Mk mt_ok2 (fun C hC => by cases hC) rfl ck_10
theorem ok_11 (h : l.stackTraces = false) : b_CT mt l D B ct_11 := b_ct (cts := ct_11d) h mt_Mk mt_ok2 (fun C hC => by cases hC) rfl ck_11
theorem ok_12 (h : l.stackTraces = false) : b_CT mt l D B ct_12 := b_ct (cts := ct_12d) h mt_Mk mt_ok2 (fun C hC => by cases hC) rfl ck_12
theorem ok_13 (h : l.stackTraces = false) : b_CT mt l D B ct_13 := b_ct (cts := ct_13d) h mt_Mk mt_ok2 (fun C hC => by cases hC) rfl ck_13
theorem ok_14 (h : l.stackTraces = false) : b_CT mt l D B ct_14 := b_ct (cts := ct_14d) h mt_Mk mt_ok2 (fun C hC => by cases hC) rfl ck_14
theorem ok_15 (h : l.stackTraces = false) : b_CT mt l D B ct_15 := b_ct (cts := ct_15d) h mt_Mk mt_ok2 (fun C hC => by cases hC) rfl ck_15
theorem ok_16 (h : l.stackTraces = false) : b_CT mt l D B ct_16 := b_ct (cts := ct_16d) h mt_Mk mt_ok2 (fun C hC => by cases hC) rfl ck_16
theorem ok_17 (h : l.stackTraces = false) : b_CT mt l D B ct_17 := b_ct (cts := ct_17d) h mt_Mk mt_ok2 (fun C hC => by cases hC) rfl ck_17
theorem ok_18 (h : l.stackTraces = false) : b_CT mt l D B ct_18 := b_ct (cts := ct_18d) h mt_Mk mt_ok2 (fun C hC => by cases hC) rfl ck_18
theorem ok_19 (h : l.stackTraces = false) : b_CT mt l D B ct_19 := b_ct (cts := ct_19d) h mt_Mk mt_ok2 (fun C hC => by cases hC) rfl ck_19
theorem ok_20 (h : l.stackTraces = false) : b_CT mt l D B ct_20 := b_ct (cts := ct_20d) h mt_Mk mt_ok2 (fun C hC => by cases hC) rfl ck_20
theorem ok_21 (h : l.stackTraces = false) : b_CT mt l D B ct_21 := b_ct (cts := ct_21d) h mt_Mk mt_ok2 (fun C hC => by cases hC) rfl ck_21
theorem ok_22 (h : l.stackTraces = false) : b_CT mt l D B ct_22 := b_ct (cts := ct_22d) h mt_Mk mt_ok2 (fun C hC => by cases hC) rfl ck_22
theorem ok_23 (h : l.stackTraces = false) : b_CT mt l D B ct_23 := b_ct (cts := ct_23d) h mt_Mk mt_ok2 (fun C hC => by cases hC) rfl ck_23
theorem ok_24 (h : l.stackTraces = false) : b_CT mt l D B ct_24 := b_ct (cts := ct_24d) h mt_Mk mt_ok2 (fun C hC => by cases hC) rfl ck_24
theorem ok_25 (h : l.stackTraces = false) : b_CT mt l D B ct_25 := b_ct (cts := ct_25d) h mt_Mk mt_ok2 (fun C hC => by cases hC) rfl ck_25
theorem ok_26 (h : l.stackTraces = false) : b_CT mt l D B ct_26 := b_ct (cts := ct_26d) h mt_Mk mt_ok2 (fun C hC => by cases hC) rfl ck_26
theorem ok_27 (h : l.stackTraces = false) : b_CT mt l D B ct_27 := b_ct (cts := ct_27d) h mt_Mk mt_ok2 (fun C hC => by cases hC) rfl ck_27
theorem ok_28 (h : l.stackTraces = false) : b_CT mt l D B ct_28 := b_ct (cts := ct_28d) h mt_Mk mt_ok2 (fun C hC => by cases hC) rfl ck_28
theorem ok_29 (h : l.stackTraces = false) : b_CT mt l D B ct_29 := b_ct (cts := ct_29d) h mt_Mk mt_ok2 (fun C hC => by
    simp only [ct_29d, List.mem_cons, List.not_mem_nil, or_false] at hC
    rcases hC with rfl
    · exact ok_28 h) rfl ck_29
theorem ok_30 (h : l.stackTraces = false) : b_CT mt l D B ct_30 := b_ct (cts := ct_30d) h mt_Mk mt_ok2 (fun C hC => by
    simp only [ct_30d, List.mem_cons, List.not_mem_nil, or_false] at hC
    rcases hC with rfl | rfl | rfl | rfl
    · exact ok_5 h
    · exact ok_18 h
    · exact ok_25 h
    · exact ok_29 h) rfl ck_30
theorem ok_31 (h : l.stackTraces = false) : b_CT mt l D B ct_31 := b_ct (cts := ct_31d) h mt_Mk mt_ok2 (fun C hC => by cases hC) rfl ck_31
theorem ok_32 (h : l.stackTraces = false) : b_CT mt l D B ct_32 := b_ct (cts := ct_32d) h mt_Mk mt_ok2 (fun C hC => by
    simp only [ct_32d, List.mem_cons, List.not_mem_nil, or_false] at hC
    rcases hC with rfl
    · exact ok_31 h) rfl ck_32
theorem ok_33 (h : l.stackTraces = false) : b_CT mt l D B ct_33 := b_ct (cts := ct_33d) h mt_Mk mt_ok2 (fun C hC => by
    simp only [ct_33d, List.mem_cons, List.not_mem_nil, or_false] at hC
    rcases hC with rfl | rfl | rfl | rfl
    · exact ok_8 h
    · exact ok_18 h
    · exact ok_25 h
    · exact ok_32 h) rfl ck_33
theorem ok_34 (h : l.stackTraces = false) : b_CT mt l D B ct_34 := b_ct (cts := ct_34d) h mt_Mk mt_ok2 (fun C hC => by
    simp only [ct_34d, List.mem_cons, List.not_mem_nil, or_false] at hC
    rcases hC with rfl | rfl | rfl
    · exact ok_5 h
    · exact ok_13 h
    · exact ok_29 h) rfl ck_34
theorem ok_35 (h : l.stackTraces = false) : b_CT mt l D B ct_35 := b_ct (cts := ct_35d) h mt_Mk mt_ok2 (fun C hC => by
    simp only [ct_35d, List.mem_cons, List.not_mem_nil, or_false] at hC
    rcases hC with rfl | rfl
    · exact ok_9 h
    · exact ok_17 h) rfl ck_35
theorem ok_36 (h : l.stackTraces = false) : b_CT mt l D B ct_36 := b_ct (cts := ct_36d) h mt_Mk mt_ok2 (fun C hC => by
    simp only [ct_36d, List.mem_cons, List.not_mem_nil, or_false] at hC
    rcases hC with rfl | rfl
    · exact ok_14 h
    · exact ok_15 h) rfl ck_36
theorem ok_37 (h : l.stackTraces = false) : b_CT mt l D B ct_37 := b_ct (cts := ct_37d) h mt_Mk mt_ok2 (fun C hC => by
    simp only [ct_37d, List.mem_cons, List.not_mem_nil, or_false] at hC
    rcases hC with rfl | rfl
    · exact ok_12 h
    · exact ok_18 h) rfl ck_37
theorem ok_38 (h : l.stackTraces = false) : b_CT mt l D B ct_38 := b_ct (cts := ct_38d) h mt_Mk mt_ok2 (fun C hC => by cases hC) rfl ck_38
theorem ok_39 (h : l.stackTraces = false) : b_CT mt l D B ct_39 := b_ct (cts := ct_39d) h mt_Mk mt_ok2 (fun C hC => by cases hC) rfl ck_39
theorem ok_40 (h : l.stackTraces = false) : b_CT mt l D B ct_40 := b_ct (cts := ct_40d) h mt_Mk mt_ok2 (fun C hC => by
    simp only [ct_40d, List.mem_cons, List.not_mem_nil, or_false] at hC
    rcases hC with rfl
    · exact ok_13 h) rfl ck_40
theorem ok_41 (h : l.stackTraces = false) : b_CT mt l D B ct_41 := b_ct (cts := ct_41d) h mt_Mk mt_ok2 (fun C hC => by
    simp only [ct_41d, List.mem_cons, List.not_mem_nil, or_false] at hC
    rcases hC with rfl
    · exact ok_11 h) rfl ck_41
theorem ok_42 (h : l.stackTraces = false) : b_CT mt l D B ct_42 := b_ct (cts := ct_42d) h mt_Mk mt_ok2 (fun C hC => by cases hC) rfl ck_42
theorem ok_43 (h : l.stackTraces = false) : b_CT mt l D B ct_43 := b_ct (cts := ct_43d) h mt_Mk mt_ok2 (fun C hC => by cases hC) rfl ck_43
theorem ok_44 (h : l.stackTraces = false) : b_CT mt l D B ct_44 := b_ct (cts := ct_44d) h mt_Mk mt_ok2 (fun C hC => by cases hC) rfl ck_44
theorem ok_45 (h : l.stackTraces = false) : b_CT mt l D B ct_45 := b_ct (cts := ct_45d) h mt_Mk mt_ok2 (fun C hC => by cases hC) rfl ck_45
theorem ok_46 (h : l.stackTraces = false) : b_CT mt l D B ct_46 := b_ct (cts := ct_46d) h mt_Mk mt_ok2 (fun C hC => by cases hC) rfl ck_46
theorem ok_47 (h : l.stackTraces = false) : b_CT mt l D B ct_47 := b_ct (cts := ct_47d) h mt_Mk mt_ok2 (fun C hC => by cases hC) rfl ck_47
theorem ok_48 (h : l.stackTraces = false) : b_CT mt l D B ct_48 := b_ct (cts := ct_48d) h mt_Mk mt_ok2 (fun C hC => by
    simp only [ct_48d, List.mem_cons, List.not_mem_nil, or_false] at hC
    rcases hC with rfl | rfl
    · exact ok_44 h
    · exact ok_45 h) rfl ck_48
theorem ok_49 (h : l.stackTraces = false) : b_CT mt l D B ct_49 := b_ct (cts := ct_49d) h mt_Mk mt_ok2 (fun C hC => by
    simp only [ct_49d, List.mem_cons, List.not_mem_nil, or_false] at hC
    rcases hC with rfl | rfl
    · exact ok_42 h
    · exact ok_45 h) rfl ck_49
theorem ok_50 (h : l.stackTraces = false) : b_CT mt l D B ct_50 := b_ct (cts := ct_50d) h mt_Mk mt_ok2 (fun C hC => by
    simp only [ct_50d, List.mem_cons, List.not_mem_nil, or_false] at hC
    rcases hC with rfl | rfl
    · exact ok_43 h
    · exact ok_47 h) rfl ck_50
theorem ok_51 (h : l.stackTraces = false) : b_CT mt l D B ct_51 := b_ct (cts := ct_51d) h mt_Mk mt_ok2 (fun C hC => by cases hC) rfl ck_51
theorem ok_52 (h : l.stackTraces = false) : b_CT mt l D B ct_52 := b_ct (cts := ct_52d) h mt_Mk mt_ok2 (fun C hC => by
    simp only [ct_52d, List.mem_cons, List.not_mem_nil, or_false] at hC
    rcases hC with rfl | rfl
    · exact ok_18 h
    · exact ok_25 h) rfl ck_52
theorem ok_53 (h : l.stackTraces = false) : b_CT mt l D B ct_53 := b_ct (cts := ct_53d) h mt_Mk mt_ok2 (fun C hC => by
    simp only [ct_53d, List.mem_cons, List.not_mem_nil, or_false] at hC
    rcases hC with rfl
    · exact ok_51 h) rfl ck_53
theorem ok_54 (h : l.stackTraces = false) : b_CT mt l D B ct_54 := b_ct (cts := ct_54d) h mt_Mk mt_ok2 (fun C hC => by cases hC) rfl ck_54
theorem ok_55 (h : l.stackTraces = false) : b_CT mt l D B ct_55 := b_ct (cts := ct_55d) h mt_Mk mt_ok2 (fun C hC => by
    simp only [ct_55d, List.mem_cons, List.not_mem_nil, or_false] at hC
    rcases hC with rfl | rfl | rfl | rfl | rfl
    · exact ok_25 h
    · exact ok_51 h
    · exact ok_52 h
    · exact ok_53 h
    · exact ok_54 h) rfl ck_55
theorem ok_56 (h : l.stackTraces = false) : b_CT mt l D B ct_56 := b_ct (cts := ct_56d) h mt_Mk mt_ok2 (fun C hC => by
    simp only [ct_56d, List.mem_cons, List.not_mem_nil, or_false] at hC
    rcases hC with rfl | rfl | rfl | rfl
    · exact ok_13 h
    · exact ok_16 h
    · exact ok_19 h
    · exact ok_54 h) rfl ck_56
theorem ok_57 (h : l.stackTraces = false) : b_CT mt l D B ct_57 := b_ct (cts := ct_57d) h mt_Mk mt_ok2 (fun C hC => by cases hC) rfl ck_57
theorem ok_58 (h : l.stackTraces = false) : b_CT mt l D B ct_58 := b_ct (cts := ct_58d) h mt_Mk mt_ok2 (fun C hC => by cases hC) rfl ck_58
theorem ok_59 (h : l.stackTraces = false) : b_CT mt l D B ct_59 := b_ct (cts := ct_59d) h mt_Mk mt_ok2 (fun C hC => by
    simp only [ct_59d, List.mem_cons, List.not_mem_nil, or_false] at hC
    rcases hC with rfl
    · exact ok_58 h) rfl ck_59
theorem ok_60 (h : l.stackTraces = false) : b_CT mt l D B ct_60 := b_ct (cts := ct_60d) h mt_Mk mt_ok2 (fun C hC => by
    simp only [ct_60d, List.mem_cons, List.not_mem_nil, or_false] at hC
    rcases hC with rfl
    · exact ok_58 h) rfl ck_60
theorem ok_61 (h : l.stackTraces = false) : b_CT mt l D B ct_61 := b_ct (cts := ct_61d) h mt_Mk mt_ok2 (fun C hC => by cases hC) rfl ck_61
theorem ok_62 (h : l.stackTraces = false) : b_CT mt l D B ct_62 := b_ct (cts := ct_62d) h mt_Mk mt_ok2 (fun C hC => by
    simp only [ct_62d, List.mem_cons, List.not_mem_nil, or_false] at hC
    rcases hC with rfl | rfl
    · exact ok_57 h
    · exact ok_61 h) rfl ck_62
theorem ok_63 (h : l.stackTraces = false) : b_CT mt l D B ct_63 := b_ct (cts := ct_63d) h mt_Mk mt_ok2 (fun C hC => by
    simp only [ct_63d, List.mem_cons, List.not_mem_nil, or_false] at hC
    rcases hC with rfl
    · exact ok_57 h) rfl ck_63
theorem ok_64 (h : l.stackTraces = false) : b_CT mt l D B ct_64 := b_ct (cts := ct_64d) h mt_Mk mt_ok2 (fun C hC => by cases hC) rfl ck_64
theorem ok_65 (h : l.stackTraces = false) : b_CT mt l D B ct_65 := b_ct (cts := ct_65d) h mt_Mk mt_ok2 (fun C hC => by
    simp only [ct_65d, List.mem_cons, List.not_mem_nil, or_false] at hC
    rcases hC with rfl | rfl | rfl
    · exact ok_35 h
    · exact ok_38 h
    · exact ok_64 h) rfl ck_65
theorem ok_66 (h : l.stackTraces = false) : b_CT mt l D B ct_66 := b_ct (cts := ct_66d) h mt_Mk mt_ok2 (fun C hC => by
    simp only [ct_66d, List.mem_cons, List.not_mem_nil, or_false] at hC
    rcases hC with rfl
    · exact ok_27 h) rfl ck_66
theorem ok_67 (h : l.stackTraces = false) : b_CT mt l D B ct_67 := b_ct (cts := ct_67d) h mt_Mk mt_ok2 (fun C hC => by
    simp only [ct_67d, List.mem_cons, List.not_mem_nil, or_false] at hC
    rcases hC with rfl | rfl
    · exact ok_40 h
    · exact ok_66 h) rfl ck_67
theorem ok_68 (h : l.stackTraces = false) : b_CT mt l D B ct_68 := b_ct (cts := ct_68d) h mt_Mk mt_ok2 (fun C hC => by
    simp only [ct_68d, List.mem_cons, List.not_mem_nil, or_false] at hC
    rcases hC with rfl
    · exact ok_66 h) rfl ck_68
theorem ok_69 (h : l.stackTraces = false) : b_CT mt l D B ct_69 := b_ct (cts := ct_69d) h mt_Mk mt_ok2 (fun C hC => by
    simp only [ct_69d, List.mem_cons, List.not_mem_nil, or_false] at hC
    rcases hC with rfl | rfl
    · exact ok_34 h
    · exact ok_66 h) rfl ck_69
theorem ok_70 (h : l.stackTraces = false) : b_CT mt l D B ct_70 := b_ct (cts := ct_70d) h mt_Mk mt_ok2 (fun C hC => by cases hC) rfl ck_70
theorem ok_71 (h : l.stackTraces = false) : b_CT mt l D B ct_71 := b_ct (cts := ct_71d) h mt_Mk mt_ok2 (fun C hC => by
    simp only [ct_71d, List.mem_cons, List.not_mem_nil, or_false] at hC
    rcases hC with rfl
    · exact ok_70 h) rfl ck_71
theorem ok_72 (h : l.stackTraces = false) : b_CT mt l D B ct_72 := b_ct (cts := ct_72d) h mt_Mk mt_ok2 (fun C hC => by
    simp only [ct_72d, List.mem_cons, List.not_mem_nil, or_false] at hC
    rcases hC with rfl | rfl
    · exact ok_68 h
    · exact ok_71 h) rfl ck_72
theorem ok_73 (h : l.stackTraces = false) : b_CT mt l D B ct_73 := b_ct (cts := ct_73d) h mt_Mk mt_ok2 (fun C hC => by
    simp only [ct_73d, List.mem_cons, List.not_mem_nil, or_false] at hC
    rcases hC with rfl
    · exact ok_13 h) rfl ck_73
theorem ok_74 (h : l.stackTraces = false) : b_CT mt l D B ct_74 := b_ct (cts := ct_74d) h mt_Mk mt_ok2 (fun C hC => by
    simp only [ct_74d, List.mem_cons, List.not_mem_nil, or_false] at hC
    rcases hC with rfl
    · exact ok_27 h) rfl ck_74
theorem ok_75 (h : l.stackTraces = false) : b_CT mt l D B ct_75 := b_ct (cts := ct_75d) h mt_Mk mt_ok2 (fun C hC => by
    simp only [ct_75d, List.mem_cons, List.not_mem_nil, or_false] at hC
    rcases hC with rfl
    · exact ok_27 h) rfl ck_75
theorem ok_76 (h : l.stackTraces = false) : b_CT mt l D B ct_76 := b_ct (cts := ct_76d) h mt_Mk mt_ok2 (fun C hC => by
    simp only [ct_76d, List.mem_cons, List.not_mem_nil, or_false] at hC
    rcases hC with rfl | rfl | rfl | rfl | rfl
    · exact ok_71 h
    · exact ok_72 h
    · exact ok_73 h
    · exact ok_74 h
    · exact ok_75 h) rfl ck_76
theorem ok_77 (h : l.stackTraces = false) : b_CT mt l D B ct_77 := b_ct (cts := ct_77d) h mt_Mk mt_ok2 (fun C hC => by cases hC) rfl ck_77
theorem ok_78 (h : l.stackTraces = false) : b_CT mt l D B ct_78 := b_ct (cts := ct_78d) h mt_Mk mt_ok2 (fun C hC => by cases hC) rfl ck_78
theorem ok_79 (h : l.stackTraces = false) : b_CT mt l D B ct_79 := b_ct (cts := ct_79d) h mt_Mk mt_ok2 (fun C hC => by cases hC) rfl ck_79
theorem ok_80 (h : l.stackTraces = false) : b_CT mt l D B ct_80 := b_ct (cts := ct_80d) h mt_Mk mt_ok2 (fun C hC => by
    simp only [ct_80d, List.mem_cons, List.not_mem_nil, or_false] at hC
    rcases hC with rfl
    · exact ok_79 h) rfl ck_80
theorem ok_81 (h : l.stackTraces = false) : b_CT mt l D B ct_81 := b_ct (cts := ct_81d) h mt_Mk mt_ok2 (fun C hC => by cases hC) rfl ck_81
theorem ok_82 (h : l.stackTraces = false) : b_CT mt l D B ct_82 := b_ct (cts := ct_82d) h mt_Mk mt_ok2 (fun C hC => by
    simp only [ct_82d, List.mem_cons, List.not_mem_nil, or_false] at hC
    rcases hC with rfl
    · exact ok_78 h) rfl ck_82
theorem ok_83 (h : l.stackTraces = false) : b_CT mt l D B ct_83 := b_ct (cts := ct_83d) h mt_Mk mt_ok2 (fun C hC => by cases hC) rfl ck_83
theorem ok_84 (h : l.stackTraces = false) : b_CT mt l D B ct_84 := b_ct (cts := ct_84d) h mt_Mk mt_ok2 (fun C hC => by
    simp only [ct_84d, List.mem_cons, List.not_mem_nil, or_false] at hC
    rcases hC with rfl
    · exact ok_83 h) rfl ck_84
theorem ok_85 (h : l.stackTraces = false) : b_CT mt l D B ct_85 := b_ct (cts := ct_85d) h mt_Mk mt_ok2 (fun C hC => by
    simp only [ct_85d, List.mem_cons, List.not_mem_nil, or_false] at hC
    rcases hC with rfl | rfl | rfl | rfl | rfl | rfl
    · exact ok_25 h
    · exact ok_30 h
    · exact ok_33 h
    · exact ok_69 h
    · exact ok_74 h
    · exact ok_81 h) rfl ck_85
theorem ok_86 (h : l.stackTraces = false) : b_CT mt l D B ct_86 := b_ct (cts := ct_86d) h mt_Mk mt_ok2 (fun C hC => by
    simp only [ct_86d, List.mem_cons, List.not_mem_nil, or_false] at hC
    rcases hC with rfl
    · exact ok_27 h) rfl ck_86
theorem ok_87 (h : l.stackTraces = false) : b_CT mt l D B ct_87 := b_ct (cts := ct_87d) h mt_Mk mt_ok2 (fun C hC => by
    simp only [ct_87d, List.mem_cons, List.not_mem_nil, or_false] at hC
    rcases hC with rfl
    · exact ok_77 h) rfl ck_87
theorem ok_88 (h : l.stackTraces = false) : b_CT mt l D B ct_88 := b_ct (cts := ct_88d) h mt_Mk mt_ok2 (fun C hC => by
    simp only [ct_88d, List.mem_cons, List.not_mem_nil, or_false] at hC
    rcases hC with rfl | rfl | rfl | rfl | rfl | rfl
    · exact ok_52 h
    · exact ok_57 h
    · exact ok_80 h
    · exact ok_82 h
    · exact ok_86 h
    · exact ok_87 h) rfl ck_88
theorem ok_89 (h : l.stackTraces = false) : b_CT mt l D B ct_89 := b_ct (cts := ct_89d) h mt_Mk mt_ok2 (fun C hC => by cases hC) rfl ck_89
theorem ok_90 (h : l.stackTraces = false) : b_CT mt l D B ct_90 := b_ct (cts := ct_90d) h mt_Mk mt_ok2 (fun C hC => by
    simp only [ct_90d, List.mem_cons, List.not_mem_nil, or_false] at hC
    rcases hC with rfl | rfl | rfl
    · exact ok_57 h
    · exact ok_60 h
    · exact ok_89 h) rfl ck_90
theorem ok_91 (h : l.stackTraces = false) : b_CT mt l D B ct_91 := b_ct (cts := ct_91d) h mt_Mk mt_ok2 (fun C hC => by
    simp only [ct_91d, List.mem_cons, List.not_mem_nil, or_false] at hC
    rcases hC with rfl | rfl
    · exact ok_57 h
    · exact ok_60 h) rfl ck_91
theorem ok_92 (h : l.stackTraces = false) : b_CT mt l D B ct_92 := b_ct (cts := ct_92d) h mt_Mk mt_ok2 (fun C hC => by
    simp only [ct_92d, List.mem_cons, List.not_mem_nil, or_false] at hC
    rcases hC with rfl | rfl | rfl | rfl | rfl | rfl | rfl | rfl | rfl | rfl | rfl
    · exact ok_20 h
    · exact ok_25 h
    · exact ok_52 h
    · exact ok_57 h
    · exact ok_67 h
    · exact ok_68 h
    · exact ok_74 h
    · exact ok_79 h
    · exact ok_80 h
    · exact ok_90 h
    · exact ok_91 h) rfl ck_92
theorem ok_93 (h : l.stackTraces = false) : b_CT mt l D B ct_93 := b_ct (cts := ct_93d) h mt_Mk mt_ok2 (fun C hC => by cases hC) rfl ck_93
theorem ok_94 (h : l.stackTraces = false) : b_CT mt l D B ct_94 := b_ct (cts := ct_94d) h mt_Mk mt_ok2 (fun C hC => by
    simp only [ct_94d, List.mem_cons, List.not_mem_nil, or_false] at hC
    rcases hC with rfl | rfl | rfl | rfl | rfl | rfl
    · exact ok_57 h
    · exact ok_82 h
    · exact ok_86 h
    · exact ok_87 h
    · exact ok_92 h
    · exact ok_93 h) rfl ck_94
theorem ok_95 (h : l.stackTraces = false) : b_CT mt l D B ct_95 := b_ct (cts := ct_95d) h mt_Mk mt_ok2 (fun C hC => by
    simp only [ct_95d, List.mem_cons, List.not_mem_nil, or_false] at hC
    rcases hC with rfl | rfl
    · exact ok_25 h
    · exact ok_52 h) rfl ck_95
theorem ok_96 (h : l.stackTraces = false) : b_CT mt l D B ct_96 := b_ct (cts := ct_96d) h mt_Mk mt_ok2 (fun C hC => by cases hC) rfl ck_96
theorem ok_97 (h : l.stackTraces = false) : b_CT mt l D B ct_97 := b_ct (cts := ct_97d) h mt_Mk mt_ok2 (fun C hC => by cases hC) rfl ck_97
theorem ok_98 (h : l.stackTraces = false) : b_CT mt l D B ct_98 := b_ct (cts := ct_98d) h mt_Mk mt_ok2 (fun C hC => by cases hC) rfl ck_98
theorem ok_99 (h : l.stackTraces = false) : b_CT mt l D B ct_99 := b_ct (cts := ct_99d) h mt_Mk mt_ok2 (fun C hC => by
    simp only [ct_99d, List.mem_cons, List.not_mem_nil, or_false] at hC
    rcases hC with rfl
    · exact ok_98 h) rfl ck_99
theorem ok_100 (h : l.stackTraces = false) : b_CT mt l D B ct_100 := b_ct (cts := ct_100d) h mt_Mk mt_ok2 (fun C hC => by
    simp only [ct_100d, List.mem_cons, List.not_mem_nil, or_false] at hC
    rcases hC with rfl | rfl | rfl | rfl | rfl | rfl | rfl | rfl | rfl
    · exact ok_57 h
    · exact ok_74 h
    · exact ok_84 h
    · exact ok_89 h
    · exact ok_93 h
    · exact ok_95 h
    · exact ok_96 h
    · exact ok_97 h
    · exact ok_99 h) rfl ck_100
theorem ok_101 (h : l.stackTraces = false) : b_CT mt l D B ct_101 := b_ct (cts := ct_101d) h mt_Mk mt_ok2 (fun C hC => by cases hC) rfl ck_101
theorem ok_102 (h : l.stackTraces = false) : b_CT mt l D B ct_102 := b_ct (cts := ct_102d) h mt_Mk mt_ok2 (fun C hC => by
    simp only [ct_102d, List.mem_cons, List.not_mem_nil, or_false] at hC
    rcases hC with rfl | rfl | rfl | rfl | rfl | rfl | rfl | rfl
    · exact ok_57 h
    · exact ok_60 h
    · exact ok_61 h
    · exact ok_67 h
    · exact ok_89 h
    · exact ok_93 h
    · exact ok_96 h
    · exact ok_101 h) rfl ck_102
theorem ok_103 (h : l.stackTraces = false) : b_CT mt l D B ct_103 := b_ct (cts := ct_103d) h mt_Mk mt_ok2 (fun C hC => by
    simp only [ct_103d, List.mem_cons, List.not_mem_nil, or_false] at hC
    rcases hC with rfl | rfl | rfl | rfl | rfl | rfl | rfl | rfl | rfl
    · exact ok_57 h
    · exact ok_62 h
    · exact ok_67 h
    · exact ok_68 h
    · exact ok_74 h
    · exact ok_79 h
    · exact ok_84 h
    · exact ok_95 h
    · exact ok_102 h) rfl ck_103
theorem ok_104 (h : l.stackTraces = false) : b_CT mt l D B ct_104 := b_ct (cts := ct_104d) h mt_Mk mt_ok2 (fun C hC => by cases hC) rfl ck_104
theorem ok_105 (h : l.stackTraces = false) : b_CT mt l D B ct_105 := b_ct (cts := ct_105d) h mt_Mk mt_ok2 (fun C hC => by
    simp only [ct_105d, List.mem_cons, List.not_mem_nil, or_false] at hC
    rcases hC with rfl | rfl | rfl | rfl | rfl | rfl | rfl | rfl
    · exact ok_20 h
    · exact ok_25 h
    · exact ok_53 h
    · exact ok_55 h
    · exact ok_57 h
    · exact ok_58 h
    · exact ok_83 h
    · exact ok_104 h) rfl ck_105
theorem ok_106 (h : l.stackTraces = false) : b_CT mt l D B ct_106 := b_ct (cts := ct_106d) h mt_Mk mt_ok2 (fun C hC => by cases hC) rfl ck_106
theorem ok_107 (h : l.stackTraces = false) : b_CT mt l D B ct_107 := b_ct (cts := ct_107d) h mt_Mk mt_ok2 (fun C hC => by
    simp only [ct_107d, List.mem_cons, List.not_mem_nil, or_false] at hC
    rcases hC with rfl | rfl | rfl | rfl
    · exact ok_25 h
    · exact ok_37 h
    · exact ok_54 h
    · exact ok_106 h) rfl ck_107
theorem ok_108 (h : l.stackTraces = false) : b_CT mt l D B ct_108 := b_ct (cts := ct_108d) h mt_Mk mt_ok2 (fun C hC => by
    simp only [ct_108d, List.mem_cons, List.not_mem_nil, or_false] at hC
    rcases hC with rfl | rfl | rfl | rfl
    · exact ok_57 h
    · exact ok_74 h
    · exact ok_105 h
    · exact ok_107 h) rfl ck_108
theorem ok_109 (h : l.stackTraces = false) : b_CT mt l D B ct_109 := b_ct (cts := ct_109d) h mt_Mk mt_ok2 (fun C hC => by
    simp only [ct_109d, List.mem_cons, List.not_mem_nil, or_false] at hC
    rcases hC with rfl
    · exact ok_56 h) rfl ck_109
theorem ok_110 (h : l.stackTraces = false) : b_CT mt l D B ct_110 := b_ct (cts := ct_110d) h mt_Mk mt_ok2 (fun C hC => by
    simp only [ct_110d, List.mem_cons, List.not_mem_nil, or_false] at hC
    rcases hC with rfl | rfl | rfl | rfl | rfl
    · exact ok_25 h
    · exact ok_57 h
    · exact ok_74 h
    · exact ok_106 h
    · exact ok_109 h) rfl ck_110
theorem ok_111 (h : l.stackTraces = false) : b_CT mt l D B ct_111 := b_ct (cts := ct_111d) h mt_Mk mt_ok2 (fun C hC => by
    simp only [ct_111d, List.mem_cons, List.not_mem_nil, or_false] at hC
    rcases hC with rfl | rfl | rfl | rfl
    · exact ok_57 h
    · exact ok_59 h
    · exact ok_63 h
    · exact ok_89 h) rfl ck_111
theorem ok_112 (h : l.stackTraces = false) : b_CT mt l D B ct_112 := b_ct (cts := ct_112d) h mt_Mk mt_ok2 (fun C hC => by
    simp only [ct_112d, List.mem_cons, List.not_mem_nil, or_false] at hC
    rcases hC with rfl | rfl
    · exact ok_55 h
    · exact ok_57 h) rfl ck_112
theorem ok_113 (h : l.stackTraces = false) : b_CT mt l D B ct_113 := b_ct (cts := ct_113d) h mt_Mk mt_ok2 (fun C hC => by cases hC) rfl ck_113
theorem ok_114 (h : l.stackTraces = false) : b_CT mt l D B ct_114 := b_ct (cts := ct_114d) h mt_Mk mt_ok2 (fun C hC => by
    simp only [ct_114d, List.mem_cons, List.not_mem_nil, or_false] at hC
    rcases hC with rfl | rfl | rfl | rfl | rfl | rfl | rfl | rfl | rfl | rfl | rfl | rfl | rfl | rfl
    · exact ok_73 h
    · exact ok_76 h
    · exact ok_78 h
    · exact ok_85 h
    · exact ok_86 h
    · exact ok_88 h
    · exact ok_94 h
    · exact ok_100 h
    · exact ok_103 h
    · exact ok_108 h
    · exact ok_110 h
    · exact ok_111 h
    · exact ok_112 h
    · exact ok_113 h) rfl ck_114
theorem ok_115 (h : l.stackTraces = false) : b_CT mt l D B ct_115 := b_ct (cts := ct_115d) h mt_Mk mt_ok2 (fun C hC => by cases hC) rfl ck_115
theorem ok_116 (h : l.stackTraces = false) : b_CT mt l D B ct_116 := b_ct (cts := ct_116d) h mt_Mk mt_ok2 (fun C hC => by
    simp only [ct_116d, List.mem_cons, List.not_mem_nil, or_false] at hC
    rcases hC with rfl | rfl | rfl | rfl | rfl | rfl | rfl | rfl | rfl
    · exact ok_15 h
    · exact ok_18 h
    · exact ok_22 h
    · exact ok_25 h
    · exact ok_36 h
    · exact ok_73 h
    · exact ok_75 h
    · exact ok_113 h
    · exact ok_115 h) rfl ck_116
theorem ok_117 (h : l.stackTraces = false) : b_CT mt l D B ct_117 := b_ct (cts := ct_117d) h mt_Mk mt_ok2 (fun C hC => by cases hC) rfl ck_117
theorem ok_118 (h : l.stackTraces = false) : b_CT mt l D B ct_118 := b_ct (cts := ct_118d) h mt_Mk mt_ok2 (fun C hC => by cases hC) rfl ck_118
theorem ok_119 (h : l.stackTraces = false) : b_CT mt l D B ct_119 := b_ct (cts := ct_119d) h mt_Mk mt_ok2 (fun C hC => by cases hC) rfl ck_119
theorem ok_120 (h : l.stackTraces = false) : b_CT mt l D B ct_120 := b_ct (cts := ct_120d) h mt_Mk mt_ok2 (fun C hC => by
    simp only [ct_120d, List.mem_cons, List.not_mem_nil, or_false] at hC
    rcases hC with rfl | rfl | rfl | rfl
    · exact ok_48 h
    · exact ok_117 h
    · exact ok_118 h
    · exact ok_119 h) rfl ck_120
theorem ok_121 (h : l.stackTraces = false) : b_CT mt l D B ct_121 := b_ct (cts := ct_121d) h mt_Mk mt_ok2 (fun C hC => by
    simp only [ct_121d, List.mem_cons, List.not_mem_nil, or_false] at hC
    rcases hC with rfl | rfl | rfl | rfl
    · exact ok_49 h
    · exact ok_117 h
    · exact ok_118 h
    · exact ok_119 h) rfl ck_121
theorem ok_122 (h : l.stackTraces = false) : b_CT mt l D B ct_122 := b_ct (cts := ct_122d) h mt_Mk mt_ok2 (fun C hC => by
    simp only [ct_122d, List.mem_cons, List.not_mem_nil, or_false] at hC
    rcases hC with rfl | rfl | rfl
    · exact ok_49 h
    · exact ok_117 h
    · exact ok_118 h) rfl ck_122
theorem ok_123 (h : l.stackTraces = false) : b_CT mt l D B ct_123 := b_ct (cts := ct_123d) h mt_Mk mt_ok2 (fun C hC => by
    simp only [ct_123d, List.mem_cons, List.not_mem_nil, or_false] at hC
    rcases hC with rfl
    · exact ok_121 h) rfl ck_123
theorem ok_124 (h : l.stackTraces = false) : b_CT mt l D B ct_124 := b_ct (cts := ct_124d) h mt_Mk mt_ok2 (fun C hC => by
    simp only [ct_124d, List.mem_cons, List.not_mem_nil, or_false] at hC
    rcases hC with rfl | rfl
    · exact ok_46 h
    · exact ok_57 h) rfl ck_124
theorem ok_125 (h : l.stackTraces = false) : b_CT mt l D B ct_125 := b_ct (cts := ct_125d) h mt_Mk mt_ok2 (fun C hC => by cases hC) rfl ck_125
theorem ok_126 (h : l.stackTraces = false) : b_CT mt l D B ct_126 := b_ct (cts := ct_126d) h mt_Mk mt_ok2 (fun C hC => by
    simp only [ct_126d, List.mem_cons, List.not_mem_nil, or_false] at hC
    rcases hC with rfl | rfl | rfl | rfl
    · exact ok_42 h
    · exact ok_117 h
    · exact ok_124 h
    · exact ok_125 h) rfl ck_126
theorem ok_127 (h : l.stackTraces = false) : b_CT mt l D B ct_127 := b_ct (cts := ct_127d) h mt_Mk mt_ok2 (fun C hC => by
    simp only [ct_127d, List.mem_cons, List.not_mem_nil, or_false] at hC
    rcases hC with rfl | rfl
    · exact ok_47 h
    · exact ok_57 h) rfl ck_127
theorem ok_128 (h : l.stackTraces = false) : b_CT mt l D B ct_128 := b_ct (cts := ct_128d) h mt_Mk mt_ok2 (fun C hC => by
    simp only [ct_128d, List.mem_cons, List.not_mem_nil, or_false] at hC
    rcases hC with rfl | rfl | rfl | rfl
    · exact ok_42 h
    · exact ok_117 h
    · exact ok_125 h
    · exact ok_127 h) rfl ck_128
theorem ok_129 (h : l.stackTraces = false) : b_CT mt l D B ct_129 := b_ct (cts := ct_129d) h mt_Mk mt_ok2 (fun C hC => by
    simp only [ct_129d, List.mem_cons, List.not_mem_nil, or_false] at hC
    rcases hC with rfl
    · exact ok_117 h) rfl ck_129
theorem ok_130 (h : l.stackTraces = false) : b_CT mt l D B ct_130 := b_ct (cts := ct_130d) h mt_Mk mt_ok2 (fun C hC => by
    simp only [ct_130d, List.mem_cons, List.not_mem_nil, or_false] at hC
    rcases hC with rfl
    · exact ok_41 h) rfl ck_130
theorem ok_131 (h : l.stackTraces = false) : b_CT mt l D B ct_131 := b_ct (cts := ct_131d) h mt_Mk mt_ok2 (fun C hC => by
    simp only [ct_131d, List.mem_cons, List.not_mem_nil, or_false] at hC
    rcases hC with rfl | rfl
    · exact ok_11 h
    · exact ok_130 h) rfl ck_131
theorem ok_132 (h : l.stackTraces = false) : b_CT mt l D B ct_132 := b_ct (cts := ct_132d) h mt_Mk mt_ok2 (fun C hC => by cases hC) rfl ck_132
theorem ok_133 (h : l.stackTraces = false) : b_CT mt l D B ct_133 := b_ct (cts := ct_133d) h mt_Mk mt_ok2 (fun C hC => by
    simp only [ct_133d, List.mem_cons, List.not_mem_nil, or_false] at hC
    rcases hC with rfl | rfl | rfl | rfl
    · exact ok_43 h
    · exact ok_57 h
    · exact ok_60 h
    · exact ok_132 h) rfl ck_133
theorem ok_134 (h : l.stackTraces = false) : b_CT mt l D B ct_134 := b_ct (cts := ct_134d) h mt_Mk mt_ok2 (fun C hC => by cases hC) rfl ck_134
theorem ok_135 (h : l.stackTraces = false) : b_CT mt l D B ct_135 := b_ct (cts := ct_135d) h mt_Mk mt_ok2 (fun C hC => by
    simp only [ct_135d, List.mem_cons, List.not_mem_nil, or_false] at hC
    rcases hC with rfl | rfl
    · exact ok_126 h
    · exact ok_134 h) rfl ck_135
theorem ok_136 (h : l.stackTraces = false) : b_CT mt l D B ct_136 := b_ct (cts := ct_136d) h mt_Mk mt_ok2 (fun C hC => by
    simp only [ct_136d, List.mem_cons, List.not_mem_nil, or_false] at hC
    rcases hC with rfl | rfl
    · exact ok_133 h
    · exact ok_135 h) rfl ck_136
theorem ok_137 (h : l.stackTraces = false) : b_CT mt l D B ct_137 := b_ct (cts := ct_137d) h mt_Mk mt_ok2 (fun C hC => by cases hC) rfl ck_137
theorem ok_138 (h : l.stackTraces = false) : b_CT mt l D B ct_138 := b_ct (cts := ct_138d) h mt_Mk mt_ok2 (fun C hC => by
    simp only [ct_138d, List.mem_cons, List.not_mem_nil, or_false] at hC
    rcases hC with rfl | rfl
    · exact ok_11 h
    · exact ok_137 h) rfl ck_138
theorem ok_139 (h : l.stackTraces = false) : b_CT mt l D B ct_139 := b_ct (cts := ct_139d) h mt_Mk mt_ok2 (fun C hC => by cases hC) rfl ck_139
theorem ok_140 (h : l.stackTraces = false) : b_CT mt l D B ct_140 := b_ct (cts := ct_140d) h mt_Mk mt_ok2 (fun C hC => by
    simp only [ct_140d, List.mem_cons, List.not_mem_nil, or_false] at hC
    rcases hC with rfl
    · exact ok_139 h) rfl ck_140
theorem ok_141 (h : l.stackTraces = false) : b_CT mt l D B ct_141 := b_ct (cts := ct_141d) h mt_Mk mt_ok2 (fun C hC => by
    simp only [ct_141d, List.mem_cons, List.not_mem_nil, or_false] at hC
    rcases hC with rfl | rfl | rfl | rfl
    · exact ok_131 h
    · exact ok_136 h
    · exact ok_138 h
    · exact ok_140 h) rfl ck_141
theorem ok_142 (h : l.stackTraces = false) : b_CT mt l D B ct_142 := b_ct (cts := ct_142d) h mt_Mk mt_ok2 (fun C hC => by
    simp only [ct_142d, List.mem_cons, List.not_mem_nil, or_false] at hC
    rcases hC with rfl | rfl | rfl | rfl | rfl
    · exact ok_131 h
    · exact ok_136 h
    · exact ok_137 h
    · exact ok_138 h
    · exact ok_140 h) rfl ck_142
theorem ok_143 (h : l.stackTraces = false) : b_CT mt l D B ct_143 := b_ct (cts := ct_143d) h mt_Mk mt_ok2 (fun C hC => by
    simp only [ct_143d, List.mem_cons, List.not_mem_nil, or_false] at hC
    rcases hC with rfl | rfl | rfl
    · exact ok_43 h
    · exact ok_57 h
    · exact ok_132 h) rfl ck_143
theorem ok_144 (h : l.stackTraces = false) : b_CT mt l D B ct_144 := b_ct (cts := ct_144d) h mt_Mk mt_ok2 (fun C hC => by cases hC) rfl ck_144
theorem ok_145 (h : l.stackTraces = false) : b_CT mt l D B ct_145 := b_ct (cts := ct_145d) h mt_Mk mt_ok2 (fun C hC => by
    simp only [ct_145d, List.mem_cons, List.not_mem_nil, or_false] at hC
    rcases hC with rfl | rfl | rfl | rfl
    · exact ok_50 h
    · exact ok_128 h
    · exact ok_140 h
    · exact ok_144 h) rfl ck_145
theorem ok_146 (h : l.stackTraces = false) : b_CT mt l D B ct_146 := b_ct (cts := ct_146d) h mt_Mk mt_ok2 (fun C hC => by
    simp only [ct_146d, List.mem_cons, List.not_mem_nil, or_false] at hC
    rcases hC with rfl | rfl
    · exact ok_129 h
    · exact ok_140 h) rfl ck_146
theorem ok_147 (h : l.stackTraces = false) : b_CT mt l D B ct_147 := b_ct (cts := ct_147d) h mt_Mk mt_ok2 (fun C hC => by
    simp only [ct_147d, List.mem_cons, List.not_mem_nil, or_false] at hC
    rcases hC with rfl | rfl | rfl
    · exact ok_119 h
    · exact ok_140 h
    · exact ok_146 h) rfl ck_147
theorem ok_148 (h : l.stackTraces = false) : b_CT mt l D B ct_148 := b_ct (cts := ct_148d) h mt_Mk mt_ok2 (fun C hC => by cases hC) rfl ck_148
theorem ok_149 (h : l.stackTraces = false) : b_CT mt l D B ct_149 := b_ct (cts := ct_149d) h mt_Mk mt_ok2 (fun C hC => by
    simp only [ct_149d, List.mem_cons, List.not_mem_nil, or_false] at hC
    rcases hC with rfl | rfl | rfl | rfl
    · exact ok_123 h
    · exact ok_139 h
    · exact ok_140 h
    · exact ok_148 h) rfl ck_149
theorem ok_150 (h : l.stackTraces = false) : b_CT mt l D B ct_150 := b_ct (cts := ct_150d) h mt_Mk mt_ok2 (fun C hC => by cases hC) rfl ck_150
theorem ok_151 (h : l.stackTraces = false) : b_CT mt l D B ct_151 := b_ct (cts := ct_151d) h mt_Mk mt_ok2 (fun C hC => by cases hC) rfl ck_151
theorem ok_152 (h : l.stackTraces = false) : b_CT mt l D B ct_152 := b_ct (cts := ct_152d) h mt_Mk mt_ok2 (fun C hC => by
    simp only [ct_152d, List.mem_cons, List.not_mem_nil, or_false] at hC
    rcases hC with rfl | rfl
    · exact ok_21 h
    · exact ok_151 h) rfl ck_152
theorem ok_153 (h : l.stackTraces = false) : b_CT mt l D B ct_153 := b_ct (cts := ct_153d) h mt_Mk mt_ok2 (fun C hC => by cases hC) rfl ck_153
theorem ok_154 (h : l.stackTraces = false) : b_CT mt l D B ct_154 := b_ct (cts := ct_154d) h mt_Mk mt_ok2 (fun C hC => by cases hC) rfl ck_154
theorem ok_155 (h : l.stackTraces = false) : b_CT mt l D B ct_155 := b_ct (cts := ct_155d) h mt_Mk mt_ok2 (fun C hC => by cases hC) rfl ck_155
theorem ok_156 (h : l.stackTraces = false) : b_CT mt l D B ct_156 := b_ct (cts := ct_156d) h mt_Mk mt_ok2 (fun C hC => by
    simp only [ct_156d, List.mem_cons, List.not_mem_nil, or_false] at hC
    rcases hC with rfl
    · exact ok_81 h) rfl ck_156
theorem ok_157 (h : l.stackTraces = false) : b_CT mt l D B ct_157 := b_ct (cts := ct_157d) h mt_Mk mt_ok2 (fun C hC => by
    simp only [ct_157d, List.mem_cons, List.not_mem_nil, or_false] at hC
    rcases hC with rfl
    · exact ok_65 h) rfl ck_157
theorem ok_158 (h : l.stackTraces = false) : b_CT mt l D B ct_158 := b_ct (cts := ct_158d) h mt_Mk mt_ok2 (fun C hC => by
    simp only [ct_158d, List.mem_cons, List.not_mem_nil, or_false] at hC
    rcases hC with rfl | rfl | rfl | rfl | rfl | rfl | rfl | rfl | rfl
    · exact ok_26 h
    · exact ok_114 h
    · exact ok_116 h
    · exact ok_151 h
    · exact ok_153 h
    · exact ok_154 h
    · exact ok_155 h
    · exact ok_156 h
    · exact ok_157 h) rfl ck_158
theorem ok_159 (h : l.stackTraces = false) : b_CT mt l D B ct_159 := b_ct (cts := ct_159d) h mt_Mk mt_ok2 (fun C hC => by
    simp only [ct_159d, List.mem_cons, List.not_mem_nil, or_false] at hC
    rcases hC with rfl | rfl
    · exact ok_151 h
    · exact ok_153 h) rfl ck_159
theorem ok_160 (h : l.stackTraces = false) : b_CT mt l D B ct_160 := b_ct (cts := ct_160d) h mt_Mk mt_ok2 (fun C hC => by cases hC) rfl ck_160
theorem ok_161 (h : l.stackTraces = false) : b_CT mt l D B ct_161 := b_ct (cts := ct_161d) h mt_Mk mt_ok2 (fun C hC => by
    simp only [ct_161d, List.mem_cons, List.not_mem_nil, or_false] at hC
    rcases hC with rfl | rfl
    · exact ok_10 h
    · exact ok_160 h) rfl ck_161
theorem ok_162 (h : l.stackTraces = false) : b_CT mt l D B ct_162 := b_ct (cts := ct_162d) h mt_Mk mt_ok2 (fun C hC => by
    simp only [ct_162d, List.mem_cons, List.not_mem_nil, or_false] at hC
    rcases hC with rfl | rfl
    · exact ok_39 h
    · exact ok_153 h) rfl ck_162
theorem ok_163 (h : l.stackTraces = false) : b_CT mt l D B ct_163 := b_ct (cts := ct_163d) h mt_Mk mt_ok2 (fun C hC => by
    simp only [ct_163d, List.mem_cons, List.not_mem_nil, or_false] at hC
    rcases hC with rfl
    · exact ok_77 h) rfl ck_163
theorem ok_164 (h : l.stackTraces = false) : b_CT mt l D B ct_164 := b_ct (cts := ct_164d) h mt_Mk mt_ok2 (fun C hC => by
    simp only [ct_164d, List.mem_cons, List.not_mem_nil, or_false] at hC
    rcases hC with rfl
    · exact ok_163 h) rfl ck_164
theorem ok_165 (h : l.stackTraces = false) : b_CT mt l D B ct_165 := b_ct (cts := ct_165d) h mt_Mk mt_ok2 (fun C hC => by cases hC) rfl ck_165
theorem ok_166 (h : l.stackTraces = false) : b_CT mt l D B ct_166 := b_ct (cts := ct_166d) h mt_Mk mt_ok2 (fun C hC => by
    simp only [ct_166d, List.mem_cons, List.not_mem_nil, or_false] at hC
    rcases hC with rfl | rfl | rfl
    · exact ok_54 h
    · exact ok_57 h
    · exact ok_165 h) rfl ck_166
theorem ok_167 (h : l.stackTraces = false) : b_CT mt l D B ct_167 := b_ct (cts := ct_167d) h mt_Mk mt_ok2 (fun C hC => by cases hC) rfl ck_167
theorem ok_168 (h : l.stackTraces = false) : b_CT mt l D B ct_168 := b_ct (cts := ct_168d) h mt_Mk mt_ok2 (fun C hC => by
    simp only [ct_168d, List.mem_cons, List.not_mem_nil, or_false] at hC
    rcases hC with rfl | rfl | rfl | rfl
    · exact ok_12 h
    · exact ok_57 h
    · exact ok_165 h
    · exact ok_167 h) rfl ck_168
theorem ok_169 (h : l.stackTraces = false) : b_CT mt l D B ct_169 := b_ct (cts := ct_169d) h mt_Mk mt_ok2 (fun C hC => by
    simp only [ct_169d, List.mem_cons, List.not_mem_nil, or_false] at hC
    rcases hC with rfl
    · exact ok_104 h) rfl ck_169
theorem ok_170 (h : l.stackTraces = false) : b_CT mt l D B ct_170 := b_ct (cts := ct_170d) h mt_Mk mt_ok2 (fun C hC => by
    simp only [ct_170d, List.mem_cons, List.not_mem_nil, or_false] at hC
    rcases hC with rfl | rfl | rfl
    · exact ok_23 h
    · exact ok_137 h
    · exact ok_150 h) rfl ck_170
theorem ok_171 (h : l.stackTraces = false) : b_CT mt l D B ct_171 := b_ct (cts := ct_171d) h mt_Mk mt_ok2 (fun C hC => by
    simp only [ct_171d, List.mem_cons, List.not_mem_nil, or_false] at hC
    rcases hC with rfl
    · exact ok_24 h) rfl ck_171
theorem ok_172 (h : l.stackTraces = false) : b_CT mt l D B ct_172 := b_ct (cts := ct_172d) h mt_Mk mt_ok2 (fun C hC => by cases hC) rfl ck_172
theorem ok_173 (h : l.stackTraces = false) : b_CT mt l D B ct_173 := b_ct (cts := ct_173d) h mt_Mk mt_ok2 (fun C hC => by
    simp only [ct_173d, List.mem_cons, List.not_mem_nil, or_false] at hC
    rcases hC with rfl | rfl | rfl | rfl | rfl
    · exact ok_43 h
    · exact ok_132 h
    · exact ok_139 h
    · exact ok_141 h
    · exact ok_172 h) rfl ck_173
theorem ok_174 (h : l.stackTraces = false) : b_CT mt l D B ct_174 := b_ct (cts := ct_174d) h mt_Mk mt_ok2 (fun C hC => by cases hC) rfl ck_174
theorem ok_175 (h : l.stackTraces = false) : b_CT mt l D B ct_175 := b_ct (cts := ct_175d) h mt_Mk mt_ok2 (fun C hC => by
    simp only [ct_175d, List.mem_cons, List.not_mem_nil, or_false] at hC
    rcases hC with rfl | rfl | rfl | rfl | rfl
    · exact ok_43 h
    · exact ok_139 h
    · exact ok_141 h
    · exact ok_172 h
    · exact ok_174 h) rfl ck_175
theorem ok_176 (h : l.stackTraces = false) : b_CT mt l D B ct_176 := b_ct (cts := ct_176d) h mt_Mk mt_ok2 (fun C hC => by cases hC) rfl ck_176
theorem ok_177 (h : l.stackTraces = false) : b_CT mt l D B ct_177 := b_ct (cts := ct_177d) h mt_Mk mt_ok2 (fun C hC => by cases hC) rfl ck_177
theorem ok_178 (h : l.stackTraces = false) : b_CT mt l D B ct_178 := b_ct (cts := ct_178d) h mt_Mk mt_ok2 (fun C hC => by
    simp only [ct_178d, List.mem_cons, List.not_mem_nil, or_false] at hC
    rcases hC with rfl | rfl
    · exact ok_120 h
    · exact ok_140 h) rfl ck_178
theorem ok_179 (h : l.stackTraces = false) : b_CT mt l D B ct_179 := b_ct (cts := ct_179d) h mt_Mk mt_ok2 (fun C hC => by
    simp only [ct_179d, List.mem_cons, List.not_mem_nil, or_false] at hC
    rcases hC with rfl | rfl | rfl | rfl | rfl | rfl | rfl | rfl | rfl | rfl | rfl
    · exact ok_132 h
    · exact ok_139 h
    · exact ok_141 h
    · exact ok_142 h
    · exact ok_143 h
    · exact ok_145 h
    · exact ok_147 h
    · exact ok_172 h
    · exact ok_176 h
    · exact ok_177 h
    · exact ok_178 h) rfl ck_179
theorem ok_180 (h : l.stackTraces = false) : b_CT mt l D B ct_180 := b_ct (cts := ct_180d) h mt_Mk mt_ok2 (fun C hC => by cases hC) rfl ck_180
theorem ok_181 (h : l.stackTraces = false) : b_CT mt l D B ct_181 := b_ct (cts := ct_181d) h mt_Mk mt_ok2 (fun C hC => by
    simp only [ct_181d, List.mem_cons, List.not_mem_nil, or_false] at hC
    rcases hC with rfl | rfl | rfl
    · exact ok_122 h
    · exact ok_140 h
    · exact ok_180 h) rfl ck_181
theorem ok_182 (h : l.stackTraces = false) : b_CT mt l D B ct_182 := b_ct (cts := ct_182d) h mt_Mk mt_ok2 (fun C hC => by
    simp only [ct_182d, List.mem_cons, List.not_mem_nil, or_false] at hC
    rcases hC with rfl | rfl | rfl | rfl | rfl | rfl
    · exact ok_139 h
    · exact ok_141 h
    · exact ok_146 h
    · exact ok_172 h
    · exact ok_176 h
    · exact ok_181 h) rfl ck_182
theorem ok_183 (h : l.stackTraces = false) : b_CT mt l D B ct_183 := b_ct (cts := ct_183d) h mt_Mk mt_ok2 (fun C hC => by
    simp only [ct_183d, List.mem_cons, List.not_mem_nil, or_false] at hC
    rcases hC with rfl
    · exact ok_139 h) rfl ck_183
theorem ok_184 (h : l.stackTraces = false) : b_CT mt l D B ct_184 := b_ct (cts := ct_184d) h mt_Mk mt_ok2 (fun C hC => by
    simp only [ct_184d, List.mem_cons, List.not_mem_nil, or_false] at hC
    rcases hC with rfl | rfl | rfl
    · exact ok_139 h
    · exact ok_149 h
    · exact ok_183 h) rfl ck_184
theorem ok_185 (h : l.stackTraces = false) : b_CT mt l D B ct_185 := b_ct (cts := ct_185d) h mt_Mk mt_ok2 (fun C hC => by cases hC) rfl ck_185
theorem ok_186 (h : l.stackTraces = false) : b_CT mt l D B ct_186 := b_ct (cts := ct_186d) h mt_Mk mt_ok2 (fun C hC => by cases hC) rfl ck_186
theorem ok_187 (h : l.stackTraces = false) : b_CT mt l D B ct_187 := b_ct (cts := ct_187d) h mt_Mk mt_ok2 (fun C hC => by cases hC) rfl ck_187
theorem ok_188 (h : l.stackTraces = false) : b_CT mt l D B ct_188 := b_ct (cts := ct_188d) h mt_Mk mt_ok2 (fun C hC => by cases hC) rfl ck_188
theorem ok_189 (h : l.stackTraces = false) : b_CT mt l D B ct_189 := b_ct (cts := ct_189d) h mt_Mk mt_ok2 (fun C hC => by cases hC) rfl ck_189
theorem ok_190 (h : l.stackTraces = false) : b_CT mt l D B ct_190 := b_ct (cts := ct_190d) h mt_Mk mt_ok2 (fun C hC => by cases hC) rfl ck_190
theorem ok_191 (h : l.stackTraces = false) : b_CT mt l D B ct_191 := b_ct (cts := ct_191d) h mt_Mk mt_ok2 (fun C hC => by cases hC) rfl ck_191
theorem ok_192 (h : l.stackTraces = false) : b_CT mt l D B ct_192 := b_ct (cts := ct_192d) h mt_Mk mt_ok2 (fun C hC => by cases hC) rfl ck_192
theorem ok_193 (h : l.stackTraces = false) : b_CT mt l D B ct_193 := b_ct (cts := ct_193d) h mt_Mk mt_ok2 (fun C hC => by cases hC) rfl ck_193
theorem ok_194 (h : l.stackTraces = false) : b_CT mt l D B ct_194 := b_ct (cts := ct_194d) h mt_Mk mt_ok2 (fun C hC => by cases hC) rfl ck_194
theorem ok_195 (h : l.stackTraces = false) : b_CT mt l D B ct_195 := b_ct (cts := ct_195d) h mt_Mk mt_ok2 (fun C hC => by
    simp only [ct_195d, List.mem_cons, List.not_mem_nil, or_false] at hC
    rcases hC with rfl | rfl | rfl | rfl
    · exact ok_185 h
    · exact ok_189 h
    · exact ok_190 h
    · exact ok_191 h) rfl ck_195
theorem ok_196 (h : l.stackTraces = false) : b_CT mt l D B ct_196 := b_ct (cts := ct_196d) h mt_Mk mt_ok2 (fun C hC => by cases hC) rfl ck_196
theorem ok_197 (h : l.stackTraces = false) : b_CT mt l D B ct_197 := b_ct (cts := ct_197d) h mt_Mk mt_ok2 (fun C hC => by
    simp only [ct_197d, List.mem_cons, List.not_mem_nil, or_false] at hC
    rcases hC with rfl | rfl | rfl
    · exact ok_189 h
    · exact ok_191 h
    · exact ok_194 h) rfl ck_197
theorem ok_198 (h : l.stackTraces = false) : b_CT mt l D B ct_198 := b_ct (cts := ct_198d) h mt_Mk mt_ok2 (fun C hC => by
    simp only [ct_198d, List.mem_cons, List.not_mem_nil, or_false] at hC
    rcases hC with rfl | rfl | rfl | rfl | rfl
    · exact ok_189 h
    · exact ok_190 h
    · exact ok_191 h
    · exact ok_194 h
    · exact ok_197 h) rfl ck_198
theorem ok_199 (h : l.stackTraces = false) : b_CT mt l D B ct_199 := b_ct (cts := ct_199d) h mt_Mk mt_ok2 (fun C hC => by
    simp only [ct_199d, List.mem_cons, List.not_mem_nil, or_false] at hC
    rcases hC with rfl
    · exact ok_185 h) rfl ck_199
theorem ok_200 (h : l.stackTraces = false) : b_CT mt l D B ct_200 := b_ct (cts := ct_200d) h mt_Mk mt_ok2 (fun C hC => by
    simp only [ct_200d, List.mem_cons, List.not_mem_nil, or_false] at hC
    rcases hC with rfl
    · exact ok_199 h) rfl ck_200
theorem ok_201 (h : l.stackTraces = false) : b_CT mt l D B ct_201 := b_ct (cts := ct_201d) h mt_Mk mt_ok2 (fun C hC => by
    simp only [ct_201d, List.mem_cons, List.not_mem_nil, or_false] at hC
    rcases hC with rfl | rfl | rfl | rfl
    · exact ok_185 h
    · exact ok_186 h
    · exact ok_199 h
    · exact ok_200 h) rfl ck_201
theorem ok_202 (h : l.stackTraces = false) : b_CT mt l D B ct_202 := b_ct (cts := ct_202d) h mt_Mk mt_ok2 (fun C hC => by cases hC) rfl ck_202
theorem ok_203 (h : l.stackTraces = false) : b_CT mt l D B ct_203 := b_ct (cts := ct_203d) h mt_Mk mt_ok2 (fun C hC => by cases hC) rfl ck_203
theorem ok_204 (h : l.stackTraces = false) : b_CT mt l D B ct_204 := b_ct (cts := ct_204d) h mt_Mk mt_ok2 (fun C hC => by
    simp only [ct_204d, List.mem_cons, List.not_mem_nil, or_false] at hC
    rcases hC with rfl
    · exact ok_202 h) rfl ck_204
theorem ok_205 (h : l.stackTraces = false) : b_CT mt l D B ct_205 := b_ct (cts := ct_205d) h mt_Mk mt_ok2 (fun C hC => by cases hC) rfl ck_205
theorem ok_206 (h : l.stackTraces = false) : b_CT mt l D B ct_206 := b_ct (cts := ct_206d) h mt_Mk mt_ok2 (fun C hC => by cases hC) rfl ck_206
theorem ok_207 (h : l.stackTraces = false) : b_CT mt l D B ct_207 := b_ct (cts := ct_207d) h mt_Mk mt_ok2 (fun C hC => by cases hC) rfl ck_207
theorem ok_208 (h : l.stackTraces = false) : b_CT mt l D B ct_208 := b_ct (cts := ct_208d) h mt_Mk mt_ok2 (fun C hC => by cases hC) rfl ck_208
theorem ok_209 (h : l.stackTraces = false) : b_CT mt l D B ct_209 := b_ct (cts := ct_209d) h mt_Mk mt_ok2 (fun C hC => by cases hC) rfl ck_209
theorem ok_210 (h : l.stackTraces = false) : b_CT mt l D B ct_210 := b_ct (cts := ct_210d) h mt_Mk mt_ok2 (fun C hC => by cases hC) rfl ck_210
theorem ok_211 (h : l.stackTraces = false) : b_CT mt l D B ct_211 := b_ct (cts := ct_211d) h mt_Mk mt_ok2 (fun C hC => by cases hC) rfl ck_211
theorem ok_212 (h : l.stackTraces = false) : b_CT mt l D B ct_212 := b_ct (cts := ct_212d) h mt_Mk mt_ok2 (fun C hC => by
    simp only [ct_212d, List.mem_cons, List.not_mem_nil, or_false] at hC
    rcases hC with rfl | rfl
    · exact ok_202 h
    · exact ok_205 h) rfl ck_212
theorem ok_213 (h : l.stackTraces = false) : b_CT mt l D B ct_213 := b_ct (cts := ct_213d) h mt_Mk mt_ok2 (fun C hC => by
    simp only [ct_213d, List.mem_cons, List.not_mem_nil, or_false] at hC
    rcases hC with rfl | rfl
    · exact ok_202 h
    · exact ok_206 h) rfl ck_213
theorem ok_214 (h : l.stackTraces = false) : b_CT mt l D B ct_214 := b_ct (cts := ct_214d) h mt_Mk mt_ok2 (fun C hC => by
    simp only [ct_214d, List.mem_cons, List.not_mem_nil, or_false] at hC
    rcases hC with rfl | rfl | rfl | rfl
    · exact ok_202 h
    · exact ok_203 h
    · exact ok_205 h
    · exact ok_207 h) rfl ck_214
theorem ok_215 (h : l.stackTraces = false) : b_CT mt l D B ct_215 := b_ct (cts := ct_215d) h mt_Mk mt_ok2 (fun C hC => by
    simp only [ct_215d, List.mem_cons, List.not_mem_nil, or_false] at hC
    rcases hC with rfl | rfl | rfl | rfl
    · exact ok_202 h
    · exact ok_203 h
    · exact ok_205 h
    · exact ok_208 h) rfl ck_215
theorem ok_216 (h : l.stackTraces = false) : b_CT mt l D B ct_216 := b_ct (cts := ct_216d) h mt_Mk mt_ok2 (fun C hC => by
    simp only [ct_216d, List.mem_cons, List.not_mem_nil, or_false] at hC
    rcases hC with rfl | rfl | rfl | rfl
    · exact ok_202 h
    · exact ok_203 h
    · exact ok_205 h
    · exact ok_209 h) rfl ck_216
theorem ok_217 (h : l.stackTraces = false) : b_CT mt l D B ct_217 := b_ct (cts := ct_217d) h mt_Mk mt_ok2 (fun C hC => by
    simp only [ct_217d, List.mem_cons, List.not_mem_nil, or_false] at hC
    rcases hC with rfl | rfl | rfl | rfl
    · exact ok_202 h
    · exact ok_203 h
    · exact ok_205 h
    · exact ok_210 h) rfl ck_217
theorem ok_218 (h : l.stackTraces = false) : b_CT mt l D B ct_218 := b_ct (cts := ct_218d) h mt_Mk mt_ok2 (fun C hC => by
    simp only [ct_218d, List.mem_cons, List.not_mem_nil, or_false] at hC
    rcases hC with rfl | rfl | rfl | rfl
    · exact ok_202 h
    · exact ok_203 h
    · exact ok_205 h
    · exact ok_211 h) rfl ck_218
theorem ok_219 (h : l.stackTraces = false) : b_CT mt l D B ct_219 := b_ct (cts := ct_219d) h mt_Mk mt_ok2 (fun C hC => by
    simp only [ct_219d, List.mem_cons, List.not_mem_nil, or_false] at hC
    rcases hC with rfl
    · exact ok_185 h) rfl ck_219
theorem ok_220 (h : l.stackTraces = false) : b_CT mt l D B ct_220 := b_ct (cts := ct_220d) h mt_Mk mt_ok2 (fun C hC => by
    simp only [ct_220d, List.mem_cons, List.not_mem_nil, or_false] at hC
    rcases hC with rfl
    · exact ok_185 h) rfl ck_220
theorem ok_221 (h : l.stackTraces = false) : b_CT mt l D B ct_221 := b_ct (cts := ct_221d) h mt_Mk mt_ok2 (fun C hC => by
    simp only [ct_221d, List.mem_cons, List.not_mem_nil, or_false] at hC
    rcases hC with rfl | rfl | rfl
    · exact ok_185 h
    · exact ok_212 h
    · exact ok_219 h) rfl ck_221
theorem ok_222 (h : l.stackTraces = false) : b_CT mt l D B ct_222 := b_ct (cts := ct_222d) h mt_Mk mt_ok2 (fun C hC => by
    simp only [ct_222d, List.mem_cons, List.not_mem_nil, or_false] at hC
    rcases hC with rfl
    · exact ok_220 h) rfl ck_222
theorem ok_223 (h : l.stackTraces = false) : b_CT mt l D B ct_223 := b_ct (cts := ct_223d) h mt_Mk mt_ok2 (fun C hC => by
    simp only [ct_223d, List.mem_cons, List.not_mem_nil, or_false] at hC
    rcases hC with rfl | rfl | rfl
    · exact ok_185 h
    · exact ok_214 h
    · exact ok_219 h) rfl ck_223
theorem ok_224 (h : l.stackTraces = false) : b_CT mt l D B ct_224 := b_ct (cts := ct_224d) h mt_Mk mt_ok2 (fun C hC => by
    simp only [ct_224d, List.mem_cons, List.not_mem_nil, or_false] at hC
    rcases hC with rfl | rfl | rfl
    · exact ok_185 h
    · exact ok_215 h
    · exact ok_219 h) rfl ck_224
theorem ok_225 (h : l.stackTraces = false) : b_CT mt l D B ct_225 := b_ct (cts := ct_225d) h mt_Mk mt_ok2 (fun C hC => by
    simp only [ct_225d, List.mem_cons, List.not_mem_nil, or_false] at hC
    rcases hC with rfl | rfl | rfl
    · exact ok_185 h
    · exact ok_216 h
    · exact ok_219 h) rfl ck_225
theorem ok_226 (h : l.stackTraces = false) : b_CT mt l D B ct_226 := b_ct (cts := ct_226d) h mt_Mk mt_ok2 (fun C hC => by
    simp only [ct_226d, List.mem_cons, List.not_mem_nil, or_false] at hC
    rcases hC with rfl | rfl | rfl
    · exact ok_185 h
    · exact ok_217 h
    · exact ok_219 h) rfl ck_226
theorem ok_227 (h : l.stackTraces = false) : b_CT mt l D B ct_227 := b_ct (cts := ct_227d) h mt_Mk mt_ok2 (fun C hC => by
    simp only [ct_227d, List.mem_cons, List.not_mem_nil, or_false] at hC
    rcases hC with rfl | rfl | rfl
    · exact ok_185 h
    · exact ok_218 h
    · exact ok_219 h) rfl ck_227
theorem ok_228 (h : l.stackTraces = false) : b_CT mt l D B ct_228 := b_ct (cts := ct_228d) h mt_Mk mt_ok2 (fun C hC => by
    simp only [ct_228d, List.mem_cons, List.not_mem_nil, or_false] at hC
    rcases hC with rfl
    · exact ok_186 h) rfl ck_228
theorem ok_229 (h : l.stackTraces = false) : b_CT mt l D B ct_229 := b_ct (cts := ct_229d) h mt_Mk mt_ok2 (fun C hC => by cases hC) rfl ck_229
theorem ok_230 (h : l.stackTraces = false) : b_CT mt l D B ct_230 := b_ct (cts := ct_230d) h mt_Mk mt_ok2 (fun C hC => by
    simp only [ct_230d, List.mem_cons, List.not_mem_nil, or_false] at hC
    rcases hC with rfl
    · exact ok_229 h) rfl ck_230
theorem ok_231 (h : l.stackTraces = false) : b_CT mt l D B ct_231 := b_ct (cts := ct_231d) h mt_Mk mt_ok2 (fun C hC => by cases hC) rfl ck_231
theorem ok_232 (h : l.stackTraces = false) : b_CT mt l D B ct_232 := b_ct (cts := ct_232d) h mt_Mk mt_ok2 (fun C hC => by
    simp only [ct_232d, List.mem_cons, List.not_mem_nil, or_false] at hC
    rcases hC with rfl | rfl | rfl | rfl | rfl | rfl | rfl
    · exact ok_186 h
    · exact ok_187 h
    · exact ok_190 h
    · exact ok_191 h
    · exact ok_192 h
    · exact ok_193 h
    · exact ok_195 h) rfl ck_232
theorem ok_233 (h : l.stackTraces = false) : b_CT mt l D B ct_233 := b_ct (cts := ct_233d) h mt_Mk mt_ok2 (fun C hC => by
    simp only [ct_233d, List.mem_cons, List.not_mem_nil, or_false] at hC
    rcases hC with rfl | rfl | rfl | rfl | rfl
    · exact ok_186 h
    · exact ok_195 h
    · exact ok_197 h
    · exact ok_228 h
    · exact ok_230 h) rfl ck_233
theorem ok_234 (h : l.stackTraces = false) : b_CT mt l D B ct_234 := b_ct (cts := ct_234d) h mt_Mk mt_ok2 (fun C hC => by
    simp only [ct_234d, List.mem_cons, List.not_mem_nil, or_false] at hC
    rcases hC with rfl
    · exact ok_195 h) rfl ck_234
theorem ok_235 (h : l.stackTraces = false) : b_CT mt l D B ct_235 := b_ct (cts := ct_235d) h mt_Mk mt_ok2 (fun C hC => by
    simp only [ct_235d, List.mem_cons, List.not_mem_nil, or_false] at hC
    rcases hC with rfl | rfl | rfl | rfl | rfl | rfl | rfl
    · exact ok_185 h
    · exact ok_186 h
    · exact ok_190 h
    · exact ok_195 h
    · exact ok_228 h
    · exact ok_229 h
    · exact ok_230 h) rfl ck_235
theorem ok_236 (h : l.stackTraces = false) : b_CT mt l D B ct_236 := b_ct (cts := ct_236d) h mt_Mk mt_ok2 (fun C hC => by
    simp only [ct_236d, List.mem_cons, List.not_mem_nil, or_false] at hC
    rcases hC with rfl | rfl | rfl | rfl | rfl | rfl | rfl | rfl | rfl | rfl | rfl | rfl | rfl | rfl | rfl | rfl
    · exact ok_185 h
    · exact ok_186 h
    · exact ok_190 h
    · exact ok_195 h
    · exact ok_197 h
    · exact ok_199 h
    · exact ok_221 h
    · exact ok_222 h
    · exact ok_223 h
    · exact ok_224 h
    · exact ok_225 h
    · exact ok_226 h
    · exact ok_227 h
    · exact ok_228 h
    · exact ok_229 h
    · exact ok_230 h) rfl ck_236
theorem ok_237 (h : l.stackTraces = false) : b_CT mt l D B ct_237 := b_ct (cts := ct_237d) h mt_Mk mt_ok2 (fun C hC => by
    simp only [ct_237d, List.mem_cons, List.not_mem_nil, or_false] at hC
    rcases hC with rfl | rfl | rfl | rfl | rfl | rfl | rfl | rfl | rfl | rfl | rfl | rfl | rfl | rfl | rfl | rfl
    · exact ok_185 h
    · exact ok_186 h
    · exact ok_190 h
    · exact ok_195 h
    · exact ok_197 h
    · exact ok_199 h
    · exact ok_221 h
    · exact ok_222 h
    · exact ok_223 h
    · exact ok_224 h
    · exact ok_225 h
    · exact ok_226 h
    · exact ok_227 h
    · exact ok_228 h
    · exact ok_229 h
    · exact ok_230 h) rfl ck_237
theorem ok_238 (h : l.stackTraces = false) : b_CT mt l D B ct_238 := b_ct (cts := ct_238d) h mt_Mk mt_ok2 (fun C hC => by
    simp only [ct_238d, List.mem_cons, List.not_mem_nil, or_false] at hC
    rcases hC with rfl | rfl | rfl | rfl | rfl | rfl | rfl | rfl | rfl | rfl | rfl | rfl | rfl | rfl | rfl | rfl
    · exact ok_185 h
    · exact ok_186 h
    · exact ok_190 h
    · exact ok_195 h
    · exact ok_197 h
    · exact ok_199 h
    · exact ok_221 h
    · exact ok_222 h
    · exact ok_223 h
    · exact ok_224 h
    · exact ok_225 h
    · exact ok_226 h
    · exact ok_227 h
    · exact ok_228 h
    · exact ok_229 h
    · exact ok_230 h) rfl ck_238
theorem ok_239 (h : l.stackTraces = false) : b_CT mt l D B ct_239 := b_ct (cts := ct_239d) h mt_Mk mt_ok2 (fun C hC => by
    simp only [ct_239d, List.mem_cons, List.not_mem_nil, or_false] at hC
    rcases hC with rfl | rfl | rfl | rfl | rfl | rfl | rfl | rfl | rfl | rfl | rfl | rfl | rfl | rfl | rfl | rfl
    · exact ok_185 h
    · exact ok_186 h
    · exact ok_190 h
    · exact ok_195 h
    · exact ok_197 h
    · exact ok_199 h
    · exact ok_221 h
    · exact ok_222 h
    · exact ok_223 h
    · exact ok_224 h
    · exact ok_225 h
    · exact ok_226 h
    · exact ok_227 h
    · exact ok_228 h
    · exact ok_229 h
    · exact ok_230 h) rfl ck_239
theorem ok_240 (h : l.stackTraces = false) : b_CT mt l D B ct_240 := b_ct (cts := ct_240d) h mt_Mk mt_ok2 (fun C hC => by cases hC) rfl ck_240
theorem ok_241 (h : l.stackTraces = false) : b_CT mt l D B ct_241 := b_ct (cts := ct_241d) h mt_Mk mt_ok2 (fun C hC => by cases hC) rfl ck_241
theorem ok_242 (h : l.stackTraces = false) : b_CT mt l D B ct_242 := b_ct (cts := ct_242d) h mt_Mk mt_ok2 (fun C hC => by
    simp only [ct_242d, List.mem_cons, List.not_mem_nil, or_false] at hC
    rcases hC with rfl | rfl | rfl
    · exact ok_191 h
    · exact ok_195 h
    · exact ok_197 h) rfl ck_242
theorem ok_243 (h : l.stackTraces = false) : b_CT mt l D B ct_243 := b_ct (cts := ct_243d) h mt_Mk mt_ok2 (fun C hC => by
    simp only [ct_243d, List.mem_cons, List.not_mem_nil, or_false] at hC
    rcases hC with rfl | rfl | rfl | rfl
    · exact ok_228 h
    · exact ok_240 h
    · exact ok_241 h
    · exact ok_242 h) rfl ck_243
theorem ok_244 (h : l.stackTraces = false) : b_CT mt l D B ct_244 := b_ct (cts := ct_244d) h mt_Mk mt_ok2 (fun C hC => by cases hC) rfl ck_244
theorem ok_245 (h : l.stackTraces = false) : b_CT mt l D B ct_245 := b_ct (cts := ct_245d) h mt_Mk mt_ok2 (fun C hC => by
    simp only [ct_245d, List.mem_cons, List.not_mem_nil, or_false] at hC
    rcases hC with rfl | rfl | rfl | rfl | rfl | rfl | rfl | rfl
    · exact ok_185 h
    · exact ok_212 h
    · exact ok_228 h
    · exact ok_229 h
    · exact ok_240 h
    · exact ok_241 h
    · exact ok_242 h
    · exact ok_244 h) rfl ck_245
theorem ok_246 (h : l.stackTraces = false) : b_CT mt l D B ct_246 := b_ct (cts := ct_246d) h mt_Mk mt_ok2 (fun C hC => by
    simp only [ct_246d, List.mem_cons, List.not_mem_nil, or_false] at hC
    rcases hC with rfl | rfl
    · exact ok_198 h
    · exact ok_202 h) rfl ck_246
theorem ok_247 (h : l.stackTraces = false) : b_CT mt l D B ct_247 := b_ct (cts := ct_247d) h mt_Mk mt_ok2 (fun C hC => by
    simp only [ct_247d, List.mem_cons, List.not_mem_nil, or_false] at hC
    rcases hC with rfl | rfl | rfl | rfl | rfl | rfl | rfl
    · exact ok_186 h
    · exact ok_188 h
    · exact ok_189 h
    · exact ok_191 h
    · exact ok_195 h
    · exact ok_228 h
    · exact ok_246 h) rfl ck_247
theorem ok_248 (h : l.stackTraces = false) : b_CT mt l D B ct_248 := b_ct (cts := ct_248d) h mt_Mk mt_ok2 (fun C hC => by
    simp only [ct_248d, List.mem_cons, List.not_mem_nil, or_false] at hC
    rcases hC with rfl | rfl | rfl | rfl
    · exact ok_188 h
    · exact ok_191 h
    · exact ok_195 h
    · exact ok_228 h) rfl ck_248
theorem ok_249 (h : l.stackTraces = false) : b_CT mt l D B ct_249 := b_ct (cts := ct_249d) h mt_Mk mt_ok2 (fun C hC => by
    simp only [ct_249d, List.mem_cons, List.not_mem_nil, or_false] at hC
    rcases hC with rfl | rfl | rfl
    · exact ok_195 h
    · exact ok_228 h
    · exact ok_231 h) rfl ck_249
theorem ok_250 (h : l.stackTraces = false) : b_CT mt l D B ct_250 := b_ct (cts := ct_250d) h mt_Mk mt_ok2 (fun C hC => by
    simp only [ct_250d, List.mem_cons, List.not_mem_nil, or_false] at hC
    rcases hC with rfl | rfl | rfl | rfl
    · exact ok_195 h
    · exact ok_204 h
    · exact ok_228 h
    · exact ok_231 h) rfl ck_250
theorem ok_251 (h : l.stackTraces = false) : b_CT mt l D B ct_251 := b_ct (cts := ct_251d) h mt_Mk mt_ok2 (fun C hC => by
    simp only [ct_251d, List.mem_cons, List.not_mem_nil, or_false] at hC
    rcases hC with rfl | rfl | rfl
    · exact ok_195 h
    · exact ok_198 h
    · exact ok_228 h) rfl ck_251
theorem ok_252 (h : l.stackTraces = false) : b_CT mt l D B ct_252 := b_ct (cts := ct_252d) h mt_Mk mt_ok2 (fun C hC => by
    simp only [ct_252d, List.mem_cons, List.not_mem_nil, or_false] at hC
    rcases hC with rfl | rfl | rfl | rfl | rfl | rfl | rfl | rfl | rfl | rfl | rfl | rfl | rfl | rfl | rfl | rfl
    · exact ok_201 h
    · exact ok_232 h
    · exact ok_233 h
    · exact ok_234 h
    · exact ok_235 h
    · exact ok_236 h
    · exact ok_237 h
    · exact ok_238 h
    · exact ok_239 h
    · exact ok_243 h
    · exact ok_245 h
    · exact ok_247 h
    · exact ok_248 h
    · exact ok_249 h
    · exact ok_250 h
    · exact ok_251 h) rfl ck_252
theorem ok_253 (h : l.stackTraces = false) : b_CT mt l D B ct_253 := b_ct (cts := ct_253d) h mt_Mk mt_ok2 (fun C hC => by cases hC) rfl ck_253
theorem ok_254 (h : l.stackTraces = false) : b_CT mt l D B ct_254 := b_ct (cts := ct_254d) h mt_Mk mt_ok2 (fun C hC => by cases hC) rfl ck_254
theorem ok_255 (h : l.stackTraces = false) : b_CT mt l D B ct_255 := b_ct (cts := ct_255d) h mt_Mk mt_ok2 (fun C hC => by
    simp only [ct_255d, List.mem_cons, List.not_mem_nil, or_false] at hC
    rcases hC with rfl | rfl | rfl | rfl | rfl | rfl | rfl | rfl
    · exact ok_186 h
    · exact ok_189 h
    · exact ok_190 h
    · exact ok_195 h
    · exact ok_196 h
    · exact ok_252 h
    · exact ok_253 h
    · exact ok_254 h) rfl ck_255
theorem ok_256 (h : l.stackTraces = false) : b_CT mt l D B ct_256 := b_ct (cts := ct_256d) h mt_Mk mt_ok2 (fun C hC => by cases hC) rfl ck_256
theorem ok_257 (h : l.stackTraces = false) : b_CT mt l D B ct_257 := b_ct (cts := ct_257d) h mt_Mk mt_ok2 (fun C hC => by cases hC) rfl ck_257
theorem ok_258 (h : l.stackTraces = false) : b_CT mt l D B ct_258 := b_ct (cts := ct_258d) h mt_Mk mt_ok2 (fun C hC => by cases hC) rfl ck_258
theorem ok_259 (h : l.stackTraces = false) : b_CT mt l D B ct_259 := b_ct (cts := ct_259d) h mt_Mk mt_ok2 (fun C hC => by cases hC) rfl ck_259
theorem ok_260 (h : l.stackTraces = false) : b_CT mt l D B ct_260 := b_ct (cts := ct_260d) h mt_Mk mt_ok2 (fun C hC => by cases hC) rfl ck_260
theorem ok_261 (h : l.stackTraces = false) : b_CT mt l D B ct_261 := b_ct (cts := ct_261d) h mt_Mk mt_ok2 (fun C hC => by cases hC) rfl ck_261
theorem ok_262 (h : l.stackTraces = false) : b_CT mt l D B ct_262 := b_ct (cts := ct_262d) h mt_Mk mt_ok2 (fun C hC => by cases hC) rfl ck_262
theorem ok_263 (h : l.stackTraces = false) : b_CT mt l D B ct_263 := b_ct (cts := ct_263d) h mt_Mk mt_ok2 (fun C hC => by cases hC) rfl ck_263
theorem ok_264 (h : l.stackTraces = false) : b_CT mt l D B ct_264 := b_ct (cts := ct_264d) h mt_Mk mt_ok2 (fun C hC => by cases hC) rfl ck_264
theorem ok_265 (h : l.stackTraces = false) : b_CT mt l D B ct_265 := b_ct (cts := ct_265d) h mt_Mk mt_ok2 (fun C hC => by
    simp only [ct_265d, List.mem_cons, List.not_mem_nil, or_false] at hC
    rcases hC with rfl
    · exact ok_264 h) rfl ck_265
theorem ok_266 (h : l.stackTraces = false) : b_CT mt l D B ct_266 := b_ct (cts := ct_266d) h mt_Mk mt_ok2 (fun C hC => by cases hC) rfl ck_266
theorem ok_267 (h : l.stackTraces = false) : b_CT mt l D B ct_267 := b_ct (cts := ct_267d) h mt_Mk mt_ok2 (fun C hC => by cases hC) rfl ck_267
theorem ok_268 (h : l.stackTraces = false) : b_CT mt l D B ct_268 := b_ct (cts := ct_268d) h mt_Mk mt_ok2 (fun C hC => by cases hC) rfl ck_268
theorem ok_269 (h : l.stackTraces = false) : b_CT mt l D B ct_269 := b_ct (cts := ct_269d) h mt_Mk mt_ok2 (fun C hC => by cases hC) rfl ck_269
theorem ok_270 (h : l.stackTraces = false) : b_CT mt l D B ct_270 := b_ct (cts := ct_270d) h mt_Mk mt_ok2 (fun C hC => by cases hC) rfl ck_270
theorem ok_271 (h : l.stackTraces = false) : b_CT mt l D B ct_271 := b_ct (cts := ct_271d) h mt_Mk mt_ok2 (fun C hC => by cases hC) rfl ck_271
theorem ok_272 (h : l.stackTraces = false) : b_CT mt l D B ct_272 := b_ct (cts := ct_272d) h mt_Mk mt_ok2 (fun C hC => by cases hC) rfl ck_272
theorem ok_273 (h : l.stackTraces = false) : b_CT mt l D B ct_273 := b_ct (cts := ct_273d) h mt_Mk mt_ok2 (fun C hC => by cases hC) rfl ck_273
theorem ok_274 (h : l.stackTraces = false) : b_CT mt l D B ct_274 := b_ct (cts := ct_274d) h mt_Mk mt_ok2 (fun C hC => by
    simp only [ct_274d, List.mem_cons, List.not_mem_nil, or_false] at hC
    rcases hC with rfl
    · exact ok_269 h) rfl ck_274
theorem ok_275 (h : l.stackTraces = false) : b_CT mt l D B ct_275 := b_ct (cts := ct_275d) h mt_Mk mt_ok2 (fun C hC => by
    simp only [ct_275d, List.mem_cons, List.not_mem_nil, or_false] at hC
    rcases hC with rfl | rfl | rfl | rfl
    · exact ok_213 h
    · exact ok_267 h
    · exact ok_268 h
    · exact ok_274 h) rfl ck_275
theorem ok_276 (h : l.stackTraces = false) : b_CT mt l D B ct_276 := b_ct (cts := ct_276d) h mt_Mk mt_ok2 (fun C hC => by
    simp only [ct_276d, List.mem_cons, List.not_mem_nil, or_false] at hC
    rcases hC with rfl | rfl | rfl | rfl
    · exact ok_213 h
    · exact ok_267 h
    · exact ok_268 h
    · exact ok_274 h) rfl ck_276
theorem ok_277 (h : l.stackTraces = false) : b_CT mt l D B ct_277 := b_ct (cts := ct_277d) h mt_Mk mt_ok2 (fun C hC => by cases hC) rfl ck_277
theorem ok_278 (h : l.stackTraces = false) : b_CT mt l D B ct_278 := b_ct (cts := ct_278d) h mt_Mk mt_ok2 (fun C hC => by
    simp only [ct_278d, List.mem_cons, List.not_mem_nil, or_false] at hC
    rcases hC with rfl | rfl
    · exact ok_275 h
    · exact ok_277 h) rfl ck_278
theorem ok_279 (h : l.stackTraces = false) : b_CT mt l D B ct_279 := b_ct (cts := ct_279d) h mt_Mk mt_ok2 (fun C hC => by
    simp only [ct_279d, List.mem_cons, List.not_mem_nil, or_false] at hC
    rcases hC with rfl | rfl
    · exact ok_275 h
    · exact ok_277 h) rfl ck_279
theorem ok_280 (h : l.stackTraces = false) : b_CT mt l D B ct_280 := b_ct (cts := ct_280d) h mt_Mk mt_ok2 (fun C hC => by cases hC) rfl ck_280
theorem ok_281 (h : l.stackTraces = false) : b_CT mt l D B ct_281 := b_ct (cts := ct_281d) h mt_Mk mt_ok2 (fun C hC => by cases hC) rfl ck_281
theorem ok_282 (h : l.stackTraces = false) : b_CT mt l D B ct_282 := b_ct (cts := ct_282d) h mt_Mk mt_ok2 (fun C hC => by
    simp only [ct_282d, List.mem_cons, List.not_mem_nil, or_false] at hC
    rcases hC with rfl | rfl | rfl | rfl | rfl | rfl | rfl
    · exact ok_254 h
    · exact ok_269 h
    · exact ok_275 h
    · exact ok_276 h
    · exact ok_277 h
    · exact ok_280 h
    · exact ok_281 h) rfl ck_282
theorem ok_283 (h : l.stackTraces = false) : b_CT mt l D B ct_283 := b_ct (cts := ct_283d) h mt_Mk mt_ok2 (fun C hC => by cases hC) rfl ck_283
theorem ok_284 (h : l.stackTraces = false) : b_CT mt l D B ct_284 := b_ct (cts := ct_284d) h mt_Mk mt_ok2 (fun C hC => by
    simp only [ct_284d, List.mem_cons, List.not_mem_nil, or_false] at hC
    rcases hC with rfl | rfl | rfl | rfl | rfl | rfl | rfl | rfl
    · exact ok_269 h
    · exact ok_270 h
    · exact ok_271 h
    · exact ok_272 h
    · exact ok_273 h
    · exact ok_275 h
    · exact ok_277 h
    · exact ok_283 h) rfl ck_284
theorem ok_285 (h : l.stackTraces = false) : b_CT mt l D B ct_285 := b_ct (cts := ct_285d) h mt_Mk mt_ok2 (fun C hC => by cases hC) rfl ck_285
theorem ok_286 (h : l.stackTraces = false) : b_CT mt l D B ct_286 := b_ct (cts := ct_286d) h mt_Mk mt_ok2 (fun C hC => by
    simp only [ct_286d, List.mem_cons, List.not_mem_nil, or_false] at hC
    rcases hC with rfl | rfl | rfl
    · exact ok_277 h
    · exact ok_283 h
    · exact ok_285 h) rfl ck_286
theorem ok_287 (h : l.stackTraces = false) : b_CT mt l D B ct_287 := b_ct (cts := ct_287d) h mt_Mk mt_ok2 (fun C hC => by
    simp only [ct_287d, List.mem_cons, List.not_mem_nil, or_false] at hC
    rcases hC with rfl | rfl | rfl
    · exact ok_139 h
    · exact ok_149 h
    · exact ok_183 h) rfl ck_287
theorem ok_288 (h : l.stackTraces = false) : b_CT mt l D B ct_288 := b_ct (cts := ct_288d) h mt_Mk mt_ok2 (fun C hC => by
    simp only [ct_288d, List.mem_cons, List.not_mem_nil, or_false] at hC
    rcases hC with rfl
    · exact ok_182 h) rfl ck_288
theorem ok_289 (h : l.stackTraces = false) : b_CT mt l D B ct_289 := b_ct (cts := ct_289d) h mt_Mk mt_ok2 (fun C hC => by
    simp only [ct_289d, List.mem_cons, List.not_mem_nil, or_false] at hC
    rcases hC with rfl
    · exact ok_179 h) rfl ck_289
theorem ok_290 (h : l.stackTraces = false) : b_CT mt l D B ct_290 := b_ct (cts := ct_290d) h mt_Mk mt_ok2 (fun C hC => by
    simp only [ct_290d, List.mem_cons, List.not_mem_nil, or_false] at hC
    rcases hC with rfl
    · exact ok_175 h) rfl ck_290
theorem ok_291 (h : l.stackTraces = false) : b_CT mt l D B ct_291 := b_ct (cts := ct_291d) h mt_Mk mt_ok2 (fun C hC => by
    simp only [ct_291d, List.mem_cons, List.not_mem_nil, or_false] at hC
    rcases hC with rfl
    · exact ok_173 h) rfl ck_291
theorem ok_292 (h : l.stackTraces = false) : b_CT mt l D B ct_292 := b_ct (cts := ct_292d) h mt_Mk mt_ok2 (fun C hC => by
    simp only [ct_292d, List.mem_cons, List.not_mem_nil, or_false] at hC
    rcases hC with rfl
    · exact ok_168 h) rfl ck_292
theorem ok_293 (h : l.stackTraces = false) : b_CT mt l D B ct_293 := b_ct (cts := ct_293d) h mt_Mk mt_ok2 (fun C hC => by
    simp only [ct_293d, List.mem_cons, List.not_mem_nil, or_false] at hC
    rcases hC with rfl
    · exact ok_166 h) rfl ck_293
theorem ok_294 (h : l.stackTraces = false) : b_CT mt l D B ct_294 := b_ct (cts := ct_294d) h mt_Mk mt_ok2 (fun C hC => by
    simp only [ct_294d, List.mem_cons, List.not_mem_nil, or_false] at hC
    rcases hC with rfl
    · exact ok_161 h) rfl ck_294
theorem ok_295 (h : l.stackTraces = false) : b_CT mt l D B ct_295 := b_ct (cts := ct_295d) h mt_Mk mt_ok2 (fun C hC => by
    simp only [ct_295d, List.mem_cons, List.not_mem_nil, or_false] at hC
    rcases hC with rfl
    · exact ok_158 h) rfl ck_295
theorem ok_296 (h : l.stackTraces = false) : b_CT mt l D B ct_296 := b_ct (cts := ct_296d) h mt_Mk mt_ok2 (fun C hC => by
    simp only [ct_296d, List.mem_cons, List.not_mem_nil, or_false] at hC
    rcases hC with rfl
    · exact ok_152 h) rfl ck_296
theorem ok_law (h : l.stackTraces = false) : ∀ C ∈ ct_lawd, b_CT mt l D B C := by
  intro C hC
  simp only [ct_lawd, List.mem_cons, List.not_mem_nil, or_false] at hC
  rcases hC with rfl | rfl | rfl | rfl | rfl | rfl | rfl | rfl | rfl | rfl | rfl | rfl | rfl | rfl | rfl | rfl | rfl | rfl | rfl | rfl | rfl | rfl | rfl | rfl | rfl | rfl | rfl | rfl | rfl | rfl | rfl | rfl
  · exact ok_159 h
  · exact ok_162 h
  · exact ok_164 h
  · exact ok_169 h
  · exact ok_170 h
  · exact ok_171 h
  · exact ok_255 h
  · exact ok_256 h
  · exact ok_257 h
  · exact ok_258 h
  · exact ok_259 h
  · exact ok_260 h
  · exact ok_261 h
  · exact ok_262 h
  · exact ok_263 h
  · exact ok_265 h
  · exact ok_266 h
  · exact ok_278 h
  · exact ok_279 h
  · exact ok_282 h
  · exact ok_284 h
  · exact ok_286 h
  · exact ok_287 h
  · exact ok_288 h
  · exact ok_289 h
  · exact ok_290 h
  · exact ok_291 h
  · exact ok_292 h
  · exact ok_293 h
  · exact ok_294 h
  · exact ok_295 h
  · exact ok_296 h
end BOK
