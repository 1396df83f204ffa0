theorem fl_X2_26 : fd_FL "FrostDebts$Places" 26 2 3 := ⟨_, _, _, rfl, inX2, by decide, kw_0⟩
theorem fl_X3_13 : fd_FL "FrostDebts$Row" 13 3 0 := ⟨_, _, _, rfl, inX3, by decide, kw_1⟩
theorem fl_X4_20 : fd_FL "FrostDebts$Sheet" 20 4 1 := ⟨_, _, _, rfl, inX4, by decide, kw_2⟩
theorem fl_X4_24 : fd_FL "FrostDebts$Sheet" 24 4 2 := ⟨_, _, _, rfl, inX4, by decide, kw_3⟩
theorem fl_X4_28 : fd_FL "FrostDebts$Sheet" 28 4 3 := ⟨_, _, _, rfl, inX4, by decide, kw_4⟩
theorem fl_X5_9 : fd_FL "FrostDebts$Spans" 9 5 0 := ⟨_, _, _, rfl, inX5, by decide, kw_5⟩
theorem fl_X8_40 : fd_FL "FrostDebts" 40 8 4 := ⟨_, _, _, rfl, inX8, by decide, kw_6⟩
theorem fl_X8_130 : fd_FL "FrostDebts" 130 1 3 := ⟨_, _, _, rfl, inX1, by decide, kw_7⟩
theorem ft_X1_3 : fd_FT 1 3 .int false := ⟨_, _, _, tyX1, rfl, tyX1_ok, nmX1, rfl, by decide +kernel, rfl⟩
theorem fl_X8_29 : fd_FL "FrostDebts" 29 8 2 := ⟨_, _, _, rfl, inX8, by decide, kw_8⟩
theorem fl_X8_150 : fd_FL "FrostDebts" 150 2 3 := ⟨_, _, _, rfl, inX2, by decide, kw_9⟩
theorem fl_X8_21 : fd_FL "FrostDebts" 21 8 1 := ⟨_, _, _, rfl, inX8, by decide, kw_10⟩
theorem fl_X8_98 : fd_FL "FrostDebts" 98 7 5 := ⟨_, _, _, rfl, inX7, by decide, kw_11⟩
theorem fl_X8_33 : fd_FL "FrostDebts" 33 8 3 := ⟨_, _, _, rfl, inX8, by decide, kw_12⟩
theorem fl_X8_104 : fd_FL "FrostDebts" 104 0 1 := ⟨_, _, _, rfl, inX0, by decide, kw_13⟩
theorem fl_X8_14 : fd_FL "FrostDebts" 14 8 0 := ⟨_, _, _, rfl, inX8, by decide, kw_14⟩
theorem fl_X8_73 : fd_FL "FrostDebts" 73 6 2 := ⟨_, _, _, rfl, inX6, by decide, kw_15⟩
theorem fl_X8_117 : fd_FL "FrostDebts" 117 7 1 := ⟨_, _, _, rfl, inX7, by decide, kw_16⟩
theorem fl_X8_124 : fd_FL "FrostDebts" 124 7 2 := ⟨_, _, _, rfl, inX7, by decide, kw_17⟩
theorem fl_X8_127 : fd_FL "FrostDebts" 127 7 3 := ⟨_, _, _, rfl, inX7, by decide, kw_18⟩
theorem fl_X8_58 : fd_FL "FrostDebts" 58 8 7 := ⟨_, _, _, rfl, inX8, by decide, kw_19⟩
theorem ft_X8_7 : fd_FT 8 7 .int false := ⟨_, _, _, tyX8, rfl, tyX8_ok, nmX8, rfl, by decide +kernel, rfl⟩
theorem fl_X9_7 : fd_FL "FrostDebtsModel" 7 9 0 := ⟨_, _, _, rfl, inX9, by decide, kw_24⟩
theorem fl_X9_13 : fd_FL "FrostDebtsModel" 13 9 1 := ⟨_, _, _, rfl, inX9, by decide, kw_25⟩
theorem fl_X9_37 : fd_FL "FrostDebtsModel" 37 9 12 := ⟨_, _, _, rfl, inX9, by decide, kw_26⟩
theorem fl_X9_34 : fd_FL "FrostDebtsModel" 34 9 11 := ⟨_, _, _, rfl, inX9, by decide, kw_27⟩
theorem fl_X9_31 : fd_FL "FrostDebtsModel" 31 9 10 := ⟨_, _, _, rfl, inX9, by decide, kw_28⟩
theorem fl_X9_28 : fd_FL "FrostDebtsModel" 28 9 9 := ⟨_, _, _, rfl, inX9, by decide, kw_29⟩
theorem fl_X9_25 : fd_FL "FrostDebtsModel" 25 9 8 := ⟨_, _, _, rfl, inX9, by decide, kw_30⟩
theorem fl_X9_40 : fd_FL "FrostDebtsModel" 40 9 14 := ⟨_, _, _, rfl, inX9, by decide, kw_31⟩
theorem fl_X9_43 : fd_FL "FrostDebtsModel" 43 9 15 := ⟨_, _, _, rfl, inX9, by decide, kw_32⟩
theorem fl_X9_46 : fd_FL "FrostDebtsModel" 46 9 16 := ⟨_, _, _, rfl, inX9, by decide, kw_33⟩
theorem fl_X9_156 : fd_FL "FrostDebtsModel" 156 9 18 := ⟨_, _, _, rfl, inX9, by decide, kw_34⟩
theorem fl_X9_19 : fd_FL "FrostDebtsModel" 19 9 4 := ⟨_, _, _, rfl, inX9, by decide, kw_35⟩
theorem fl_X9_22 : fd_FL "FrostDebtsModel" 22 9 6 := ⟨_, _, _, rfl, inX9, by decide, kw_36⟩
theorem fl_X9_16 : fd_FL "FrostDebtsModel" 16 9 3 := ⟨_, _, _, rfl, inX9, by decide, kw_37⟩
theorem fl_X9_105 : fd_FL "FrostDebtsModel" 105 9 2 := ⟨_, _, _, rfl, inX9, by decide, kw_38⟩
theorem fl_X9_53 : fd_FL "FrostDebtsModel" 53 9 19 := ⟨_, _, _, rfl, inX9, by decide, kw_39⟩
theorem fl_X9_235 : fd_FL "FrostDebtsModel" 235 9 21 := ⟨_, _, _, rfl, inX9, by decide, kw_40⟩
theorem ft_X9_21 : fd_FT 9 21 .int false := ⟨_, _, _, tyX9, rfl, tyX9_ok, nmX9, rfl, by decide +kernel, rfl⟩
theorem fl_X9_281 : fd_FL "FrostDebtsModel" 281 9 30 := ⟨_, _, _, rfl, inX9, by decide, kw_41⟩
theorem ft_X9_30 : fd_FT 9 30 .int false := ⟨_, _, _, tyX9, rfl, tyX9_ok, nmX9, rfl, by decide +kernel, rfl⟩
theorem fl_X9_77 : fd_FL "FrostDebtsModel" 77 9 28 := ⟨_, _, _, rfl, inX9, by decide, kw_42⟩
theorem fl_X9_71 : fd_FL "FrostDebtsModel" 71 9 26 := ⟨_, _, _, rfl, inX9, by decide, kw_43⟩
theorem fl_X0_30 : fd_FL "FrostDebts$Debts" 30 6 0 := ⟨_, _, _, rfl, inX6, by decide, kw_47⟩
theorem fl_X0_14 : fd_FL "FrostDebts$Debts" 14 0 0 := ⟨_, _, _, rfl, inX0, by decide, kw_53⟩
theorem fl_X1_26 : fd_FL "FrostDebts$Marks" 26 1 3 := ⟨_, _, _, rfl, inX1, by decide, kw_58⟩
theorem fl_X1_14 : fd_FL "FrostDebts$Marks" 14 1 0 := ⟨_, _, _, rfl, inX1, by decide, kw_59⟩
theorem fl_X1_20 : fd_FL "FrostDebts$Marks" 20 1 1 := ⟨_, _, _, rfl, inX1, by decide, kw_61⟩
theorem fl_X1_23 : fd_FL "FrostDebts$Marks" 23 1 2 := ⟨_, _, _, rfl, inX1, by decide, kw_62⟩
theorem ft_X2_3 : fd_FT 2 3 .int false := ⟨_, _, _, tyX2, rfl, tyX2_ok, nmX2, rfl, by decide +kernel, rfl⟩
theorem fl_X2_14 : fd_FL "FrostDebts$Places" 14 2 0 := ⟨_, _, _, rfl, inX2, by decide, kw_68⟩
theorem fl_X2_36 : fd_FL "FrostDebts$Places" 36 6 0 := ⟨_, _, _, rfl, inX6, by decide, kw_69⟩
theorem fl_X2_20 : fd_FL "FrostDebts$Places" 20 2 1 := ⟨_, _, _, rfl, inX2, by decide, kw_72⟩
theorem fl_X2_23 : fd_FL "FrostDebts$Places" 23 2 2 := ⟨_, _, _, rfl, inX2, by decide, kw_76⟩
theorem ft_X4_1 : fd_FT 4 1 .boolean false := ⟨_, _, _, tyX4, rfl, tyX4_ok, nmX4, rfl, by decide +kernel, rfl⟩
theorem ft_X4_2 : fd_FT 4 2 .int false := ⟨_, _, _, tyX4, rfl, tyX4_ok, nmX4, rfl, by decide +kernel, rfl⟩
theorem ft_X4_3 : fd_FT 4 3 .int false := ⟨_, _, _, tyX4, rfl, tyX4_ok, nmX4, rfl, by decide +kernel, rfl⟩
theorem fl_X4_14 : fd_FL "FrostDebts$Sheet" 14 4 0 := ⟨_, _, _, rfl, inX4, by decide, kw_81⟩
theorem fl_X6_7 : fd_FL "FrostDebts$Text" 7 6 2 := ⟨_, _, _, rfl, inX6, by decide, kw_91⟩
theorem fl_X6_13 : fd_FL "FrostDebts$Text" 13 6 1 := ⟨_, _, _, rfl, inX6, by decide, kw_92⟩
theorem fl_X6_21 : fd_FL "FrostDebts$Text" 21 6 0 := ⟨_, _, _, rfl, inX6, by decide, kw_93⟩
theorem ft_X6_2 : fd_FT 6 2 .int false := ⟨_, _, _, tyX6, rfl, tyX6_ok, nmX6, rfl, by decide +kernel, rfl⟩
theorem fl_X7_40 : fd_FL "FrostDebts$Weather" 40 7 5 := ⟨_, _, _, rfl, inX7, by decide, kw_96⟩
theorem ft_X7_5 : fd_FT 7 5 .int false := ⟨_, _, _, tyX7, rfl, tyX7_ok, nmX7, rfl, by decide +kernel, rfl⟩
theorem fl_X7_36 : fd_FL "FrostDebts$Weather" 36 7 4 := ⟨_, _, _, rfl, inX7, by decide, kw_97⟩
theorem fl_X7_70 : fd_FL "FrostDebts$Weather" 70 6 0 := ⟨_, _, _, rfl, inX6, by decide, kw_98⟩
theorem fl_X7_12 : fd_FL "FrostDebts$Weather" 12 7 0 := ⟨_, _, _, rfl, inX7, by decide, kw_101⟩
theorem fl_X7_103 : fd_FL "FrostDebts$Weather" 103 2 1 := ⟨_, _, _, rfl, inX2, by decide, kw_102⟩
theorem fl_X7_106 : fd_FL "FrostDebts$Weather" 106 2 2 := ⟨_, _, _, rfl, inX2, by decide, kw_103⟩
theorem fl_X7_44 : fd_FL "FrostDebts$Weather" 44 7 6 := ⟨_, _, _, rfl, inX7, by decide, kw_104⟩
theorem fl_X8_95 : fd_FL "FrostDebts" 95 2 1 := ⟨_, _, _, rfl, inX2, by decide, kw_112⟩
theorem fl_X8_85 : fd_FL "FrostDebts" 85 2 0 := ⟨_, _, _, rfl, inX2, by decide, kw_114⟩
theorem fl_X8_101 : fd_FL "FrostDebts" 101 7 4 := ⟨_, _, _, rfl, inX7, by decide, kw_115⟩
theorem fl_X8_131 : fd_FL "FrostDebts" 131 2 2 := ⟨_, _, _, rfl, inX2, by decide, kw_116⟩
theorem fl_X8_134 : fd_FL "FrostDebts" 134 7 9 := ⟨_, _, _, rfl, inX7, by decide, kw_117⟩
theorem fl_X8_144 : fd_FL "FrostDebts" 144 7 10 := ⟨_, _, _, rfl, inX7, by decide, kw_122⟩
theorem fl_X8_54 : fd_FL "FrostDebts" 54 8 6 := ⟨_, _, _, rfl, inX8, by decide, kw_123⟩
theorem fl_X8_192 : fd_FL "FrostDebts" 192 4 1 := ⟨_, _, _, rfl, inX4, by decide, kw_124⟩
theorem fl_X8_199 : fd_FL "FrostDebts" 199 4 3 := ⟨_, _, _, rfl, inX4, by decide, kw_125⟩
theorem fl_X8_200 : fd_FL "FrostDebts" 200 4 0 := ⟨_, _, _, rfl, inX4, by decide, kw_136⟩
theorem fl_X9_117 : fd_FL "FrostDebtsModel" 117 9 5 := ⟨_, _, _, rfl, inX9, by decide, kw_153⟩
theorem ft_X9_5 : fd_FT 9 5 .int false := ⟨_, _, _, tyX9, rfl, tyX9_ok, nmX9, rfl, by decide +kernel, rfl⟩
theorem fl_X9_83 : fd_FL "FrostDebtsModel" 83 9 13 := ⟨_, _, _, rfl, inX9, by decide, kw_154⟩
theorem ft_X9_13 : fd_FT 9 13 .int false := ⟨_, _, _, tyX9, rfl, tyX9_ok, nmX9, rfl, by decide +kernel, rfl⟩
theorem fl_X9_68 : fd_FL "FrostDebtsModel" 68 9 25 := ⟨_, _, _, rfl, inX9, by decide, kw_167⟩
theorem fl_X9_74 : fd_FL "FrostDebtsModel" 74 9 27 := ⟨_, _, _, rfl, inX9, by decide, kw_168⟩
theorem fl_X0_20 : fd_FL "FrostDebts$Debts" 20 0 1 := ⟨_, _, _, rfl, inX0, by decide, kw_170⟩
theorem ft_X0_1 : fd_FT 0 1 .int false := ⟨_, _, _, tyX0, rfl, tyX0_ok, nmX0, rfl, by decide +kernel, rfl⟩
theorem fl_X7_54 : fd_FL "FrostDebts$Weather" 54 7 8 := ⟨_, _, _, rfl, inX7, by decide, kw_181⟩
theorem fl_X7_47 : fd_FL "FrostDebts$Weather" 47 7 7 := ⟨_, _, _, rfl, inX7, by decide, kw_189⟩
theorem fl_X7_61 : fd_FL "FrostDebts$Weather" 61 7 10 := ⟨_, _, _, rfl, inX7, by decide, kw_190⟩
theorem fl_X7_58 : fd_FL "FrostDebts$Weather" 58 7 9 := ⟨_, _, _, rfl, inX7, by decide, kw_191⟩
theorem fl_X8_255 : fd_FL "FrostDebts" 255 4 2 := ⟨_, _, _, rfl, inX4, by decide, kw_218⟩
theorem fl_X8_316 : fd_FL "FrostDebts" 316 6 0 := ⟨_, _, _, rfl, inX6, by decide, kw_227⟩
theorem fl_X8_339 : fd_FL "FrostDebts" 339 1 1 := ⟨_, _, _, rfl, inX1, by decide, kw_234⟩
theorem fl_X8_342 : fd_FL "FrostDebts" 342 1 0 := ⟨_, _, _, rfl, inX1, by decide, kw_235⟩
theorem fl_X8_344 : fd_FL "FrostDebts" 344 1 2 := ⟨_, _, _, rfl, inX1, by decide, kw_236⟩
theorem fl_X9_49 : fd_FL "FrostDebtsModel" 49 9 17 := ⟨_, _, _, rfl, inX9, by decide, kw_250⟩
theorem fl_X9_108 : fd_FL "FrostDebtsModel" 108 9 7 := ⟨_, _, _, rfl, inX9, by decide, kw_259⟩
theorem fl_X9_59 : fd_FL "FrostDebtsModel" 59 9 22 := ⟨_, _, _, rfl, inX9, by decide, kw_260⟩
theorem fl_X9_62 : fd_FL "FrostDebtsModel" 62 9 23 := ⟨_, _, _, rfl, inX9, by decide, kw_261⟩
theorem fl_X9_65 : fd_FL "FrostDebtsModel" 65 9 24 := ⟨_, _, _, rfl, inX9, by decide, kw_262⟩
theorem fl_X9_80 : fd_FL "FrostDebtsModel" 80 9 29 := ⟨_, _, _, rfl, inX9, by decide, kw_279⟩
theorem fl_X7_21 : fd_FL "FrostDebts$Weather" 21 7 1 := ⟨_, _, _, rfl, inX7, by decide, kw_280⟩
theorem ft_X7_7 : fd_FT 7 7 .long false := ⟨_, _, _, tyX7, rfl, tyX7_ok, nmX7, rfl, by decide +kernel, rfl⟩
theorem fl_X7_87 : fd_FL "FrostDebts$Weather" 87 2 3 := ⟨_, _, _, rfl, inX2, by decide, kw_285⟩
theorem fl_X7_25 : fd_FL "FrostDebts$Weather" 25 7 2 := ⟨_, _, _, rfl, inX7, by decide, kw_286⟩
theorem fl_X7_28 : fd_FL "FrostDebts$Weather" 28 7 3 := ⟨_, _, _, rfl, inX7, by decide, kw_291⟩
theorem fl_X8_47 : fd_FL "FrostDebts" 47 8 5 := ⟨_, _, _, rfl, inX8, by decide, kw_310⟩
theorem ft_X9_2 : fd_FT 9 2 .int false := ⟨_, _, _, tyX9, rfl, tyX9_ok, nmX9, rfl, by decide +kernel, rfl⟩
theorem ft_X9_7 : fd_FT 9 7 .int false := ⟨_, _, _, tyX9, rfl, tyX9_ok, nmX9, rfl, by decide +kernel, rfl⟩
theorem fl_X9_56 : fd_FL "FrostDebtsModel" 56 9 20 := ⟨_, _, _, rfl, inX9, by decide, kw_357⟩
theorem fl_X8_111 : fd_FL "FrostDebts" 111 7 6 := ⟨_, _, _, rfl, inX7, by decide, kw_369⟩
theorem ft_X7_6 : fd_FT 7 6 .int false := ⟨_, _, _, tyX7, rfl, tyX7_ok, nmX7, rfl, by decide +kernel, rfl⟩
theorem ft_X9_18 : fd_FT 9 18 .int false := ⟨_, _, _, tyX9, rfl, tyX9_ok, nmX9, rfl, by decide +kernel, rfl⟩
theorem ft_X6_1 : fd_FT 6 1 .int true := ⟨_, _, _, tyX6, rfl, tyX6_ok, nmX6, rfl, by decide +kernel, rfl⟩
theorem ft_X3_0 : fd_FT 3 0 (.array .int) true := ⟨_, _, _, tyX3, rfl, tyX3_ok, nmX3, rfl, by decide +kernel, rfl⟩
theorem ft_X6_0 : fd_FT 6 0 (.object "FrostDebts$Row") true := ⟨_, _, _, tyX6, rfl, tyX6_ok, nmX6, rfl, by decide +kernel, rfl⟩
theorem ft_X8_0 : fd_FT 8 0 (.array (.object "FrostDebts$Text")) true := ⟨_, _, _, tyX8, rfl, tyX8_ok, nmX8, rfl, by decide +kernel, rfl⟩
theorem ft_X2_0 : fd_FT 2 0 (.object "FrostDebts$Row") true := ⟨_, _, _, tyX2, rfl, tyX2_ok, nmX2, rfl, by decide +kernel, rfl⟩
theorem ft_X2_1 : fd_FT 2 1 (.object "FrostDebts$Row") true := ⟨_, _, _, tyX2, rfl, tyX2_ok, nmX2, rfl, by decide +kernel, rfl⟩
theorem ft_X2_2 : fd_FT 2 2 (.object "FrostDebts$Row") true := ⟨_, _, _, tyX2, rfl, tyX2_ok, nmX2, rfl, by decide +kernel, rfl⟩
theorem ft_X7_0 : fd_FT 7 0 (.object "FrostDebts$Places") true := ⟨_, _, _, tyX7, rfl, tyX7_ok, nmX7, rfl, by decide +kernel, rfl⟩
theorem ft_X1_0 : fd_FT 1 0 (.object "FrostDebts$Row") true := ⟨_, _, _, tyX1, rfl, tyX1_ok, nmX1, rfl, by decide +kernel, rfl⟩
theorem ft_X1_1 : fd_FT 1 1 (.object "FrostDebts$Row") true := ⟨_, _, _, tyX1, rfl, tyX1_ok, nmX1, rfl, by decide +kernel, rfl⟩
theorem ft_X1_2 : fd_FT 1 2 (.object "FrostDebts$Row") true := ⟨_, _, _, tyX1, rfl, tyX1_ok, nmX1, rfl, by decide +kernel, rfl⟩
theorem ft_X7_1 : fd_FT 7 1 (.object "FrostDebts$Marks") true := ⟨_, _, _, tyX7, rfl, tyX7_ok, nmX7, rfl, by decide +kernel, rfl⟩
theorem ft_X7_2 : fd_FT 7 2 (.object "FrostDebts$Marks") true := ⟨_, _, _, tyX7, rfl, tyX7_ok, nmX7, rfl, by decide +kernel, rfl⟩
theorem ft_X7_3 : fd_FT 7 3 (.object "FrostDebts$Marks") true := ⟨_, _, _, tyX7, rfl, tyX7_ok, nmX7, rfl, by decide +kernel, rfl⟩
theorem ft_X7_4 : fd_FT 7 4 (.object "FrostDebts$Row") true := ⟨_, _, _, tyX7, rfl, tyX7_ok, nmX7, rfl, by decide +kernel, rfl⟩
theorem ft_X5_0 : fd_FT 5 0 (.array .long) true := ⟨_, _, _, tyX5, rfl, tyX5_ok, nmX5, rfl, by decide +kernel, rfl⟩
theorem ft_X7_8 : fd_FT 7 8 (.object "FrostDebts$Spans") true := ⟨_, _, _, tyX7, rfl, tyX7_ok, nmX7, rfl, by decide +kernel, rfl⟩
theorem ft_X7_9 : fd_FT 7 9 (.object "FrostDebts$Spans") true := ⟨_, _, _, tyX7, rfl, tyX7_ok, nmX7, rfl, by decide +kernel, rfl⟩
theorem ft_X7_10 : fd_FT 7 10 (.object "FrostDebts$Spans") true := ⟨_, _, _, tyX7, rfl, tyX7_ok, nmX7, rfl, by decide +kernel, rfl⟩
theorem ft_X8_1 : fd_FT 8 1 (.object "FrostDebts$Weather") true := ⟨_, _, _, tyX8, rfl, tyX8_ok, nmX8, rfl, by decide +kernel, rfl⟩
theorem fl_X8_25 : fd_FL "FrostDebts" 25 7 0 := ⟨_, _, _, rfl, inX7, by decide, kw_753⟩
theorem ft_X8_2 : fd_FT 8 2 (.object "FrostDebts$Places") true := ⟨_, _, _, tyX8, rfl, tyX8_ok, nmX8, rfl, by decide +kernel, rfl⟩
theorem ft_X0_0 : fd_FT 0 0 (.object "FrostDebts$Row") true := ⟨_, _, _, tyX0, rfl, tyX0_ok, nmX0, rfl, by decide +kernel, rfl⟩
theorem ft_X8_3 : fd_FT 8 3 (.object "FrostDebts$Debts") true := ⟨_, _, _, tyX8, rfl, tyX8_ok, nmX8, rfl, by decide +kernel, rfl⟩
theorem ft_X8_4 : fd_FT 8 4 (.object "FrostDebts$Marks") true := ⟨_, _, _, tyX8, rfl, tyX8_ok, nmX8, rfl, by decide +kernel, rfl⟩
theorem ft_X8_5 : fd_FT 8 5 (.object "FrostDebts$Spans") true := ⟨_, _, _, tyX8, rfl, tyX8_ok, nmX8, rfl, by decide +kernel, rfl⟩
theorem ft_X4_0 : fd_FT 4 0 (.object "FrostDebts$Row") true := ⟨_, _, _, tyX4, rfl, tyX4_ok, nmX4, rfl, by decide +kernel, rfl⟩
theorem ft_X8_6 : fd_FT 8 6 (.array (.object "FrostDebts$Sheet")) true := ⟨_, _, _, tyX8, rfl, tyX8_ok, nmX8, rfl, by decide +kernel, rfl⟩
theorem ft_X9_0 : fd_FT 9 0 (.array .int) true := ⟨_, _, _, tyX9, rfl, tyX9_ok, nmX9, rfl, by decide +kernel, rfl⟩
theorem ft_X9_1 : fd_FT 9 1 (.array .int) true := ⟨_, _, _, tyX9, rfl, tyX9_ok, nmX9, rfl, by decide +kernel, rfl⟩
theorem ft_X9_3 : fd_FT 9 3 (.array .int) true := ⟨_, _, _, tyX9, rfl, tyX9_ok, nmX9, rfl, by decide +kernel, rfl⟩
theorem ft_X9_4 : fd_FT 9 4 (.array .int) true := ⟨_, _, _, tyX9, rfl, tyX9_ok, nmX9, rfl, by decide +kernel, rfl⟩
theorem ft_X9_6 : fd_FT 9 6 (.array .int) true := ⟨_, _, _, tyX9, rfl, tyX9_ok, nmX9, rfl, by decide +kernel, rfl⟩
theorem ft_X9_8 : fd_FT 9 8 (.array .int) true := ⟨_, _, _, tyX9, rfl, tyX9_ok, nmX9, rfl, by decide +kernel, rfl⟩
theorem ft_X9_9 : fd_FT 9 9 (.array .int) true := ⟨_, _, _, tyX9, rfl, tyX9_ok, nmX9, rfl, by decide +kernel, rfl⟩
theorem ft_X9_10 : fd_FT 9 10 (.array .int) true := ⟨_, _, _, tyX9, rfl, tyX9_ok, nmX9, rfl, by decide +kernel, rfl⟩
theorem ft_X9_11 : fd_FT 9 11 (.array .int) true := ⟨_, _, _, tyX9, rfl, tyX9_ok, nmX9, rfl, by decide +kernel, rfl⟩
theorem ft_X9_12 : fd_FT 9 12 (.array .int) true := ⟨_, _, _, tyX9, rfl, tyX9_ok, nmX9, rfl, by decide +kernel, rfl⟩
theorem ft_X9_14 : fd_FT 9 14 (.array .int) true := ⟨_, _, _, tyX9, rfl, tyX9_ok, nmX9, rfl, by decide +kernel, rfl⟩
theorem ft_X9_15 : fd_FT 9 15 (.array .int) true := ⟨_, _, _, tyX9, rfl, tyX9_ok, nmX9, rfl, by decide +kernel, rfl⟩
theorem ft_X9_16 : fd_FT 9 16 (.array .int) true := ⟨_, _, _, tyX9, rfl, tyX9_ok, nmX9, rfl, by decide +kernel, rfl⟩
theorem ft_X9_17 : fd_FT 9 17 (.array .boolean) true := ⟨_, _, _, tyX9, rfl, tyX9_ok, nmX9, rfl, by decide +kernel, rfl⟩
theorem ft_X9_19 : fd_FT 9 19 (.array .int) true := ⟨_, _, _, tyX9, rfl, tyX9_ok, nmX9, rfl, by decide +kernel, rfl⟩
theorem ft_X9_20 : fd_FT 9 20 (.array .int) true := ⟨_, _, _, tyX9, rfl, tyX9_ok, nmX9, rfl, by decide +kernel, rfl⟩
theorem ft_X9_22 : fd_FT 9 22 (.array .int) true := ⟨_, _, _, tyX9, rfl, tyX9_ok, nmX9, rfl, by decide +kernel, rfl⟩
theorem ft_X9_23 : fd_FT 9 23 (.array .int) true := ⟨_, _, _, tyX9, rfl, tyX9_ok, nmX9, rfl, by decide +kernel, rfl⟩
theorem ft_X9_24 : fd_FT 9 24 (.array .int) true := ⟨_, _, _, tyX9, rfl, tyX9_ok, nmX9, rfl, by decide +kernel, rfl⟩
theorem ft_X9_25 : fd_FT 9 25 (.array .boolean) true := ⟨_, _, _, tyX9, rfl, tyX9_ok, nmX9, rfl, by decide +kernel, rfl⟩
theorem ft_X9_26 : fd_FT 9 26 (.array .int) true := ⟨_, _, _, tyX9, rfl, tyX9_ok, nmX9, rfl, by decide +kernel, rfl⟩
theorem ft_X9_27 : fd_FT 9 27 (.array .int) true := ⟨_, _, _, tyX9, rfl, tyX9_ok, nmX9, rfl, by decide +kernel, rfl⟩
theorem ft_X9_28 : fd_FT 9 28 (.array .int) true := ⟨_, _, _, tyX9, rfl, tyX9_ok, nmX9, rfl, by decide +kernel, rfl⟩
theorem ft_X9_29 : fd_FT 9 29 (.array .int) true := ⟨_, _, _, tyX9, rfl, tyX9_ok, nmX9, rfl, by decide +kernel, rfl⟩
def fd_no : Nat → Option Nat := fun _ => none
def fd_shL : List fd_Sh := [.inr (8, [some (.inl 1), some (.inl 11), some (.inl 12), some (.inl 48), some (.inl 51), some (.inl 58), some (.inl 60), some (.inr false)]), .inl (3, 3, fun j => some (2 + 3 * j)), .inr (6, [some (.inl 3), some (.inr false), some (.inr false)]), .inr (3, [some (.inl 4)]), .inl (0, 23, fd_no), .inr (6, [some (.inl 6), some (.inr false), some (.inr false)]), .inr (3, [some (.inl 7)]), .inl (0, 40, fd_no), .inr (6, [some (.inl 9), some (.inr false), some (.inr false)]), .inr (3, [some (.inl 10)]), .inl (0, 71, fd_no), .inr (7, [some (.inl 12), some (.inl 19), some (.inl 26), some (.inl 33), some (.inl 40), some (.inr false), some (.inr false), some (.inr true), some (.inl 42), some (.inl 44), some (.inl 46)]), .inr (2, [some (.inl 13), some (.inl 15), some (.inl 17), some (.inr false)]), .inr (3, [some (.inl 14)]), .inl (0, 8, fd_no), .inr (3, [some (.inl 16)]), .inl (0, 8, fd_no), .inr (3, [some (.inl 18)]), .inl (0, 8, fd_no), .inr (1, [some (.inl 20), some (.inl 22), some (.inl 24), some (.inr false)]), .inr (3, [some (.inl 21)]), .inl (0, 8, fd_no), .inr (3, [some (.inl 23)]), .inl (0, 8, fd_no), .inr (3, [some (.inl 25)]), .inl (0, 8, fd_no), .inr (1, [some (.inl 27), some (.inl 29), some (.inl 31), some (.inr false)]), .inr (3, [some (.inl 28)]), .inl (0, 8, fd_no), .inr (3, [some (.inl 30)]), .inl (0, 8, fd_no), .inr (3, [some (.inl 32)]), .inl (0, 8, fd_no), .inr (1, [some (.inl 34), some (.inl 36), some (.inl 38), some (.inr false)]), .inr (3, [some (.inl 35)]), .inl (0, 8, fd_no), .inr (3, [some (.inl 37)]), .inl (0, 8, fd_no), .inr (3, [some (.inl 39)]), .inl (0, 8, fd_no), .inr (3, [some (.inl 41)]), .inl (0, 40, fd_no), .inr (5, [some (.inl 43)]), .inl (1, 8, fd_no), .inr (5, [some (.inl 45)]), .inl (1, 8, fd_no), .inr (5, [some (.inl 47)]), .inl (1, 8, fd_no), .inr (0, [some (.inl 49), some (.inr false)]), .inr (3, [some (.inl 50)]), .inl (0, 45, fd_no), .inr (1, [some (.inl 52), some (.inl 54), some (.inl 56), some (.inr false)]), .inr (3, [some (.inl 53)]), .inl (0, 8, fd_no), .inr (3, [some (.inl 55)]), .inl (0, 8, fd_no), .inr (3, [some (.inl 57)]), .inl (0, 8, fd_no), .inr (5, [some (.inl 59)]), .inl (1, 8, fd_no), .inl (4, 4, fun j => some (61 + 3 * j)), .inr (4, [some (.inl 62), some (.inr false), some (.inr false), some (.inr false)]), .inr (3, [some (.inl 63)]), .inl (0, 48, fd_no), .inr (4, [some (.inl 65), some (.inr false), some (.inr false), some (.inr false)]), .inr (3, [some (.inl 66)]), .inl (0, 48, fd_no), .inr (4, [some (.inl 68), some (.inr false), some (.inr false), some (.inr false)]), .inr (3, [some (.inl 69)]), .inl (0, 48, fd_no), .inr (4, [some (.inl 71), some (.inr false), some (.inr false), some (.inr false)]), .inr (3, [some (.inl 72)]), .inl (0, 48, fd_no), .inr (9, [some (.inl 74), some (.inl 75), some (.inr false), some (.inl 76), some (.inl 77), some (.inr false), some (.inl 78), some (.inr false), some (.inl 79), some (.inl 80), some (.inl 81), some (.inl 82), some (.inl 83), some (.inr false), some (.inl 84), some (.inl 85), some (.inl 86), some (.inl 87), some (.inr false), some (.inl 88), some (.inl 89), some (.inr false), some (.inl 90), some (.inl 91), some (.inl 92), some (.inl 93), some (.inl 94), some (.inl 95), some (.inl 96), some (.inl 97), some (.inr false)]), .inl (0, 3, fd_no), .inl (0, 213, fd_no), .inl (0, 9, fd_no), .inl (0, 9, fd_no), .inl (0, 41, fd_no), .inl (0, 10, fd_no), .inl (0, 10, fd_no), .inl (0, 10, fd_no), .inl (0, 10, fd_no), .inl (0, 10, fd_no), .inl (0, 3, fd_no), .inl (0, 24, fd_no), .inl (0, 24, fd_no), .inl (2, 40, fd_no), .inl (0, 8, fd_no), .inl (0, 3, fd_no), .inl (0, 8, fd_no), .inl (0, 8, fd_no), .inl (0, 8, fd_no), .inl (2, 4, fd_no), .inl (0, 4, fd_no), .inl (0, 4, fd_no), .inl (0, 192, fd_no), .inl (0, 48, fd_no)]
def fd_sh (k : Nat) : fd_Sh := fd_shL.getD k (.inl (0, 0, fd_no))
def fd_X0 : fd_X := (98, fd_sh)
def fd_mx (a b : fd_H) : fd_H := (fun k => if k < 73 then a.1 k else b.1 k, fun k => if k < 73 then a.2 k else b.2 k)
theorem fd_mx_xi {a b : fd_H} {k : Nat} (h : k < 73) : (fd_mx a b).1 k = a.1 k := if_pos h
theorem fd_mx_xl {a b : fd_H} {k : Nat} (h : k < 73) : (fd_mx a b).2 k = a.2 k := if_pos h
theorem fd_mx_mi {a b : fd_H} {k : Nat} (h : 73 ≤ k) : (fd_mx a b).1 k = b.1 k := if_neg (Nat.not_lt.mpr h)
theorem fd_mx_ml {a b : fd_H} {k : Nat} (h : 73 ≤ k) : (fd_mx a b).2 k = b.2 k := if_neg (Nat.not_lt.mpr h)
theorem fd_ext {a b : fd_H} (h1 : ∀ k, a.1 k = b.1 k) (h2 : ∀ k, a.2 k = b.2 k) : a = b := Prod.ext (funext h1) (funext h2)
theorem fd_mx_xui {a b : fd_H} {k j : Nat} {v : Int32} (h : k < 73) : fd_ui (fd_mx a b) k j v = fd_mx (fd_ui a k j v) b := by
  refine fd_ext (fun q => ?_) (fun q => rfl)
  by_cases e : q = k
  · subst e; rw [fd_ui_self, fd_mx_xi h, fd_mx_xi h, fd_ui_self]
  · rw [fd_ui_ne q e]
    by_cases l : q < 73
    · rw [fd_mx_xi l, fd_mx_xi l, fd_ui_ne q e]
    · rw [fd_mx_mi (Nat.not_lt.mp l), fd_mx_mi (Nat.not_lt.mp l)]
theorem fd_mx_xul {a b : fd_H} {k j : Nat} {v : Int64} (h : k < 73) : fd_ul (fd_mx a b) k j v = fd_mx (fd_ul a k j v) b := by
  refine fd_ext (fun q => rfl) (fun q => ?_)
  by_cases e : q = k
  · subst e; rw [fd_ul_self, fd_mx_xl h, fd_mx_xl h, fd_ul_self]
  · rw [fd_ul_ne q e]
    by_cases l : q < 73
    · rw [fd_mx_xl l, fd_mx_xl l, fd_ul_ne q e]
    · rw [fd_mx_ml (Nat.not_lt.mp l), fd_mx_ml (Nat.not_lt.mp l)]
theorem fd_mx_mui {a b : fd_H} {k j : Nat} {v : Int32} (h : 73 ≤ k) : fd_ui (fd_mx a b) k j v = fd_mx a (fd_ui b k j v) := by
  refine fd_ext (fun q => ?_) (fun q => rfl)
  by_cases e : q = k
  · subst e; rw [fd_ui_self, fd_mx_mi h, fd_mx_mi h, fd_ui_self]
  · rw [fd_ui_ne q e]
    by_cases l : q < 73
    · rw [fd_mx_xi l, fd_mx_xi l]
    · rw [fd_mx_mi (Nat.not_lt.mp l), fd_mx_mi (Nat.not_lt.mp l), fd_ui_ne q e]
def fd_lt {α β : Type} (e : α) (k : α → β) : β := k e
theorem fd_lt_e {α β : Type} {e : α} {k : α → β} {r : β} (h : fd_lt e k = r) : ∃ x, x = e ∧ k x = r := ⟨e, rfl, h⟩
def fd_isRow (k n : Nat) : Prop := k + 1 < 73 ∧ fd_sh k = .inr (3, [some (.inl (k + 1))]) ∧ fd_sh (k + 1) = .inl (0, n, fd_no)
theorem fd_isRow.x {k n : Nat} (p : fd_isRow k n) : k < 73 := by have := p.1; omega
theorem fd_isRow.b {k n : Nat} (p : fd_isRow k n) : k < fd_X0.1 := by have := p.1; show k < 98; omega
theorem fd_isRow.s {k n : Nat} (p : fd_isRow k n) : fd_X0.2 k = .inr (3, [some (.inl (k + 1))]) := p.2.1
theorem fd_isRow.ax {k n : Nat} (p : fd_isRow k n) : k + 1 < 73 := p.1
theorem fd_isRow.ab {k n : Nat} (p : fd_isRow k n) : k + 1 < fd_X0.1 := by have := p.1; show k + 1 < 98; omega
theorem fd_isRow.as {k n : Nat} (p : fd_isRow k n) : fd_X0.2 (k + 1) = .inl (0, n, fd_no) := p.2.2
def fd_isText (k n : Nat) : Prop := fd_sh k = .inr (6, [some (.inl (k + 1)), some (.inr false), some (.inr false)]) ∧ fd_isRow (k + 1) n
theorem fd_isText.x {k n : Nat} (p : fd_isText k n) : k < 73 := by have := p.2.1; omega
theorem fd_isText.b {k n : Nat} (p : fd_isText k n) : k < fd_X0.1 := by have := p.2.1; show k < 98; omega
theorem fd_isText.s {k n : Nat} (p : fd_isText k n) : fd_X0.2 k = .inr (6, [some (.inl (k + 1)), some (.inr false), some (.inr false)]) := p.1
theorem fd_isText.row {k n : Nat} (p : fd_isText k n) : fd_isRow (k + 1) n := p.2
def fd_isMarks (k : Nat) : Prop := fd_sh k = .inr (1, [some (.inl (k + 1)), some (.inl (k + 3)), some (.inl (k + 5)), some (.inr false)]) ∧ fd_isRow (k + 1) 8 ∧ fd_isRow (k + 3) 8 ∧ fd_isRow (k + 5) 8
theorem fd_isMarks.x {k : Nat} (p : fd_isMarks k) : k < 73 := by have := p.2.1.1; omega
theorem fd_isMarks.b {k : Nat} (p : fd_isMarks k) : k < fd_X0.1 := by have := p.2.1.1; show k < 98; omega
theorem fd_isMarks.s {k : Nat} (p : fd_isMarks k) : fd_X0.2 k = .inr (1, [some (.inl (k + 1)), some (.inl (k + 3)), some (.inl (k + 5)), some (.inr false)]) := p.1
theorem fd_isMarks.r1 {k : Nat} (p : fd_isMarks k) : fd_isRow (k + 1) 8 := p.2.1
theorem fd_isMarks.r2 {k : Nat} (p : fd_isMarks k) : fd_isRow (k + 3) 8 := p.2.2.1
theorem fd_isMarks.r3 {k : Nat} (p : fd_isMarks k) : fd_isRow (k + 5) 8 := p.2.2.2
def fd_isSpans (k : Nat) : Prop := k + 1 < 73 ∧ fd_sh k = .inr (5, [some (.inl (k + 1))]) ∧ fd_sh (k + 1) = .inl (1, 8, fd_no)
theorem fd_isSpans.x {k : Nat} (p : fd_isSpans k) : k < 73 := by have := p.1; omega
theorem fd_isSpans.b {k : Nat} (p : fd_isSpans k) : k < fd_X0.1 := by have := p.1; show k < 98; omega
theorem fd_isSpans.s {k : Nat} (p : fd_isSpans k) : fd_X0.2 k = .inr (5, [some (.inl (k + 1))]) := p.2.1
theorem fd_isSpans.ax {k : Nat} (p : fd_isSpans k) : k + 1 < 73 := p.1
theorem fd_isSpans.ab {k : Nat} (p : fd_isSpans k) : k + 1 < fd_X0.1 := by have := p.1; show k + 1 < 98; omega
theorem fd_isSpans.as {k : Nat} (p : fd_isSpans k) : fd_X0.2 (k + 1) = .inl (1, 8, fd_no) := p.2.2
def fd_isSheet (k : Nat) : Prop := fd_sh k = .inr (4, [some (.inl (k + 1)), some (.inr false), some (.inr false), some (.inr false)]) ∧ fd_isRow (k + 1) 48
theorem fd_isSheet.x {k : Nat} (p : fd_isSheet k) : k < 73 := by have := p.2.1; omega
theorem fd_isSheet.b {k : Nat} (p : fd_isSheet k) : k < fd_X0.1 := by have := p.2.1; show k < 98; omega
theorem fd_isSheet.s {k : Nat} (p : fd_isSheet k) : fd_X0.2 k = .inr (4, [some (.inl (k + 1)), some (.inr false), some (.inr false), some (.inr false)]) := p.1
theorem fd_isSheet.row {k : Nat} (p : fd_isSheet k) : fd_isRow (k + 1) 48 := p.2
def fd_tn (i : Int32) : Nat := if i.toNatClampNeg = 0 then 23 else if i.toNatClampNeg = 1 then 40 else 71
theorem fd_isTextA {i : Int32} (h : fd_in i 3 = true) : fd_isText (2 + 3 * i.toNatClampNeg) (fd_tn i) := by
  have h1 := fd_inl h
  unfold fd_tn
  generalize i.toNatClampNeg = j at h1 ⊢
  match j, h1 with
  | 0, _ => exact ⟨rfl, by decide, rfl, rfl⟩
  | 1, _ => exact ⟨rfl, by decide, rfl, rfl⟩
  | 2, _ => exact ⟨rfl, by decide, rfl, rfl⟩
theorem fd_isSheetA {i : Int32} (h : fd_in i 4 = true) : fd_isSheet (61 + 3 * i.toNatClampNeg) := by
  have h1 := fd_inl h
  generalize i.toNatClampNeg = j at h1 ⊢
  match j, h1 with
  | 0, _ => exact ⟨rfl, by decide, rfl, rfl⟩
  | 1, _ => exact ⟨rfl, by decide, rfl, rfl⟩
  | 2, _ => exact ⟨rfl, by decide, rfl, rfl⟩
  | 3, _ => exact ⟨rfl, by decide, rfl, rfl⟩
section fd_sides
variable {g : fd_G} {M : fd_M} {E : Array Value → State → Prop} {R : Room} {Q : Array Value → State → List Frame → State → Prop} {pc : Nat} {lv lv' : List (Nat × Value)} {st : List Value} {X : fd_X} {h h' hm : fd_H} {cells slots : Nat}
theorem fr_nmz {x y : Bool} (e : y = x) (kk : fd_A g M E R Q pc lv (.int (fd_b y) :: st) X h cells slots) : fd_A g M E R Q pc lv (.int (fd_b x) :: st) X h cells slots := by rw [← e]; exact kk
theorem vx_getI {k ci j idx : Nat} {fs : List fd_F} (hd : decode M.2.1 pc = .ok (.getfield idx, 3)) (hf : fd_FL M.1.cls idx ci j) (hk : k < X.1) (hx : k < 73) (hs : X.2 k = .inr (ci, fs)) (hv : fs[j]? = some (some (.inr false))) (kk : fd_A g M E R Q (pc + 3) lv (.int (h.1 k j) :: st) X (fd_mx h hm) cells slots) : fd_A g M E R Q pc lv (.ref (g.2.2.2 + k) :: st) X (fd_mx h hm) cells slots := fr_getI hd hf hk hs hv (by rw [fd_mx_xi hx]; exact kk)
theorem vx_getL {k ci j idx : Nat} {fs : List fd_F} (hd : decode M.2.1 pc = .ok (.getfield idx, 3)) (hf : fd_FL M.1.cls idx ci j) (hk : k < X.1) (hx : k < 73) (hs : X.2 k = .inr (ci, fs)) (hv : fs[j]? = some (some (.inr true))) (kk : fd_A g M E R Q (pc + 3) lv (.long (h.2 k j) :: st) X (fd_mx h hm) cells slots) : fd_A g M E R Q pc lv (.ref (g.2.2.2 + k) :: st) X (fd_mx h hm) cells slots := fr_getL hd hf hk hs hv (by rw [fd_mx_xl hx]; exact kk)
theorem vx_putI {k ci j idx : Nat} {x : Int32} {fs : List fd_F} (hd : decode M.2.1 pc = .ok (.putfield idx, 3)) (hf : fd_FL M.1.cls idx ci j) (hft : fd_FT ci j .int false) (hk : k < X.1) (hx : k < 73) (hs : X.2 k = .inr (ci, fs)) (hv : fs[j]? = some (some (.inr false))) (e : h' = fd_ui h k j (x)) (kk : fd_A g M E R Q (pc + 3) lv st X (fd_mx h' hm) cells slots) : fd_A g M E R Q pc lv (.int (x) :: .ref (g.2.2.2 + k) :: st) X (fd_mx h hm) cells slots := fr_putI false hd hf hft (fun q => by cases q) hk hs hv (by rw [fd_mx_xui hx, ← e]; exact kk)
theorem vx_putZ {k ci j idx : Nat} {x : Bool} {fs : List fd_F} (hd : decode M.2.1 pc = .ok (.putfield idx, 3)) (hf : fd_FL M.1.cls idx ci j) (hft : fd_FT ci j .boolean false) (hk : k < X.1) (hx : k < 73) (hs : X.2 k = .inr (ci, fs)) (hv : fs[j]? = some (some (.inr false))) (e : h' = fd_ui h k j (fd_b x)) (kk : fd_A g M E R Q (pc + 3) lv st X (fd_mx h' hm) cells slots) : fd_A g M E R Q pc lv (.int (fd_b x) :: .ref (g.2.2.2 + k) :: st) X (fd_mx h hm) cells slots := fr_putZ false hd hf hft (fun q => by cases q) hk hs hv (by rw [fd_mx_xui hx, ← e]; exact kk)
theorem vx_putL {k ci j idx : Nat} {x : Int64} {fs : List fd_F} (hd : decode M.2.1 pc = .ok (.putfield idx, 3)) (hf : fd_FL M.1.cls idx ci j) (hft : fd_FT ci j .long false) (hk : k < X.1) (hx : k < 73) (hs : X.2 k = .inr (ci, fs)) (hv : fs[j]? = some (some (.inr true))) (e : h' = fd_ul h k j (x)) (kk : fd_A g M E R Q (pc + 3) lv st X (fd_mx h' hm) cells slots) : fd_A g M E R Q pc lv (.long (x) :: .ref (g.2.2.2 + k) :: st) X (fd_mx h hm) cells slots := fr_putL false hd hf hft (fun q => by cases q) hk hs hv (by rw [fd_mx_xul hx, ← e]; exact kk)
theorem vx_iald {k n : Nat} {i : Int32} {rf : Nat → Option Nat} (hd : decode M.2.1 pc = .ok (.iaload, 1)) (hk : k < X.1) (hx : k < 73) (hs : X.2 k = .inl (0, n, rf)) (hin : fd_in i n = true) (kk : fd_A g M E R Q (pc + 1) lv (.int (h.1 k i.toNatClampNeg) :: st) X (fd_mx h hm) cells slots) : fd_A g M E R Q pc lv (.int i :: .ref (g.2.2.2 + k) :: st) X (fd_mx h hm) cells slots := fr_iald hd hk hs hin (by rw [fd_mx_xi hx]; exact kk)
theorem vx_lald {k n : Nat} {i : Int32} {rf : Nat → Option Nat} (hd : decode M.2.1 pc = .ok (.laload, 1)) (hk : k < X.1) (hx : k < 73) (hs : X.2 k = .inl (1, n, rf)) (hin : fd_in i n = true) (kk : fd_A g M E R Q (pc + 1) lv (.long (h.2 k i.toNatClampNeg) :: st) X (fd_mx h hm) cells slots) : fd_A g M E R Q pc lv (.int i :: .ref (g.2.2.2 + k) :: st) X (fd_mx h hm) cells slots := fr_lald hd hk hs hin (by rw [fd_mx_xl hx]; exact kk)
theorem vx_zald {k n : Nat} {i : Int32} {rf : Nat → Option Nat} (hd : decode M.2.1 pc = .ok (.baload, 1)) (hk : k < X.1) (hx : k < 73) (hs : X.2 k = .inl (2, n, rf)) (hin : fd_in i n = true) (kk : fd_A g M E R Q (pc + 1) lv (.int (h.1 k i.toNatClampNeg) :: st) X (fd_mx h hm) cells slots) : fd_A g M E R Q pc lv (.int i :: .ref (g.2.2.2 + k) :: st) X (fd_mx h hm) cells slots := fr_zald hd hk hs hin (by rw [fd_mx_xi hx]; exact kk)
theorem vx_iast {k n : Nat} {i : Int32} {x : Int32} {rf : Nat → Option Nat} (hd : decode M.2.1 pc = .ok (.iastore, 1)) (hk : k < X.1) (hx : k < 73) (hs : X.2 k = .inl (0, n, rf)) (hin : fd_in i n = true) (e : h' = fd_ui h k i.toNatClampNeg (x)) (kk : fd_A g M E R Q (pc + 1) lv st X (fd_mx h' hm) cells slots) : fd_A g M E R Q pc lv (.int (x) :: .int i :: .ref (g.2.2.2 + k) :: st) X (fd_mx h hm) cells slots := fr_iast hd hk hs hin (by rw [fd_mx_xui hx, ← e]; exact kk)
theorem vx_last {k n : Nat} {i : Int32} {x : Int64} {rf : Nat → Option Nat} (hd : decode M.2.1 pc = .ok (.lastore, 1)) (hk : k < X.1) (hx : k < 73) (hs : X.2 k = .inl (1, n, rf)) (hin : fd_in i n = true) (e : h' = fd_ul h k i.toNatClampNeg (x)) (kk : fd_A g M E R Q (pc + 1) lv st X (fd_mx h' hm) cells slots) : fd_A g M E R Q pc lv (.long (x) :: .int i :: .ref (g.2.2.2 + k) :: st) X (fd_mx h hm) cells slots := fr_last hd hk hs hin (by rw [fd_mx_xul hx, ← e]; exact kk)
theorem vx_zast {k n : Nat} {i : Int32} {x : Bool} {rf : Nat → Option Nat} (hd : decode M.2.1 pc = .ok (.bastore, 1)) (hk : k < X.1) (hx : k < 73) (hs : X.2 k = .inl (2, n, rf)) (hin : fd_in i n = true) (e : h' = fd_ui h k i.toNatClampNeg (fd_b x)) (kk : fd_A g M E R Q (pc + 1) lv st X (fd_mx h' hm) cells slots) : fd_A g M E R Q pc lv (.int (fd_b x) :: .int i :: .ref (g.2.2.2 + k) :: st) X (fd_mx h hm) cells slots := fr_zast hd hk hs hin (by rw [fd_mx_xui hx, ← e]; exact kk)
theorem vx_iretW {x : Int32} {r : Int32 × fd_H} (hd : decode M.2.1 pc = .ok (.ireturn, 1)) (hr : M.2.2.2 = some .int) (hf : some (x, h) = some r) : fd_A g M E R (fd_Q g (some (.int r.1)) X (fd_mx r.2 hm) cells slots) pc lv [.int x] X (fd_mx h hm) cells slots := by
  cases hf
  exact fr_iret (X' := X) (h' := h) hd hr
theorem vx_zretW {x : Bool} {r : Bool × fd_H} (hd : decode M.2.1 pc = .ok (.ireturn, 1)) (hr : M.2.2.2 = some .boolean) (hf : some (x, h) = some r) : fd_A g M E R (fd_Q g (some (.int (fd_b r.1))) X (fd_mx r.2 hm) cells slots) pc lv [.int (fd_b x)] X (fd_mx h hm) cells slots := by
  cases hf
  exact fr_zret (X' := X) (h' := h) hd hr
theorem vx_lretW {x : Int64} {r : Int64 × fd_H} (hd : decode M.2.1 pc = .ok (.lreturn, 1)) (hr : M.2.2.2 = some .long) (hf : some (x, h) = some r) : fd_A g M E R (fd_Q g (some (.long r.1)) X (fd_mx r.2 hm) cells slots) pc lv [.long x] X (fd_mx h hm) cells slots := by
  cases hf
  exact fr_lret (X' := X) (h' := h) hd hr
theorem vx_vretW {r : fd_H} (hd : decode M.2.1 pc = .ok (.return_, 1)) (hr : M.2.2.2 = none) (hf : some h = some r) : fd_A g M E R (fd_Q g none X (fd_mx r hm) cells slots) pc lv [] X (fd_mx h hm) cells slots := by
  cases hf
  exact fr_vret (X' := X) (h' := h) hd hr
theorem vm_getI {k ci j idx : Nat} {fs : List fd_F} (hd : decode M.2.1 pc = .ok (.getfield idx, 3)) (hf : fd_FL M.1.cls idx ci j) (hk : k < X.1) (hx : 73 ≤ k) (hs : X.2 k = .inr (ci, fs)) (hv : fs[j]? = some (some (.inr false))) (kk : fd_A g M E R Q (pc + 3) lv (.int (h.1 k j) :: st) X (fd_mx hm h) cells slots) : fd_A g M E R Q pc lv (.ref (g.2.2.2 + k) :: st) X (fd_mx hm h) cells slots := fr_getI hd hf hk hs hv (by rw [fd_mx_mi hx]; exact kk)
theorem vm_putI {k ci j idx : Nat} {x : Int32} {fs : List fd_F} (hd : decode M.2.1 pc = .ok (.putfield idx, 3)) (hf : fd_FL M.1.cls idx ci j) (hft : fd_FT ci j .int false) (hk : k < X.1) (hx : 73 ≤ k) (hs : X.2 k = .inr (ci, fs)) (hv : fs[j]? = some (some (.inr false))) (e : h' = fd_ui h k j (x)) (kk : fd_A g M E R Q (pc + 3) lv st X (fd_mx hm h') cells slots) : fd_A g M E R Q pc lv (.int (x) :: .ref (g.2.2.2 + k) :: st) X (fd_mx hm h) cells slots := fr_putI false hd hf hft (fun q => by cases q) hk hs hv (by rw [fd_mx_mui hx, ← e]; exact kk)
theorem vm_putZ {k ci j idx : Nat} {x : Bool} {fs : List fd_F} (hd : decode M.2.1 pc = .ok (.putfield idx, 3)) (hf : fd_FL M.1.cls idx ci j) (hft : fd_FT ci j .boolean false) (hk : k < X.1) (hx : 73 ≤ k) (hs : X.2 k = .inr (ci, fs)) (hv : fs[j]? = some (some (.inr false))) (e : h' = fd_ui h k j (fd_b x)) (kk : fd_A g M E R Q (pc + 3) lv st X (fd_mx hm h') cells slots) : fd_A g M E R Q pc lv (.int (fd_b x) :: .ref (g.2.2.2 + k) :: st) X (fd_mx hm h) cells slots := fr_putZ false hd hf hft (fun q => by cases q) hk hs hv (by rw [fd_mx_mui hx, ← e]; exact kk)
theorem vm_iald {k n : Nat} {i : Int32} {rf : Nat → Option Nat} (hd : decode M.2.1 pc = .ok (.iaload, 1)) (hk : k < X.1) (hx : 73 ≤ k) (hs : X.2 k = .inl (0, n, rf)) (hin : fd_in i n = true) (kk : fd_A g M E R Q (pc + 1) lv (.int (h.1 k i.toNatClampNeg) :: st) X (fd_mx hm h) cells slots) : fd_A g M E R Q pc lv (.int i :: .ref (g.2.2.2 + k) :: st) X (fd_mx hm h) cells slots := fr_iald hd hk hs hin (by rw [fd_mx_mi hx]; exact kk)
theorem vm_lald {k n : Nat} {i : Int32} {rf : Nat → Option Nat} (hd : decode M.2.1 pc = .ok (.laload, 1)) (hk : k < X.1) (hx : 73 ≤ k) (hs : X.2 k = .inl (1, n, rf)) (hin : fd_in i n = true) (kk : fd_A g M E R Q (pc + 1) lv (.long (h.2 k i.toNatClampNeg) :: st) X (fd_mx hm h) cells slots) : fd_A g M E R Q pc lv (.int i :: .ref (g.2.2.2 + k) :: st) X (fd_mx hm h) cells slots := fr_lald hd hk hs hin (by rw [fd_mx_ml hx]; exact kk)
theorem vm_zald {k n : Nat} {i : Int32} {rf : Nat → Option Nat} (hd : decode M.2.1 pc = .ok (.baload, 1)) (hk : k < X.1) (hx : 73 ≤ k) (hs : X.2 k = .inl (2, n, rf)) (hin : fd_in i n = true) (kk : fd_A g M E R Q (pc + 1) lv (.int (h.1 k i.toNatClampNeg) :: st) X (fd_mx hm h) cells slots) : fd_A g M E R Q pc lv (.int i :: .ref (g.2.2.2 + k) :: st) X (fd_mx hm h) cells slots := fr_zald hd hk hs hin (by rw [fd_mx_mi hx]; exact kk)
theorem vm_iast {k n : Nat} {i : Int32} {x : Int32} {rf : Nat → Option Nat} (hd : decode M.2.1 pc = .ok (.iastore, 1)) (hk : k < X.1) (hx : 73 ≤ k) (hs : X.2 k = .inl (0, n, rf)) (hin : fd_in i n = true) (e : h' = fd_ui h k i.toNatClampNeg (x)) (kk : fd_A g M E R Q (pc + 1) lv st X (fd_mx hm h') cells slots) : fd_A g M E R Q pc lv (.int (x) :: .int i :: .ref (g.2.2.2 + k) :: st) X (fd_mx hm h) cells slots := fr_iast hd hk hs hin (by rw [fd_mx_mui hx, ← e]; exact kk)
theorem vm_zast {k n : Nat} {i : Int32} {x : Bool} {rf : Nat → Option Nat} (hd : decode M.2.1 pc = .ok (.bastore, 1)) (hk : k < X.1) (hx : 73 ≤ k) (hs : X.2 k = .inl (2, n, rf)) (hin : fd_in i n = true) (e : h' = fd_ui h k i.toNatClampNeg (fd_b x)) (kk : fd_A g M E R Q (pc + 1) lv st X (fd_mx hm h') cells slots) : fd_A g M E R Q pc lv (.int (fd_b x) :: .int i :: .ref (g.2.2.2 + k) :: st) X (fd_mx hm h) cells slots := fr_zast hd hk hs hin (by rw [fd_mx_mui hx, ← e]; exact kk)
theorem vm_iretW {x : Int32} {r : Int32 × fd_H} (hd : decode M.2.1 pc = .ok (.ireturn, 1)) (hr : M.2.2.2 = some .int) (hf : some (x, h) = some r) : fd_A g M E R (fd_Q g (some (.int r.1)) X (fd_mx hm r.2) cells slots) pc lv [.int x] X (fd_mx hm h) cells slots := by
  cases hf
  exact fr_iret (X' := X) (h' := h) hd hr
theorem vm_zretW {x : Bool} {r : Bool × fd_H} (hd : decode M.2.1 pc = .ok (.ireturn, 1)) (hr : M.2.2.2 = some .boolean) (hf : some (x, h) = some r) : fd_A g M E R (fd_Q g (some (.int (fd_b r.1))) X (fd_mx hm r.2) cells slots) pc lv [.int (fd_b x)] X (fd_mx hm h) cells slots := by
  cases hf
  exact fr_zret (X' := X) (h' := h) hd hr
theorem vm_lretW {x : Int64} {r : Int64 × fd_H} (hd : decode M.2.1 pc = .ok (.lreturn, 1)) (hr : M.2.2.2 = some .long) (hf : some (x, h) = some r) : fd_A g M E R (fd_Q g (some (.long r.1)) X (fd_mx hm r.2) cells slots) pc lv [.long x] X (fd_mx hm h) cells slots := by
  cases hf
  exact fr_lret (X' := X) (h' := h) hd hr
theorem vm_vretW {r : fd_H} (hd : decode M.2.1 pc = .ok (.return_, 1)) (hr : M.2.2.2 = none) (hf : some h = some r) : fd_A g M E R (fd_Q g none X (fd_mx hm r) cells slots) pc lv [] X (fd_mx hm h) cells slots := by
  cases hf
  exact fr_vret (X' := X) (h' := h) hd hr
theorem fr_iretP {x r : Int32} (hd : decode M.2.1 pc = .ok (.ireturn, 1)) (hr : M.2.2.2 = some .int) (hf : some x = some r) : fd_A g M E R (fd_Q g (some (.int r)) X h cells slots) pc lv [.int x] X h cells slots := by
  cases hf
  exact fr_iret (X' := X) (h' := h) hd hr
theorem fr_zretP {x r : Bool} (hd : decode M.2.1 pc = .ok (.ireturn, 1)) (hr : M.2.2.2 = some .boolean) (hf : some x = some r) : fd_A g M E R (fd_Q g (some (.int (fd_b r))) X h cells slots) pc lv [.int (fd_b x)] X h cells slots := by
  cases hf
  exact fr_zret (X' := X) (h' := h) hd hr
theorem fr_lretP {x r : Int64} (hd : decode M.2.1 pc = .ok (.lreturn, 1)) (hr : M.2.2.2 = some .long) (hf : some x = some r) : fd_A g M E R (fd_Q g (some (.long r)) X h cells slots) pc lv [.long x] X h cells slots := by
  cases hf
  exact fr_lret (X' := X) (h' := h) hd hr
theorem fr_callSi {Mc : fd_M} {d n idx : Nat} {av rest : List Value} {x : Int32} (hd : decode M.2.1 pc = .ok (.invokestatic idx, 3)) (hy : fd_YS Mc n) (hw : Cond.methodLink M.1.cls idx Mc.1 ∈ fd_gt) (hn : av.length = n) (hst : st = av.reverse ++ rest) (hc8 : (rest.map fun v => v.category).sum ≤ 8) (hR : d + 1 ≤ R.frames ∧ 19 + Mc.2.2.1 + 40 * d ≤ R.locals ∧ cells ≤ R.cells ∧ slots ≤ R.slots) (hS0 : fd_S g Mc d av X h (some (.int x)) X h' 0 0) (kk : fd_A g M E R Q (pc + 3) lv (.int x :: rest) X h' cells slots) : fd_A g M E R Q pc lv st X h cells slots := fr_callS hd hy hw hn hst hc8 hR hS0 kk
theorem fr_callSNi {Mc : fd_M} {d n idx : Nat} {av rest : List Value} {x : Int32} (hd : decode M.2.1 pc = .ok (.invokestatic idx, 3)) (hy : fd_YS Mc n) (hw : (M.1.cls, idx, Mc.1, "FrostDebts") ∈ fd_nest) (hn : av.length = n) (hst : st = av.reverse ++ rest) (hc8 : (rest.map fun v => v.category).sum ≤ 8) (hR : d + 1 ≤ R.frames ∧ 19 + Mc.2.2.1 + 40 * d ≤ R.locals ∧ cells ≤ R.cells ∧ slots ≤ R.slots) (hS0 : fd_S g Mc d av X h (some (.int x)) X h' 0 0) (kk : fd_A g M E R Q (pc + 3) lv (.int x :: rest) X h' cells slots) : fd_A g M E R Q pc lv st X h cells slots := fr_callSN hd hy hw hn hst hc8 hR hS0 kk
theorem fr_callVi {Mc : fd_M} {d n idx k ci : Nat} {fs : List fd_F} {av rest : List Value} {x : Int32} (hd : decode M.2.1 pc = .ok (.invokevirtual idx, 3)) (hy : fd_YV Mc n) (hw : Cond.methodLink M.1.cls idx Mc.1 ∈ fd_gt) (hk : k < X.1) (hs : X.2 k = .inr (ci, fs)) (hcl : (vwCl[ci]?).map (fun q => q.1) = some Mc.1.cls) (hn : av.length = n) (hst : st = av.reverse ++ .ref (g.2.2.2 + k) :: rest) (hc8 : (rest.map fun v => v.category).sum ≤ 8) (hR : d + 1 ≤ R.frames ∧ 19 + Mc.2.2.1 + 40 * d ≤ R.locals ∧ cells ≤ R.cells ∧ slots ≤ R.slots) (hS0 : fd_S g Mc d (.ref (g.2.2.2 + k) :: av) X h (some (.int x)) X h' 0 0) (kk : fd_A g M E R Q (pc + 3) lv (.int x :: rest) X h' cells slots) : fd_A g M E R Q pc lv st X h cells slots := fr_callV hd hy hw hk hs hcl hn hst hc8 hR hS0 kk
theorem fr_callSz {Mc : fd_M} {d n idx : Nat} {av rest : List Value} {x : Bool} (hd : decode M.2.1 pc = .ok (.invokestatic idx, 3)) (hy : fd_YS Mc n) (hw : Cond.methodLink M.1.cls idx Mc.1 ∈ fd_gt) (hn : av.length = n) (hst : st = av.reverse ++ rest) (hc8 : (rest.map fun v => v.category).sum ≤ 8) (hR : d + 1 ≤ R.frames ∧ 19 + Mc.2.2.1 + 40 * d ≤ R.locals ∧ cells ≤ R.cells ∧ slots ≤ R.slots) (hS0 : fd_S g Mc d av X h (some (.int (fd_b x))) X h' 0 0) (kk : fd_A g M E R Q (pc + 3) lv (.int (fd_b x) :: rest) X h' cells slots) : fd_A g M E R Q pc lv st X h cells slots := fr_callS hd hy hw hn hst hc8 hR hS0 kk
theorem fr_callSNz {Mc : fd_M} {d n idx : Nat} {av rest : List Value} {x : Bool} (hd : decode M.2.1 pc = .ok (.invokestatic idx, 3)) (hy : fd_YS Mc n) (hw : (M.1.cls, idx, Mc.1, "FrostDebts") ∈ fd_nest) (hn : av.length = n) (hst : st = av.reverse ++ rest) (hc8 : (rest.map fun v => v.category).sum ≤ 8) (hR : d + 1 ≤ R.frames ∧ 19 + Mc.2.2.1 + 40 * d ≤ R.locals ∧ cells ≤ R.cells ∧ slots ≤ R.slots) (hS0 : fd_S g Mc d av X h (some (.int (fd_b x))) X h' 0 0) (kk : fd_A g M E R Q (pc + 3) lv (.int (fd_b x) :: rest) X h' cells slots) : fd_A g M E R Q pc lv st X h cells slots := fr_callSN hd hy hw hn hst hc8 hR hS0 kk
theorem fr_callVz {Mc : fd_M} {d n idx k ci : Nat} {fs : List fd_F} {av rest : List Value} {x : Bool} (hd : decode M.2.1 pc = .ok (.invokevirtual idx, 3)) (hy : fd_YV Mc n) (hw : Cond.methodLink M.1.cls idx Mc.1 ∈ fd_gt) (hk : k < X.1) (hs : X.2 k = .inr (ci, fs)) (hcl : (vwCl[ci]?).map (fun q => q.1) = some Mc.1.cls) (hn : av.length = n) (hst : st = av.reverse ++ .ref (g.2.2.2 + k) :: rest) (hc8 : (rest.map fun v => v.category).sum ≤ 8) (hR : d + 1 ≤ R.frames ∧ 19 + Mc.2.2.1 + 40 * d ≤ R.locals ∧ cells ≤ R.cells ∧ slots ≤ R.slots) (hS0 : fd_S g Mc d (.ref (g.2.2.2 + k) :: av) X h (some (.int (fd_b x))) X h' 0 0) (kk : fd_A g M E R Q (pc + 3) lv (.int (fd_b x) :: rest) X h' cells slots) : fd_A g M E R Q pc lv st X h cells slots := fr_callV hd hy hw hk hs hcl hn hst hc8 hR hS0 kk
theorem fr_callSl {Mc : fd_M} {d n idx : Nat} {av rest : List Value} {x : Int64} (hd : decode M.2.1 pc = .ok (.invokestatic idx, 3)) (hy : fd_YS Mc n) (hw : Cond.methodLink M.1.cls idx Mc.1 ∈ fd_gt) (hn : av.length = n) (hst : st = av.reverse ++ rest) (hc8 : (rest.map fun v => v.category).sum ≤ 8) (hR : d + 1 ≤ R.frames ∧ 19 + Mc.2.2.1 + 40 * d ≤ R.locals ∧ cells ≤ R.cells ∧ slots ≤ R.slots) (hS0 : fd_S g Mc d av X h (some (.long x)) X h' 0 0) (kk : fd_A g M E R Q (pc + 3) lv (.long x :: rest) X h' cells slots) : fd_A g M E R Q pc lv st X h cells slots := fr_callS hd hy hw hn hst hc8 hR hS0 kk
theorem fr_callSNl {Mc : fd_M} {d n idx : Nat} {av rest : List Value} {x : Int64} (hd : decode M.2.1 pc = .ok (.invokestatic idx, 3)) (hy : fd_YS Mc n) (hw : (M.1.cls, idx, Mc.1, "FrostDebts") ∈ fd_nest) (hn : av.length = n) (hst : st = av.reverse ++ rest) (hc8 : (rest.map fun v => v.category).sum ≤ 8) (hR : d + 1 ≤ R.frames ∧ 19 + Mc.2.2.1 + 40 * d ≤ R.locals ∧ cells ≤ R.cells ∧ slots ≤ R.slots) (hS0 : fd_S g Mc d av X h (some (.long x)) X h' 0 0) (kk : fd_A g M E R Q (pc + 3) lv (.long x :: rest) X h' cells slots) : fd_A g M E R Q pc lv st X h cells slots := fr_callSN hd hy hw hn hst hc8 hR hS0 kk
theorem fr_callVl {Mc : fd_M} {d n idx k ci : Nat} {fs : List fd_F} {av rest : List Value} {x : Int64} (hd : decode M.2.1 pc = .ok (.invokevirtual idx, 3)) (hy : fd_YV Mc n) (hw : Cond.methodLink M.1.cls idx Mc.1 ∈ fd_gt) (hk : k < X.1) (hs : X.2 k = .inr (ci, fs)) (hcl : (vwCl[ci]?).map (fun q => q.1) = some Mc.1.cls) (hn : av.length = n) (hst : st = av.reverse ++ .ref (g.2.2.2 + k) :: rest) (hc8 : (rest.map fun v => v.category).sum ≤ 8) (hR : d + 1 ≤ R.frames ∧ 19 + Mc.2.2.1 + 40 * d ≤ R.locals ∧ cells ≤ R.cells ∧ slots ≤ R.slots) (hS0 : fd_S g Mc d (.ref (g.2.2.2 + k) :: av) X h (some (.long x)) X h' 0 0) (kk : fd_A g M E R Q (pc + 3) lv (.long x :: rest) X h' cells slots) : fd_A g M E R Q pc lv st X h cells slots := fr_callV hd hy hw hk hs hcl hn hst hc8 hR hS0 kk
theorem fr_callSv {Mc : fd_M} {d n idx : Nat} {av rest : List Value} (hd : decode M.2.1 pc = .ok (.invokestatic idx, 3)) (hy : fd_YS Mc n) (hw : Cond.methodLink M.1.cls idx Mc.1 ∈ fd_gt) (hn : av.length = n) (hst : st = av.reverse ++ rest) (hc8 : (rest.map fun v => v.category).sum ≤ 8) (hR : d + 1 ≤ R.frames ∧ 19 + Mc.2.2.1 + 40 * d ≤ R.locals ∧ cells ≤ R.cells ∧ slots ≤ R.slots) (hS0 : fd_S g Mc d av X h none X h' 0 0) (kk : fd_A g M E R Q (pc + 3) lv (rest) X h' cells slots) : fd_A g M E R Q pc lv st X h cells slots := fr_callS hd hy hw hn hst hc8 hR hS0 kk
theorem fr_callSNv {Mc : fd_M} {d n idx : Nat} {av rest : List Value} (hd : decode M.2.1 pc = .ok (.invokestatic idx, 3)) (hy : fd_YS Mc n) (hw : (M.1.cls, idx, Mc.1, "FrostDebts") ∈ fd_nest) (hn : av.length = n) (hst : st = av.reverse ++ rest) (hc8 : (rest.map fun v => v.category).sum ≤ 8) (hR : d + 1 ≤ R.frames ∧ 19 + Mc.2.2.1 + 40 * d ≤ R.locals ∧ cells ≤ R.cells ∧ slots ≤ R.slots) (hS0 : fd_S g Mc d av X h none X h' 0 0) (kk : fd_A g M E R Q (pc + 3) lv (rest) X h' cells slots) : fd_A g M E R Q pc lv st X h cells slots := fr_callSN hd hy hw hn hst hc8 hR hS0 kk
theorem fr_callVv {Mc : fd_M} {d n idx k ci : Nat} {fs : List fd_F} {av rest : List Value} (hd : decode M.2.1 pc = .ok (.invokevirtual idx, 3)) (hy : fd_YV Mc n) (hw : Cond.methodLink M.1.cls idx Mc.1 ∈ fd_gt) (hk : k < X.1) (hs : X.2 k = .inr (ci, fs)) (hcl : (vwCl[ci]?).map (fun q => q.1) = some Mc.1.cls) (hn : av.length = n) (hst : st = av.reverse ++ .ref (g.2.2.2 + k) :: rest) (hc8 : (rest.map fun v => v.category).sum ≤ 8) (hR : d + 1 ≤ R.frames ∧ 19 + Mc.2.2.1 + 40 * d ≤ R.locals ∧ cells ≤ R.cells ∧ slots ≤ R.slots) (hS0 : fd_S g Mc d (.ref (g.2.2.2 + k) :: av) X h none X h' 0 0) (kk : fd_A g M E R Q (pc + 3) lv (rest) X h' cells slots) : fd_A g M E R Q pc lv st X h cells slots := fr_callV hd hy hw hk hs hcl hn hst hc8 hR hS0 kk
end fd_sides

theorem is_2 : fd_isText 2 23 := ⟨rfl, by decide, rfl, rfl⟩
theorem is_3 : fd_isRow 3 23 := ⟨by decide, rfl, rfl⟩
theorem is_5 : fd_isText 5 40 := ⟨rfl, by decide, rfl, rfl⟩
theorem is_6 : fd_isRow 6 40 := ⟨by decide, rfl, rfl⟩
theorem is_8 : fd_isText 8 71 := ⟨rfl, by decide, rfl, rfl⟩
theorem is_9 : fd_isRow 9 71 := ⟨by decide, rfl, rfl⟩
theorem is_13 : fd_isRow 13 8 := ⟨by decide, rfl, rfl⟩
theorem is_15 : fd_isRow 15 8 := ⟨by decide, rfl, rfl⟩
theorem is_17 : fd_isRow 17 8 := ⟨by decide, rfl, rfl⟩
theorem is_19 : fd_isMarks 19 := ⟨rfl, ⟨by decide, rfl, rfl⟩, ⟨by decide, rfl, rfl⟩, by decide, rfl, rfl⟩
theorem is_20 : fd_isRow 20 8 := ⟨by decide, rfl, rfl⟩
theorem is_22 : fd_isRow 22 8 := ⟨by decide, rfl, rfl⟩
theorem is_24 : fd_isRow 24 8 := ⟨by decide, rfl, rfl⟩
theorem is_26 : fd_isMarks 26 := ⟨rfl, ⟨by decide, rfl, rfl⟩, ⟨by decide, rfl, rfl⟩, by decide, rfl, rfl⟩
theorem is_27 : fd_isRow 27 8 := ⟨by decide, rfl, rfl⟩
theorem is_29 : fd_isRow 29 8 := ⟨by decide, rfl, rfl⟩
theorem is_31 : fd_isRow 31 8 := ⟨by decide, rfl, rfl⟩
theorem is_33 : fd_isMarks 33 := ⟨rfl, ⟨by decide, rfl, rfl⟩, ⟨by decide, rfl, rfl⟩, by decide, rfl, rfl⟩
theorem is_34 : fd_isRow 34 8 := ⟨by decide, rfl, rfl⟩
theorem is_36 : fd_isRow 36 8 := ⟨by decide, rfl, rfl⟩
theorem is_38 : fd_isRow 38 8 := ⟨by decide, rfl, rfl⟩
theorem is_40 : fd_isRow 40 40 := ⟨by decide, rfl, rfl⟩
theorem is_42 : fd_isSpans 42 := ⟨by decide, rfl, rfl⟩
theorem is_44 : fd_isSpans 44 := ⟨by decide, rfl, rfl⟩
theorem is_46 : fd_isSpans 46 := ⟨by decide, rfl, rfl⟩
theorem is_49 : fd_isRow 49 45 := ⟨by decide, rfl, rfl⟩
theorem is_51 : fd_isMarks 51 := ⟨rfl, ⟨by decide, rfl, rfl⟩, ⟨by decide, rfl, rfl⟩, by decide, rfl, rfl⟩
theorem is_52 : fd_isRow 52 8 := ⟨by decide, rfl, rfl⟩
theorem is_54 : fd_isRow 54 8 := ⟨by decide, rfl, rfl⟩
theorem is_56 : fd_isRow 56 8 := ⟨by decide, rfl, rfl⟩
theorem is_58 : fd_isSpans 58 := ⟨by decide, rfl, rfl⟩
theorem is_61 : fd_isSheet 61 := ⟨rfl, by decide, rfl, rfl⟩
theorem is_62 : fd_isRow 62 48 := ⟨by decide, rfl, rfl⟩
theorem is_64 : fd_isSheet 64 := ⟨rfl, by decide, rfl, rfl⟩
theorem is_65 : fd_isRow 65 48 := ⟨by decide, rfl, rfl⟩
theorem is_67 : fd_isSheet 67 := ⟨rfl, by decide, rfl, rfl⟩
theorem is_68 : fd_isRow 68 48 := ⟨by decide, rfl, rfl⟩
theorem is_70 : fd_isSheet 70 := ⟨rfl, by decide, rfl, rfl⟩
theorem is_71 : fd_isRow 71 48 := ⟨by decide, rfl, rfl⟩
abbrev mX0_init : fd_M := (yX0_init, cX0_init, 1, none)
abbrev mX0_parse : fd_M := (yX0_parse, cX0_parse, 5, none)
abbrev mX0_twoFigures : fd_M := (yX0_twoFigures, cX0_twoFigures, 2, (some .int))
abbrev mX0_note : fd_M := (yX0_note, cX0_note, 4, none)
abbrev mX0_fact : fd_M := (yX0_fact, cX0_fact, 3, (some .int))
abbrev mX1_init : fd_M := (yX1_init, cX1_init, 1, none)
abbrev mX1_add : fd_M := (yX1_add, cX1_add, 4, (some .boolean))
abbrev mX1_nightsAt : fd_M := (yX1_nightsAt, cX1_nightsAt, 6, (some .long))
abbrev mX2_init : fd_M := (yX2_init, cX2_init, 1, none)
abbrev mX2_parse : fd_M := (yX2_parse, cX2_parse, 4, none)
abbrev mX2_liftOf : fd_M := (yX2_liftOf, cX2_liftOf, 1, (some .int))
abbrev mX2_has : fd_M := (yX2_has, cX2_has, 2, (some .boolean))
abbrev mX3_init : fd_M := (yX3_init, cX3_init, 2, none)
abbrev mX3_at : fd_M := (yX3_at, cX3_at, 2, (some .int))
abbrev mX3_set : fd_M := (yX3_set, cX3_set, 3, none)
abbrev mX4_init : fd_M := (yX4_init, cX4_init, 1, none)
abbrev mX4_renew : fd_M := (yX4_renew, cX4_renew, 4, none)
abbrev mX4_store : fd_M := (yX4_store, cX4_store, 3, none)
abbrev mX4_findingAt : fd_M := (yX4_findingAt, cX4_findingAt, 3, (some .int))
abbrev mX4_hasRange : fd_M := (yX4_hasRange, cX4_hasRange, 3, (some .boolean))
abbrev mX4_take : fd_M := (yX4_take, cX4_take, 7, none)
abbrev mX5_init : fd_M := (yX5_init, cX5_init, 1, none)
abbrev mX5_at : fd_M := (yX5_at, cX5_at, 2, (some .long))
abbrev mX5_set : fd_M := (yX5_set, cX5_set, 4, none)
abbrev mX5_isBy : fd_M := (yX5_isBy, cX5_isBy, 3, (some .boolean))
abbrev mX5_firstOf : fd_M := (yX5_firstOf, cX5_firstOf, 2, (some .int))
abbrev mX6_init : fd_M := (yX6_init, cX6_init, 2, none)
abbrev mX6_add : fd_M := (yX6_add, cX6_add, 2, (some .boolean))
abbrev mX7_init : fd_M := (yX7_init, cX7_init, 1, none)
abbrev mX7_parse : fd_M := (yX7_parse, cX7_parse, 4, none)
abbrev mX7_settle : fd_M := (yX7_settle, cX7_settle, 2, none)
abbrev mX7_isCold : fd_M := (yX7_isCold, cX7_isCold, 5, (some .boolean))
abbrev mX7_frostNights : fd_M := (yX7_frostNights, cX7_frostNights, 9, (some .long))
abbrev mX7_frostsWithout : fd_M := (yX7_frostsWithout, cX7_frostsWithout, 3, (some .long))
abbrev mX7_frostsIfWarm : fd_M := (yX7_frostsIfWarm, cX7_frostsIfWarm, 8, (some .long))
abbrev mX8_init : fd_M := (yX8_init, cX8_init, 1, none)
abbrev mX8_type : fd_M := (yX8_type, cX8_type, 3, (some .int))
abbrev mX8_wipe : fd_M := (yX8_wipe, cX8_wipe, 3, (some .int))
abbrev mX8_undo : fd_M := (yX8_undo, cX8_undo, 2, (some .int))
abbrev mX8_fault : fd_M := (yX8_fault, cX8_fault, 2, (some .int))
abbrev mX8_place : fd_M := (yX8_place, cX8_place, 3, (some .int))
abbrev mX8_warm : fd_M := (yX8_warm, cX8_warm, 2, (some .int))
abbrev mX8_debt : fd_M := (yX8_debt, cX8_debt, 3, (some .int))
abbrev mX8_zero : fd_M := (yX8_zero, cX8_zero, 3, (some .int))
abbrev mX8_cloud : fd_M := (yX8_cloud, cX8_cloud, 2, (some .int))
abbrev mX8_smoke : fd_M := (yX8_smoke, cX8_smoke, 3, (some .int))
abbrev mX8_ice : fd_M := (yX8_ice, cX8_ice, 3, (some .int))
abbrev mX8_back : fd_M := (yX8_back, cX8_back, 3, (some .int))
abbrev mX8_warmth : fd_M := (yX8_warmth, cX8_warmth, 3, (some .int))
abbrev mX8_freezes : fd_M := (yX8_freezes, cX8_freezes, 3, (some .int))
abbrev mX8_first : fd_M := (yX8_first, cX8_first, 2, (some .int))
abbrev mX8_had : fd_M := (yX8_had, cX8_had, 4, (some .int))
abbrev mX8_stands : fd_M := (yX8_stands, cX8_stands, 3, (some .int))
abbrev mX8_lasts : fd_M := (yX8_lasts, cX8_lasts, 3, (some .int))
abbrev mX8_never : fd_M := (yX8_never, cX8_never, 3, (some .int))
abbrev mX8_owes : fd_M := (yX8_owes, cX8_owes, 4, (some .int))
abbrev mX8_hangs : fd_M := (yX8_hangs, cX8_hangs, 4, (some .int))
abbrev mX8_free : fd_M := (yX8_free, cX8_free, 6, (some .int))
abbrev mX8_where : fd_M := (yX8_where, cX8_where, 8, (some .int))
abbrev mX8_keep : fd_M := (yX8_keep, cX8_keep, 4, (some .int))
abbrev mX8_carry : fd_M := (yX8_carry, cX8_carry, 7, (some .int))
abbrev mX8_seen : fd_M := (yX8_seen, cX8_seen, 4, (some .int))
abbrev mX8_forget : fd_M := (yX8_forget, cX8_forget, 2, (some .int))
abbrev mX8_read : fd_M := (yX8_read, cX8_read, 5, (some .int))
abbrev mX8_was : fd_M := (yX8_was, cX8_was, 5, (some .int))
abbrev mX8_carried : fd_M := (yX8_carried, cX8_carried, 4, (some .int))
abbrev mX8_ask : fd_M := (yX8_ask, cX8_ask, 7, (some .int))
abbrev mX8_chance : fd_M := (yX8_chance, cX8_chance, 6, (some .long))
abbrev mX8_year : fd_M := (yX8_year, cX8_year, 7, (some .int))
abbrev mX8_sheet : fd_M := (yX8_sheet, cX8_sheet, 4, (some .int))
abbrev mX8_lose : fd_M := (yX8_lose, cX8_lose, 2, (some .int))
abbrev mX8_put : fd_M := (yX8_put, cX8_put, 6, (some .int))
abbrev mX8_get : fd_M := (yX8_get, cX8_get, 5, (some .int))
abbrev mX8_copy : fd_M := (yX8_copy, cX8_copy, 8, (some .int))
abbrev mX8_write : fd_M := (yX8_write, cX8_write, 6, (some .int))
abbrev mX8_count : fd_M := (yX8_count, cX8_count, 2, (some .int))
abbrev mX8_digest : fd_M := (yX8_digest, cX8_digest, 4, (some .long))
abbrev mX8_isBelow : fd_M := (yX8_isBelow, cX8_isBelow, 2, (some .boolean))
abbrev mX8_isChoice : fd_M := (yX8_isChoice, cX8_isChoice, 2, (some .boolean))
abbrev mX8_faultOf : fd_M := (yX8_faultOf, cX8_faultOf, 3, (some .int))
abbrev mX8_fits : fd_M := (yX8_fits, cX8_fits, 4, (some .boolean))
abbrev mX8_fitsPlace : fd_M := (yX8_fitsPlace, cX8_fitsPlace, 2, (some .boolean))
abbrev mX8_fitsDebt : fd_M := (yX8_fitsDebt, cX8_fitsDebt, 3, (some .boolean))
abbrev mX8_isEnded : fd_M := (yX8_isEnded, cX8_isEnded, 2, (some .boolean))
abbrev mX8_isFigure : fd_M := (yX8_isFigure, cX8_isFigure, 2, (some .boolean))
abbrev mX8_kindOf : fd_M := (yX8_kindOf, cX8_kindOf, 1, (some .int))
abbrev mX8_parse : fd_M := (yX8_parse, cX8_parse, 4, none)
abbrev mX8_addMark : fd_M := (yX8_addMark, cX8_addMark, 4, (some .int))
abbrev mX8_cloudsBySeed : fd_M := (yX8_cloudsBySeed, cX8_cloudsBySeed, 6, (some .long))
abbrev mX8_hasBit : fd_M := (yX8_hasBit, cX8_hasBit, 3, (some .boolean))
abbrev mX8_bitsBelow : fd_M := (yX8_bitsBelow, cX8_bitsBelow, 1, (some .long))
abbrev mX8_bitsUpTo : fd_M := (yX8_bitsUpTo, cX8_bitsUpTo, 1, (some .long))
abbrev mX8_countOrItem : fd_M := (yX8_countOrItem, cX8_countOrItem, 5, (some .int))
abbrev mX8_isStanding : fd_M := (yX8_isStanding, cX8_isStanding, 5, (some .boolean))
abbrev mX8_nightsStood : fd_M := (yX8_nightsStood, cX8_nightsStood, 5, (some .int))
abbrev mX8_isNothing : fd_M := (yX8_isNothing, cX8_isNothing, 4, (some .boolean))
abbrev mX8_sumOf : fd_M := (yX8_sumOf, cX8_sumOf, 6, (some .int))
abbrev mX8_sumOfAll : fd_M := (yX8_sumOfAll, cX8_sumOfAll, 4, (some .int))
abbrev mX8_isAsSeen : fd_M := (yX8_isAsSeen, cX8_isAsSeen, 5, (some .boolean))
abbrev mX8_leftAtWorst : fd_M := (yX8_leftAtWorst, cX8_leftAtWorst, 7, (some .int))
abbrev mX8_power : fd_M := (yX8_power, cX8_power, 5, (some .long))
abbrev mX8_lowestTerm : fd_M := (yX8_lowestTerm, cX8_lowestTerm, 10, (some .long))
abbrev mX8_find : fd_M := (yX8_find, cX8_find, 2, (some .int))
abbrev mX8_mix : fd_M := (yX8_mix, cX8_mix, 4, (some .long))
abbrev mX8_mixPlace : fd_M := (yX8_mixPlace, cX8_mixPlace, 6, (some .long))
abbrev mX8_mixDebt : fd_M := (yX8_mixDebt, cX8_mixDebt, 7, (some .long))
abbrev mX8_mixPerson : fd_M := (yX8_mixPerson, cX8_mixPerson, 6, (some .long))
abbrev mX8_mixNight : fd_M := (yX8_mixNight, cX8_mixNight, 4, (some .long))
abbrev mX9_init : fd_M := (yX9_init, cX9_init, 1, none)
abbrev mX9_in : fd_M := (yX9_in, cX9_in, 3, (some .boolean))
abbrev mX9_isIn : fd_M := (yX9_isIn, cX9_isIn, 2, (some .boolean))
abbrev mX9_no : fd_M := (yX9_no, cX9_no, 1, (some .long))
abbrev mX9_lowest : fd_M := (yX9_lowest, cX9_lowest, 11, (some .long))
abbrev mX9_isText : fd_M := (yX9_isText, cX9_isText, 1, (some .boolean))
abbrev mX9_isForty : fd_M := (yX9_isForty, cX9_isForty, 1, (some .boolean))
abbrev mX9_isEight : fd_M := (yX9_isEight, cX9_isEight, 1, (some .boolean))
abbrev mX9_type : fd_M := (yX9_type, cX9_type, 3, (some .int))
abbrev mX9_wipe : fd_M := (yX9_wipe, cX9_wipe, 3, (some .int))
abbrev mX9_undo : fd_M := (yX9_undo, cX9_undo, 2, (some .int))
abbrev mX9_byteAt : fd_M := (yX9_byteAt, cX9_byteAt, 3, (some .int))
abbrev mX9_readsPlace : fd_M := (yX9_readsPlace, cX9_readsPlace, 6, (some .int))
abbrev mX9_isWell : fd_M := (yX9_isWell, cX9_isWell, 4, (some .boolean))
abbrev mX9_readsDebt : fd_M := (yX9_readsDebt, cX9_readsDebt, 4, (some .int))
abbrev mX9_readsParts : fd_M := (yX9_readsParts, cX9_readsParts, 7, (some .int))
abbrev mX9_readsNights : fd_M := (yX9_readsNights, cX9_readsNights, 3, (some .int))
abbrev mX9_faultOf : fd_M := (yX9_faultOf, cX9_faultOf, 5, (some .int))
abbrev mX9_reads : fd_M := (yX9_reads, cX9_reads, 2, none)
abbrev mX9_fault : fd_M := (yX9_fault, cX9_fault, 2, (some .int))
abbrev mX9_isPlace : fd_M := (yX9_isPlace, cX9_isPlace, 2, (some .boolean))
abbrev mX9_isNight : fd_M := (yX9_isNight, cX9_isNight, 2, (some .boolean))
abbrev mX9_isDebt : fd_M := (yX9_isDebt, cX9_isDebt, 2, (some .boolean))
abbrev mX9_place : fd_M := (yX9_place, cX9_place, 3, (some .int))
abbrev mX9_warm : fd_M := (yX9_warm, cX9_warm, 2, (some .int))
abbrev mX9_debtOf : fd_M := (yX9_debtOf, cX9_debtOf, 3, (some .int))
abbrev mX9_debt : fd_M := (yX9_debt, cX9_debt, 3, (some .int))
abbrev mX9_zero : fd_M := (yX9_zero, cX9_zero, 3, (some .int))
abbrev mX9_more : fd_M := (yX9_more, cX9_more, 4, (some .int))
abbrev mX9_cloud : fd_M := (yX9_cloud, cX9_cloud, 2, (some .int))
abbrev mX9_smoke : fd_M := (yX9_smoke, cX9_smoke, 3, (some .int))
abbrev mX9_ice : fd_M := (yX9_ice, cX9_ice, 3, (some .int))
abbrev mX9_back : fd_M := (yX9_back, cX9_back, 2, (some .int))
abbrev mX9_asTold : fd_M := (yX9_asTold, cX9_asTold, 2, none)
abbrev mX9_isTold : fd_M := (yX9_isTold, cX9_isTold, 6, (some .boolean))
abbrev mX9_warmthBy : fd_M := (yX9_warmthBy, cX9_warmthBy, 4, (some .int))
abbrev mX9_isCold : fd_M := (yX9_isCold, cX9_isCold, 4, (some .boolean))
abbrev mX9_lays : fd_M := (yX9_lays, cX9_lays, 4, none)
abbrev mX9_laysTold : fd_M := (yX9_laysTold, cX9_laysTold, 1, none)
abbrev mX9_warmthOf : fd_M := (yX9_warmthOf, cX9_warmthOf, 3, (some .int))
abbrev mX9_warmth : fd_M := (yX9_warmth, cX9_warmth, 3, (some .int))
abbrev mX9_freezesOf : fd_M := (yX9_freezesOf, cX9_freezesOf, 3, (some .int))
abbrev mX9_freezes : fd_M := (yX9_freezes, cX9_freezes, 3, (some .int))
abbrev mX9_firstOf : fd_M := (yX9_firstOf, cX9_firstOf, 2, (some .int))
abbrev mX9_first : fd_M := (yX9_first, cX9_first, 2, (some .int))
abbrev mX9_hasHad : fd_M := (yX9_hasHad, cX9_hasHad, 3, (some .boolean))
abbrev mX9_hadOf : fd_M := (yX9_hadOf, cX9_hadOf, 4, (some .int))
abbrev mX9_had : fd_M := (yX9_had, cX9_had, 2, (some .int))
abbrev mX9_isStanding : fd_M := (yX9_isStanding, cX9_isStanding, 4, (some .boolean))
abbrev mX9_standsOf : fd_M := (yX9_standsOf, cX9_standsOf, 3, (some .int))
abbrev mX9_stands : fd_M := (yX9_stands, cX9_stands, 3, (some .int))
abbrev mX9_standsFor : fd_M := (yX9_standsFor, cX9_standsFor, 5, (some .int))
abbrev mX9_lastsOf : fd_M := (yX9_lastsOf, cX9_lastsOf, 5, (some .int))
abbrev mX9_lasts : fd_M := (yX9_lasts, cX9_lasts, 3, (some .int))
abbrev mX9_neverNow : fd_M := (yX9_neverNow, cX9_neverNow, 3, (some .int))
abbrev mX9_never : fd_M := (yX9_never, cX9_never, 1, (some .int))
abbrev mX9_owesNow : fd_M := (yX9_owesNow, cX9_owesNow, 7, (some .int))
abbrev mX9_owesOf : fd_M := (yX9_owesOf, cX9_owesOf, 4, (some .int))
abbrev mX9_owes : fd_M := (yX9_owes, cX9_owes, 4, (some .int))
abbrev mX9_hangsOf : fd_M := (yX9_hangsOf, cX9_hangsOf, 4, (some .int))
abbrev mX9_hangs : fd_M := (yX9_hangs, cX9_hangs, 2, (some .int))
abbrev mX9_freeOf : fd_M := (yX9_freeOf, cX9_freeOf, 6, (some .int))
abbrev mX9_free : fd_M := (yX9_free, cX9_free, 3, (some .int))
abbrev mX9_whereOf : fd_M := (yX9_whereOf, cX9_whereOf, 9, (some .int))
abbrev mX9_where : fd_M := (yX9_where, cX9_where, 4, (some .int))
abbrev mX9_keepOf : fd_M := (yX9_keepOf, cX9_keepOf, 8, (some .int))
abbrev mX9_keep : fd_M := (yX9_keep, cX9_keep, 4, (some .int))
abbrev mX9_carries : fd_M := (yX9_carries, cX9_carries, 8, (some .boolean))
abbrev mX9_carryBy : fd_M := (yX9_carryBy, cX9_carryBy, 6, (some .int))
abbrev mX9_carryOf : fd_M := (yX9_carryOf, cX9_carryOf, 5, (some .int))
abbrev mX9_carry : fd_M := (yX9_carry, cX9_carry, 4, (some .int))
abbrev mX9_seen : fd_M := (yX9_seen, cX9_seen, 4, (some .int))
abbrev mX9_forget : fd_M := (yX9_forget, cX9_forget, 2, (some .int))
abbrev mX9_read : fd_M := (yX9_read, cX9_read, 3, (some .int))
abbrev mX9_isSeen : fd_M := (yX9_isSeen, cX9_isSeen, 3, (some .boolean))
abbrev mX9_wasOf : fd_M := (yX9_wasOf, cX9_wasOf, 5, (some .int))
abbrev mX9_was : fd_M := (yX9_was, cX9_was, 2, (some .int))
abbrev mX9_carriedNow : fd_M := (yX9_carriedNow, cX9_carriedNow, 3, (some .int))
abbrev mX9_carried : fd_M := (yX9_carried, cX9_carried, 1, (some .int))
abbrev mX9_askOf : fd_M := (yX9_askOf, cX9_askOf, 11, (some .int))
abbrev mX9_ask : fd_M := (yX9_ask, cX9_ask, 2, (some .int))
abbrev mX9_chanceOf : fd_M := (yX9_chanceOf, cX9_chanceOf, 10, (some .long))
abbrev mX9_chance : fd_M := (yX9_chance, cX9_chance, 5, (some .long))
abbrev mX9_yearOf : fd_M := (yX9_yearOf, cX9_yearOf, 6, (some .int))
abbrev mX9_year : fd_M := (yX9_year, cX9_year, 3, (some .int))
abbrev mX9_meets : fd_M := (yX9_meets, cX9_meets, 2, (some .int))
abbrev mX9_isSheet : fd_M := (yX9_isSheet, cX9_isSheet, 1, (some .boolean))
abbrev mX9_sheet : fd_M := (yX9_sheet, cX9_sheet, 5, (some .int))
abbrev mX9_lose : fd_M := (yX9_lose, cX9_lose, 2, (some .int))
abbrev mX9_lacks : fd_M := (yX9_lacks, cX9_lacks, 4, (some .int))
abbrev mX9_keepsItem : fd_M := (yX9_keepsItem, cX9_keepsItem, 4, none)
abbrev mX9_put : fd_M := (yX9_put, cX9_put, 6, (some .int))
abbrev mX9_get : fd_M := (yX9_get, cX9_get, 5, (some .int))
abbrev mX9_copy : fd_M := (yX9_copy, cX9_copy, 7, (some .int))
abbrev mX9_owedBy : fd_M := (yX9_owedBy, cX9_owedBy, 4, (some .int))
abbrev mX9_write : fd_M := (yX9_write, cX9_write, 4, (some .int))
abbrev mX9_partsMany : fd_M := (yX9_partsMany, cX9_partsMany, 2, (some .int))
abbrev mX9_count : fd_M := (yX9_count, cX9_count, 2, (some .int))
abbrev mX9_placeDigest : fd_M := (yX9_placeDigest, cX9_placeDigest, 6, (some .long))
abbrev mX9_debtDigest : fd_M := (yX9_debtDigest, cX9_debtDigest, 7, (some .long))
abbrev mX9_nightDigest : fd_M := (yX9_nightDigest, cX9_nightDigest, 6, (some .long))
abbrev mX9_digest : fd_M := (yX9_digest, cX9_digest, 4, (some .long))
abbrev mJ13_bitCount_95d88 : fd_M := (yJ13_bitCount_95d88, cJ13_bitCount_95d88, 2, (some .int))
abbrev mJ9_max_7cf53 : fd_M := (yJ9_max_7cf53, cJ9_max_7cf53, 2, (some .int))
abbrev mJ9_min_7cf53 : fd_M := (yJ9_min_7cf53, cJ9_min_7cf53, 2, (some .int))
theorem yy_X3_at : fd_YV mX3_at 1 := ⟨⟨kw_48, kw_49, by decide +kernel, by decide +kernel, by decide +kernel⟩, kw_50, kw_51⟩
theorem yy_X3_set : fd_YV mX3_set 2 := ⟨⟨kw_54, kw_49, by decide +kernel, by decide +kernel, by decide +kernel⟩, kw_55, kw_56⟩
theorem yy_J9_min_7cf53 : fd_YS mJ9_min_7cf53 2 := ⟨⟨kw_64, kw_65, by decide +kernel, by decide +kernel, by decide +kernel⟩, kw_66⟩
theorem yy_X8_kindOf : fd_YS mX8_kindOf 1 := ⟨⟨kw_73, kw_74, by decide +kernel, by decide +kernel, by decide +kernel⟩, kw_75⟩
theorem yy_X2_liftOf : fd_YS mX2_liftOf 1 := ⟨⟨kw_77, kw_78, by decide +kernel, by decide +kernel, by decide +kernel⟩, kw_79⟩
theorem yy_X5_at : fd_YV mX5_at 1 := ⟨⟨kw_84, kw_85, by decide +kernel, by decide +kernel, by decide +kernel⟩, kw_86, kw_87⟩
theorem yy_X8_bitsUpTo : fd_YS mX8_bitsUpTo 1 := ⟨⟨kw_89, kw_74, by decide +kernel, by decide +kernel, by decide +kernel⟩, kw_90⟩
theorem yy_X2_has : fd_YV mX2_has 1 := ⟨⟨kw_105, kw_78, by decide +kernel, by decide +kernel, by decide +kernel⟩, kw_106, kw_107⟩
theorem yy_X8_isBelow : fd_YS mX8_isBelow 2 := ⟨⟨kw_109, kw_74, by decide +kernel, by decide +kernel, by decide +kernel⟩, kw_110⟩
theorem yy_X8_hasBit : fd_YS mX8_hasBit 2 := ⟨⟨kw_119, kw_74, by decide +kernel, by decide +kernel, by decide +kernel⟩, kw_120⟩
theorem yy_X8_find : fd_YV mX8_find 1 := ⟨⟨kw_126, kw_74, by decide +kernel, by decide +kernel, by decide +kernel⟩, kw_127, kw_128⟩
theorem yy_X4_findingAt : fd_YV mX4_findingAt 2 := ⟨⟨kw_130, kw_131, by decide +kernel, by decide +kernel, by decide +kernel⟩, kw_132, kw_133⟩
theorem yy_X8_isFigure : fd_YS mX8_isFigure 2 := ⟨⟨kw_138, kw_74, by decide +kernel, by decide +kernel, by decide +kernel⟩, kw_139⟩
theorem yy_J13_bitCount_95d88 : fd_YS mJ13_bitCount_95d88 1 := ⟨⟨kw_141, kw_142, by decide +kernel, by decide +kernel, by decide +kernel⟩, kw_143⟩
theorem yy_X9_in : fd_YS mX9_in 3 := ⟨⟨kw_145, kw_146, by decide +kernel, by decide +kernel, by decide +kernel⟩, kw_147⟩
theorem yy_X9_byteAt : fd_YV mX9_byteAt 2 := ⟨⟨kw_149, kw_146, by decide +kernel, by decide +kernel, by decide +kernel⟩, kw_150, kw_151⟩
theorem yy_X9_warmthBy : fd_YV mX9_warmthBy 2 := ⟨⟨kw_155, kw_146, by decide +kernel, by decide +kernel, by decide +kernel⟩, kw_156, kw_157⟩
theorem yy_X9_isTold : fd_YV mX9_isTold 3 := ⟨⟨kw_159, kw_146, by decide +kernel, by decide +kernel, by decide +kernel⟩, kw_160, kw_161⟩
theorem yy_X9_hasHad : fd_YV mX9_hasHad 2 := ⟨⟨kw_163, kw_146, by decide +kernel, by decide +kernel, by decide +kernel⟩, kw_164, kw_165⟩
theorem yy_X0_note : fd_YV mX0_note 3 := ⟨⟨kw_171, kw_172, by decide +kernel, by decide +kernel, by decide +kernel⟩, kw_173, kw_174⟩
theorem yy_X0_twoFigures : fd_YS mX0_twoFigures 2 := ⟨⟨kw_176, kw_172, by decide +kernel, by decide +kernel, by decide +kernel⟩, kw_177⟩
theorem yy_X8_countOrItem : fd_YS mX8_countOrItem 2 := ⟨⟨kw_179, kw_74, by decide +kernel, by decide +kernel, by decide +kernel⟩, kw_180⟩
theorem yy_X7_isCold : fd_YV mX7_isCold 3 := ⟨⟨kw_184, kw_185, by decide +kernel, by decide +kernel, by decide +kernel⟩, kw_186, kw_187⟩
theorem yy_X0_fact : fd_YV mX0_fact 2 := ⟨⟨kw_192, kw_172, by decide +kernel, by decide +kernel, by decide +kernel⟩, kw_193, kw_194⟩
theorem yy_X5_isBy : fd_YV mX5_isBy 2 := ⟨⟨kw_196, kw_85, by decide +kernel, by decide +kernel, by decide +kernel⟩, kw_197, kw_198⟩
theorem yy_X8_isChoice : fd_YS mX8_isChoice 2 := ⟨⟨kw_200, kw_74, by decide +kernel, by decide +kernel, by decide +kernel⟩, kw_201⟩
theorem yy_X1_add : fd_YV mX1_add 3 := ⟨⟨kw_205, kw_206, by decide +kernel, by decide +kernel, by decide +kernel⟩, kw_207, kw_208⟩
theorem yy_X4_renew : fd_YV mX4_renew 2 := ⟨⟨kw_210, kw_131, by decide +kernel, by decide +kernel, by decide +kernel⟩, kw_211, kw_212⟩
theorem yy_X4_store : fd_YV mX4_store 2 := ⟨⟨kw_214, kw_131, by decide +kernel, by decide +kernel, by decide +kernel⟩, kw_215, kw_216⟩
theorem yy_X4_hasRange : fd_YV mX4_hasRange 2 := ⟨⟨kw_219, kw_131, by decide +kernel, by decide +kernel, by decide +kernel⟩, kw_220, kw_221⟩
theorem yy_X4_take : fd_YV mX4_take 4 := ⟨⟨kw_223, kw_131, by decide +kernel, by decide +kernel, by decide +kernel⟩, kw_224, kw_225⟩
theorem yy_X8_fitsDebt : fd_YS mX8_fitsDebt 3 := ⟨⟨kw_228, kw_74, by decide +kernel, by decide +kernel, by decide +kernel⟩, kw_229⟩
theorem yy_X8_fitsPlace : fd_YS mX8_fitsPlace 2 := ⟨⟨kw_231, kw_74, by decide +kernel, by decide +kernel, by decide +kernel⟩, kw_232⟩
theorem yy_X9_isText : fd_YS mX9_isText 1 := ⟨⟨kw_237, kw_146, by decide +kernel, by decide +kernel, by decide +kernel⟩, kw_238⟩
theorem yy_X9_isWell : fd_YV mX9_isWell 2 := ⟨⟨kw_240, kw_146, by decide +kernel, by decide +kernel, by decide +kernel⟩, kw_241, kw_242⟩
theorem yy_X9_isForty : fd_YS mX9_isForty 1 := ⟨⟨kw_244, kw_146, by decide +kernel, by decide +kernel, by decide +kernel⟩, kw_245⟩
theorem yy_X9_isEight : fd_YS mX9_isEight 1 := ⟨⟨kw_247, kw_146, by decide +kernel, by decide +kernel, by decide +kernel⟩, kw_248⟩
theorem yy_X9_isCold : fd_YV mX9_isCold 2 := ⟨⟨kw_251, kw_146, by decide +kernel, by decide +kernel, by decide +kernel⟩, kw_252, kw_253⟩
theorem yy_X9_isStanding : fd_YV mX9_isStanding 3 := ⟨⟨kw_255, kw_146, by decide +kernel, by decide +kernel, by decide +kernel⟩, kw_256, kw_257⟩
theorem yy_X9_isSheet : fd_YS mX9_isSheet 1 := ⟨⟨kw_263, kw_146, by decide +kernel, by decide +kernel, by decide +kernel⟩, kw_264⟩
theorem yy_X9_meets : fd_YV mX9_meets 1 := ⟨⟨kw_266, kw_146, by decide +kernel, by decide +kernel, by decide +kernel⟩, kw_267, kw_268⟩
theorem yy_X9_lacks : fd_YV mX9_lacks 3 := ⟨⟨kw_270, kw_146, by decide +kernel, by decide +kernel, by decide +kernel⟩, kw_271, kw_272⟩
theorem yy_X9_keepsItem : fd_YV mX9_keepsItem 3 := ⟨⟨kw_274, kw_146, by decide +kernel, by decide +kernel, by decide +kernel⟩, kw_275, kw_276⟩
theorem yy_X1_nightsAt : fd_YV mX1_nightsAt 2 := ⟨⟨kw_281, kw_206, by decide +kernel, by decide +kernel, by decide +kernel⟩, kw_282, kw_283⟩
theorem yy_X5_set : fd_YV mX5_set 2 := ⟨⟨kw_287, kw_85, by decide +kernel, by decide +kernel, by decide +kernel⟩, kw_288, kw_289⟩
theorem yy_X8_bitsBelow : fd_YS mX8_bitsBelow 1 := ⟨⟨kw_292, kw_74, by decide +kernel, by decide +kernel, by decide +kernel⟩, kw_293⟩
theorem yy_X7_frostNights : fd_YV mX7_frostNights 3 := ⟨⟨kw_294, kw_185, by decide +kernel, by decide +kernel, by decide +kernel⟩, kw_295, kw_296⟩
theorem yy_X5_firstOf : fd_YV mX5_firstOf 1 := ⟨⟨kw_298, kw_85, by decide +kernel, by decide +kernel, by decide +kernel⟩, kw_299, kw_300⟩
theorem yy_X8_isStanding : fd_YV mX8_isStanding 3 := ⟨⟨kw_302, kw_74, by decide +kernel, by decide +kernel, by decide +kernel⟩, kw_303, kw_304⟩
theorem yy_X8_seen : fd_YV mX8_seen 3 := ⟨⟨kw_306, kw_74, by decide +kernel, by decide +kernel, by decide +kernel⟩, kw_307, kw_308⟩
theorem yy_X8_isAsSeen : fd_YV mX8_isAsSeen 1 := ⟨⟨kw_311, kw_74, by decide +kernel, by decide +kernel, by decide +kernel⟩, kw_312, kw_313⟩
theorem yy_X7_frostsIfWarm : fd_YV mX7_frostsIfWarm 3 := ⟨⟨kw_315, kw_185, by decide +kernel, by decide +kernel, by decide +kernel⟩, kw_316, kw_317⟩
theorem yy_X8_power : fd_YS mX8_power 2 := ⟨⟨kw_321, kw_74, by decide +kernel, by decide +kernel, by decide +kernel⟩, kw_322⟩
theorem yy_X8_lowestTerm : fd_YS mX8_lowestTerm 3 := ⟨⟨kw_324, kw_74, by decide +kernel, by decide +kernel, by decide +kernel⟩, kw_325⟩
theorem yy_X8_cloudsBySeed : fd_YV mX8_cloudsBySeed 1 := ⟨⟨kw_328, kw_74, by decide +kernel, by decide +kernel, by decide +kernel⟩, kw_329, kw_330⟩
theorem yy_X8_isEnded : fd_YS mX8_isEnded 2 := ⟨⟨kw_332, kw_74, by decide +kernel, by decide +kernel, by decide +kernel⟩, kw_333⟩
theorem yy_X8_fits : fd_YS mX8_fits 3 := ⟨⟨kw_335, kw_74, by decide +kernel, by decide +kernel, by decide +kernel⟩, kw_336⟩
theorem yy_J9_max_7cf53 : fd_YS mJ9_max_7cf53 2 := ⟨⟨kw_338, kw_65, by decide +kernel, by decide +kernel, by decide +kernel⟩, kw_339⟩
theorem yy_X9_readsDebt : fd_YV mX9_readsDebt 2 := ⟨⟨kw_341, kw_146, by decide +kernel, by decide +kernel, by decide +kernel⟩, kw_342, kw_343⟩
theorem yy_X9_readsPlace : fd_YV mX9_readsPlace 2 := ⟨⟨kw_345, kw_146, by decide +kernel, by decide +kernel, by decide +kernel⟩, kw_346, kw_347⟩
theorem yy_X9_more : fd_YV mX9_more 3 := ⟨⟨kw_349, kw_146, by decide +kernel, by decide +kernel, by decide +kernel⟩, kw_350, kw_351⟩
theorem yy_X9_lays : fd_YV mX9_lays 0 := ⟨⟨kw_353, kw_146, by decide +kernel, by decide +kernel, by decide +kernel⟩, kw_354, kw_355⟩
theorem yy_X9_owesNow : fd_YV mX9_owesNow 3 := ⟨⟨kw_358, kw_146, by decide +kernel, by decide +kernel, by decide +kernel⟩, kw_359, kw_360⟩
theorem yy_X9_seen : fd_YV mX9_seen 3 := ⟨⟨kw_362, kw_146, by decide +kernel, by decide +kernel, by decide +kernel⟩, kw_363, kw_364⟩
theorem yy_X8_faultOf : fd_YS mX8_faultOf 2 := ⟨⟨kw_366, kw_74, by decide +kernel, by decide +kernel, by decide +kernel⟩, kw_367⟩
theorem yy_X7_settle : fd_YV mX7_settle 0 := ⟨⟨kw_370, kw_185, by decide +kernel, by decide +kernel, by decide +kernel⟩, kw_371, kw_372⟩
theorem yy_X8_isNothing : fd_YV mX8_isNothing 1 := ⟨⟨kw_374, kw_74, by decide +kernel, by decide +kernel, by decide +kernel⟩, kw_375, kw_376⟩
theorem yy_X8_nightsStood : fd_YV mX8_nightsStood 2 := ⟨⟨kw_378, kw_74, by decide +kernel, by decide +kernel, by decide +kernel⟩, kw_379, kw_380⟩
theorem yy_X8_sumOf : fd_YV mX8_sumOf 3 := ⟨⟨kw_382, kw_74, by decide +kernel, by decide +kernel, by decide +kernel⟩, kw_383, kw_384⟩
theorem yy_X7_frostsWithout : fd_YV mX7_frostsWithout 2 := ⟨⟨kw_386, kw_185, by decide +kernel, by decide +kernel, by decide +kernel⟩, kw_387, kw_388⟩
theorem yy_X8_was : fd_YV mX8_was 1 := ⟨⟨kw_390, kw_74, by decide +kernel, by decide +kernel, by decide +kernel⟩, kw_391, kw_392⟩
theorem yy_X8_leftAtWorst : fd_YV mX8_leftAtWorst 3 := ⟨⟨kw_394, kw_74, by decide +kernel, by decide +kernel, by decide +kernel⟩, kw_395, kw_396⟩
theorem yy_X0_parse : fd_YV mX0_parse 2 := ⟨⟨kw_398, kw_172, by decide +kernel, by decide +kernel, by decide +kernel⟩, kw_399, kw_400⟩
theorem yy_X7_parse : fd_YV mX7_parse 2 := ⟨⟨kw_402, kw_185, by decide +kernel, by decide +kernel, by decide +kernel⟩, kw_403, kw_404⟩
theorem yy_X2_parse : fd_YV mX2_parse 2 := ⟨⟨kw_406, kw_78, by decide +kernel, by decide +kernel, by decide +kernel⟩, kw_407, kw_408⟩
theorem yy_X8_place : fd_YV mX8_place 2 := ⟨⟨kw_410, kw_74, by decide +kernel, by decide +kernel, by decide +kernel⟩, kw_411, kw_412⟩
theorem yy_X8_mix : fd_YS mX8_mix 2 := ⟨⟨kw_414, kw_74, by decide +kernel, by decide +kernel, by decide +kernel⟩, kw_415⟩
theorem yy_X8_warmth : fd_YV mX8_warmth 2 := ⟨⟨kw_417, kw_74, by decide +kernel, by decide +kernel, by decide +kernel⟩, kw_418, kw_419⟩
theorem yy_X8_freezes : fd_YV mX8_freezes 2 := ⟨⟨kw_421, kw_74, by decide +kernel, by decide +kernel, by decide +kernel⟩, kw_422, kw_423⟩
theorem yy_X8_first : fd_YV mX8_first 1 := ⟨⟨kw_425, kw_74, by decide +kernel, by decide +kernel, by decide +kernel⟩, kw_426, kw_427⟩
theorem yy_X8_keep : fd_YV mX8_keep 3 := ⟨⟨kw_429, kw_74, by decide +kernel, by decide +kernel, by decide +kernel⟩, kw_430, kw_431⟩
theorem yy_X8_chance : fd_YV mX8_chance 4 := ⟨⟨kw_433, kw_74, by decide +kernel, by decide +kernel, by decide +kernel⟩, kw_434, kw_435⟩
theorem yy_X8_year : fd_YV mX8_year 2 := ⟨⟨kw_437, kw_74, by decide +kernel, by decide +kernel, by decide +kernel⟩, kw_438, kw_439⟩
theorem yy_X9_readsParts : fd_YV mX9_readsParts 1 := ⟨⟨kw_441, kw_146, by decide +kernel, by decide +kernel, by decide +kernel⟩, kw_442, kw_443⟩
theorem yy_X9_readsNights : fd_YV mX9_readsNights 0 := ⟨⟨kw_445, kw_146, by decide +kernel, by decide +kernel, by decide +kernel⟩, kw_446, kw_447⟩
theorem yy_X6_add : fd_YV mX6_add 1 := ⟨⟨kw_449, kw_450, by decide +kernel, by decide +kernel, by decide +kernel⟩, kw_451, kw_452⟩
theorem yy_X8_parse : fd_YV mX8_parse 1 := ⟨⟨kw_454, kw_74, by decide +kernel, by decide +kernel, by decide +kernel⟩, kw_455, kw_456⟩
theorem yy_X8_addMark : fd_YV mX8_addMark 3 := ⟨⟨kw_458, kw_74, by decide +kernel, by decide +kernel, by decide +kernel⟩, kw_459, kw_460⟩
theorem yy_X8_hangs : fd_YV mX8_hangs 1 := ⟨⟨kw_463, kw_74, by decide +kernel, by decide +kernel, by decide +kernel⟩, kw_464, kw_465⟩
theorem yy_X8_sumOfAll : fd_YV mX8_sumOfAll 1 := ⟨⟨kw_467, kw_74, by decide +kernel, by decide +kernel, by decide +kernel⟩, kw_468, kw_469⟩
theorem yy_X8_lasts : fd_YV mX8_lasts 2 := ⟨⟨kw_471, kw_74, by decide +kernel, by decide +kernel, by decide +kernel⟩, kw_472, kw_473⟩
theorem yy_X8_where : fd_YV mX8_where 3 := ⟨⟨kw_475, kw_74, by decide +kernel, by decide +kernel, by decide +kernel⟩, kw_476, kw_477⟩
theorem yy_X8_debt : fd_YV mX8_debt 2 := ⟨⟨kw_479, kw_74, by decide +kernel, by decide +kernel, by decide +kernel⟩, kw_480, kw_481⟩
theorem yy_X8_owes : fd_YV mX8_owes 3 := ⟨⟨kw_483, kw_74, by decide +kernel, by decide +kernel, by decide +kernel⟩, kw_484, kw_485⟩
theorem yy_X8_free : fd_YV mX8_free 2 := ⟨⟨kw_487, kw_74, by decide +kernel, by decide +kernel, by decide +kernel⟩, kw_488, kw_489⟩
theorem yy_X8_carry : fd_YV mX8_carry 3 := ⟨⟨kw_491, kw_74, by decide +kernel, by decide +kernel, by decide +kernel⟩, kw_492, kw_493⟩
theorem yy_X8_had : fd_YV mX8_had 1 := ⟨⟨kw_495, kw_74, by decide +kernel, by decide +kernel, by decide +kernel⟩, kw_496, kw_497⟩
theorem yy_X8_ask : fd_YV mX8_ask 1 := ⟨⟨kw_499, kw_74, by decide +kernel, by decide +kernel, by decide +kernel⟩, kw_500, kw_501⟩
theorem yy_X9_faultOf : fd_YV mX9_faultOf 1 := ⟨⟨kw_503, kw_146, by decide +kernel, by decide +kernel, by decide +kernel⟩, kw_504, kw_505⟩
theorem yy_X8_count : fd_YV mX8_count 1 := ⟨⟨kw_508, kw_74, by decide +kernel, by decide +kernel, by decide +kernel⟩, kw_509, kw_510⟩
theorem yy_X8_fault : fd_YV mX8_fault 1 := ⟨⟨kw_512, kw_74, by decide +kernel, by decide +kernel, by decide +kernel⟩, kw_513, kw_514⟩
theorem yy_X8_mixPlace : fd_YV mX8_mixPlace 2 := ⟨⟨kw_516, kw_74, by decide +kernel, by decide +kernel, by decide +kernel⟩, kw_517, kw_518⟩
theorem yy_X8_mixDebt : fd_YV mX8_mixDebt 2 := ⟨⟨kw_520, kw_74, by decide +kernel, by decide +kernel, by decide +kernel⟩, kw_521, kw_522⟩
theorem yy_X8_mixNight : fd_YV mX8_mixNight 2 := ⟨⟨kw_524, kw_74, by decide +kernel, by decide +kernel, by decide +kernel⟩, kw_525, kw_526⟩
theorem yy_X8_never : fd_YV mX8_never 0 := ⟨⟨kw_528, kw_74, by decide +kernel, by decide +kernel, by decide +kernel⟩, kw_529, kw_530⟩
theorem yy_X8_carried : fd_YV mX8_carried 0 := ⟨⟨kw_532, kw_74, by decide +kernel, by decide +kernel, by decide +kernel⟩, kw_533, kw_534⟩
theorem yy_X8_mixPerson : fd_YV mX8_mixPerson 2 := ⟨⟨kw_536, kw_74, by decide +kernel, by decide +kernel, by decide +kernel⟩, kw_537, kw_538⟩
theorem yy_X9_reads : fd_YV mX9_reads 0 := ⟨⟨kw_540, kw_146, by decide +kernel, by decide +kernel, by decide +kernel⟩, kw_541, kw_542⟩
theorem yy_X9_isPlace : fd_YV mX9_isPlace 1 := ⟨⟨kw_544, kw_146, by decide +kernel, by decide +kernel, by decide +kernel⟩, kw_545, kw_546⟩
theorem yy_X9_isNight : fd_YV mX9_isNight 1 := ⟨⟨kw_548, kw_146, by decide +kernel, by decide +kernel, by decide +kernel⟩, kw_549, kw_550⟩
theorem yy_X9_isDebt : fd_YV mX9_isDebt 1 := ⟨⟨kw_552, kw_146, by decide +kernel, by decide +kernel, by decide +kernel⟩, kw_553, kw_554⟩
theorem yy_X9_debtOf : fd_YV mX9_debtOf 2 := ⟨⟨kw_556, kw_146, by decide +kernel, by decide +kernel, by decide +kernel⟩, kw_557, kw_558⟩
theorem yy_X9_asTold : fd_YV mX9_asTold 0 := ⟨⟨kw_560, kw_146, by decide +kernel, by decide +kernel, by decide +kernel⟩, kw_561, kw_562⟩
theorem yy_X9_warmthOf : fd_YV mX9_warmthOf 2 := ⟨⟨kw_564, kw_146, by decide +kernel, by decide +kernel, by decide +kernel⟩, kw_565, kw_566⟩
theorem yy_X9_carries : fd_YV mX9_carries 5 := ⟨⟨kw_568, kw_146, by decide +kernel, by decide +kernel, by decide +kernel⟩, kw_569, kw_570⟩
theorem yy_X9_isSeen : fd_YV mX9_isSeen 0 := ⟨⟨kw_572, kw_146, by decide +kernel, by decide +kernel, by decide +kernel⟩, kw_573, kw_574⟩
theorem yy_X9_lowest : fd_YS mX9_lowest 3 := ⟨⟨kw_577, kw_146, by decide +kernel, by decide +kernel, by decide +kernel⟩, kw_578⟩
theorem yy_X9_partsMany : fd_YV mX9_partsMany 1 := ⟨⟨kw_581, kw_146, by decide +kernel, by decide +kernel, by decide +kernel⟩, kw_582, kw_583⟩
theorem yy_X9_freezesOf : fd_YV mX9_freezesOf 2 := ⟨⟨kw_585, kw_146, by decide +kernel, by decide +kernel, by decide +kernel⟩, kw_586, kw_587⟩
theorem yy_X9_laysTold : fd_YV mX9_laysTold 0 := ⟨⟨kw_589, kw_146, by decide +kernel, by decide +kernel, by decide +kernel⟩, kw_590, kw_591⟩
theorem yy_X9_standsFor : fd_YV mX9_standsFor 2 := ⟨⟨kw_593, kw_146, by decide +kernel, by decide +kernel, by decide +kernel⟩, kw_594, kw_595⟩
theorem yy_X9_keepOf : fd_YV mX9_keepOf 3 := ⟨⟨kw_597, kw_146, by decide +kernel, by decide +kernel, by decide +kernel⟩, kw_598, kw_599⟩
theorem yy_X9_carryBy : fd_YV mX9_carryBy 2 := ⟨⟨kw_601, kw_146, by decide +kernel, by decide +kernel, by decide +kernel⟩, kw_602, kw_603⟩
theorem yy_X9_wasOf : fd_YV mX9_wasOf 1 := ⟨⟨kw_605, kw_146, by decide +kernel, by decide +kernel, by decide +kernel⟩, kw_606, kw_607⟩
theorem yy_X9_carriedNow : fd_YV mX9_carriedNow 0 := ⟨⟨kw_609, kw_146, by decide +kernel, by decide +kernel, by decide +kernel⟩, kw_610, kw_611⟩
theorem yy_X9_isIn : fd_YS mX9_isIn 2 := ⟨⟨kw_613, kw_146, by decide +kernel, by decide +kernel, by decide +kernel⟩, kw_614⟩
theorem yy_X9_chanceOf : fd_YV mX9_chanceOf 4 := ⟨⟨kw_616, kw_146, by decide +kernel, by decide +kernel, by decide +kernel⟩, kw_617, kw_618⟩
theorem yy_X9_no : fd_YS mX9_no 1 := ⟨⟨kw_620, kw_146, by decide +kernel, by decide +kernel, by decide +kernel⟩, kw_621⟩
theorem yy_X9_yearOf : fd_YV mX9_yearOf 2 := ⟨⟨kw_623, kw_146, by decide +kernel, by decide +kernel, by decide +kernel⟩, kw_624, kw_625⟩
theorem yy_X9_firstOf : fd_YV mX9_firstOf 1 := ⟨⟨kw_627, kw_146, by decide +kernel, by decide +kernel, by decide +kernel⟩, kw_628, kw_629⟩
theorem yy_X9_hadOf : fd_YV mX9_hadOf 1 := ⟨⟨kw_631, kw_146, by decide +kernel, by decide +kernel, by decide +kernel⟩, kw_632, kw_633⟩
theorem yy_X9_standsOf : fd_YV mX9_standsOf 2 := ⟨⟨kw_635, kw_146, by decide +kernel, by decide +kernel, by decide +kernel⟩, kw_636, kw_637⟩
theorem yy_X9_lastsOf : fd_YV mX9_lastsOf 2 := ⟨⟨kw_639, kw_146, by decide +kernel, by decide +kernel, by decide +kernel⟩, kw_640, kw_641⟩
theorem yy_X9_neverNow : fd_YV mX9_neverNow 0 := ⟨⟨kw_643, kw_146, by decide +kernel, by decide +kernel, by decide +kernel⟩, kw_644, kw_645⟩
theorem yy_X9_owesOf : fd_YV mX9_owesOf 3 := ⟨⟨kw_647, kw_146, by decide +kernel, by decide +kernel, by decide +kernel⟩, kw_648, kw_649⟩
theorem yy_X9_hangsOf : fd_YV mX9_hangsOf 1 := ⟨⟨kw_651, kw_146, by decide +kernel, by decide +kernel, by decide +kernel⟩, kw_652, kw_653⟩
theorem yy_X9_freeOf : fd_YV mX9_freeOf 2 := ⟨⟨kw_655, kw_146, by decide +kernel, by decide +kernel, by decide +kernel⟩, kw_656, kw_657⟩
theorem yy_X9_whereOf : fd_YV mX9_whereOf 3 := ⟨⟨kw_659, kw_146, by decide +kernel, by decide +kernel, by decide +kernel⟩, kw_660, kw_661⟩
theorem yy_X9_carryOf : fd_YV mX9_carryOf 3 := ⟨⟨kw_663, kw_146, by decide +kernel, by decide +kernel, by decide +kernel⟩, kw_664, kw_665⟩
theorem yy_X9_askOf : fd_YV mX9_askOf 1 := ⟨⟨kw_667, kw_146, by decide +kernel, by decide +kernel, by decide +kernel⟩, kw_668, kw_669⟩
theorem yy_X9_owedBy : fd_YV mX9_owedBy 1 := ⟨⟨kw_671, kw_146, by decide +kernel, by decide +kernel, by decide +kernel⟩, kw_672, kw_673⟩
theorem yy_X9_warmth : fd_YV mX9_warmth 2 := ⟨⟨kw_676, kw_146, by decide +kernel, by decide +kernel, by decide +kernel⟩, kw_677, kw_678⟩
theorem yy_X9_freezes : fd_YV mX9_freezes 2 := ⟨⟨kw_680, kw_146, by decide +kernel, by decide +kernel, by decide +kernel⟩, kw_681, kw_682⟩
theorem yy_X9_was : fd_YV mX9_was 1 := ⟨⟨kw_684, kw_146, by decide +kernel, by decide +kernel, by decide +kernel⟩, kw_685, kw_686⟩
theorem yy_X9_ask : fd_YV mX9_ask 1 := ⟨⟨kw_688, kw_146, by decide +kernel, by decide +kernel, by decide +kernel⟩, kw_689, kw_690⟩
theorem yy_X9_count : fd_YV mX9_count 1 := ⟨⟨kw_693, kw_146, by decide +kernel, by decide +kernel, by decide +kernel⟩, kw_694, kw_695⟩
theorem yy_X9_placeDigest : fd_YV mX9_placeDigest 2 := ⟨⟨kw_697, kw_146, by decide +kernel, by decide +kernel, by decide +kernel⟩, kw_698, kw_699⟩
theorem yy_X9_debtDigest : fd_YV mX9_debtDigest 2 := ⟨⟨kw_701, kw_146, by decide +kernel, by decide +kernel, by decide +kernel⟩, kw_702, kw_703⟩
theorem yy_X9_nightDigest : fd_YV mX9_nightDigest 2 := ⟨⟨kw_705, kw_146, by decide +kernel, by decide +kernel, by decide +kernel⟩, kw_706, kw_707⟩
theorem yy_X9_carry : fd_YV mX9_carry 3 := ⟨⟨kw_709, kw_146, by decide +kernel, by decide +kernel, by decide +kernel⟩, kw_710, kw_711⟩
theorem yy_X3_init : fd_YI mX3_init 1 := ⟨⟨kw_722, kw_49, by decide +kernel, by decide +kernel, by decide +kernel⟩, rfl, rfl, kw_723⟩
theorem yy_X6_init : fd_YI mX6_init 1 := ⟨⟨kw_725, kw_450, by decide +kernel, by decide +kernel, by decide +kernel⟩, rfl, rfl, kw_726⟩
theorem yy_X2_init : fd_YI mX2_init 0 := ⟨⟨kw_735, kw_78, by decide +kernel, by decide +kernel, by decide +kernel⟩, rfl, rfl, kw_736⟩
theorem yy_X1_init : fd_YI mX1_init 0 := ⟨⟨kw_742, kw_206, by decide +kernel, by decide +kernel, by decide +kernel⟩, rfl, rfl, kw_743⟩
theorem yy_X5_init : fd_YI mX5_init 0 := ⟨⟨kw_749, kw_85, by decide +kernel, by decide +kernel, by decide +kernel⟩, rfl, rfl, kw_750⟩
theorem yy_X7_init : fd_YI mX7_init 0 := ⟨⟨kw_751, kw_185, by decide +kernel, by decide +kernel, by decide +kernel⟩, rfl, rfl, kw_752⟩
theorem yy_X0_init : fd_YI mX0_init 0 := ⟨⟨kw_759, kw_172, by decide +kernel, by decide +kernel, by decide +kernel⟩, rfl, rfl, kw_760⟩
theorem yy_X4_init : fd_YI mX4_init 0 := ⟨⟨kw_768, kw_131, by decide +kernel, by decide +kernel, by decide +kernel⟩, rfl, rfl, kw_769⟩
theorem yy_X8_type : fd_YV mX8_type 2 := ⟨⟨kw_771, kw_74, by decide +kernel, by decide +kernel, by decide +kernel⟩, kw_772, kw_773⟩
theorem yy_X9_type : fd_YV mX9_type 2 := ⟨⟨kw_775, kw_146, by decide +kernel, by decide +kernel, by decide +kernel⟩, kw_776, kw_777⟩
theorem yy_X8_wipe : fd_YV mX8_wipe 1 := ⟨⟨kw_779, kw_74, by decide +kernel, by decide +kernel, by decide +kernel⟩, kw_780, kw_781⟩
theorem yy_X9_wipe : fd_YV mX9_wipe 1 := ⟨⟨kw_783, kw_146, by decide +kernel, by decide +kernel, by decide +kernel⟩, kw_784, kw_785⟩
theorem yy_X8_undo : fd_YV mX8_undo 1 := ⟨⟨kw_787, kw_74, by decide +kernel, by decide +kernel, by decide +kernel⟩, kw_788, kw_789⟩
theorem yy_X9_undo : fd_YV mX9_undo 1 := ⟨⟨kw_791, kw_146, by decide +kernel, by decide +kernel, by decide +kernel⟩, kw_792, kw_793⟩
theorem yy_X9_fault : fd_YV mX9_fault 1 := ⟨⟨kw_796, kw_146, by decide +kernel, by decide +kernel, by decide +kernel⟩, kw_797, kw_798⟩
theorem yy_X9_place : fd_YV mX9_place 2 := ⟨⟨kw_801, kw_146, by decide +kernel, by decide +kernel, by decide +kernel⟩, kw_802, kw_803⟩
theorem yy_X8_warm : fd_YV mX8_warm 1 := ⟨⟨kw_805, kw_74, by decide +kernel, by decide +kernel, by decide +kernel⟩, kw_806, kw_807⟩
theorem yy_X9_warm : fd_YV mX9_warm 1 := ⟨⟨kw_809, kw_146, by decide +kernel, by decide +kernel, by decide +kernel⟩, kw_810, kw_811⟩
theorem yy_X9_debt : fd_YV mX9_debt 2 := ⟨⟨kw_814, kw_146, by decide +kernel, by decide +kernel, by decide +kernel⟩, kw_815, kw_816⟩
theorem yy_X8_zero : fd_YV mX8_zero 1 := ⟨⟨kw_818, kw_74, by decide +kernel, by decide +kernel, by decide +kernel⟩, kw_819, kw_820⟩
theorem yy_X9_zero : fd_YV mX9_zero 1 := ⟨⟨kw_822, kw_146, by decide +kernel, by decide +kernel, by decide +kernel⟩, kw_823, kw_824⟩
theorem yy_X8_cloud : fd_YV mX8_cloud 1 := ⟨⟨kw_826, kw_74, by decide +kernel, by decide +kernel, by decide +kernel⟩, kw_827, kw_828⟩
theorem yy_X9_cloud : fd_YV mX9_cloud 1 := ⟨⟨kw_830, kw_146, by decide +kernel, by decide +kernel, by decide +kernel⟩, kw_831, kw_832⟩
theorem yy_X8_smoke : fd_YV mX8_smoke 2 := ⟨⟨kw_834, kw_74, by decide +kernel, by decide +kernel, by decide +kernel⟩, kw_835, kw_836⟩
theorem yy_X9_smoke : fd_YV mX9_smoke 2 := ⟨⟨kw_838, kw_146, by decide +kernel, by decide +kernel, by decide +kernel⟩, kw_839, kw_840⟩
theorem yy_X8_ice : fd_YV mX8_ice 2 := ⟨⟨kw_842, kw_74, by decide +kernel, by decide +kernel, by decide +kernel⟩, kw_843, kw_844⟩
theorem yy_X9_ice : fd_YV mX9_ice 2 := ⟨⟨kw_846, kw_146, by decide +kernel, by decide +kernel, by decide +kernel⟩, kw_847, kw_848⟩
theorem yy_X8_back : fd_YV mX8_back 1 := ⟨⟨kw_850, kw_74, by decide +kernel, by decide +kernel, by decide +kernel⟩, kw_851, kw_852⟩
theorem yy_X9_back : fd_YV mX9_back 1 := ⟨⟨kw_854, kw_146, by decide +kernel, by decide +kernel, by decide +kernel⟩, kw_855, kw_856⟩
theorem yy_X9_first : fd_YV mX9_first 1 := ⟨⟨kw_863, kw_146, by decide +kernel, by decide +kernel, by decide +kernel⟩, kw_864, kw_865⟩
theorem yy_X9_had : fd_YV mX9_had 1 := ⟨⟨kw_868, kw_146, by decide +kernel, by decide +kernel, by decide +kernel⟩, kw_869, kw_870⟩
theorem yy_X8_stands : fd_YV mX8_stands 2 := ⟨⟨kw_872, kw_74, by decide +kernel, by decide +kernel, by decide +kernel⟩, kw_873, kw_874⟩
theorem yy_X9_stands : fd_YV mX9_stands 2 := ⟨⟨kw_876, kw_146, by decide +kernel, by decide +kernel, by decide +kernel⟩, kw_877, kw_878⟩
theorem yy_X9_lasts : fd_YV mX9_lasts 2 := ⟨⟨kw_881, kw_146, by decide +kernel, by decide +kernel, by decide +kernel⟩, kw_882, kw_883⟩
theorem yy_X9_never : fd_YV mX9_never 0 := ⟨⟨kw_886, kw_146, by decide +kernel, by decide +kernel, by decide +kernel⟩, kw_887, kw_888⟩
theorem yy_X9_owes : fd_YV mX9_owes 3 := ⟨⟨kw_891, kw_146, by decide +kernel, by decide +kernel, by decide +kernel⟩, kw_892, kw_893⟩
theorem yy_X9_hangs : fd_YV mX9_hangs 1 := ⟨⟨kw_896, kw_146, by decide +kernel, by decide +kernel, by decide +kernel⟩, kw_897, kw_898⟩
theorem yy_X9_free : fd_YV mX9_free 2 := ⟨⟨kw_901, kw_146, by decide +kernel, by decide +kernel, by decide +kernel⟩, kw_902, kw_903⟩
theorem yy_X9_where : fd_YV mX9_where 3 := ⟨⟨kw_906, kw_146, by decide +kernel, by decide +kernel, by decide +kernel⟩, kw_907, kw_908⟩
theorem yy_X9_keep : fd_YV mX9_keep 3 := ⟨⟨kw_911, kw_146, by decide +kernel, by decide +kernel, by decide +kernel⟩, kw_912, kw_913⟩
theorem yy_X8_forget : fd_YV mX8_forget 0 := ⟨⟨kw_919, kw_74, by decide +kernel, by decide +kernel, by decide +kernel⟩, kw_920, kw_921⟩
theorem yy_X9_forget : fd_YV mX9_forget 0 := ⟨⟨kw_923, kw_146, by decide +kernel, by decide +kernel, by decide +kernel⟩, kw_924, kw_925⟩
theorem yy_X8_read : fd_YV mX8_read 1 := ⟨⟨kw_927, kw_74, by decide +kernel, by decide +kernel, by decide +kernel⟩, kw_928, kw_929⟩
theorem yy_X9_read : fd_YV mX9_read 1 := ⟨⟨kw_931, kw_146, by decide +kernel, by decide +kernel, by decide +kernel⟩, kw_932, kw_933⟩
theorem yy_X9_carried : fd_YV mX9_carried 0 := ⟨⟨kw_938, kw_146, by decide +kernel, by decide +kernel, by decide +kernel⟩, kw_939, kw_940⟩
theorem yy_X9_chance : fd_YV mX9_chance 4 := ⟨⟨kw_945, kw_146, by decide +kernel, by decide +kernel, by decide +kernel⟩, kw_946, kw_947⟩
theorem yy_X9_year : fd_YV mX9_year 2 := ⟨⟨kw_950, kw_146, by decide +kernel, by decide +kernel, by decide +kernel⟩, kw_951, kw_952⟩
theorem yy_X8_sheet : fd_YV mX8_sheet 3 := ⟨⟨kw_954, kw_74, by decide +kernel, by decide +kernel, by decide +kernel⟩, kw_955, kw_956⟩
theorem yy_X9_sheet : fd_YV mX9_sheet 3 := ⟨⟨kw_958, kw_146, by decide +kernel, by decide +kernel, by decide +kernel⟩, kw_959, kw_960⟩
theorem yy_X8_lose : fd_YV mX8_lose 1 := ⟨⟨kw_962, kw_74, by decide +kernel, by decide +kernel, by decide +kernel⟩, kw_963, kw_964⟩
theorem yy_X9_lose : fd_YV mX9_lose 1 := ⟨⟨kw_966, kw_146, by decide +kernel, by decide +kernel, by decide +kernel⟩, kw_967, kw_968⟩
theorem yy_X8_put : fd_YV mX8_put 4 := ⟨⟨kw_970, kw_74, by decide +kernel, by decide +kernel, by decide +kernel⟩, kw_971, kw_972⟩
theorem yy_X9_put : fd_YV mX9_put 4 := ⟨⟨kw_974, kw_146, by decide +kernel, by decide +kernel, by decide +kernel⟩, kw_975, kw_976⟩
theorem yy_X8_get : fd_YV mX8_get 3 := ⟨⟨kw_978, kw_74, by decide +kernel, by decide +kernel, by decide +kernel⟩, kw_979, kw_980⟩
theorem yy_X9_get : fd_YV mX9_get 3 := ⟨⟨kw_982, kw_146, by decide +kernel, by decide +kernel, by decide +kernel⟩, kw_983, kw_984⟩
theorem yy_X8_copy : fd_YV mX8_copy 5 := ⟨⟨kw_986, kw_74, by decide +kernel, by decide +kernel, by decide +kernel⟩, kw_987, kw_988⟩
theorem yy_X9_copy : fd_YV mX9_copy 5 := ⟨⟨kw_990, kw_146, by decide +kernel, by decide +kernel, by decide +kernel⟩, kw_991, kw_992⟩
theorem yy_X8_write : fd_YV mX8_write 2 := ⟨⟨kw_994, kw_74, by decide +kernel, by decide +kernel, by decide +kernel⟩, kw_995, kw_996⟩
theorem yy_X9_write : fd_YV mX9_write 2 := ⟨⟨kw_998, kw_146, by decide +kernel, by decide +kernel, by decide +kernel⟩, kw_999, kw_1000⟩
theorem yy_X8_digest : fd_YV mX8_digest 0 := ⟨⟨kw_1004, kw_74, by decide +kernel, by decide +kernel, by decide +kernel⟩, kw_1005, kw_1006⟩
theorem yy_X9_digest : fd_YV mX9_digest 0 := ⟨⟨kw_1008, kw_146, by decide +kernel, by decide +kernel, by decide +kernel⟩, kw_1009, kw_1010⟩
theorem yy_X8_init : fd_YI mX8_init 0 := ⟨⟨kw_1014, kw_74, by decide +kernel, by decide +kernel, by decide +kernel⟩, rfl, rfl, kw_1015⟩
theorem yy_X9_init : fd_YI mX9_init 0 := ⟨⟨kw_1019, kw_146, by decide +kernel, by decide +kernel, by decide +kernel⟩, rfl, rfl, kw_1020⟩
def fd_max (x y : Int32) : Int32 := if x < y then y else x
theorem fr_max {g : fd_G} {M : fd_M} {E : Array Value → State → Prop} {R : Room} {Q : Array Value → State → List Frame → State → Prop} {pc idx : Nat} {lv : List (Nat × Value)} {st : List Value} {X : fd_X} {h : fd_H} {cells slots : Nat} {x y : Int32} (hd : decode M.2.1 pc = .ok (.invokestatic idx, 3)) (hw : Cond.methodLink M.1.cls idx Lib.Math.max.name ∈ fd_gt) (h1 : 1 ≤ R.frames) (h2 : (st.map fun v => v.category).sum + 13 ≤ R.locals) (h3 : cells ≤ R.cells) (h4 : slots ≤ R.slots) (kk : fd_A g M E R Q (pc + 3) lv (.int (fd_max x y) :: st) X h cells slots) : fd_A g M E R Q pc lv (.int y :: .int x :: st) X h cells slots := by
  intro p e s m args below meth c C H locs ls hP hz hS hl
  have hts := C.2.2.2.2.2.2.1
  exact va_mmax C.1 C.2.1 (C.2.2.1.trans hl.1.symm) C.2.2.2.2.2.1 (hts _ hw) (hts _ yy_J9_max_7cf53.2) (hts _ yy_J9_max_7cf53.1.2.1) (hts _ yy_J9_max_7cf53.1.1) h1 h2 h3 h4 hd (kk p e s m args below meth c C H locs ls hP hz hS hl)
def fd_min (x y : Int32) : Int32 := if y < x then y else x
theorem fr_min {g : fd_G} {M : fd_M} {E : Array Value → State → Prop} {R : Room} {Q : Array Value → State → List Frame → State → Prop} {pc idx : Nat} {lv : List (Nat × Value)} {st : List Value} {X : fd_X} {h : fd_H} {cells slots : Nat} {x y : Int32} (hd : decode M.2.1 pc = .ok (.invokestatic idx, 3)) (hw : Cond.methodLink M.1.cls idx Lib.Math.min.name ∈ fd_gt) (h1 : 1 ≤ R.frames) (h2 : (st.map fun v => v.category).sum + 13 ≤ R.locals) (h3 : cells ≤ R.cells) (h4 : slots ≤ R.slots) (kk : fd_A g M E R Q (pc + 3) lv (.int (fd_min x y) :: st) X h cells slots) : fd_A g M E R Q pc lv (.int y :: .int x :: st) X h cells slots := by
  intro p e s m args below meth c C H locs ls hP hz hS hl
  have hts := C.2.2.2.2.2.2.1
  exact va_mmin C.1 C.2.1 (C.2.2.1.trans hl.1.symm) C.2.2.2.2.2.1 (hts _ hw) (hts _ yy_J9_min_7cf53.2) (hts _ yy_J9_min_7cf53.1.2.1) (hts _ yy_J9_min_7cf53.1.1) h1 h2 h3 h4 hd (kk p e s m args below meth c C H locs ls hP hz hS hl)
theorem kw_oi1 : Cond.instanceMethod Lib.objectInit ∈ fd_gt := kw_1022
theorem kw_oi2 : Cond.code Lib.objectInit ⟨#[0xb1]⟩ 1 none ∈ fd_gt := kw_1023
theorem kw_aI : Cond.arrayClass .int ∈ fd_gt := kw_1024
theorem kw_aL : Cond.arrayClass .long ∈ fd_gt := kw_1025
theorem kw_aZ : Cond.arrayClass .boolean ∈ fd_gt := kw_1026
